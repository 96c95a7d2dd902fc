/-! the rows that go: the least closed set -/
def rt_G (T R L Q : Nat → Int32) (r s : Nat) : Prop := ∀ S : Nat → Prop, S r → (∀ p t, p < 120 → rt_tg T R L Q p = some t → Q (rt_c p) = 1 → S t → S (p / 2)) → S s
noncomputable def rt_Gb (T R L Q : Nat → Int32) (r s : Nat) : Bool := @decide (rt_G T R L Q r s) (Classical.propDecidable _)
theorem rt_Gbt {T R L Q : Nat → Int32} {r s : Nat} : rt_Gb T R L Q r s = true ↔ rt_G T R L Q r s := @decide_eq_true_iff _ (Classical.propDecidable _)
def rt_F (T R L Q : Nat → Int32) (r : Nat) : Prop := ∃ p t, p < 120 ∧ rt_tg T R L Q p = some t ∧ Q (rt_c p) = 0 ∧ rt_G T R L Q r t ∧ ¬ rt_G T R L Q r (p / 2)
theorem rt_G0 {T R L Q : Nat → Int32} {r : Nat} : rt_G T R L Q r r := fun _ a _ => a
theorem rt_Gs {T R L Q : Nat → Int32} {r p t : Nat} (hp : p < 120) (e : rt_tg T R L Q p = some t) (q : Q (rt_c p) = 1) (h : rt_G T R L Q r t) : rt_G T R L Q r (p / 2) := fun S a b => b p t hp e q (h S a b)
theorem rt_GT {T R L Q : Nat → Int32} {r s : Nat} (hT : ¬ T r = 0) (h : rt_G T R L Q r s) : ¬ T s = 0 := h (fun s => ¬ T s = 0) hT (fun p t hp e q _ => (rt_tgS e).1)
theorem rt_G60 {T R L Q : Nat → Int32} {r s : Nat} (hr : r < 60) (h : rt_G T R L Q r s) : s < 60 := h (fun s => s < 60) hr (fun p t hp _ _ _ => by omega)
theorem rt_Gc {T R R' L Q : Nat → Int32} {r s : Nat} (h : ∀ p, p < 120 → rt_tg T R L Q p = rt_tg T R' L Q p) : rt_G T R L Q r s ↔ rt_G T R' L Q r s :=
  ⟨fun z S a b => z S a (fun p t hp e => b p t hp ((h p hp).symm.trans e)), fun z S a b => z S a (fun p t hp e => b p t hp ((h p hp).trans e))⟩
theorem rt_o1 : ∀ k, k < 64 → ((1 : Int64) <<< ((nI k).toInt64 &&& 63)).toBitVec = BitVec.twoPow 64 k := by decide +kernel
theorem rt_bit1 {k s : Nat} (hk : k < 64) : rt_bit ((1 : Int64) <<< ((nI k).toInt64 &&& 63)) s = true ↔ s = k := by
  unfold rt_bit
  rw [rt_o1 k hk, BitVec.getLsbD_twoPow, Bool.and_eq_true, decide_eq_true_iff, decide_eq_true_iff]
  exact ⟨fun h => h.2.symm, fun h => ⟨hk, h.symm⟩⟩
theorem rt_bitor {y : Int64} {k s : Nat} (hk : k < 64) : rt_bit (y ||| ((1 : Int64) <<< ((nI k).toInt64 &&& 63))) s = true ↔ rt_bit y s = true ∨ s = k := by
  rw [← rt_bit1 (s := s) hk]
  unfold rt_bit
  rw [Int64.toBitVec_or, BitVec.getLsbD_or, Bool.or_eq_true]
theorem rt_bitx {x y : Int64} (h : ∀ s, s < 64 → rt_bit x s = rt_bit y s) : x = y := Int64.toBitVec_inj.mp (BitVec.eq_of_getLsbD_eq (fun i hi => h i hi))
section
variable {op mk sb sbs : Int32} {T V R L Q kT kV kR g RX RY kTX kTY kVX kVY kRX kRY : Nat → Int32}
theorem rt_xfol (hQ : rt_QL L Q) (hR : rt_RR T R) {w : Int64} {post : Int64 → Prop} (h : ∀ y, (∀ s, s < 64 → (rt_bit y s = true ↔ rt_bit w s = true ∨ ∃ p t, p < 120 ∧ p / 2 = s ∧ rt_tg T R L Q p = some t ∧ Q (rt_c p) = 1 ∧ rt_bit w t = true)) → post y) : wpX_withFollowers post (op, mk, sb, sbs, T, V, R, L, Q, kT, kV, kR) w := by
  unfold wpX_withFollowers; dsimp only
  refine loop_0 (fun n i y => wX_withFollowers_5 post w op mk sb sbs T V R L Q kT kV kR n y (nI i)) (fun i y => ∀ s, s < 64 → (rt_bit y s = true ↔ rt_bit w s = true ∨ ∃ p t, p < i ∧ p / 2 = s ∧ rt_tg T R L Q p = some t ∧ Q (rt_c p) = 1 ∧ rt_bit w t = true)) 120 w (fun s _ => ⟨Or.inl, fun z => z.elim id (fun ⟨p, t, hp, _⟩ => absurd hp (Nat.not_lt_zero p))⟩) (fun n y hy => br_t (nI_le (a := 120) (b := 120) (by decide) (by decide)) (h y hy)) (fun n i y hi hy ih => br_f (nI_ge (b := 120) hi (by decide)) ?_)
  have same : ¬ (∃ t, rt_tg T R L Q i = some t ∧ Q (rt_c i) = 1 ∧ rt_bit w t = true) → ∀ s, s < 64 → (rt_bit y s = true ↔ rt_bit w s = true ∨ ∃ p t, p < i + 1 ∧ p / 2 = s ∧ rt_tg T R L Q p = some t ∧ Q (rt_c p) = 1 ∧ rt_bit w t = true) := by
    intro no s hs
    rw [hy s hs]
    refine ⟨fun z => z.imp id (fun ⟨p, t, hp, z⟩ => ⟨p, t, by omega, z⟩), fun z => z.imp id (fun ⟨p, t, hp, zz⟩ => ⟨p, t, ?_, zz⟩)⟩
    by_cases q : p = i
    · subst q; exact absurd ⟨t, zz.2.1, zz.2.2.1, zz.2.2.2⟩ no
    · omega
  refine rt_xtg hQ hR hi (fun e => rt_xinN (br_t rfl (fun z ez => ?_))) (fun t ht e => rt_xin (by omega) (fun a => br_t rfl (fun z ez => ?_)) (fun a => br_f (by decide) (rt_xrule hi (br_c (fun b => ⟨by decide, fun z ez u eu => ?_⟩) (fun b z ez => ?_)))))
  · rw [ez, nI_1]
    exact ih y (same (fun ⟨t, q, _⟩ => by rw [e] at q; cases q))
  · rw [ez, nI_1]
    exact ih y (same (fun ⟨t', q, _, q2⟩ => by rw [e] at q; cases q; exact a q2))
  · rw [rt_n2 (p := i) (by omega)] at ez
    rw [eu, nI_1, ez]
    refine ih _ (fun s hs => ?_)
    rw [rt_bitor (by omega), hy s hs]
    constructor
    · rintro ((z | ⟨p, t, hp, z⟩) | z)
      · exact Or.inl z
      · exact Or.inr ⟨p, t, by omega, z⟩
      · exact Or.inr ⟨i, t, by omega, z.symm, e, b, a⟩
    · rintro (z | ⟨p, t', hp, z⟩)
      · exact Or.inl (Or.inl z)
      · by_cases q : p = i
        · subst q; exact Or.inr z.1.symm
        · exact Or.inl (Or.inr ⟨p, t', by omega, z⟩)
  · rw [ez, nI_1]
    exact ih y (same (fun ⟨t', _, q, _⟩ => b q))
theorem rt_xgo (hQ : rt_QL L Q) (hR : rt_RR T R) {r : Nat} (hr : r < 60) {post : Int64 → Prop} (h : ∀ w, (∀ s, s < 64 → (rt_bit w s = true ↔ rt_G T R L Q r s)) → post w) : wpX_goingWith post (op, mk, sb, sbs, T, V, R, L, Q, kT, kV, kR) (nI r) := by
  unfold wpX_goingWith; dsimp only
  intro y ey
  refine loop_0 (fun n i w => wX_goingWith_7 post op mk sb sbs T V R L Q kT kV kR n w (nI i)) (fun i w => rt_bit w r = true ∧ (∀ s, s < 64 → rt_bit w s = true → rt_G T R L Q r s) ∧ i + 1 ≤ rt_cnt (rt_bit w) 60) 60 y ?_ (fun n w hw => absurd (rt_cnt_le (rt_bit w) 60) (by omega)) (fun n i w hi hw ih => br_f (nI_ge (b := 60) hi (by decide)) (rt_xfol hQ hR (fun w' hw' => ?_)))
  · rw [ey]
    refine ⟨(rt_bit1 (by omega)).mpr rfl, fun s hs z => ?_, ?_⟩
    · rw [(rt_bit1 (by omega)).mp z]; exact rt_G0
    · have e0 : ∀ n, rt_cnt (fun _ => false) n = 0 := fun n => by
        induction n with
        | zero => rfl
        | succ n i1 => rw [rt_cnt_f Bool.false_ne_true, i1]
      have := rt_cnt_lt (f := fun _ => false) (h := rt_bit ((1 : Int64) <<< ((nI r).toInt64 &&& 63))) 60 (fun i _ z => (nomatch z)) ⟨r, hr, Bool.false_ne_true, (rt_bit1 (by omega)).mpr rfl⟩
      omega
  · obtain ⟨w1, w2, w3⟩ := hw
    refine br_c (fun a => h w (fun s hs => ⟨w2 s hs, fun z => ?_⟩)) (fun a z ez => ?_)
    · have k := z (fun s => s < 60 ∧ rt_bit w s = true) ⟨hr, w1⟩ (fun p t hp e q b => ⟨by omega, by
        have := (hw' (p / 2) (by omega)).mpr (Or.inr ⟨p, t, hp, rfl, e, q, b.2⟩)
        rw [a] at this; exact this⟩)
      exact k.2
    · rw [ez, nI_1]
      have g' : ∀ s, s < 64 → rt_bit w' s = true → rt_G T R L Q r s := by
        intro s hs q
        rcases (hw' s hs).mp q with q | ⟨p, t, hp, e1, e2, e3, e4⟩
        · exact w2 s hs q
        · rw [← e1]
          exact rt_Gs hp e2 e3 (w2 t (by have := rt_tg60 hQ hR hp e2; omega) e4)
      refine ih w' ⟨(hw' r (by omega)).mpr (Or.inl w1), g', ?_⟩
      have m : rt_cnt (rt_bit w) 60 < rt_cnt (rt_bit w') 60 := by
        refine rt_cnt_lt 60 (fun s hs q => (hw' s (by omega)).mpr (Or.inl q)) (Classical.byContradiction (fun no => a (rt_bitx (fun s hs => ?_))))
        have sub : rt_bit w' s = true → rt_bit w s = true := fun q => Classical.byContradiction (fun nq => no ⟨s, rt_G60 hr (g' s hs q), nq, q⟩)
        have sup : rt_bit w s = true → rt_bit w' s = true := fun q => (hw' s hs).mpr (Or.inl q)
        cases x1 : rt_bit w s
        · exact ts_nt (fun q => by rw [sub q] at x1; cases x1)
        · exact sup x1
      omega
theorem rt_xheldback (hQ : rt_QL L Q) (hR : rt_RR T R) {r : Nat} {w : Int64} (hw : ∀ s, s < 64 → (rt_bit w s = true ↔ rt_G T R L Q r s)) {post : Int32 → Prop} (h1 : rt_F T R L Q r → post 1) (h0 : ¬ rt_F T R L Q r → post 0) : wpX_isHeldBack post (op, mk, sb, sbs, T, V, R, L, Q, kT, kV, kR) w := by
  unfold wpX_isHeldBack; dsimp only
  refine rt_loopS (fun n i => wX_isHeldBack_2 post w op mk sb sbs T V R L Q kT kV kR n (nI i)) (fun p => ∃ t, rt_tg T R L Q p = some t ∧ Q (rt_c p) = 0 ∧ rt_G T R L Q r t ∧ ¬ rt_G T R L Q r (p / 2)) 120 (fun hn n => br_t (nI_le (a := 120) (b := 120) (by decide) (by decide)) (h0 (fun ⟨p, t, hp, z⟩ => hn p hp ⟨t, z⟩))) (fun n i hi hn ih => br_f (nI_ge (b := 120) hi (by decide)) (rt_xtg hQ hR hi (fun e => ⟨by decide, ?_⟩) (fun t ht e => ⟨by decide, ?_⟩)))
  · have nh : ¬ ∃ t, rt_tg T R L Q i = some t ∧ Q (rt_c i) = 0 ∧ rt_G T R L Q r t ∧ ¬ rt_G T R L Q r (i / 2) := fun ⟨t, q, _⟩ => by rw [e] at q; cases q
    rw [rt_n2 (p := i) (by omega)]
    exact rt_xin (by omega) (fun a => br_t rfl (br_f (by decide) (rt_xinN (br_t rfl (fun y ey => by rw [ey, nI_1]; exact ih nh))))) (fun a => br_f (by decide) (br_t rfl (fun y ey => by rw [ey, nI_1]; exact ih nh)))
  · rw [rt_n2 (p := i) (by omega)]
    refine rt_xin (by omega) (fun a => br_t rfl (br_f (by decide) (rt_xin (by omega) (fun b => br_t rfl (fun y ey => ?_)) (fun b => br_f (by decide) (rt_xrule hi (br_c (fun c => h1 ⟨i, t, hi, e, c, (hw t (by omega)).mp b, fun z => a ((hw _ (by omega)).mpr z)⟩) (fun c y ey => ?_))))))) (fun a => br_f (by decide) (br_t rfl (fun y ey => ?_)))
    · rw [ey, nI_1]; exact ih (fun ⟨t', q, _, q2, _⟩ => by rw [e] at q; cases q; exact b ((hw t (by omega)).mpr q2))
    · rw [ey, nI_1]; exact ih (fun ⟨t', _, q, _⟩ => c q)
    · rw [ey, nI_1]; exact ih (fun ⟨t', _, _, _, q⟩ => q ((hw _ (by omega)).mp a))
theorem rt_xwould {r : Nat} {w : Int64} (hw : ∀ s, s < 64 → (rt_bit w s = true ↔ rt_G T R L Q r s)) {post : Int32 → Prop} (h : post (nI (rt_cnt (rt_Gb T R L Q r) 60))) : ∃ n, wX_wouldGo_49 post w op mk sb sbs T V R L Q kT kV kR n 0 0 := by
  refine rt_loopC (fun n i c => wX_wouldGo_49 post w op mk sb sbs T V R L Q kT kV kR n c (nI i)) (rt_Gb T R L Q r) 60 (fun n => br_t (nI_le (a := 60) (b := 60) (by decide) (by decide)) h) (fun n i c hi k1 k0 => br_f (nI_ge (b := 60) hi (by decide)) (rt_xin (by omega) (fun a => br_t rfl (fun y ey => ?_)) (fun a => br_f (by decide) (fun y ey z ez => ?_))))
  · rw [ey, nI_1]; exact k0 (fun q => a ((hw i (by omega)).mpr (rt_Gbt.mp q)))
  · rw [ez, ey, nI_1]; exact k1 (rt_Gbt.mpr ((hw i (by omega)).mp a))
def rt_Cl (T R L Q g : Nat → Int32) : Prop := ∀ p t, p < 120 → rt_tg T R L Q p = some t → Q (rt_c p) = 1 → ¬ g t = 0 → ¬ g (p / 2) = 0
def rt_J (T R L Q : Nat → Int32) (r : Nat) (g0 : Nat → Int32) (i : Nat) (g : Nat → Int32) : Prop :=
  (∀ s, s < 60 → ¬ g s = 0 → rt_G T R L Q r s) ∧ (∀ s, s < 60 → ¬ g0 s = 0 → ¬ g s = 0) ∧
  (((∀ s, s < 60 → (g s = 0 ↔ g0 s = 0)) ∧ ∀ p t, p < i → rt_tg T R L Q p = some t → Q (rt_c p) = 1 → ¬ g0 t = 0 → ¬ g0 (p / 2) = 0) ∨ (¬ rt_Cl T R L Q g0 ∧ rt_cnt (rt_b g0) 60 < rt_cnt (rt_b g) 60))
theorem rt_Jkeep (hQ : rt_QL L Q) (hR : rt_RR T R) {r i : Nat} {g0 g g' : Nat → Int32} (hi : i < 120) (h : rt_J T R L Q r g0 i g) (e : ∀ s, s < 60 → (g' s = 0 ↔ g s = 0)) (k : ∀ t, rt_tg T R L Q i = some t → Q (rt_c i) = 1 → ¬ g t = 0 → ¬ g (i / 2) = 0) : rt_J T R L Q r g0 (i + 1) g' := by
  obtain ⟨h1, h2, h3⟩ := h
  refine ⟨fun s hs z => h1 s hs (fun q => z ((e s hs).mpr q)), fun s hs z q => h2 s hs z ((e s hs).mp q), ?_⟩
  rcases h3 with ⟨a, b⟩ | ⟨a, b⟩
  · refine Or.inl ⟨fun s hs => (e s hs).trans (a s hs), fun p t hp e1 e2 e3 => ?_⟩
    by_cases q : p = i
    · subst q
      intro z
      exact k t e1 e2 (fun y => e3 ((a t (rt_tg60 hQ hR hi e1)).mp y)) ((a _ (by omega)).mpr z)
    · exact b p t (by omega) e1 e2 e3
  · refine Or.inr ⟨a, ?_⟩
    rw [rt_cnt_congr (f := rt_b g') (h := rt_b g) 60 (fun s hs => by unfold rt_b; exact decide_eq_decide.mpr (not_congr (e s hs)))]
    exact b
theorem rt_Jgrow (hQ : rt_QL L Q) (hR : rt_RR T R) {r i t : Nat} {g0 g : Nat → Int32} (hi : i < 120) (h : rt_J T R L Q r g0 i g) (z : g (i / 2) = 0) (e1 : rt_tg T R L Q i = some t) (e2 : Q (rt_c i) = 1) (e3 : ¬ g t = 0) : rt_J T R L Q r g0 (i + 1) (upd g (i / 2) 1) := by
  have t60 := rt_tg60 hQ hR hi e1
  obtain ⟨h1, h2, h3⟩ := h
  have up : ∀ s, ¬ g s = 0 → ¬ upd g (i / 2) 1 s = 0 := by
    intro s hs
    by_cases q : s = i / 2
    · subst q; exact absurd z hs
    · rw [pk_un q]; exact hs
  have on : ¬ upd g (i / 2) 1 (i / 2) = 0 := by rw [pk_us]; decide
  have grow : rt_cnt (rt_b g) 60 < rt_cnt (rt_b (upd g (i / 2) 1)) 60 :=
    rt_cnt_lt 60 (fun s _ q => rt_b_t.mpr (up s (rt_b_t.mp q))) ⟨i / 2, by omega, fun q => rt_b_t.mp q z, rt_b_t.mpr on⟩
  refine ⟨fun s hs y => ?_, fun s hs y => up s (h2 s hs y), Or.inr ?_⟩
  · by_cases q : s = i / 2
    · rw [q]; exact rt_Gs hi e1 e2 (h1 t t60 e3)
    · rw [pk_un q] at y; exact h1 s hs y
  · rcases h3 with ⟨a, b⟩ | ⟨a, b⟩
    · refine ⟨fun cl => cl i t hi e1 e2 (fun y => e3 ((a t t60).mpr y)) ((a _ (by omega)).mp z), ?_⟩
      rw [← rt_cnt_congr (f := rt_b g) (h := rt_b g0) 60 (fun s hs => by unfold rt_b; exact decide_eq_decide.mpr (not_congr (a s hs)))]
      exact grow
    · exact ⟨a, by omega⟩
theorem rt_updz {g : Nat → Int32} {k : Nat} {v : Int32} (h : v = 0 ↔ g k = 0) : ∀ s, s < 60 → (upd g k v s = 0 ↔ g s = 0) := by
  intro s _
  by_cases q : s = k
  · subst q; rw [pk_us]; exact h
  · rw [pk_un q]
theorem rt_y40 (hQ : rt_QL L Q) (hR : rt_RR T R) {r : Nat} (hTr : ¬ T r = 0) {x2 : Int32} {post : Int32 → SY → Prop} {J : Int32 → (Nat → Int32) → (Nat → Int32) → (Nat → Int32) → (Nat → Int32) → (Nat → Int32) → (Nat → Int32) → (Nat → Int32) → (Nat → Int32) → (Nat → Int32) → Prop} {g0 : Nat → Int32} (hg0 : ∀ s, s < 60 → ¬ g0 s = 0 → rt_G T R L Q r s)
    (hJ : ∀ g', rt_J T R L Q r g0 120 g' → J (x2 + 1) L Q T R V kT kR kV g') : ∃ n, wY_spread_40 post J x2 op mk sb n 0 L Q T R V kT kR kV g0 := by
  refine loop_0 (fun n i g => wY_spread_40 post J x2 op mk sb n (nI i) L Q T R V kT kR kV g) (fun i g => rt_J T R L Q r g0 i g) 120 g0 ⟨hg0, fun s _ z => z, Or.inl ⟨fun s _ => Iff.rfl, fun p t hp => absurd hp (Nat.not_lt_zero p)⟩⟩ (fun n g hg => br_t (nI_le (a := 120) (b := 120) (by decide) (by decide)) (fun y ey => by rw [ey]; exact hJ g hg)) (fun n i g hi hg ih => br_f (nI_ge (b := 120) hi (by decide)) ?_)
  have k1 : ¬ g (i / 2) = 0 → wY_spread_40 post J x2 op mk sb n (nI (i + 1)) L Q T R V kT kR kV (upd g (i / 2) (vp_nar .boolean 1)) := fun a =>
    ih _ (rt_Jkeep hQ hR hi hg (rt_updz (by rw [rt_nar1]; exact ⟨fun z => absurd z (by decide), fun z => absurd z a⟩)) (fun _ _ _ _ => a))
  have k0 : g (i / 2) = 0 → (∀ t, rt_tg T R L Q i = some t → Q (rt_c i) = 1 → g t = 0) → wY_spread_40 post J x2 op mk sb n (nI (i + 1)) L Q T R V kT kR kV (upd g (i / 2) (vp_nar .boolean 0)) := fun a b =>
    ih _ (rt_Jkeep hQ hR hi hg (rt_updz (by rw [rt_nar0]; exact ⟨fun _ => a, fun _ => rfl⟩)) (fun t e1 e2 e3 => absurd (b t e1 e2) e3))
  have k2 : ∀ t, g (i / 2) = 0 → rt_tg T R L Q i = some t → Q (rt_c i) = 1 → ¬ g t = 0 → wY_spread_40 post J x2 op mk sb n (nI (i + 1)) L Q T R V kT kR kV (upd g (i / 2) (vp_nar .boolean 1)) := fun t a e1 e2 e3 =>
    ih _ (by rw [rt_nar1]; exact rt_Jgrow hQ hR hi hg a e1 e2 e3)
  have h2 : vp_in (nI (i / 2)) 60 := vp_in_nI (by omega) (by decide)
  refine rt_ytg hQ hR hi (fun e => ?_) (fun t ht e d => ?_)
  · have nt : ∀ t, rt_tg T R L Q i = some t → Q (rt_c i) = 1 → g t = 0 := by
      intro t e1 e2
      rcases e with e | ⟨t', e, d⟩
      · rw [e] at e1; cases e1
      · rw [e] at e1; cases e1
        exact Classical.byContradiction (fun z => rt_GT hTr (hg.1 _ (rt_tg60 hQ hR hi e) z) d)
    rw [rt_n2 (p := i) (by omega), nI_clamp (n := i / 2) (by omega)]
    exact ⟨by decide, by decide, h2, br_c (fun a => br_t (by decide) ⟨h2, fun y ey z ez => by rw [ez, ey, nI_1]; exact k0 a nt⟩) (fun a => ⟨h2, fun y ey z ez => by rw [ez, ey, nI_1]; exact k1 a⟩)⟩
  · rw [rt_n2 (p := i) (by omega), nI_clamp (n := i / 2) (by omega), nI_clamp (n := t) (by omega)]
    refine ⟨by decide, by decide, h2, br_c (fun a => br_f (nI_pos (by omega)) (rt_yrule hi (br_c (fun b => ⟨vp_in_nI ht (by decide), br_c (fun c => ⟨h2, fun y ey z ez => ?_⟩) (fun c => ⟨h2, fun y ey z ez => ?_⟩)⟩) (fun b => ⟨h2, fun y ey z ez => ?_⟩)))) (fun a => ⟨h2, fun y ey z ez => ?_⟩)⟩
    · rw [ez, ey, nI_1]; exact k0 a (fun t' e1 _ => by rw [e] at e1; cases e1; exact c)
    · rw [ez, ey, nI_1]; exact k2 t a e b c
    · rw [ez, ey, nI_1]; exact k0 a (fun t' _ e2 => absurd e2 b)
    · rw [ez, ey, nI_1]; exact k1 a
theorem rt_y120 (hQ : rt_QL L Q) (hR : rt_RR T R) {r : Nat} (hTr : ¬ T r = 0) (hg : ∀ s, s < 60 → (¬ g s = 0 ↔ rt_G T R L Q r s)) {post : Int32 → SY → Prop} (h1 : rt_F T R L Q r → post (-5) (op, mk, sb, L, Q, T, R, V, kT, kR, kV, g)) (h0 : ¬ rt_F T R L Q r → post (nI (rt_cnt (rt_Gb T R L Q r) 60)) (op, mk, sb, L, Q, T, R, V, kT, kR, kV, g)) : ∃ n, wY_spread_120 post op mk sb L Q T R V kT kR kV g n 0 0 0 := by
  refine loop_0 (fun n i (s : Int32 × Int32) => wY_spread_120 post op mk sb L Q T R V kT kR kV g n s.1 s.2 (nI i)) (fun i s => s.1 = nI (rt_cnt (rt_Gb T R L Q r) ((i + 1) / 2)) ∧ ((s.2 = 0 ∧ ∀ p, p < i → ¬ ∃ t, rt_tg T R L Q p = some t ∧ Q (rt_c p) = 0 ∧ rt_G T R L Q r t ∧ ¬ rt_G T R L Q r (p / 2)) ∨ (s.2 = 1 ∧ rt_F T R L Q r))) 120 (0, 0) ⟨rfl, Or.inl ⟨rfl, fun p hp => absurd hp (Nat.not_lt_zero p)⟩⟩ (fun n s hs => br_t (nI_le (a := 120) (b := 120) (by decide) (by decide)) ?_) (fun n i s hi hs ih => br_f (nI_ge (b := 120) hi (by decide)) ?_)
  · obtain ⟨c, f⟩ := s
    obtain ⟨a, b⟩ := hs
    dsimp only at a b
    rcases b with ⟨b, k⟩ | ⟨b, k⟩
    · rw [b, a]; exact br_t rfl (h0 (fun ⟨p, t, hp, z⟩ => k p hp ⟨t, z⟩))
    · rw [b]; exact br_f (show ¬ (1 : Int32) = 0 from by decide) (h1 k)
  · obtain ⟨c, f⟩ := s
    obtain ⟨a, b⟩ := hs
    dsimp only at a b
    have h2 : vp_in (nI (i / 2)) 60 := vp_in_nI (by omega) (by decide)
    have k : ∀ z : Int32, ((z = 0 ∧ ∀ p, p < i + 1 → ¬ ∃ t, rt_tg T R L Q p = some t ∧ Q (rt_c p) = 0 ∧ rt_G T R L Q r t ∧ ¬ rt_G T R L Q r (p / 2)) ∨ (z = 1 ∧ rt_F T R L Q r)) → wY_spread_180 post (wY_spread_120 post op mk sb L Q T R V kT kR kV g n) c (nI i) z op mk sb L Q T R V kT kR kV g := by
      intro z hz
      have e2 : nI i - nI i / 2 * 2 = nI (i % 2) := pk_rem (d := 2) (by omega) (by decide) (by decide)
      unfold wY_spread_180
      rw [e2, rt_n2 (p := i) (by omega), nI_clamp (n := i / 2) (by omega)]
      refine ⟨by decide, h2, br_c (fun q y ey => ?_) (fun q => ⟨by decide, br_c (fun q2 y ey w ew => ?_) (fun q2 y ey => ?_)⟩)⟩
      · rw [ey, nI_1]
        refine ih (c, z) ⟨?_, hz⟩
        show c = _
        rw [a]
        have nG : ¬ rt_Gb T R L Q r (i / 2) = true := fun x => (hg _ (by omega)).mpr (rt_Gbt.mp x) q
        by_cases ev : i % 2 = 0
        · rw [show (i + 1) / 2 = i / 2 from by omega, show (i + 1 + 1) / 2 = i / 2 + 1 from by omega, rt_cnt_f nG]
        · rw [show (i + 1 + 1) / 2 = (i + 1) / 2 from by omega]
      · have ev : i % 2 = 0 := (nI_eq (b := 0) (by omega) (by decide)).mp q2
        rw [ew, ey, nI_1]
        refine ih (c + 1, z) ⟨?_, hz⟩
        show c + 1 = _
        rw [a, nI_1, show (i + 1) / 2 = i / 2 from by omega, show (i + 1 + 1) / 2 = i / 2 + 1 from by omega, rt_cnt_t (rt_Gbt.mpr ((hg _ (by omega)).mp q))]
      · have ev : ¬ i % 2 = 0 := fun x => q2 (by rw [x]; rfl)
        rw [ey, nI_1]
        refine ih (c, z) ⟨?_, hz⟩
        show c = _
        rw [a, show (i + 1 + 1) / 2 = (i + 1) / 2 from by omega]
    rcases b with ⟨b, m⟩ | ⟨b, m⟩
    · have no : (¬ ∃ t, rt_tg T R L Q i = some t ∧ Q (rt_c i) = 0 ∧ rt_G T R L Q r t ∧ ¬ rt_G T R L Q r (i / 2)) → wY_spread_180 post (wY_spread_120 post op mk sb L Q T R V kT kR kV g n) c (nI i) 0 op mk sb L Q T R V kT kR kV g := fun x => k 0 (Or.inl ⟨rfl, lt_s m x⟩)
      dsimp only
      rw [b]
      refine rt_ytg hQ hR hi (fun e => br_t rfl ?_) (fun t ht e d => br_t rfl ?_)
      · have nh : ¬ ∃ t, rt_tg T R L Q i = some t ∧ Q (rt_c i) = 0 ∧ rt_G T R L Q r t ∧ ¬ rt_G T R L Q r (i / 2) := by
          intro ⟨t, e1, _, e3, _⟩
          rcases e with e | ⟨t', e, d⟩
          · rw [e] at e1; cases e1
          · rw [e] at e1; cases e1
            exact rt_GT hTr e3 d
        rw [rt_n2 (p := i) (by omega), nI_clamp (n := i / 2) (by omega)]
        exact ⟨by decide, h2, br_c (fun _ => br_t (by decide) (no nh)) (fun _ => no nh)⟩
      · rw [rt_n2 (p := i) (by omega), nI_clamp (n := i / 2) (by omega), nI_clamp (n := t) (by omega)]
        refine ⟨by decide, h2, br_c (fun q => br_f (nI_pos (by omega)) (rt_yrule hi (br_c (fun q2 => ⟨vp_in_nI ht (by decide), br_c (fun q3 => no ?_) (fun q3 => k 1 (Or.inr ⟨rfl, i, t, hi, e, q2, (hg t ht).mp q3, fun x => (hg _ (by omega)).mpr x q⟩))⟩) (fun q2 => no ?_)))) (fun q => no ?_)⟩
        · intro ⟨t', e1, _, e3, _⟩
          rw [e] at e1; cases e1
          exact (hg t ht).mpr e3 q3
        · intro ⟨t', _, e2, _⟩
          exact q2 e2
        · intro ⟨t', _, _, _, e4⟩
          exact e4 ((hg _ (by omega)).mp q)
    · dsimp only
      rw [b]
      exact rt_ytg hQ hR hi (fun e => br_f (by decide) (k 1 (Or.inr ⟨rfl, m⟩))) (fun t ht e d => br_f (by decide) (k 1 (Or.inr ⟨rfl, m⟩)))
def rt_i0 (r : Nat) (g : Nat → Int32) (i : Nat) : Nat → Int32 := fun j => if j < i then (if j = r then 1 else 0) else g j
theorem rt_i0s {r i : Nat} {v : Int32} (hv : v = if i = r then 1 else 0) : upd (rt_i0 r g i) i v = rt_i0 r g (i + 1) := funext fun j => by
  unfold upd rt_i0
  by_cases h : j = i
  · rw [if_pos h, if_pos (by omega), h, hv]
  · rw [if_neg h]
    by_cases q : j < i
    · rw [if_pos q, if_pos (show j < i + 1 from by omega)]
    · rw [if_neg q, if_neg (show ¬ j < i + 1 from by omega)]
theorem rt_y32 (hQ : rt_QL L Q) (hR : rt_RR T R) {r : Nat} (hr : r < 60) (hTr : ¬ T r = 0) {g0 : Nat → Int32} (hg1 : ∀ s, s < 60 → ¬ g0 s = 0 → rt_G T R L Q r s) (hg2 : ¬ g0 r = 0) {post : Int32 → SY → Prop} (h : ∀ g', (∀ s, s < 60 → (¬ g' s = 0 ↔ rt_G T R L Q r s)) → (rt_F T R L Q r → post (-5) (op, mk, sb, L, Q, T, R, V, kT, kR, kV, g')) ∧ (¬ rt_F T R L Q r → post (nI (rt_cnt (rt_Gb T R L Q r) 60)) (op, mk, sb, L, Q, T, R, V, kT, kR, kV, g'))) : ∃ n, wY_spread_32 post op mk sb n 0 L Q T R V kT kR kV g0 := by
  refine loop_0 (fun n i g => wY_spread_32 post op mk sb n (nI i) L Q T R V kT kR kV g) (fun i g => (∀ s, s < 60 → ¬ g s = 0 → rt_G T R L Q r s) ∧ ¬ g r = 0 ∧ (rt_Cl T R L Q g ∨ i + 1 ≤ rt_cnt (rt_b g) 60)) 60 g0 ⟨hg1, hg2, Or.inr ?_⟩ (fun n g hg => br_t (nI_le (a := 60) (b := 60) (by decide) (by decide)) ?_) (fun n i g hi hg ih => br_f (nI_ge (b := 60) hi (by decide)) (rt_y40 hQ hR hTr hg.1 (fun g' hg' => ?_)))
  · have e0 : ∀ n, rt_cnt (fun _ => false) n = 0 := fun n => by
      induction n with
      | zero => rfl
      | succ n i1 => rw [rt_cnt_f Bool.false_ne_true, i1]
    have := rt_cnt_lt (f := fun _ => false) (h := rt_b g0) 60 (fun i _ z => (nomatch z)) ⟨r, hr, Bool.false_ne_true, rt_b_t.mpr hg2⟩
    omega
  · obtain ⟨a, b, c⟩ := hg
    have cl : rt_Cl T R L Q g := c.elim id (fun z => absurd (rt_cnt_le (rt_b g) 60) (by omega))
    have hg : ∀ s, s < 60 → (¬ g s = 0 ↔ rt_G T R L Q r s) := fun s hs => ⟨a s hs, fun z => z (fun s => ¬ g s = 0) b (fun p t hp e q y => cl p t hp e q y)⟩
    exact rt_y120 hQ hR hTr hg (h g hg).1 (h g hg).2
  · rw [nI_1]
    obtain ⟨a, b, c⟩ := hg
    obtain ⟨x, y, z⟩ := hg'
    refine ih g' ⟨x, y r hr b, ?_⟩
    rcases z with ⟨z1, z2⟩ | ⟨z1, z2⟩
    · left
      intro p t hp e q k
      have t60 := rt_tg60 hQ hR hp e
      intro w
      exact z2 p t hp e q (fun v => k ((z1 t t60).mpr v)) ((z1 _ (by omega)).mp w)
    · right
      have := c.resolve_left z1
      omega
theorem rt_yspread (hQ : rt_QL L Q) (hR : rt_RR T R) {r : Nat} (hr : r < 60) (hTr : ¬ T r = 0) {post : Int32 → SY → Prop} (h : ∀ g', (∀ s, s < 60 → (¬ g' s = 0 ↔ rt_G T R L Q r s)) → (rt_F T R L Q r → post (-5) (op, mk, sb, L, Q, T, R, V, kT, kR, kV, g')) ∧ (¬ rt_F T R L Q r → post (nI (rt_cnt (rt_Gb T R L Q r) 60)) (op, mk, sb, L, Q, T, R, V, kT, kR, kV, g'))) : wpY_spread post (op, mk, sb, L, Q, T, R, V, kT, kR, kV, g) (nI r) := by
  unfold wpY_spread; dsimp only
  have key := rt_loopF (fun n i s => wY_spread_2 post (nI r) op mk sb n (nI i) L Q T R V kT kR kV s) (rt_i0 r g) 60 (fun n => br_t (nI_le (a := 60) (b := 60) (by decide) (by decide)) (rt_y32 hQ hR hr hTr (fun s hs z => by
      unfold rt_i0 at z
      rw [if_pos hs] at z
      by_cases q : s = r
      · rw [q]; exact rt_G0
      · rw [if_neg q] at z; exact absurd rfl z) (by unfold rt_i0; rw [if_pos hr, if_pos rfl]; decide) h)) (fun n i hi ih => by
    refine br_f (nI_ge (b := 60) hi (by decide)) ?_
    rw [nI_clamp (n := i) (by omega)]
    refine br_c (fun a => ⟨vp_in_nI hi (by decide), fun y ey z ez => ?_⟩) (fun a => ⟨vp_in_nI hi (by decide), fun y ey z ez => ?_⟩)
    · rw [ez, ey, nI_1, rt_i0s (by rw [rt_nar1, if_pos ((nI_eq (by omega) (by omega)).mp a)])]; exact ih
    · rw [ez, ey, nI_1, rt_i0s (by rw [rt_nar0, if_neg (fun q => a (by rw [q]))])]; exact ih)
  rw [show rt_i0 r g 0 = g from funext (fun j => if_neg (Nat.not_lt_zero j))] at key
  exact key
end
