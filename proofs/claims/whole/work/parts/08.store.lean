/-! loops that store -/
def rt_lg (T R L Q : Nat → Int32) (r p : Nat) : Prop := ∃ t, rt_tg T R L Q p = some t ∧ Q (rt_c p) = 2 ∧ rt_G T R L Q r t
def rt_out (T g : Nat → Int32) (i : Nat) : Nat → Int32 := fun j => if j < i then (if T j = 0 then 0 else if g j = 0 then 1 else 0) else T j
theorem rt_outs {T g : Nat → Int32} {i : Nat} {v : Int32} (h : v = if T i = 0 then 0 else if g i = 0 then 1 else 0) : upd (rt_out T g i) i v = rt_out T g (i + 1) := funext fun j => by
  unfold upd rt_out
  by_cases q : j = i
  · rw [if_pos q, if_pos (show j < i + 1 from by omega), q, h]
  · rw [if_neg q]
    by_cases w : j < i
    · rw [if_pos w, if_pos (show j < i + 1 from by omega)]
    · rw [if_neg w, if_neg (show ¬ j < i + 1 from by omega)]
theorem rt_outO {T g : Nat → Int32} {i : Nat} : rt_out T g i i = T i := if_neg (Nat.lt_irrefl i)
def rt_ch (T R L Q : Nat → Int32) (s : Nat) (nk : Int32) (i : Nat) : Nat → Int32 := fun p => if p < i ∧ rt_tg T R L Q p = some s then (if Q (rt_c p) = 1 then nk else if Q (rt_c p) = 2 then -1 else R p) else R p
def rt_chf (T R L Q : Nat → Int32) (s : Nat) (p : Nat) : Bool := decide (rt_tg T R L Q p = some s ∧ (Q (rt_c p) = 1 ∨ Q (rt_c p) = 2))
def rt_mv (R : Nat → Int32) (a b : Nat) : Nat → Int32 := upd (upd R (2 * b) (R (2 * a))) (2 * b + 1) (upd R (2 * b) (R (2 * a)) (2 * a + 1))
section
variable {op mk sb sbs : Int32} {T V R L Q kT kV kR g RX RY kTX kTY kVX kVY kRX kRY : Nat → Int32}
theorem rt_xletgo (hQ : rt_QL L Q) (hR : rt_RR T R) {r : Nat} {w : Int64} (hw : ∀ s, s < 64 → (rt_bit w s = true ↔ rt_G T R L Q r s)) {post : SX → Prop} (h : ∀ R' : Nat → Int32, (∀ p, (p < 120 → rt_lg T R L Q r p → R' p = -1) ∧ ((p < 120 → ¬ rt_lg T R L Q r p) → R' p = R p)) → post (op, mk, sb, sbs, T, V, R', L, Q, kT, kV, kR)) : wpX_letGoOf post (op, mk, sb, sbs, T, V, R, L, Q, kT, kV, kR) w := by
  unfold wpX_letGoOf; dsimp only
  refine loop_0 (fun n i R' => wX_letGoOf_2 post w op mk sb sbs n (nI i) T V R' L Q kT kV kR) (fun i R' => ∀ p, (p < i → rt_lg T R L Q r p → R' p = -1) ∧ ((p < i → ¬ rt_lg T R L Q r p) → R' p = R p)) 120 R (fun p => ⟨fun z => absurd z (Nat.not_lt_zero p), fun _ => rfl⟩) (fun n R' hy => br_t (nI_le (a := 120) (b := 120) (by decide) (by decide)) (h R' hy)) (fun n i R' hi hy ih => br_f (nI_ge (b := 120) hi (by decide)) ?_)
  have same : ¬ rt_lg T R L Q r i → ∀ p, (p < i + 1 → rt_lg T R L Q r p → R' p = -1) ∧ ((p < i + 1 → ¬ rt_lg T R L Q r p) → R' p = R p) := by
    intro no p
    refine ⟨fun hp z => ?_, fun z => (hy p).2 (fun hp => z (by omega))⟩
    by_cases q : p = i
    · subst q; exact absurd z no
    · exact (hy p).1 (by omega) z
  have ri : R' i = R i := (hy i).2 (fun z => absurd z (Nat.lt_irrefl i))
  have te : rt_tg T R' L Q i = rt_tg T R L Q i := rt_tgc (fun _ => ri)
  have hR' : rt_RR T R' := by
    intro p hp ht
    by_cases q : p < i ∧ rt_lg T R L Q r p
    · exact Or.inl ((hy p).1 q.1 q.2)
    · rw [(hy p).2 (fun a b => q ⟨a, b⟩)]; exact hR p hp ht
  refine rt_xtg hQ hR' hi (fun e => rt_xinN (br_t rfl (fun z ez => ?_))) (fun t ht e => rt_xin (by omega) (fun a => br_t rfl (fun z ez => ?_)) (fun a => br_f (by decide) (rt_xrule hi (br_c (fun b => ⟨vp_in_nI hi (by decide), fun z ez u eu => ?_⟩) (fun b z ez => ?_)))))
  · rw [ez, nI_1]
    exact ih R' (same (fun ⟨t, q, _⟩ => by rw [te, q] at e; cases e))
  · rw [ez, nI_1]
    exact ih R' (same (fun ⟨t', q, _, q2⟩ => by rw [te, q] at e; cases e; exact a ((hw t (by omega)).mpr q2)))
  · rw [nI_clamp (n := i) (by omega)] at ez
    rw [eu, nI_1, ez]
    refine ih _ (fun p => ?_)
    have yes : rt_lg T R L Q r i := ⟨t, te.symm.trans e, b, (hw t (by omega)).mp a⟩
    by_cases q : p = i
    · subst q
      rw [pk_us]
      exact ⟨fun _ _ => rfl, fun z => absurd yes (z (by omega))⟩
    · rw [pk_un q]
      exact ⟨fun hp z => (hy p).1 (by omega) z, fun z => (hy p).2 (fun hp => z (by omega))⟩
  · rw [ez, nI_1]
    exact ih R' (same (fun ⟨t', _, q, _⟩ => b q))
theorem rt_xtake {T0 R0 L0 Q0 : Nat → Int32} {r : Nat} {w : Int64} (hw : ∀ s, s < 64 → (rt_bit w s = true ↔ rt_G T0 R0 L0 Q0 r s)) {post : Int32 → SX → Prop} (h : ∀ T' : Nat → Int32, (∀ s, (s < 60 → rt_G T0 R0 L0 Q0 r s → T' s = 0) ∧ ((s < 60 → ¬ rt_G T0 R0 L0 Q0 r s) → T' s = T s)) → post (nI (rt_cnt (rt_Gb T0 R0 L0 Q0 r) 60)) (op, mk, sb, sbs, T', V, R, L, Q, kT, kV, kR)) : wpX_takeOut post (op, mk, sb, sbs, T, V, R, L, Q, kT, kV, kR) w := by
  unfold wpX_takeOut; dsimp only
  refine loop_0 (fun n i (s : Int32 × (Nat → Int32)) => wX_takeOut_5 post w op mk sb sbs n s.1 (nI i) s.2 V R L Q kT kV kR) (fun i c => c.1 = nI (rt_cnt (rt_Gb T0 R0 L0 Q0 r) i) ∧ ∀ s, (s < i → rt_G T0 R0 L0 Q0 r s → c.2 s = 0) ∧ ((s < i → ¬ rt_G T0 R0 L0 Q0 r s) → c.2 s = T s)) 60 (0, T) ⟨rfl, fun s => ⟨fun z => absurd z (Nat.not_lt_zero s), fun _ => rfl⟩⟩ (fun n c hc => br_t (nI_le (a := 60) (b := 60) (by decide) (by decide)) ?_) (fun n i c hi hc ih => br_f (nI_ge (b := 60) hi (by decide)) ?_)
  · rw [hc.1]; exact h c.2 hc.2
  · obtain ⟨c, T'⟩ := c
    obtain ⟨c1, c2⟩ := hc
    dsimp only at c1 c2
    refine rt_xin (by omega) (fun a => br_t rfl (fun y ey => ?_)) (fun a => br_f (by decide) ⟨vp_in_nI hi (by decide), fun y ey z ez u eu => ?_⟩)
    · have nG : ¬ rt_G T0 R0 L0 Q0 r i := fun z => a ((hw i (by omega)).mpr z)
      rw [ey, nI_1]
      refine ih (c, T') ⟨?_, fun s => ⟨fun hs z => ?_, fun z => (c2 s).2 (fun hs => z (by omega))⟩⟩
      · show c = _
        rw [c1, rt_cnt_f (fun z => nG (rt_Gbt.mp z))]
      · by_cases q : s = i
        · subst q; exact absurd z nG
        · exact (c2 s).1 (by omega) z
    · have yG : rt_G T0 R0 L0 Q0 r i := (hw i (by omega)).mp a
      rw [nI_clamp (n := i) (by omega), rt_nar0] at ey
      rw [eu, ez, ey, nI_1]
      refine ih (c + 1, upd T' i 0) ⟨?_, fun s => ?_⟩
      · show c + 1 = _
        rw [c1, nI_1, rt_cnt_t (rt_Gbt.mpr yG)]
      · show (s < i + 1 → rt_G T0 R0 L0 Q0 r s → upd T' i 0 s = 0) ∧ ((s < i + 1 → ¬ rt_G T0 R0 L0 Q0 r s) → upd T' i 0 s = T s)
        by_cases q : s = i
        · subst q
          rw [pk_us]
          exact ⟨fun _ _ => rfl, fun z => absurd yG (z (by omega))⟩
        · rw [pk_un q]
          exact ⟨fun hs z => (c2 s).1 (by omega) z, fun z => (c2 s).2 (fun hs => z (by omega))⟩
theorem rt_yrem132 (hQ : rt_QL L Q) (hT : rt_TT T) {x3 x4 : Int32} {post : Int32 → SY → Prop} (hR : rt_RR (rt_out T g 60) R) (h0 : ¬ rt_bad op Q x4 (rt_S (rt_out T g 60) R L Q) → post x3 (op, mk, sb, L, Q, (rt_out T g 60), R, V, kT, kR, kV, g)) (h1 : rt_bad op Q x4 (rt_S (rt_out T g 60) R L Q) → post (-9) (op, mk, sb, L, Q, (rt_rs (rt_nr kT) (60 * 4) 60 (rt_out T g 60)), (rt_rs kR (120 * 4) 120 R), (rt_rs kV (60 * 4) 60 V), kT, kR, kV, g)) : ∃ n, wY_remove_132 post x3 x4 op mk sb n 0 L Q T R V kT kR kV g := by
  have key := rt_loopF (fun n i s => wY_remove_132 post x3 x4 op mk sb n (nI i) L Q s R V kT kR kV g) (rt_out T g) 60 (fun n => br_t (nI_le (a := 60) (b := 60) (by decide) (by decide)) (rt_ychecked hQ hR h0 h1)) (fun n i hi ih => by
    refine br_f (nI_ge (b := 60) hi (by decide)) ⟨vp_in_nI hi (by decide), ?_⟩
    rw [nI_clamp (n := i) (by omega), rt_outO]
    refine br_c (fun a => ⟨vp_in_nI hi (by decide), fun y ey z ez => ?_⟩) (fun a => ⟨vp_in_nI hi (by decide), br_c (fun b => ⟨vp_in_nI hi (by decide), fun y ey z ez => ?_⟩) (fun b => ⟨vp_in_nI hi (by decide), fun y ey z ez => ?_⟩)⟩)
    · rw [ez, ey, nI_1, rt_outs (by rw [rt_nar0, if_pos a])]; exact ih
    · rw [ez, ey, nI_1, rt_outs (by rw [rt_nar1, if_neg a, if_pos b])]; exact ih
    · rw [ez, ey, nI_1, rt_outs (by rw [rt_nar0, if_neg a, if_neg b])]; exact ih)
  rw [show rt_out T g 0 = T from funext (fun j => if_neg (Nat.not_lt_zero j))] at key
  exact key
theorem rt_yrem (hQ : rt_QL L Q) (hT : rt_TT T) (hR : rt_RR T R) {r : Nat} (hTr : ¬ T r = 0) (hg : ∀ s, s < 60 → (¬ g s = 0 ↔ rt_G T R L Q r s)) {x3 x4 : Int32} {post : Int32 → SY → Prop} (h : ∀ R' : Nat → Int32, (∀ p, (p < 120 → rt_lg T R L Q r p → ¬ rt_G T R L Q r (p / 2) → R' p = -1) ∧ ((p < 120 → rt_lg T R L Q r p → rt_G T R L Q r (p / 2)) → R' p = R p)) → rt_RR (rt_out T g 60) R' ∧ (¬ rt_bad op Q x4 (rt_S (rt_out T g 60) R' L Q) → post x3 (op, mk, sb, L, Q, (rt_out T g 60), R', V, kT, kR, kV, g)) ∧ (rt_bad op Q x4 (rt_S (rt_out T g 60) R' L Q) → post (-9) (op, mk, sb, L, Q, (rt_rs (rt_nr kT) (60 * 4) 60 (rt_out T g 60)), (rt_rs kR (120 * 4) 120 R'), (rt_rs kV (60 * 4) 60 V), kT, kR, kV, g))) : ∃ n, wY_remove_53 post x3 x4 op mk sb n 0 L Q T R V kT kR kV g := by
  refine loop_0 (fun n i R' => wY_remove_53 post x3 x4 op mk sb n (nI i) L Q T R' V kT kR kV g) (fun i R' => ∀ p, (p < i → rt_lg T R L Q r p → ¬ rt_G T R L Q r (p / 2) → R' p = -1) ∧ ((p < i → rt_lg T R L Q r p → rt_G T R L Q r (p / 2)) → R' p = R p)) 120 R (fun p => ⟨fun z => absurd z (Nat.not_lt_zero p), fun _ => rfl⟩) (fun n R' hy => br_t (nI_le (a := 120) (b := 120) (by decide) (by decide)) (rt_yrem132 hQ hT (h R' hy).1 (h R' hy).2.1 (h R' hy).2.2)) (fun n i R' hi hy ih => br_f (nI_ge (b := 120) hi (by decide)) ?_)
  have ri : R' i = R i := (hy i).2 (fun z => absurd z (Nat.lt_irrefl i))
  have te : rt_tg T R' L Q i = rt_tg T R L Q i := rt_tgc (fun _ => ri)
  have hR' : rt_RR T R' := by
    intro p hp ht
    by_cases q : p < i ∧ rt_lg T R L Q r p ∧ ¬ rt_G T R L Q r (p / 2)
    · exact Or.inl ((hy p).1 q.1 q.2.1 q.2.2)
    · rw [(hy p).2 (fun a b => Classical.byContradiction (fun c => q ⟨a, b, c⟩))]; exact hR p hp ht
  have same : (rt_lg T R L Q r i → rt_G T R L Q r (i / 2)) → ∀ z, z = upd R' i (R' i) → ∀ y, y = nI i + 1 → wY_remove_53 post x3 x4 op mk sb n y L Q T z V kT kR kV g := by
    intro no z ez y ey
    rw [ey, nI_1, ez]
    refine ih _ (fun p => ?_)
    by_cases q : p = i
    · subst q
      rw [pk_us]
      exact ⟨fun _ a b => absurd (no a) b, fun _ => ri⟩
    · rw [pk_un q]
      exact ⟨fun hp => (hy p).1 (by omega), fun a => (hy p).2 (fun hp => a (by omega))⟩
  have hit : rt_lg T R L Q r i → ¬ rt_G T R L Q r (i / 2) → ∀ z, z = upd R' i (-1) → ∀ y, y = nI i + 1 → wY_remove_53 post x3 x4 op mk sb n y L Q T z V kT kR kV g := by
    intro yes no z ez y ey
    rw [ey, nI_1, ez]
    refine ih _ (fun p => ?_)
    by_cases q : p = i
    · subst q
      rw [pk_us]
      exact ⟨fun _ _ _ => rfl, fun a => absurd (a (by omega) yes) no⟩
    · rw [pk_un q]
      exact ⟨fun hp => (hy p).1 (by omega), fun a => (hy p).2 (fun hp => a (by omega))⟩
  have hv : vp_in (nI i) 120 := vp_in_nI hi (by decide)
  refine rt_ytg hQ hR' hi (fun e => br_t (by decide) ?_) (fun t ht e d => br_f (nI_pos (by omega)) (rt_yrule hi ?_))
  · rw [nI_clamp (n := i) (by omega)]
    refine ⟨hv, hv, same ?_⟩
    intro ⟨t, e1, _, e3⟩
    rw [te] at e
    rcases e with e | ⟨t', e, d⟩
    · rw [e] at e1; cases e1
    · rw [e] at e1; cases e1
      exact absurd d (rt_GT hTr e3)
  · rw [nI_clamp (n := i) (by omega), nI_clamp (n := t) (by omega), rt_n2 (p := i) (by omega), nI_clamp (n := i / 2) (by omega)]
    rw [te] at e
    refine br_c (fun b => ⟨vp_in_nI ht (by decide), br_c (fun c => ⟨hv, hv, same ?_⟩) (fun c => ⟨by decide, vp_in_nI (by omega) (by decide), br_c (fun f => ⟨hv, hit ⟨t, e, b, (hg t ht).mp c⟩ (fun z => (hg _ (by omega)).mpr z f)⟩) (fun f => ⟨hv, hv, same (fun _ => (hg _ (by omega)).mp f)⟩)⟩)⟩) (fun b => ⟨hv, hv, same ?_⟩)
    · intro ⟨t', e1, _, e3⟩
      rw [e] at e1; cases e1
      exact absurd c ((hg t ht).mpr e3)
    · intro ⟨t', _, e2, _⟩
      exact absurd e2 b
theorem rt_chO {s i : Nat} {nk : Int32} : rt_ch T R L Q s nk i i = R i := if_neg (fun h => Nat.lt_irrefl i h.1)
theorem rt_chN {s i : Nat} {nk : Int32} (h : ¬ (rt_tg T R L Q i = some s ∧ (Q (rt_c i) = 1 ∨ Q (rt_c i) = 2))) : rt_ch T R L Q s nk (i + 1) = rt_ch T R L Q s nk i := funext fun p => by
  unfold rt_ch
  by_cases q : p = i
  · subst q
    rw [if_neg (show ¬ (p < p ∧ rt_tg T R L Q p = some s) from fun z => Nat.lt_irrefl p z.1)]
    by_cases w : rt_tg T R L Q p = some s
    · rw [if_pos ⟨Nat.lt_succ_self p, w⟩, if_neg (fun z => h ⟨w, Or.inl z⟩), if_neg (fun z => h ⟨w, Or.inr z⟩)]
    · rw [if_neg (fun z => w z.2)]
  · by_cases w : p < i ∧ rt_tg T R L Q p = some s
    · rw [if_pos w, if_pos (show p < i + 1 ∧ rt_tg T R L Q p = some s from ⟨by omega, w.2⟩)]
    · rw [if_neg w, if_neg (show ¬ (p < i + 1 ∧ rt_tg T R L Q p = some s) from fun z => w ⟨by omega, z.2⟩)]
theorem rt_chY {s i : Nat} {nk v : Int32} (w : rt_tg T R L Q i = some s) (hv : v = if Q (rt_c i) = 1 then nk else if Q (rt_c i) = 2 then -1 else R i) : upd (rt_ch T R L Q s nk i) i v = rt_ch T R L Q s nk (i + 1) := funext fun p => by
  unfold upd rt_ch
  by_cases q : p = i
  · subst q
    rw [if_pos rfl, if_pos (show p < p + 1 ∧ rt_tg T R L Q p = some s from ⟨Nat.lt_succ_self p, w⟩), hv]
  · rw [if_neg q]
    by_cases w : p < i ∧ rt_tg T R L Q p = some s
    · rw [if_pos w, if_pos (show p < i + 1 ∧ rt_tg T R L Q p = some s from ⟨by omega, w.2⟩)]
    · rw [if_neg w, if_neg (show ¬ (p < i + 1 ∧ rt_tg T R L Q p = some s) from fun z => w ⟨by omega, z.2⟩)]
theorem rt_chR (hR : rt_RR T R) {s i k : Nat} (hk : k < 20) : rt_RR T (rt_ch T R L Q s (nI k) i) := by
  intro p hp ht
  unfold rt_ch
  by_cases w : p < i ∧ rt_tg T R L Q p = some s
  · rw [if_pos w]
    by_cases a : Q (rt_c p) = 1
    · rw [if_pos a]; exact Or.inr ⟨k, hk, rfl⟩
    · rw [if_neg a]
      by_cases b : Q (rt_c p) = 2
      · rw [if_pos b]; exact Or.inl rfl
      · rw [if_neg b]; exact hR p hp ht
  · rw [if_neg w]; exact hR p hp ht
theorem rt_xchange (hQ : rt_QL L Q) (hR : rt_RR T R) {s k : Nat} (hs : s < 60) (hk : k < 20) {post : Int32 → SX → Prop} (h : post (nI (rt_cnt (rt_chf T R L Q s) 120)) (op, mk, sb, sbs, T, V, (rt_ch T R L Q s (nI k) 120), L, Q, kT, kV, kR)) : wpX_changeReferences post (op, mk, sb, sbs, T, V, R, L, Q, kT, kV, kR) (nI s) (nI k) := by
  unfold wpX_changeReferences; dsimp only
  have key := rt_loopF (fun n i (c : Int32 × (Nat → Int32)) => wX_changeReferences_5 post (nI s) (nI k) op mk sb sbs n c.1 (nI i) T V c.2 L Q kT kV kR) (fun i => (nI (rt_cnt (rt_chf T R L Q s) i), rt_ch T R L Q s (nI k) i)) 120 (fun n => br_t (nI_le (a := 120) (b := 120) (by decide) (by decide)) h) (fun n i hi ih => by
    have te : rt_tg T (rt_ch T R L Q s (nI k) i) L Q i = rt_tg T R L Q i := rt_tgc (fun _ => rt_chO)
    have skip : ¬ (rt_tg T R L Q i = some s ∧ (Q (rt_c i) = 1 ∨ Q (rt_c i) = 2)) → ∀ y, y = nI i + 1 → wX_changeReferences_5 post (nI s) (nI k) op mk sb sbs n (nI (rt_cnt (rt_chf T R L Q s) i)) y T V (rt_ch T R L Q s (nI k) i) L Q kT kV kR := by
      intro no y ey
      rw [ey, nI_1, ← rt_chN (nk := nI k) no, ← rt_cnt_f (f := rt_chf T R L Q s) (n := i) (fun z => no (of_decide_eq_true z))]
      exact ih
    have yes : rt_tg T R L Q i = some s → (Q (rt_c i) = 1 ∨ Q (rt_c i) = 2) → ∀ v, v = (if Q (rt_c i) = 1 then nI k else if Q (rt_c i) = 2 then -1 else R i) → ∀ u, u = upd (rt_ch T R L Q s (nI k) i) i v → ∀ z, z = nI (rt_cnt (rt_chf T R L Q s) i) + 1 → ∀ y, y = nI i + 1 → wX_changeReferences_5 post (nI s) (nI k) op mk sb sbs n z y T V u L Q kT kV kR := by
      intro a b v ev u eu z ez y ey
      rw [ey, nI_1, eu, rt_chY a ev, ez, nI_1, ← rt_cnt_t (f := rt_chf T R L Q s) (n := i) (decide_eq_true ⟨a, b⟩)]
      exact ih
    refine br_f (nI_ge (b := 120) hi (by decide)) (rt_xtg hQ (rt_chR hR hk) hi (fun e => br_f (fun z => rt_nI_m1 (by omega) z.symm) (skip ?_)) (fun t ht e => br_c (fun a => rt_xrule hi ?_) (fun a => skip ?_)))
    · rw [te] at e
      rw [e]; exact fun z => (nomatch z.1)
    · rw [te, (nI_eq (by omega) (by omega)).mp a] at e
      rw [nI_clamp (n := i) (by omega)]
      exact br_c (fun b => ⟨vp_in_nI hi (by decide), yes e (Or.inl b) _ (by rw [if_pos b])⟩) (fun b => br_c (fun c => ⟨vp_in_nI hi (by decide), yes e (Or.inr c) _ (by rw [if_neg b, if_pos c])⟩) (fun c => skip (fun z => z.2.elim b c)))
    · rw [te] at e
      rw [e]; exact fun z => a (by cases z.1; rfl))
  dsimp only at key
  rw [show rt_ch T R L Q s (nI k) 0 = R from funext (fun p => if_neg (fun z => Nat.not_lt_zero p z.1))] at key
  exact key
theorem rt_yfollow (hQ : rt_QL L Q) (hR : rt_RR T R) {s k : Nat} (hs : s < 60) (hTs : ¬ T s = 0) (hk : k < 20) {post : Int32 → SY → Prop} (h : post (nI (rt_cnt (rt_chf T R L Q s) 120)) (op, mk, sb, L, Q, T, (rt_ch T R L Q s (nI k) 120), V, kT, kR, kV, g)) : wpY_follow post (op, mk, sb, L, Q, T, R, V, kT, kR, kV, g) (nI s) (nI k) := by
  unfold wpY_follow; dsimp only
  have key := rt_loopF (fun n i (c : Int32 × (Nat → Int32)) => wY_follow_5 post (nI s) (nI k) op mk sb n c.1 (nI i) L Q T c.2 V kT kR kV g) (fun i => (nI (rt_cnt (rt_chf T R L Q s) i), rt_ch T R L Q s (nI k) i)) 120 (fun n => br_t (nI_le (a := 120) (b := 120) (by decide) (by decide)) h) (fun n i hi ih => by
    have te : rt_tg T (rt_ch T R L Q s (nI k) i) L Q i = rt_tg T R L Q i := rt_tgc (fun _ => rt_chO)
    have skip : ¬ (rt_tg T R L Q i = some s ∧ (Q (rt_c i) = 1 ∨ Q (rt_c i) = 2)) → ∀ y, y = nI i + 1 → wY_follow_5 post (nI s) (nI k) op mk sb n (nI (rt_cnt (rt_chf T R L Q s) i)) y L Q T (rt_ch T R L Q s (nI k) i) V kT kR kV g := by
      intro no y ey
      rw [ey, nI_1, ← rt_chN (nk := nI k) no, ← rt_cnt_f (f := rt_chf T R L Q s) (n := i) (fun z => no (of_decide_eq_true z))]
      exact ih
    have yes : rt_tg T R L Q i = some s → (Q (rt_c i) = 1 ∨ Q (rt_c i) = 2) → ∀ v, v = (if Q (rt_c i) = 1 then nI k else if Q (rt_c i) = 2 then -1 else R i) → ∀ u, u = upd (rt_ch T R L Q s (nI k) i) i v → ∀ z, z = nI (rt_cnt (rt_chf T R L Q s) i) + 1 → ∀ y, y = nI i + 1 → wY_follow_5 post (nI s) (nI k) op mk sb n z y L Q T u V kT kR kV g := by
      intro a b v ev u eu z ez y ey
      rw [ey, nI_1, eu, rt_chY a ev, ez, nI_1, ← rt_cnt_t (f := rt_chf T R L Q s) (n := i) (decide_eq_true ⟨a, b⟩)]
      exact ih
    have f46 : rt_tg T R L Q i = some s → (Q (rt_c i) = 1 ∨ Q (rt_c i) = 2) → wY_follow_46 post (wY_follow_5 post (nI s) (nI k) op mk sb n) (nI s) (nI k) (nI (rt_cnt (rt_chf T R L Q s) i)) (nI i) op mk sb L Q T (rt_ch T R L Q s (nI k) i) V kT kR kV g := by
      intro a b
      unfold wY_follow_46
      rw [nI_clamp (n := i) (by omega)]
      exact rt_yrule hi (br_c (fun c => ⟨vp_in_nI hi (by decide), yes a b _ (by rw [if_pos c])⟩) (fun c => ⟨vp_in_nI hi (by decide), yes a b _ (by rw [if_neg c, if_pos (b.resolve_left c)])⟩))
    refine br_f (nI_ge (b := 120) hi (by decide)) (rt_ytg hQ (rt_chR hR hk) hi (fun e => br_f (fun z => rt_nI_m1 (by omega) z.symm) (skip ?_)) (fun t ht e d => br_c (fun a => ?_) (fun a => skip ?_)))
    · rw [te] at e
      intro z
      rcases e with e | ⟨t, e, d⟩
      · rw [e] at z; cases z.1
      · rw [z.1] at e; cases e; exact hTs d
    · rw [te, (nI_eq (by omega) (by omega)).mp a] at e
      exact rt_yrule hi (br_c (fun b => f46 e (Or.inl b)) (fun b => rt_yrule hi (br_c (fun c => f46 e (Or.inr c)) (fun c => skip (fun z => z.2.elim b c)))))
    · rw [te] at e
      rw [e]; exact fun z => a (by cases z.1; rfl))
  dsimp only at key
  rw [show rt_ch T R L Q s (nI k) 0 = R from funext (fun p => if_neg (fun z => Nat.not_lt_zero p z.1))] at key
  exact key
theorem rt_xmove {a b : Nat} (ha : a < 60) (hb : b < 60) {post : SX → Prop} (h : post (op, mk, sb, sbs, (upd (upd T a 0) b 1), (upd V b (V a)), (rt_mv R a b), L, Q, kT, kV, kR)) : wpX_moveRow post (op, mk, sb, sbs, T, V, R, L, Q, kT, kV, kR) (nI a) (nI b) := by
  unfold wpX_moveRow; dsimp only
  rw [nI_clamp (n := a) (by omega), nI_clamp (n := b) (by omega), rt_nar0, rt_nar1]
  refine ⟨vp_in_nI ha (by decide), fun t1 e1 => ⟨vp_in_nI hb (by decide), fun t2 e2 => ⟨vp_in_nI ha (by decide), vp_in_nI hb (by decide), fun v1 e3 => ⟨3, ?_⟩⟩⟩⟩
  subst e1 e2 e3
  refine br_f (by decide) ?_
  have a0 : nI a * 2 + 0 = nI (2 * a + 0) := rt_2a a 0
  have b0 : nI b * 2 + 0 = nI (2 * b + 0) := rt_2a b 0
  rw [a0, b0, nI_clamp (n := 2 * a + 0) (by omega), nI_clamp (n := 2 * b + 0) (by omega)]
  refine ⟨vp_in_nI (by omega) (by decide), vp_in_nI (by omega) (by decide), fun r1 f1 y ey => ?_⟩
  have ey : y = 1 := ey
  subst f1 ey
  refine br_f (by decide) ?_
  have a1 : nI a * 2 + 1 = nI (2 * a + 1) := rt_2a a 1
  have b1 : nI b * 2 + 1 = nI (2 * b + 1) := rt_2a b 1
  rw [a1, b1, nI_clamp (n := 2 * a + 1) (by omega), nI_clamp (n := 2 * b + 1) (by omega)]
  refine ⟨vp_in_nI (by omega) (by decide), vp_in_nI (by omega) (by decide), fun r2 f2 y ey => ?_⟩
  have ey : y = 2 := ey
  subst f2 ey
  exact br_t (by decide) h
end
