/-! link and insert -/
theorem rt_v4 {x : Int32} (h1 : ¬ x < -1) (h2 : x ≤ 3) : x = -1 ∨ x = 0 ∨ x = 1 ∨ x = 2 ∨ x = 3 := by
  have m1 : (-1 : Int32).toInt = -1 := by decide
  have m3 : (3 : Int32).toInt = 3 := by decide
  rw [Int32.lt_iff_toInt_lt, m1] at h1
  rw [Int32.le_iff_toInt_le, m3] at h2
  have e : x.toInt = -1 ∨ x.toInt = 0 ∨ x.toInt = 1 ∨ x.toInt = 2 ∨ x.toInt = 3 := by omega
  have f : ∀ y : Int32, x.toInt = y.toInt → x = y := fun y => Int32.toInt_inj.mp
  rcases e with e | e | e | e | e
  · exact Or.inl (f _ (e.trans (by decide)))
  · exact Or.inr (Or.inl (f _ (e.trans (by decide))))
  · exact Or.inr (Or.inr (Or.inl (f _ (e.trans (by decide)))))
  · exact Or.inr (Or.inr (Or.inr (Or.inl (f _ (e.trans (by decide))))))
  · exact Or.inr (Or.inr (Or.inr (Or.inr (f _ (e.trans (by decide))))))
theorem rt_QLu {L Q : Nat → Int32} (hQ : rt_QL L Q) {c l : Nat} {x : Int32} (hx : x = -1 ∨ x = 0 ∨ x = 1 ∨ x = 2 ∨ x = 3) (hl : l < 3) : rt_QL (upd L c (nI l)) (upd Q c x) := by
  intro d hd
  by_cases q : d = c
  · subst q; rw [pk_us, pk_us]; exact ⟨hx, l, hl, rfl⟩
  · rw [pk_un q, pk_un q]; exact hQ d hd
section
variable {op mk sb sbs : Int32} {m : Nat} {T V R L Q kT kV kR g RX RY kTX kTY kVX kVY kRX kRY : Nat → Int32}
theorem rt_ylink {t o : Nat} (ht : t < 3) (ho : o < 2) {v3 v4 : Int32} {post : Int32 → SY → Prop} (h1 : (∃ k, k < 20 ∧ ¬ T (20 * t + k) = 0 ∧ ¬ R (2 * (20 * t + k) + o) = -1) → post (-5) (op, mk, sb, L, Q, T, R, V, kT, kR, kV, g)) (h0 : (∀ k, k < 20 → ¬ (¬ T (20 * t + k) = 0 ∧ ¬ R (2 * (20 * t + k) + o) = -1)) → (0 ≤ v4 → post (Q (2 * t + o)) (op, mk, sb, (upd L (2 * t + o) v3), (upd Q (2 * t + o) v4), T, R, V, kT, kR, kV, g)) ∧ (¬ 0 ≤ v4 → post (Q (2 * t + o)) (op, mk, sb, (upd L (2 * t + o) 0), (upd Q (2 * t + o) v4), T, R, V, kT, kR, kV, g))) : ∃ n, wY_link_64 post (nI t) (nI o) v3 v4 op mk sb L Q T R V kT kR kV g n 0 := by
  refine rt_loopS (fun n i => wY_link_64 post (nI t) (nI o) v3 v4 op mk sb L Q T R V kT kR kV g n (nI i)) (fun k => ¬ T (20 * t + k) = 0 ∧ ¬ R (2 * (20 * t + k) + o) = -1) 20 (fun hn n => br_t (nI_le (a := 20) (b := 20) (by decide) (by decide)) ?_) (fun n i hi hn ih => br_f (nI_ge (b := 20) hi (by decide)) ?_)
  · rw [rt_2b, nI_clamp (n := 2 * t + o) (by omega)]
    have hv : vp_in (nI (2 * t + o)) 6 := vp_in_nI (by omega) (by decide)
    refine ⟨hv, fun y ey => ⟨hv, fun z ez => br_c (fun a => ⟨hv, fun w ew => ?_⟩) (fun a => ⟨hv, fun w ew => ?_⟩)⟩⟩
    · rw [ey, ez, ew]; exact (h0 hn).1 a
    · rw [ey, ez, ew]; exact (h0 hn).2 a
  · rw [rt_20b, rt_40, nI_clamp (n := 20 * t + i) (by omega), nI_clamp (n := 2 * (20 * t + i) + o) (by omega)]
    refine ⟨vp_in_nI (by omega) (by decide), br_c (fun a y ey => ?_) (fun a => ⟨vp_in_nI (by omega) (by decide), br_c (fun b y ey => ?_) (fun b => h1 ⟨i, hi, a, b⟩)⟩)⟩
    · rw [ey, nI_1]; exact ih (fun z => z.1 a)
    · rw [ey, nI_1]; exact ih (fun z => z.2 b)
theorem rt_link {k : Nat} (hm : m ≤ 3) (hQ : rt_QL L Q) (hO : rt_OK T RX RY) (hK : rt_K kTX kVX kRX kTY kVY kRY) {t : Nat} (ht : t < 3) {v2 v3 v4 : Int32} (hto : v4 = -1 ∨ ∃ q, q < 3 ∧ v3 = nI q) (HY : ∀ post : Int32 → SY → Prop, wY_link_24 post (nI t) v2 v3 v4 op (nI m) sb L Q T RY V kTY kRY kVY g → wpY_link post (op, (nI m), sb, L, Q, T, RY, V, kTY, kRY, kVY, g) (nI t) v2 v3 v4) : wX_link_24 (fun r u' => wpY_link (fun r' v' => r' = r ∧ i_Rel k u' v') (op, (nI m), sb, L, Q, T, RY, V, kTY, kRY, kVY, g) (nI t) v2 v3 v4) (nI t) v2 v3 v4 op (nI m) sb sbs T V RX L Q kTX kVX kRX := by
  have J := rt_rel (op := op) (sb := sb) (sbs := sbs) (V := V) (g := g) k hm hQ hO hK
  unfold wX_link_24
  rcases rt_col v2 with ⟨e, f⟩ | ⟨o, ho, rfl, e, f⟩
  · exact e _ (br_t rfl (HY _ (f _ _ ⟨rfl, J⟩)))
  · refine e _ (br_f (by decide) (br_c (fun a => HY _ (f _ _ (br_t a ⟨rfl, J⟩))) (fun a => br_c (fun b => br_c (fun c => ?_) (fun c => HY _ (f _ _ (br_f a (br_t b (br_f c ⟨rfl, J⟩)))))) (fun b => HY _ (f _ _ (br_f a (br_f b ⟨rfl, J⟩)))))))
    have same : ∀ i, i < 20 → ¬ T (20 * t + i) = 0 → RX (2 * (20 * t + i) + o) = RY (2 * (20 * t + i) + o) := fun i hi z => (hO.2.1 (2 * (20 * t + i) + o) (by omega) (by rw [show (2 * (20 * t + i) + o) / 2 = 20 * t + i from by omega]; exact z)).1
    refine rt_xused ht ho (fun hu => br_f (by decide) ?_) (fun no => br_t rfl (fun y ey => ?_))
    · obtain ⟨i, hi, z1, z2⟩ := hu
      exact HY _ (f _ _ (br_f a (br_t b (br_t c (rt_ylink ht ho (fun _ => ⟨rfl, J⟩) (fun no => (no i hi ⟨z1, by rw [← same i hi z1]; exact z2⟩).elim))))))
    · rw [rt_2a] at ey
      subst ey
      have hv : vp_in (nI (2 * t + o)) 6 := vp_in_nI (by omega) (by decide)
      rw [nI_clamp (n := 2 * t + o) (by omega)]
      have v4r := rt_v4 a b
      have ny : ∀ P : Prop, (∃ k, k < 20 ∧ ¬ T (20 * t + k) = 0 ∧ ¬ RY (2 * (20 * t + k) + o) = -1) → P := fun P ⟨i, hi, z1, z2⟩ => (no i hi ⟨z1, by rw [same i hi z1]; exact z2⟩).elim
      have neg : v4 = -1 ↔ ¬ 0 ≤ v4 := by rcases v4r with e | e | e | e | e <;> rw [e] <;> decide
      refine ⟨hv, fun y ey => ⟨hv, fun z ez => br_c (fun d => ⟨hv, fun w ew => HY _ (f _ _ (br_f a (br_t b (br_t c (rt_ylink ht ho (ny _) (fun _ => ⟨fun x => absurd x (neg.mp d), fun _ => ?_⟩))))))⟩) (fun d => ⟨hv, fun w ew => HY _ (f _ _ (br_f a (br_t b (br_t c (rt_ylink ht ho (ny _) (fun _ => ⟨fun _ => ?_, fun x => absurd (neg.mpr x) d⟩))))))⟩)⟩⟩
      · rw [ey, ez, ew]
        exact ⟨rfl, rt_rel k hm (rt_QLu (l := 0) hQ v4r (by decide)) hO hK⟩
      · rw [ey, ez, ew]
        obtain ⟨q, hq, eq⟩ := hto.resolve_left d
        rw [eq]
        exact ⟨rfl, rt_rel k hm (rt_QLu hQ v4r hq) hO hK⟩
end
theorem i_vc_link {k : Nat} {u : SX} {v : SY} (I : i_Rel k u v) (hk : k + 5 ≤ 2560) (v1 : Int32) (v2 : Int32) (v3 : Int32) (v4 : Int32) : wpX_link (fun r u' => wpY_link (fun r' v' => r' = r ∧ i_Rel (k + 5) u' v') v v1 v2 v3 v4) u v1 v2 v3 v4 := by
  obtain ⟨op, m, sb, sbs, T, V, RX, L, Q, kTX, kVX, kRX, RY, kTY, kRY, kVY, g, hm, hQ, hO, hK, rfl, rfl⟩ := I
  have J := rt_rel (op := op) (sb := sb) (sbs := sbs) (V := V) (g := g) (k + 5) hm hQ hO hK
  unfold wpX_link; dsimp only
  rcases rt_table (op := op) (mk := nI m) (sb := sb) (T := T) (V := V) (L := L) (Q := Q) (g := g) (RY := RY) (kTY := kTY) (kVY := kVY) (kRY := kRY) v1 with ⟨a, b⟩ | ⟨t, ht, rfl, a, b⟩
  · exact a _ (br_t rfl (by unfold wpY_link; dsimp only; exact b _ (br_t rfl ⟨rfl, J⟩)))
  · refine a _ (br_f (by decide) (br_c (fun c => ?_) (fun c => ?_)))
    · exact rt_link hm hQ hO hK ht (Or.inl c) (fun post h => by unfold wpY_link; dsimp only; exact b _ (br_f (by decide) (br_t c h)))
    · rcases rt_table (op := op) (mk := nI m) (sb := sb) (T := T) (V := V) (L := L) (Q := Q) (g := g) (RY := RY) (kTY := kTY) (kVY := kVY) (kRY := kRY) v3 with ⟨d, e⟩ | ⟨s, hs, rfl, d, e⟩
      · exact d _ (br_t rfl (by unfold wpY_link; dsimp only; exact b _ (br_f (by decide) (br_f c (e _ (br_t rfl ⟨rfl, J⟩))))))
      · exact d _ (br_f (by decide) (rt_link hm hQ hO hK ht (Or.inr ⟨s, hs, rfl⟩) (fun post h => by unfold wpY_link; dsimp only; exact b _ (br_f (by decide) (br_f c (e _ (br_f (by decide) h)))))))
def rt_ne (R : Nat → Int32) (s : Nat) : Nat → Int32 := upd (upd R (2 * s) (-1)) (2 * s + 1) (-1)
theorem rt_neI {R : Nat → Int32} {s p : Nat} (h : p / 2 = s) : rt_ne R s p = -1 := by
  unfold rt_ne
  by_cases q : p = 2 * s + 1
  · rw [q, pk_us]
  · rw [pk_un q, show p = 2 * s from by omega, pk_us]
theorem rt_neO {R : Nat → Int32} {s p : Nat} (h : ¬ p / 2 = s) : rt_ne R s p = R p := by
  unfold rt_ne
  rw [pk_un (by omega), pk_un (by omega)]
theorem rt_ctset {T : Nat → Int32} {t0 q t : Nat} {x : Int32} (hq : q < 20) (hT : T (20 * t0 + q) = 0) (hx : ¬ x = 0) : rt_ct (upd T (20 * t0 + q) x) t = rt_ct T t + (if t = t0 then 1 else 0) := by
  unfold rt_ct
  by_cases e : t = t0
  · subst e
    rw [if_pos rfl, rt_cnt_set (f := fun k => rt_b T (20 * t + k)) (h := fun k => rt_b (upd T (20 * t + q) x) (20 * t + k)) (a := q) (fun z => rt_b_t.mp z hT) (rt_b_t.mpr (by rw [pk_us]; exact hx)) 20 (fun i _ ne => by unfold rt_b; rw [pk_un (by omega)]), if_pos hq]
  · rw [if_neg e, Nat.add_zero]
    exact rt_cnt_congr 20 (fun i hi => by unfold rt_b; rw [pk_un (by omega)])
theorem rt_tgc2 {T R T' R' L Q : Nat → Int32} {p : Nat} (h : T (p / 2) = T' (p / 2)) (h2 : R p = R' p) : rt_tg T R L Q p = rt_tg T' R' L Q p := by
  unfold rt_tg
  rw [h, h2]
theorem rt_OKins {T RX RY : Nat → Int32} (hO : rt_OK T RX RY) {t q : Nat} (ht : t < 3) (hq : q < 20) (hT : T (20 * t + q) = 0) (h12 : rt_ct T t < 12) : rt_OK (upd T (20 * t + q) 1) (rt_ne RX (20 * t + q)) (rt_ne RY (20 * t + q)) := by
  refine ⟨fun s hs => ?_, fun p hp ht => ?_, fun t' ht' => ?_⟩
  · by_cases e : s = 20 * t + q
    · rw [e, pk_us]; exact Or.inr rfl
    · rw [pk_un e]; exact hO.1 s hs
  · by_cases e : p / 2 = 20 * t + q
    · rw [rt_neI e, rt_neI e]; exact ⟨rfl, Or.inl rfl⟩
    · rw [pk_un e] at ht
      rw [rt_neO e, rt_neO e]; exact hO.2.1 p hp ht
  · rw [rt_ctset hq hT (by decide)]
    have := hO.2.2 t' ht'
    by_cases e : t' = t
    · rw [if_pos e, e]; omega
    · rw [if_neg e]; omega
theorem rt_insdg {T R L Q : Nat → Int32} {s p : Nat} (h : rt_dg (upd T s 1) (rt_ne R s) L Q p = true) : rt_dg T R L Q p = true := by
  obtain ⟨t, e, z⟩ := rt_dgT.mp h
  obtain ⟨a, _, c⟩ := rt_tgS e
  have ps : ¬ p / 2 = s := fun q => c (rt_neI q)
  have ts : ¬ t = s := fun q => by rw [q, pk_us] at z; exact absurd z (by decide)
  rw [pk_un ts] at z
  rw [rt_tgc2 (T' := T) (R' := R) (pk_un ps) (rt_neO ps)] at e
  exact rt_dgT.mpr ⟨t, e, z⟩
theorem i_vc_insert {k : Nat} {u : SX} {v : SY} (I : i_Rel k u v) (hk : k + 5 ≤ 2560) (v1 : Int32) (v2 : Int32) : wpX_insert (fun r u' => wpY_insert (fun r' v' => r' = r ∧ i_Rel (k + 5) u' v') v v1 v2) u v1 v2 := by
  obtain ⟨op, m, sb, sbs, T, V, RX, L, Q, kTX, kVX, kRX, RY, kTY, kRY, kVY, g, hm, hQ, hO, hK, rfl, rfl⟩ := I
  have J := rt_rel (op := op) (sb := sb) (sbs := sbs) (V := V) (g := g) (k + 5) hm hQ hO hK
  unfold wpX_insert wpY_insert; dsimp only
  rcases rt_table (op := op) (mk := nI m) (sb := sb) (T := T) (V := V) (L := L) (Q := Q) (g := g) (RY := RY) (kTY := kTY) (kVY := kVY) (kRY := kRY) v1 with ⟨a, b⟩ | ⟨t, ht, rfl, a, b⟩
  · exact a _ (br_t rfl (b _ (br_t rfl ⟨rfl, J⟩)))
  · rcases rt_key (op := op) (mk := nI m) (sb := sb) (T := T) (V := V) (L := L) (Q := Q) (g := g) (RY := RY) (kTY := kTY) (kVY := kVY) (kRY := kRY) v2 with ⟨c, d⟩ | ⟨q, hq, rfl, c, d⟩
    · exact a _ (br_f (by decide) (c _ (br_t rfl (b _ (br_f (by decide) (d _ (br_t rfl ⟨rfl, J⟩)))))))
    · refine a _ (br_f (by decide) (c _ (br_f (by decide) (rt_xrow ht hq (fun hT => br_t rfl (rt_xcount ht ?_)) (fun hT => br_f (by decide) (b _ (br_f (by decide) (d _ (br_f (by decide) (rt_yrow ht hq (fun z => absurd z hT) (fun _ => br_f (by decide) ⟨rfl, J⟩)))))))))))
      have c12 := hO.2.2 t ht
      by_cases h12 : rt_ct T t < 12
      · refine br_t (nI_lt (b := 12) h12 (by decide)) (fun y ey => ?_)
        rw [rt_20a] at ey
        subst ey
        have hs : 20 * t + q < 60 := by omega
        have hO' := rt_OKins hO ht hq hT h12
        rw [nI_clamp (n := 20 * t + q) (by omega), rt_nar1]
        refine ⟨vp_in_nI hs (by decide), fun T' eT => ⟨vp_in_nI hs (by decide), fun V' eV => ⟨3, ?_⟩⟩⟩
        subst eT eV
        refine br_f (by decide) ?_
        have a0 : nI (20 * t + q) * 2 + 0 = nI (2 * (20 * t + q) + 0) := rt_2a _ 0
        have a1 : nI (20 * t + q) * 2 + 1 = nI (2 * (20 * t + q) + 1) := rt_2a _ 1
        rw [a0, nI_clamp (n := 2 * (20 * t + q) + 0) (by omega)]
        refine ⟨vp_in_nI (by omega) (by decide), fun R1 e1 y ey => ?_⟩
        have ey : y = 1 := ey
        subst e1 ey
        refine br_f (by decide) ?_
        rw [a1, nI_clamp (n := 2 * (20 * t + q) + 1) (by omega)]
        refine ⟨vp_in_nI (by omega) (by decide), fun R2 e2 y ey => ?_⟩
        have ey : y = 2 := ey
        subst e2 ey
        refine br_t (by decide) (b _ (br_f (by decide) (d _ (br_f (by decide) (rt_yrow ht hq (fun _ => br_t rfl (rt_ycount ht (br_f (fun z => absurd ((nI_eq (b := 12) (by omega) (by decide)).mp z) (by omega)) (rt_ykeep (st := 4) (by decide) (rt_ysound hQ (rt_OKy hO) ?_))))) (fun z => absurd hT z))))))
        unfold wpY_makeRow
        have m0 : 2 * nI (20 * t + q) = nI (2 * (20 * t + q)) := pk_mul 2 _
        have m1 : nI (2 * (20 * t + q)) + 1 = nI (2 * (20 * t + q) + 1) := nI_1 _
        rw [rt_20b]
        dsimp only
        rw [m0, m1, nI_clamp (n := 20 * t + q) (by omega), nI_clamp (n := 2 * (20 * t + q)) (by omega), nI_clamp (n := 2 * (20 * t + q) + 1) (by omega), rt_nar1]
        refine ⟨vp_in_nI hs (by decide), fun T1 f1 => ⟨vp_in_nI (by omega) (by decide), fun R1 f2 => ⟨vp_in_nI (by omega) (by decide), fun R2 f3 => ⟨vp_in_nI hs (by decide), fun V1 f4 => ?_⟩⟩⟩⟩
        subst f1 f2 f3 f4
        refine rt_ycount ht (rt_ychecked hQ (rt_OKy hO') (fun _ => ⟨?_, rt_rel (k + 5) hm hQ hO' (rt_K4y hK)⟩) (fun z => absurd z (rt_Sle (fun p _ h => rt_insdg h))))
        rw [rt_ctset hq hT (by decide), if_pos rfl, nI_1]
      · refine br_f (nI_nlt (a := rt_ct T t) (b := 12) (by omega) (by omega)) (b _ (br_f (by decide) (d _ (br_f (by decide) (rt_yrow ht hq (fun _ => br_t rfl (rt_ycount ht (br_t ?_ ⟨rfl, J⟩))) (fun z => absurd hT z))))))
        rw [show rt_ct T t = 12 from by omega]; rfl
