/-! the calls that only read, and those of transactions -/
theorem i_vc_rows {k : Nat} {u : SX} {v : SY} (I : i_Rel k u v) (hk : k + 5 ≤ 2560) (v1 : Int32) : wpX_rows (fun r => wpY_rows (fun r' => r' = r ∧ i_Rel (k + 5) u v) v v1) u v1 := by
  obtain ⟨op, m, sb, sbs, T, V, RX, L, Q, kTX, kVX, kRX, RY, kTY, kRY, kVY, g, hm, hQ, hO, hK, rfl, rfl⟩ := I
  have J := rt_rel (op := op) (sb := sb) (sbs := sbs) (V := V) (g := g) (k + 5) hm hQ hO hK
  unfold wpX_rows wpY_rows; dsimp only
  rcases rt_table (op := op) (mk := nI m) (sb := sb) (T := T) (V := V) (L := L) (Q := Q) (g := g) (RY := RY) (kTY := kTY) (kVY := kVY) (kRY := kRY) v1 with ⟨a, b⟩ | ⟨t, ht, rfl, a, b⟩
  · exact a _ (br_t rfl (b _ (br_t rfl ⟨rfl, J⟩)))
  · exact a _ (br_f (by decide) (rt_xcount ht (b _ (br_f (by decide) (rt_ycount ht ⟨rfl, J⟩)))))
theorem i_vc_keyAt {k : Nat} {u : SX} {v : SY} (I : i_Rel k u v) (hk : k + 5 ≤ 2560) (v1 : Int32) (v2 : Int32) : wpX_keyAt (fun r => wpY_keyAt (fun r' => r' = r ∧ i_Rel (k + 5) u v) v v1 v2) u v1 v2 := by
  obtain ⟨op, m, sb, sbs, T, V, RX, L, Q, kTX, kVX, kRX, RY, kTY, kRY, kVY, g, hm, hQ, hO, hK, rfl, rfl⟩ := I
  have J := rt_rel (op := op) (sb := sb) (sbs := sbs) (V := V) (g := g) (k + 5) hm hQ hO hK
  unfold wpX_keyAt wpY_keyAt; dsimp only
  rcases rt_table (op := op) (mk := nI m) (sb := sb) (T := T) (V := V) (L := L) (Q := Q) (g := g) (RY := RY) (kTY := kTY) (kVY := kVY) (kRY := kRY) v1 with ⟨a, b⟩ | ⟨t, ht, rfl, a, b⟩
  · exact a _ (br_t rfl (b _ (br_t rfl ⟨rfl, J⟩)))
  · obtain ⟨r, hX, hY⟩ := rt_keyAt (op := op) (mk := nI m) (sb := sb) (T := T) (V := V) (L := L) (Q := Q) (g := g) (RY := RY) (kTY := kTY) (kVY := kVY) (kRY := kRY) (sbs := sbs) (RX := RX) (kTX := kTX) (kVX := kVX) (kRX := kRX) ht v2 20 0 rfl 0
    rw [show v2 - 0 = v2 from Int32.sub_zero _] at hY
    exact a _ (br_f (by decide) ⟨21, hX _ (b _ (br_f (by decide) ⟨21, hY _ ⟨rfl, J⟩⟩))⟩)
theorem i_vc_reference {k : Nat} {u : SX} {v : SY} (I : i_Rel k u v) (hk : k + 5 ≤ 2560) (v1 : Int32) (v2 : Int32) (v3 : Int32) : wpX_reference (fun r => wpY_reference (fun r' => r' = r ∧ i_Rel (k + 5) u v) v v1 v2 v3) u v1 v2 v3 := by
  obtain ⟨op, m, sb, sbs, T, V, RX, L, Q, kTX, kVX, kRX, RY, kTY, kRY, kVY, g, hm, hQ, hO, hK, rfl, rfl⟩ := I
  have J := rt_rel (op := op) (sb := sb) (sbs := sbs) (V := V) (g := g) (k + 5) hm hQ hO hK
  unfold wpX_reference wpY_reference; dsimp only
  rcases rt_table (op := op) (mk := nI m) (sb := sb) (T := T) (V := V) (L := L) (Q := Q) (g := g) (RY := RY) (kTY := kTY) (kVY := kVY) (kRY := kRY) v1 with ⟨a, b⟩ | ⟨t, ht, rfl, a, b⟩
  · exact a _ (br_t rfl (b _ (br_t rfl ⟨rfl, J⟩)))
  · rcases rt_row (op := op) (mk := nI m) (sb := sb) (T := T) (V := V) (L := L) (Q := Q) (g := g) (RY := RY) (kTY := kTY) (kVY := kVY) (kRY := kRY) (sbs := sbs) (RX := RX) (kTX := kTX) (kVX := kVX) (kRX := kRX) ht v2 with ⟨c, d⟩ | ⟨q, hq, rfl, hT, c, d⟩
    · exact a _ (br_f (by decide) (c _ (br_t rfl (b _ (br_f (by decide) (d _ (br_t rfl ⟨rfl, J⟩)))))))
    · rcases rt_col v3 with ⟨e, f⟩ | ⟨o, ho, rfl, e, f⟩
      · exact a _ (br_f (by decide) (c _ (br_f (by decide) (e _ (br_t rfl (b _ (br_f (by decide) (d _ (br_f (by decide) (f _ _ ⟨rfl, J⟩))))))))))
      · refine a _ (br_f (by decide) (c _ (br_f (by decide) (e _ (br_f (by decide) ?_)))))
        rw [rt_20a, rt_2a, nI_clamp (n := 2 * (20 * t + q) + o) (by omega)]
        refine ⟨vp_in_nI (by omega) (by decide), b _ (br_f (by decide) (d _ (br_f (by decide) (f _ _ ?_))))⟩
        rw [rt_40, nI_clamp (n := 2 * (20 * t + q) + o) (by omega)]
        exact ⟨vp_in_nI (by omega) (by decide), ((hO.2.1 (2 * (20 * t + q) + o) (by omega) (by rw [show (2 * (20 * t + q) + o) / 2 = 20 * t + q from by omega]; exact hT)).1).symm, J⟩
theorem i_vc_valueOf {k : Nat} {u : SX} {v : SY} (I : i_Rel k u v) (hk : k + 5 ≤ 2560) (v1 : Int32) (v2 : Int32) : wpX_valueOf (fun r => wpY_valueOf (fun r' => r' = r ∧ i_Rel (k + 5) u v) v v1 v2) u v1 v2 := by
  obtain ⟨op, m, sb, sbs, T, V, RX, L, Q, kTX, kVX, kRX, RY, kTY, kRY, kVY, g, hm, hQ, hO, hK, rfl, rfl⟩ := I
  have J := rt_rel (op := op) (sb := sb) (sbs := sbs) (V := V) (g := g) (k + 5) hm hQ hO hK
  unfold wpX_valueOf wpY_valueOf; dsimp only
  rcases rt_table (op := op) (mk := nI m) (sb := sb) (T := T) (V := V) (L := L) (Q := Q) (g := g) (RY := RY) (kTY := kTY) (kVY := kVY) (kRY := kRY) v1 with ⟨a, b⟩ | ⟨t, ht, rfl, a, b⟩
  · exact a _ (br_t rfl (b _ (br_t rfl ⟨rfl, J⟩)))
  · rcases rt_row (op := op) (mk := nI m) (sb := sb) (T := T) (V := V) (L := L) (Q := Q) (g := g) (RY := RY) (kTY := kTY) (kVY := kVY) (kRY := kRY) (sbs := sbs) (RX := RX) (kTX := kTX) (kVX := kVX) (kRX := kRX) ht v2 with ⟨c, d⟩ | ⟨q, hq, rfl, hT, c, d⟩
    · exact a _ (br_f (by decide) (c _ (br_t rfl (b _ (br_f (by decide) (d _ (br_t rfl ⟨rfl, J⟩)))))))
    · refine a _ (br_f (by decide) (c _ (br_f (by decide) ?_)))
      rw [rt_20a]
      refine ⟨vp_in_nI (by omega) (by decide), b _ (br_f (by decide) (d _ (br_f (by decide) ?_)))⟩
      rw [rt_20b]
      exact ⟨vp_in_nI (by omega) (by decide), rfl, J⟩
theorem i_vc_referrers {k : Nat} {u : SX} {v : SY} (I : i_Rel k u v) (hk : k + 5 ≤ 2560) (v1 : Int32) (v2 : Int32) : wpX_referrers (fun r => wpY_referrers (fun r' => r' = r ∧ i_Rel (k + 5) u v) v v1 v2) u v1 v2 := by
  obtain ⟨op, m, sb, sbs, T, V, RX, L, Q, kTX, kVX, kRX, RY, kTY, kRY, kVY, g, hm, hQ, hO, hK, rfl, rfl⟩ := I
  have J := rt_rel (op := op) (sb := sb) (sbs := sbs) (V := V) (g := g) (k + 5) hm hQ hO hK
  unfold wpX_referrers wpY_referrers; dsimp only
  rcases rt_table (op := op) (mk := nI m) (sb := sb) (T := T) (V := V) (L := L) (Q := Q) (g := g) (RY := RY) (kTY := kTY) (kVY := kVY) (kRY := kRY) v1 with ⟨a, b⟩ | ⟨t, ht, rfl, a, b⟩
  · exact a _ (br_t rfl (b _ (br_t rfl ⟨rfl, J⟩)))
  · rcases rt_row (op := op) (mk := nI m) (sb := sb) (T := T) (V := V) (L := L) (Q := Q) (g := g) (RY := RY) (kTY := kTY) (kVY := kVY) (kRY := kRY) (sbs := sbs) (RX := RX) (kTX := kTX) (kVX := kVX) (kRX := kRX) ht v2 with ⟨c, d⟩ | ⟨q, hq, rfl, hT, c, d⟩
    · exact a _ (br_f (by decide) (c _ (br_t rfl (b _ (br_f (by decide) (d _ (br_t rfl ⟨rfl, J⟩)))))))
    · refine a _ (br_f (by decide) (c _ (br_f (by decide) (fun y ey => ?_))))
      rw [ey, rt_20a]
      refine rt_xref hQ (rt_OKx hO) (by omega) (b _ (br_f (by decide) (d _ (br_f (by decide) (rt_yref hQ (rt_OKy hO) (by omega) hT ⟨congrArg nI (rt_cnt_congr 120 (fun p hp => ?_)), J⟩)))))
      rw [rt_Otg hO hp]
theorem rt_Fc {T R R' L Q : Nat → Int32} {r : Nat} (h : ∀ p, p < 120 → rt_tg T R L Q p = rt_tg T R' L Q p) : rt_F T R L Q r → rt_F T R' L Q r :=
  fun ⟨p, t, hp, a, b, c, d⟩ => ⟨p, t, hp, (h p hp).symm.trans a, b, (rt_Gc h).mp c, fun z => d ((rt_Gc h).mpr z)⟩
theorem rt_Gbc {T R R' L Q : Nat → Int32} {r : Nat} (h : ∀ p, p < 120 → rt_tg T R L Q p = rt_tg T R' L Q p) (n : Nat) : rt_cnt (rt_Gb T R L Q r) n = rt_cnt (rt_Gb T R' L Q r) n :=
  rt_cnt_congr n (fun i _ => Bool.eq_iff_iff.mpr (rt_Gbt.trans ((rt_Gc h).trans rt_Gbt.symm)))
theorem i_vc_wouldGo {k : Nat} {u : SX} {v : SY} (I : i_Rel k u v) (hk : k + 5 ≤ 2560) (v1 : Int32) (v2 : Int32) : wpX_wouldGo (fun r => wpY_wouldGo (fun r' v' => r' = r ∧ i_Rel (k + 5) u v') v v1 v2) u v1 v2 := by
  obtain ⟨op, m, sb, sbs, T, V, RX, L, Q, kTX, kVX, kRX, RY, kTY, kRY, kVY, g, hm, hQ, hO, hK, rfl, rfl⟩ := I
  have J := rt_rel (op := op) (sb := sb) (sbs := sbs) (V := V) (g := g) (k + 5) hm hQ hO hK
  unfold wpX_wouldGo wpY_wouldGo; dsimp only
  rcases rt_table (op := op) (mk := nI m) (sb := sb) (T := T) (V := V) (L := L) (Q := Q) (g := g) (RY := RY) (kTY := kTY) (kVY := kVY) (kRY := kRY) v1 with ⟨a, b⟩ | ⟨t, ht, rfl, a, b⟩
  · exact a _ (br_t rfl (b _ (br_t rfl ⟨rfl, J⟩)))
  · rcases rt_row (op := op) (mk := nI m) (sb := sb) (T := T) (V := V) (L := L) (Q := Q) (g := g) (RY := RY) (kTY := kTY) (kVY := kVY) (kRY := kRY) (sbs := sbs) (RX := RX) (kTX := kTX) (kVX := kVX) (kRX := kRX) ht v2 with ⟨c, d⟩ | ⟨q, hq, rfl, hT, c, d⟩
    · exact a _ (br_f (by decide) (c _ (br_t rfl (b _ (br_f (by decide) (d _ (br_t rfl ⟨rfl, J⟩)))))))
    · have tc : ∀ p, p < 120 → rt_tg T RX L Q p = rt_tg T RY L Q p := fun p hp => rt_Otg hO hp
      refine a _ (br_f (by decide) (c _ (br_f (by decide) ?_)))
      rw [rt_20a]
      refine rt_xgo hQ (rt_OKx hO) (by omega) (fun w hw => rt_xheldback hQ (rt_OKx hO) hw (fun f => br_f (by decide) (b _ (br_f (by decide) (d _ (br_f (by decide) ?_))))) (fun f => br_t rfl (rt_xwould hw (b _ (br_f (by decide) (d _ (br_f (by decide) ?_)))))))
      · rw [rt_20b]
        exact rt_yspread hQ (rt_OKy hO) (by omega) hT (fun g' hg => ⟨fun _ => ⟨rfl, rt_rel (k + 5) hm hQ hO hK⟩, fun z => absurd (rt_Fc tc f) z⟩)
      · rw [rt_20b]
        exact rt_yspread hQ (rt_OKy hO) (by omega) hT (fun g' hg => ⟨fun z => absurd (rt_Fc (fun p hp => (tc p hp).symm) z) f, fun _ => ⟨congrArg nI (rt_Gbc tc 60).symm, rt_rel (k + 5) hm hQ hO hK⟩⟩)
theorem i_vc_dangling {k : Nat} {u : SX} {v : SY} (I : i_Rel k u v) (hk : k + 5 ≤ 2560) : wpX_dangling (fun r => wpY_dangling (fun r' => r' = r ∧ i_Rel (k + 5) u v) v) u := by
  obtain ⟨op, m, sb, sbs, T, V, RX, L, Q, kTX, kVX, kRX, RY, kTY, kRY, kVY, g, hm, hQ, hO, hK, rfl, rfl⟩ := I
  have J := rt_rel (op := op) (sb := sb) (sbs := sbs) (V := V) (g := g) (k + 5) hm hQ hO hK
  exact rt_xdangling hQ (rt_OKx hO) (rt_ydangling hQ (rt_OKy hO) ⟨congrArg nI (rt_cnt_congr 120 (fun p hp => (rt_dgc (fun ht => (hO.2.1 p hp ht).1)).symm)), J⟩)
theorem i_vc_sum {k : Nat} {u : SX} {v : SY} (I : i_Rel k u v) (hk : k + 5 ≤ 2560) (v1 : Int32) : wpX_sum (fun r => wpY_sum (fun r' => r' = r ∧ i_Rel (k + 5) u v) v v1) u v1 := by
  obtain ⟨op, m, sb, sbs, T, V, RX, L, Q, kTX, kVX, kRX, RY, kTY, kRY, kVY, g, hm, hQ, hO, hK, rfl, rfl⟩ := I
  have J := rt_rel (op := op) (sb := sb) (sbs := sbs) (V := V) (g := g) (k + 5) hm hQ hO hK
  unfold wpX_sum wpY_sum; dsimp only
  rcases rt_table (op := op) (mk := nI m) (sb := sb) (T := T) (V := V) (L := L) (Q := Q) (g := g) (RY := RY) (kTY := kTY) (kVY := kVY) (kRY := kRY) v1 with ⟨a, b⟩ | ⟨t, ht, rfl, a, b⟩
  · exact a _ (br_t rfl ⟨1, br_f (by decide) (b _ (br_t rfl ⟨rfl, J⟩))⟩)
  · refine a _ (br_f (by decide) (fun y ey => ?_))
    rw [show nI t * 20 = nI (20 * t + 0) from by rw [Nat.mul_comm]; exact pk_mul _ 20] at ey
    rw [ey]
    exact rt_xsum ht (rt_ysum ht b ⟨rfl, J⟩)
theorem i_vc_value {k : Nat} {u : SX} {v : SY} (I : i_Rel k u v) (hk : k + 5 ≤ 2560) (v1 : Int32) (v2 : Int32) (v3 : Int32) : wpX_value (fun r u' => wpY_value (fun r' v' => r' = r ∧ i_Rel (k + 5) u' v') v v1 v2 v3) u v1 v2 v3 := by
  obtain ⟨op, m, sb, sbs, T, V, RX, L, Q, kTX, kVX, kRX, RY, kTY, kRY, kVY, g, hm, hQ, hO, hK, rfl, rfl⟩ := I
  have J := rt_rel (op := op) (sb := sb) (sbs := sbs) (V := V) (g := g) (k + 5) hm hQ hO hK
  unfold wpX_value wpY_value; dsimp only
  rcases rt_table (op := op) (mk := nI m) (sb := sb) (T := T) (V := V) (L := L) (Q := Q) (g := g) (RY := RY) (kTY := kTY) (kVY := kVY) (kRY := kRY) v1 with ⟨a, b⟩ | ⟨t, ht, rfl, a, b⟩
  · exact a _ (br_t rfl (b _ (br_t rfl ⟨rfl, J⟩)))
  · rcases rt_row (op := op) (mk := nI m) (sb := sb) (T := T) (V := V) (L := L) (Q := Q) (g := g) (RY := RY) (kTY := kTY) (kVY := kVY) (kRY := kRY) (sbs := sbs) (RX := RX) (kTX := kTX) (kVX := kVX) (kRX := kRX) ht v2 with ⟨c, d⟩ | ⟨q, hq, rfl, hT, c, d⟩
    · exact a _ (br_f (by decide) (c _ (br_t rfl (b _ (br_f (by decide) (d _ (br_t rfl ⟨rfl, J⟩)))))))
    · refine a _ (br_f (by decide) (c _ (br_f (by decide) ?_)))
      rw [rt_20a]
      refine ⟨vp_in_nI (by omega) (by decide), fun y ey => b _ (br_f (by decide) (d _ (br_f (by decide) ?_)))⟩
      rw [rt_20b]
      refine ⟨vp_in_nI (by omega) (by decide), fun z ez => ⟨rfl, ?_⟩⟩
      rw [ez, ey]
      exact rt_rel (k + 5) hm hQ hO hK
theorem i_vc_begin {k : Nat} {u : SX} {v : SY} (I : i_Rel k u v) (hk : k + 5 ≤ 2560) : wpX_begin (fun r u' => wpY_begin (fun r' v' => r' = r ∧ i_Rel (k + 5) u' v') v) u := by
  obtain ⟨op, m, sb, sbs, T, V, RX, L, Q, kTX, kVX, kRX, RY, kTY, kRY, kVY, g, hm, hQ, hO, hK, rfl, rfl⟩ := I
  have J := rt_rel (op := op) (sb := sb) (sbs := sbs) (V := V) (g := g) (k + 5) hm hQ hO hK
  unfold wpX_begin wpY_begin; dsimp only
  refine br_c (fun a => rt_xsound hQ (rt_OKx hO) (rt_xkeep (st := 0) (by decide) (br_t a (rt_ykeep (st := 0) (by decide) (rt_ysound hQ (rt_OKy hO) ⟨rfl, ?_⟩))))) (fun a => br_f a ⟨rfl, J⟩)
  rw [show rt_sd (rt_dg T RY L Q) 120 = rt_sd (rt_dg T RX L Q) 120 from (rt_OS hO).symm]
  exact rt_rel (m := 0) (k + 5) (by decide) hQ hO (rt_Kkeep (by decide) hO hK)
theorem i_vc_mark {k : Nat} {u : SX} {v : SY} (I : i_Rel k u v) (hk : k + 5 ≤ 2560) : wpX_mark (fun r u' => wpY_mark (fun r' v' => r' = r ∧ i_Rel (k + 5) u' v') v) u := by
  obtain ⟨op, m, sb, sbs, T, V, RX, L, Q, kTX, kVX, kRX, RY, kTY, kRY, kVY, g, hm, hQ, hO, hK, rfl, rfl⟩ := I
  have J := rt_rel (op := op) (sb := sb) (sbs := sbs) (V := V) (g := g) (k + 5) hm hQ hO hK
  unfold wpX_mark wpY_mark; dsimp only
  refine br_c (fun a => br_t a ⟨rfl, J⟩) (fun a => ?_)
  by_cases h : m < 3
  · refine br_t (nI_lt (b := 3) h (by decide)) (fun y ey => ?_)
    rw [nI_1] at ey
    subst ey
    rw [show (0 : Int32) + nI (m + 1) = nI (m + 1) from Int32.zero_add _]
    refine rt_xkeep (by omega) (br_f a (br_f (fun z => absurd ((nI_eq (b := 3) (by omega) (by decide)).mp z) (by omega)) (fun z ez => ?_)))
    rw [nI_1] at ez
    subst ez
    exact rt_ykeep (by omega) ⟨rfl, rt_rel (m := m + 1) (k + 5) (by omega) hQ hO (rt_Kkeep (by omega) hO hK)⟩
  · have e : m = 3 := by omega
    subst e
    exact br_f (by decide) (br_f a (br_t rfl ⟨rfl, J⟩))
theorem i_vc_back {k : Nat} {u : SX} {v : SY} (I : i_Rel k u v) (hk : k + 5 ≤ 2560) : wpX_back (fun r u' => wpY_back (fun r' v' => r' = r ∧ i_Rel (k + 5) u' v') v) u := by
  obtain ⟨op, m, sb, sbs, T, V, RX, L, Q, kTX, kVX, kRX, RY, kTY, kRY, kVY, g, hm, hQ, hO, hK, rfl, rfl⟩ := I
  have J := rt_rel (op := op) (sb := sb) (sbs := sbs) (V := V) (g := g) (k + 5) hm hQ hO hK
  unfold wpX_back wpY_back; dsimp only
  refine br_c (fun a => br_t a ⟨rfl, J⟩) (fun a => ?_)
  rw [show (0 : Int32) + nI m = nI m from Int32.zero_add _]
  refine rt_xrest (by omega) ?_
  dsimp only
  cases m with
  | zero =>
    exact br_t (by decide) (br_f a (rt_yrest (st := 0) (by omega) (br_t (show nI 0 ≤ 0 from by decide) ⟨rfl, rt_relrest (m := 0) (k + 5) (by decide) (by omega) hQ hO hK⟩)))
  | succ m =>
    have h : ¬ nI (m + 1) ≤ 0 := nI_nle (by omega) (by omega)
    refine br_f h (fun y ey => br_f a (rt_yrest (by omega) (br_f h (fun z ez => ?_))))
    rw [nI_pred] at ey ez
    rw [ey, ez]
    exact ⟨rfl, rt_relrest (m := m) (k + 5) (by omega) (by omega) hQ hO hK⟩
theorem i_vc_rollback {k : Nat} {u : SX} {v : SY} (I : i_Rel k u v) (hk : k + 5 ≤ 2560) : wpX_rollback (fun r u' => wpY_rollback (fun r' v' => r' = r ∧ i_Rel (k + 5) u' v') v) u := by
  obtain ⟨op, m, sb, sbs, T, V, RX, L, Q, kTX, kVX, kRX, RY, kTY, kRY, kVY, g, hm, hQ, hO, hK, rfl, rfl⟩ := I
  have J := rt_rel (op := op) (sb := sb) (sbs := sbs) (V := V) (g := g) (k + 5) hm hQ hO hK
  unfold wpX_rollback wpY_rollback; dsimp only
  exact br_c (fun a => br_t a ⟨rfl, J⟩) (fun a => rt_xrest (st := 0) (by decide) (br_f a (rt_yrest (st := 0) (by decide) ⟨rfl, rt_relrest (k + 5) hm (by decide) hQ hO hK⟩)))
theorem i_vc_commit {k : Nat} {u : SX} {v : SY} (I : i_Rel k u v) (hk : k + 5 ≤ 2560) : wpX_commit (fun r u' => wpY_commit (fun r' v' => r' = r ∧ i_Rel (k + 5) u' v') v) u := by
  obtain ⟨op, m, sb, sbs, T, V, RX, L, Q, kTX, kVX, kRX, RY, kTY, kRY, kVY, g, hm, hQ, hO, hK, rfl, rfl⟩ := I
  have J := rt_rel (op := op) (sb := sb) (sbs := sbs) (V := V) (g := g) (k + 5) hm hQ hO hK
  have HY : ¬ op = 0 → ∀ post : Int32 → SY → Prop, (rt_badC Q sb (rt_S T RX L Q) → post (-9) (op, (nI m), sb, L, Q, T, RY, V, kTY, kRY, kVY, g)) → (¬ rt_badC Q sb (rt_S T RX L Q) → post 1 (0, (nI m), sb, L, Q, T, RY, V, kTY, kRY, kVY, g)) → wpY_commit post (op, (nI m), sb, L, Q, T, RY, V, kTY, kRY, kVY, g) := by
    intro a post h1 h0
    unfold wpY_commit; dsimp only
    refine br_f a (rt_ysound hQ (rt_OKy hO) ?_)
    rw [show rt_sd (rt_dg T RY L Q) 120 = rt_S T RX L Q from (rt_OS hO).symm]
    refine rt_loopS (fun n i => wY_commit_16 post (rt_S T RX L Q) op (nI m) sb L Q T RY V kTY kRY kVY g n (nI i)) (fun c => Q c = 3 ∧ bt sb c = true ∧ bt (rt_S T RX L Q) c = false) 6 (fun hn n => br_t (nI_le (a := 6) (b := 6) (by decide) (by decide)) (h0 (fun ⟨c, hc, z⟩ => hn c hc z))) (fun n i hi hn ih => br_f (nI_ge (b := 6) hi (by decide)) ⟨vp_in_nI hi (by decide), ?_⟩)
    rw [nI_clamp (n := i) (by omega)]
    exact br_c (fun b => br_c (fun c => br_c (fun d => h1 ⟨i, hi, b, (rt_sr hi).1.mp c, (rt_sr hi).2.mp d⟩) (fun d y ey => by rw [ey, nI_1]; exact ih (fun z => d ((rt_sr hi).2.mpr z.2.2)))) (fun c y ey => by rw [ey, nI_1]; exact ih (fun z => c ((rt_sr hi).1.mpr z.2.1)))) (fun b y ey => by rw [ey, nI_1]; exact ih (fun z => b z.1))
  unfold wpX_commit; dsimp only
  refine br_c (fun a => br_t a ⟨rfl, J⟩) (fun a => rt_xsound hQ (rt_OKx hO) (fun y ey => rt_xlinks _ ?_))
  rw [ey]
  refine br_c (fun b => HY a _ (fun c => absurd c (rt_badXC.mp b)) (fun c => ⟨rfl, rt_rel (k + 5) hm hQ hO hK⟩)) (fun b => HY a _ (fun c => ⟨rfl, J⟩) (fun c => absurd (rt_badXC.mpr c) b))
