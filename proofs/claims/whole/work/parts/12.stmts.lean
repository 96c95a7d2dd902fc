/-! refer, rekey, remove -/
theorem rt_refarg (x : Int32) : ((x = -1 ∨ ∃ q, q < 20 ∧ x = nI q) ∧ (∀ P A : Prop, A → ((x = -1 → A) ∧ (¬ x = -1 → wpX_isKey (fun r => ((r = 0 → P) ∧ (¬ r = 0 → A))) x))) ∧ ∀ P A : Prop, A → ((x < -1 → P) ∧ (¬ x < -1 → ((x ≤ 19 → A) ∧ (¬ x ≤ 19 → P))))) ∨ ((∀ P A : Prop, P → ((x = -1 → A) ∧ (¬ x = -1 → wpX_isKey (fun r => ((r = 0 → P) ∧ (¬ r = 0 → A))) x))) ∧ ∀ P A : Prop, P → ((x < -1 → P) ∧ (¬ x < -1 → ((x ≤ 19 → A) ∧ (¬ x ≤ 19 → P))))) := by
  by_cases h1 : x = -1
  · subst h1
    exact Or.inl ⟨Or.inl rfl, fun P A p => br_t rfl p, fun P A p => br_f (by decide) (br_t (by decide) p)⟩
  · rcases pk_ix x (n := 20) (by decide) with h | h | ⟨t, ht, rfl⟩
    · right
      refine ⟨fun P A p => br_f h1 (br_t h (br_t rfl p)), fun P A p => br_t ?_ p⟩
      have m1 : (-1 : Int32).toInt = -1 := by decide
      have m0 : (0 : Int32).toInt = 0 := by decide
      rw [Int32.lt_iff_toInt_lt, m0] at h
      rw [Int32.lt_iff_toInt_lt, m1]
      have : ¬ x.toInt = -1 := fun z => h1 (Int32.toInt_inj.mp (z.trans m1.symm))
      omega
    · obtain ⟨n0, _, n1⟩ := rt_ge (n := 19) (by decide) h
      right
      refine ⟨fun P A p => br_f h1 (br_f n0 (br_t h (br_t rfl p))), fun P A p => br_f (fun z => n0 ?_) (br_f n1 p)⟩
      have m1 : (-1 : Int32).toInt = -1 := by decide
      have m0 : (0 : Int32).toInt = 0 := by decide
      rw [Int32.lt_iff_toInt_lt, m1] at z
      rw [Int32.lt_iff_toInt_lt, m0]
      omega
    · left
      refine ⟨Or.inr ⟨t, ht, rfl⟩, fun P A p => br_f h1 (br_f (nI_pos (by omega)) (br_f (nI_ge (b := 20) ht (by decide)) (br_f (by decide) p))), fun P A p => br_f (fun z => ?_) (br_t (nI_le (b := 19) (by omega) (by decide)) p)⟩
      have m1 : (-1 : Int32).toInt = -1 := by decide
      rw [Int32.lt_iff_toInt_lt, m1, nI_toInt (by omega)] at z
      omega
theorem rt_OKref {T RX RY : Nat → Int32} (hO : rt_OK T RX RY) {c : Nat} {x : Int32} (hx : x = -1 ∨ ∃ q, q < 20 ∧ x = nI q) : rt_OK T (upd RX c x) (upd RY c x) := by
  refine ⟨hO.1, fun p hp ht => ?_, hO.2.2⟩
  by_cases e : p = c
  · subst e; rw [pk_us, pk_us]; exact ⟨rfl, hx⟩
  · rw [pk_un e, pk_un e]; exact hO.2.1 p hp ht
theorem i_vc_refer {k : Nat} {u : SX} {v : SY} (I : i_Rel k u v) (hk : k + 5 ≤ 2560) (v1 : Int32) (v2 : Int32) (v3 : Int32) (v4 : Int32) : wpX_refer (fun r u' => wpY_refer (fun r' v' => r' = r ∧ i_Rel (k + 5) u' v') v v1 v2 v3 v4) u v1 v2 v3 v4 := by
  obtain ⟨op, m, sb, sbs, T, V, RX, L, Q, kTX, kVX, kRX, RY, kTY, kRY, kVY, g, hm, hQ, hO, hK, rfl, rfl⟩ := I
  have J := rt_rel (op := op) (sb := sb) (sbs := sbs) (V := V) (g := g) (k + 5) hm hQ hO hK
  rcases rt_table (op := op) (mk := nI m) (sb := sb) (T := T) (V := V) (L := L) (Q := Q) (g := g) (RY := RY) (kTY := kTY) (kVY := kVY) (kRY := kRY) v1 with ⟨a, b⟩ | ⟨t, ht, rfl, a, b⟩
  · unfold wpX_refer wpY_refer; dsimp only
    exact a _ (br_t rfl (b _ (br_t rfl ⟨rfl, J⟩)))
  · rcases rt_row (op := op) (mk := nI m) (sb := sb) (T := T) (V := V) (L := L) (Q := Q) (g := g) (RY := RY) (kTY := kTY) (kVY := kVY) (kRY := kRY) (sbs := sbs) (RX := RX) (kTX := kTX) (kVX := kVX) (kRX := kRX) ht v2 with ⟨c, d⟩ | ⟨q, hq, rfl, hT, c, d⟩
    · unfold wpX_refer wpY_refer; dsimp only
      exact a _ (br_f (by decide) (c _ (br_t rfl (b _ (br_f (by decide) (d _ (br_t rfl ⟨rfl, J⟩)))))))
    · rcases rt_col v3 with ⟨e, f⟩ | ⟨o, ho, rfl, e, f⟩
      · unfold wpX_refer wpY_refer; dsimp only
        exact a _ (br_f (by decide) (c _ (br_f (by decide) (e _ (br_t rfl (b _ (br_f (by decide) (d _ (br_f (by decide) (f _ _ ⟨rfl, J⟩))))))))))
      · rcases rt_refarg v4 with ⟨hx, x1, y1⟩ | ⟨x1, y1⟩
        · have hO' := rt_OKref (c := 2 * (20 * t + q) + o) hO hx
          have eB : rt_bad op Q (rt_S T RX L Q) (rt_S T (upd RX (2 * (20 * t + q) + o) v4) L Q) = rt_bad op Q (rt_S T RY L Q) (rt_S T (upd RY (2 * (20 * t + q) + o) v4) L Q) := by rw [rt_OS hO, rt_OS hO']
          have eold : RY (2 * (20 * t + q) + o) = RX (2 * (20 * t + q) + o) := (hO.2.1 (2 * (20 * t + q) + o) (by omega) (by rw [show (2 * (20 * t + q) + o) / 2 = 20 * t + q from by omega]; exact hT)).1.symm
          have HY : ∀ post : Int32 → SY → Prop, (¬ rt_bad op Q (rt_S T RX L Q) (rt_S T (upd RX (2 * (20 * t + q) + o) v4) L Q) → post (RX (2 * (20 * t + q) + o)) (op, (nI m), sb, L, Q, T, (upd RY (2 * (20 * t + q) + o) v4), V, (rt_kp kTY (60 * 4) 60 (rt_nr T)), (rt_kp kRY (120 * 4) 120 RY), (rt_kp kVY (60 * 4) 60 V), g)) → (rt_bad op Q (rt_S T RX L Q) (rt_S T (upd RX (2 * (20 * t + q) + o) v4) L Q) → post (-9) (op, (nI m), sb, L, Q, (rt_rs (rt_nr (rt_kp kTY (60 * 4) 60 (rt_nr T))) (60 * 4) 60 T), (rt_rs (rt_kp kRY (120 * 4) 120 RY) (120 * 4) 120 (upd RY (2 * (20 * t + q) + o) v4)), (rt_rs (rt_kp kVY (60 * 4) 60 V) (60 * 4) 60 V), (rt_kp kTY (60 * 4) 60 (rt_nr T)), (rt_kp kRY (120 * 4) 120 RY), (rt_kp kVY (60 * 4) 60 V), g)) → wpY_refer post (op, (nI m), sb, L, Q, T, RY, V, kTY, kRY, kVY, g) (nI t) (nI q) (nI o) v4 := by
            intro post h0 h1
            rw [eB] at h0 h1
            rw [← eold] at h0
            unfold wpY_refer; dsimp only
            refine b _ (br_f (by decide) (d _ (br_f (by decide) (f _ _ (y1 _ _ (rt_ykeep (st := 4) (by decide) (rt_ysound hQ (rt_OKy hO) (fun y ey => ?_))))))))
            rw [rt_40] at ey
            subst ey
            rw [nI_clamp (n := 2 * (20 * t + q) + o) (by omega)]
            refine ⟨vp_in_nI (by omega) (by decide), fun y ey => ⟨vp_in_nI (by omega) (by decide), fun z ez => ?_⟩⟩
            subst ey ez
            exact rt_ychecked hQ (rt_OKy hO') h0 h1
          unfold wpX_refer; dsimp only
          refine a _ (br_f (by decide) (c _ (br_f (by decide) (e _ (br_f (by decide) (x1 _ _ ?_))))))
          unfold wX_refer_48
          intro y ey
          rw [rt_20a, rt_2a] at ey
          subst ey
          rw [nI_clamp (n := 2 * (20 * t + q) + o) (by omega)]
          refine ⟨vp_in_nI (by omega) (by decide), fun y ey => rt_xstart hQ (rt_OKx hO) ⟨vp_in_nI (by omega) (by decide), fun z ez => ?_⟩⟩
          subst ey ez
          exact rt_xend hQ (rt_OKx hO') (fun c hc z => rt_S6 hc z) (fun nb => HY _ (fun _ => ⟨rfl, rt_rel (k + 5) hm hQ hO' (rt_K4x (rt_K4y hK))⟩) (fun z => absurd z nb)) (fun z => HY _ (fun nb => absurd z nb) (fun _ => ⟨rfl, rt_relbad (k + 5) hm hQ hO hK⟩))
        · unfold wpX_refer wpY_refer; dsimp only
          exact a _ (br_f (by decide) (c _ (br_f (by decide) (e _ (br_f (by decide) (x1 _ _ (b _ (br_f (by decide) (d _ (br_f (by decide) (f _ _ (y1 _ _ ⟨rfl, J⟩))))))))))))
theorem rt_mvI {R : Nat → Int32} {a b p : Nat} (hab : ¬ a = b) (h : p / 2 = b) : rt_mv R a b p = R (2 * a + p % 2) := by
  unfold rt_mv
  by_cases q : p = 2 * b + 1
  · rw [q, pk_us, pk_un (by omega), show (2 * b + 1) % 2 = 1 from by omega]
  · rw [pk_un q, show p = 2 * b from by omega, pk_us, show 2 * b % 2 = 0 from by omega, Nat.add_zero]
theorem rt_mvO {R : Nat → Int32} {a b p : Nat} (h : ¬ p / 2 = b) : rt_mv R a b p = R p := by
  unfold rt_mv
  rw [pk_un (by omega), pk_un (by omega)]
theorem rt_updc {T : Nat → Int32} {a b : Nat} {x y : Int32} (h : ¬ a = b) : upd (upd T a x) b y = upd (upd T b y) a x := funext fun j => by
  unfold upd
  by_cases p : j = b
  · rw [if_pos p, if_neg (show ¬ j = a from fun z => h (z.symm.trans p)), if_pos p]
  · rw [if_neg p]
    by_cases q : j = a
    · rw [if_pos q, if_pos q]
    · rw [if_neg q, if_neg q, if_neg p]
theorem rt_OKmv {T RX RY L Q : Nat → Int32} (hO : rt_OK T RX RY) {t q n : Nat} (ht : t < 3) (hq : q < 20) (hn : n < 20) (hT : ¬ T (20 * t + q) = 0) (hN : T (20 * t + n) = 0) : rt_OK (upd (upd T (20 * t + q) 0) (20 * t + n) 1) (rt_mv (rt_ch T RX L Q (20 * t + q) (nI n) 120) (20 * t + q) (20 * t + n)) (rt_mv (rt_ch T RY L Q (20 * t + q) (nI n) 120) (20 * t + q) (20 * t + n)) := by
  have hab : ¬ 20 * t + q = 20 * t + n := fun z => hT (by rw [z]; exact hN)
  have hc : ∀ p, p < 120 → ¬ T (p / 2) = 0 → rt_ch T RX L Q (20 * t + q) (nI n) 120 p = rt_ch T RY L Q (20 * t + q) (nI n) 120 p := by
    intro p hp hz
    unfold rt_ch
    rw [rt_Otg hO hp, (hO.2.1 p hp hz).1]
  have hr := rt_chR (L := L) (Q := Q) (s := 20 * t + q) (i := 120) (rt_OKx hO) hn
  refine ⟨fun s hs => ?_, fun p hp hz => ?_, fun t' ht' => ?_⟩
  · by_cases e : s = 20 * t + n
    · rw [e, pk_us]; exact Or.inr rfl
    · rw [pk_un e]
      by_cases f : s = 20 * t + q
      · rw [f, pk_us]; exact Or.inl rfl
      · rw [pk_un f]; exact hO.1 s hs
  · by_cases e : p / 2 = 20 * t + n
    · rw [rt_mvI hab e, rt_mvI hab e]
      have hz' : ¬ T ((2 * (20 * t + q) + p % 2) / 2) = 0 := by rw [show (2 * (20 * t + q) + p % 2) / 2 = 20 * t + q from by omega]; exact hT
      exact ⟨hc _ (by omega) hz', hr _ (by omega) hz'⟩
    · rw [rt_mvO e, rt_mvO e]
      rw [pk_un e] at hz
      by_cases f : p / 2 = 20 * t + q
      · rw [f, pk_us] at hz; exact absurd rfl hz
      · rw [pk_un f] at hz; exact ⟨hc p hp hz, hr p hp hz⟩
  · have h1 : rt_ct (upd (upd T (20 * t + q) 0) (20 * t + n) 1) t' = rt_ct (upd T (20 * t + q) 0) t' + (if t' = t then 1 else 0) := rt_ctset hn (by rw [pk_un (fun z => hab z.symm)]; exact hN) (by decide)
    have h2 : rt_ct (upd (upd T (20 * t + q) 0) (20 * t + q) (T (20 * t + q))) t' = rt_ct (upd T (20 * t + q) 0) t' + (if t' = t then 1 else 0) := rt_ctset hq pk_us hT
    have h3 : upd (upd T (20 * t + q) 0) (20 * t + q) (T (20 * t + q)) = T := funext fun j => by
      by_cases e : j = 20 * t + q
      · rw [e, pk_us]
      · rw [pk_un e, pk_un e]
    rw [h3] at h2
    rw [h1, ← h2]
    exact hO.2.2 t' ht'
theorem i_vc_rekey {k : Nat} {u : SX} {v : SY} (I : i_Rel k u v) (hk : k + 5 ≤ 2560) (v1 : Int32) (v2 : Int32) (v3 : Int32) : wpX_rekey (fun r u' => wpY_rekey (fun r' v' => r' = r ∧ i_Rel (k + 5) u' v') v v1 v2 v3) u v1 v2 v3 := by
  obtain ⟨op, m, sb, sbs, T, V, RX, L, Q, kTX, kVX, kRX, RY, kTY, kRY, kVY, g, hm, hQ, hO, hK, rfl, rfl⟩ := I
  have J := rt_rel (op := op) (sb := sb) (sbs := sbs) (V := V) (g := g) (k + 5) hm hQ hO hK
  rcases rt_table (op := op) (mk := nI m) (sb := sb) (T := T) (V := V) (L := L) (Q := Q) (g := g) (RY := RY) (kTY := kTY) (kVY := kVY) (kRY := kRY) v1 with ⟨a, b⟩ | ⟨t, ht, rfl, a, b⟩
  · unfold wpX_rekey wpY_rekey; dsimp only
    exact a _ (br_t rfl (b _ (br_t rfl ⟨rfl, J⟩)))
  · rcases rt_row (op := op) (mk := nI m) (sb := sb) (T := T) (V := V) (L := L) (Q := Q) (g := g) (RY := RY) (kTY := kTY) (kVY := kVY) (kRY := kRY) (sbs := sbs) (RX := RX) (kTX := kTX) (kVX := kVX) (kRX := kRX) ht v2 with ⟨c, d⟩ | ⟨q, hq, rfl, hT, c, d⟩
    · unfold wpX_rekey wpY_rekey; dsimp only
      exact a _ (br_f (by decide) (c _ (br_t rfl (b _ (br_f (by decide) (d _ (br_t rfl ⟨rfl, J⟩)))))))
    · rcases rt_key (op := op) (mk := nI m) (sb := sb) (T := T) (V := V) (L := L) (Q := Q) (g := g) (RY := RY) (kTY := kTY) (kVY := kVY) (kRY := kRY) v3 with ⟨e, f⟩ | ⟨n, hn, rfl, e, f⟩
      · unfold wpX_rekey wpY_rekey; dsimp only
        exact a _ (br_f (by decide) (c _ (br_f (by decide) (e _ (br_t rfl (b _ (br_f (by decide) (d _ (br_f (by decide) (f _ (br_t rfl ⟨rfl, J⟩)))))))))))
      · by_cases hN : T (20 * t + n) = 0
        · have tc : ∀ p, p < 120 → rt_tg T RX L Q p = rt_tg T RY L Q p := fun p hp => rt_Otg hO hp
          have hab : ¬ 20 * t + q = 20 * t + n := fun z => hT (by rw [z]; exact hN)
          have hO' := rt_OKmv (L := L) (Q := Q) hO ht hq hn hT hN
          have HY0 : (∃ p, p < 120 ∧ rt_tg T RX L Q p = some (20 * t + q) ∧ Q (rt_c p) = 0) → ∀ post : Int32 → SY → Prop, post (-5) (op, (nI m), sb, L, Q, T, RY, V, kTY, kRY, kVY, g) → wpY_rekey post (op, (nI m), sb, L, Q, T, RY, V, kTY, kRY, kVY, g) (nI t) (nI q) (nI n) := by
            intro ⟨p, hp, z1, z2⟩ post h
            unfold wpY_rekey; dsimp only
            refine b _ (br_f (by decide) (d _ (br_f (by decide) (f _ (br_f (by decide) (rt_yrow ht hn (fun _ => br_t rfl (fun y ey => ?_)) (fun z => absurd hN z)))))))
            rw [rt_20b] at ey
            subst ey
            exact rt_yheld hQ (rt_OKy hO) (by omega) hT (fun _ => br_f (by decide) h) (fun no => (no p hp ⟨(tc p hp).symm.trans z1, z2⟩).elim)
          have HY : (∀ p, p < 120 → ¬ (rt_tg T RX L Q p = some (20 * t + q) ∧ Q (rt_c p) = 0)) → ∀ post : Int32 → SY → Prop, (¬ rt_bad op Q (rt_S T RX L Q) (rt_S (upd (upd T (20 * t + q) 0) (20 * t + n) 1) (rt_mv (rt_ch T RX L Q (20 * t + q) (nI n) 120) (20 * t + q) (20 * t + n)) L Q) → post (nI (rt_cnt (rt_chf T RX L Q (20 * t + q)) 120)) (op, (nI m), sb, L, Q, (upd (upd T (20 * t + q) 0) (20 * t + n) 1), (rt_mv (rt_ch T RY L Q (20 * t + q) (nI n) 120) (20 * t + q) (20 * t + n)), (upd V (20 * t + n) (V (20 * t + q))), (rt_kp kTY (60 * 4) 60 (rt_nr T)), (rt_kp kRY (120 * 4) 120 RY), (rt_kp kVY (60 * 4) 60 V), g)) → (rt_bad op Q (rt_S T RX L Q) (rt_S (upd (upd T (20 * t + q) 0) (20 * t + n) 1) (rt_mv (rt_ch T RX L Q (20 * t + q) (nI n) 120) (20 * t + q) (20 * t + n)) L Q) → post (-9) (op, (nI m), sb, L, Q, (rt_rs (rt_nr (rt_kp kTY (60 * 4) 60 (rt_nr T))) (60 * 4) 60 (upd (upd T (20 * t + q) 0) (20 * t + n) 1)), (rt_rs (rt_kp kRY (120 * 4) 120 RY) (120 * 4) 120 (rt_mv (rt_ch T RY L Q (20 * t + q) (nI n) 120) (20 * t + q) (20 * t + n))), (rt_rs (rt_kp kVY (60 * 4) 60 V) (60 * 4) 60 (upd V (20 * t + n) (V (20 * t + q)))), (rt_kp kTY (60 * 4) 60 (rt_nr T)), (rt_kp kRY (120 * 4) 120 RY), (rt_kp kVY (60 * 4) 60 V), g)) → wpY_rekey post (op, (nI m), sb, L, Q, T, RY, V, kTY, kRY, kVY, g) (nI t) (nI q) (nI n) := by
            intro no post h0 h1
            rw [rt_OS hO, rt_OS hO'] at h0 h1
            have ecnt : rt_cnt (rt_chf T RX L Q (20 * t + q)) 120 = rt_cnt (rt_chf T RY L Q (20 * t + q)) 120 := rt_cnt_congr 120 (fun p hp => by unfold rt_chf; rw [tc p hp])
            rw [ecnt] at h0
            unfold wpY_rekey; dsimp only
            refine b _ (br_f (by decide) (d _ (br_f (by decide) (f _ (br_f (by decide) (rt_yrow ht hn (fun _ => br_t rfl (fun y ey => ?_)) (fun z => absurd hN z)))))))
            rw [rt_20b] at ey
            subst ey
            refine rt_yheld hQ (rt_OKy hO) (by omega) hT (fun ⟨p, hp, z1, z2⟩ => (no p hp ⟨(tc p hp).trans z1, z2⟩).elim) (fun _ => br_t rfl (rt_ykeep (st := 4) (by decide) (rt_ysound hQ (rt_OKy hO) (rt_yfollow hQ (rt_OKy hO) (by omega) hT hn (fun y ey => ?_)))))
            rw [rt_20b] at ey
            subst ey
            have a0 : 2 * nI (20 * t + q) = nI (2 * (20 * t + q)) := pk_mul 2 _
            have a1 : nI (2 * (20 * t + q)) + 1 = nI (2 * (20 * t + q) + 1) := nI_1 _
            have b0 : 2 * nI (20 * t + n) = nI (2 * (20 * t + n)) := pk_mul 2 _
            have b1 : nI (2 * (20 * t + n)) + 1 = nI (2 * (20 * t + n) + 1) := nI_1 _
            rw [a0, b0, a1, b1, nI_clamp (n := 20 * t + q) (by omega), nI_clamp (n := 20 * t + n) (by omega), nI_clamp (n := 2 * (20 * t + q)) (by omega), nI_clamp (n := 2 * (20 * t + n)) (by omega), nI_clamp (n := 2 * (20 * t + q) + 1) (by omega), nI_clamp (n := 2 * (20 * t + n) + 1) (by omega), rt_nar0, rt_nar1]
            refine ⟨vp_in_nI (by omega) (by decide), fun t1 f1 => ⟨vp_in_nI (by omega) (by decide), fun t2 f2 => ⟨vp_in_nI (by omega) (by decide), vp_in_nI (by omega) (by decide), fun r1 f3 => ⟨vp_in_nI (by omega) (by decide), vp_in_nI (by omega) (by decide), fun r2 f4 => ⟨vp_in_nI (by omega) (by decide), vp_in_nI (by omega) (by decide), fun w1 f5 => ?_⟩⟩⟩⟩⟩
            rw [f1, ← rt_updc hab] at f2
            subst f2 f3 f4 f5
            exact rt_ychecked hQ (rt_OKy hO') h0 h1
          unfold wpX_rekey; dsimp only
          refine a _ (br_f (by decide) (c _ (br_f (by decide) (e _ (br_f (by decide) (rt_xrow ht hn (fun _ => br_t rfl (fun y ey => ?_)) (fun z => absurd hN z)))))))
          rw [rt_20a] at ey
          subst ey
          refine rt_xmust hQ (rt_OKx hO) (by omega) (fun z => br_f (by decide) (HY0 z _ ⟨rfl, J⟩)) (fun no => br_t rfl (rt_xstart hQ (rt_OKx hO) (rt_xchange hQ (rt_OKx hO) (by omega) hn ?_)))
          rw [rt_20a]
          refine rt_xmove (by omega) (by omega) (rt_xend hQ (rt_OKx hO') (fun c hc z => rt_S6 hc z) (fun nb => HY no _ (fun _ => ⟨rfl, rt_rel (k + 5) hm hQ hO' (rt_K4x (rt_K4y hK))⟩) (fun z => absurd z nb)) (fun z => HY no _ (fun nb => absurd z nb) (fun _ => ⟨rfl, rt_relbad (k + 5) hm hQ hO hK⟩)))
        · unfold wpX_rekey wpY_rekey; dsimp only
          exact a _ (br_f (by decide) (c _ (br_f (by decide) (e _ (br_f (by decide) (rt_xrow ht hn (fun z => absurd z hN) (fun _ => br_f (by decide) (b _ (br_f (by decide) (d _ (br_f (by decide) (f _ (br_f (by decide) (rt_yrow ht hn (fun z => absurd z hN) (fun _ => br_f (by decide) ⟨rfl, J⟩)))))))))))))))
theorem rt_lgc {T R R' L Q : Nat → Int32} {r p : Nat} (h : ∀ p, p < 120 → rt_tg T R L Q p = rt_tg T R' L Q p) (hp : p < 120) : rt_lg T R L Q r p → rt_lg T R' L Q r p :=
  fun ⟨t, a, b, c⟩ => ⟨t, (h p hp).symm.trans a, b, (rt_Gc h).mp c⟩
theorem rt_outT {T g : Nat → Int32} {s : Nat} (hT : rt_TT T) (h : ¬ rt_out T g 60 s = 0) (hs : s < 60) : ¬ T s = 0 ∧ g s = 0 := by
  unfold rt_out at h
  rw [if_pos hs] at h
  by_cases a : T s = 0
  · rw [if_pos a] at h; exact absurd rfl h
  · rw [if_neg a] at h
    by_cases b : g s = 0
    · exact ⟨a, b⟩
    · rw [if_neg b] at h; exact absurd rfl h
theorem rt_eT {T T' g : Nat → Int32} {G : Nat → Prop} (hT : rt_TT T) (hg : ∀ s, s < 60 → (¬ g s = 0 ↔ G s)) (h : ∀ s, (s < 60 → G s → T' s = 0) ∧ ((s < 60 → ¬ G s) → T' s = T s)) : T' = rt_out T g 60 := funext fun s => by
  unfold rt_out
  by_cases hs : s < 60
  · rw [if_pos hs]
    by_cases b : g s = 0
    · have e := (h s).2 (fun _ z => (hg s hs).mpr z b)
      rw [e, if_pos b]
      rcases hT s hs with z | z
      · rw [if_pos z]; exact z
      · rw [if_neg (by rw [z]; decide)]; exact z
    · rw [(h s).1 hs ((hg s hs).mp b), if_neg b]
      by_cases a : T s = 0
      · rw [if_pos a]
      · rw [if_neg a]
  · rw [if_neg hs]; exact (h s).2 (fun z => absurd z hs)
theorem i_vc_remove {k : Nat} {u : SX} {v : SY} (I : i_Rel k u v) (hk : k + 5 ≤ 2560) (v1 : Int32) (v2 : Int32) : wpX_remove (fun r u' => wpY_remove (fun r' v' => r' = r ∧ i_Rel (k + 5) u' v') v v1 v2) u v1 v2 := by
  obtain ⟨op, m, sb, sbs, T, V, RX, L, Q, kTX, kVX, kRX, RY, kTY, kRY, kVY, g, hm, hQ, hO, hK, rfl, rfl⟩ := I
  have J := rt_rel (op := op) (sb := sb) (sbs := sbs) (V := V) (g := g) (k + 5) hm hQ hO hK
  rcases rt_table (op := op) (mk := nI m) (sb := sb) (T := T) (V := V) (L := L) (Q := Q) (g := g) (RY := RY) (kTY := kTY) (kVY := kVY) (kRY := kRY) v1 with ⟨a, b⟩ | ⟨t, ht, rfl, a, b⟩
  · unfold wpX_remove wpY_remove; dsimp only
    exact a _ (br_t rfl (b _ (br_t rfl ⟨rfl, J⟩)))
  · rcases rt_row (op := op) (mk := nI m) (sb := sb) (T := T) (V := V) (L := L) (Q := Q) (g := g) (RY := RY) (kTY := kTY) (kVY := kVY) (kRY := kRY) (sbs := sbs) (RX := RX) (kTX := kTX) (kVX := kVX) (kRX := kRX) ht v2 with ⟨c, d⟩ | ⟨q, hq, rfl, hT, c, d⟩
    · unfold wpX_remove wpY_remove; dsimp only
      exact a _ (br_f (by decide) (c _ (br_t rfl (b _ (br_f (by decide) (d _ (br_t rfl ⟨rfl, J⟩)))))))
    · have tc : ∀ p, p < 120 → rt_tg T RX L Q p = rt_tg T RY L Q p := fun p hp => rt_Otg hO hp
      have tc' : ∀ p, p < 120 → rt_tg T RY L Q p = rt_tg T RX L Q p := fun p hp => (tc p hp).symm
      have hr : 20 * t + q < 60 := by omega
      have HY0 : rt_F T RX L Q (20 * t + q) → ∀ post : Int32 → SY → Prop, (∀ g', post (-5) (op, (nI m), sb, L, Q, T, RY, V, kTY, kRY, kVY, g')) → wpY_remove post (op, (nI m), sb, L, Q, T, RY, V, kTY, kRY, kVY, g) (nI t) (nI q) := by
        intro hf post h
        unfold wpY_remove; dsimp only
        refine b _ (br_f (by decide) (d _ (br_f (by decide) ?_)))
        rw [rt_20b]
        exact rt_yspread hQ (rt_OKy hO) hr hT (fun g' hg => ⟨fun _ => br_f (by decide) (h g'), fun z => absurd (rt_Fc tc hf) z⟩)
      have HY : ¬ rt_F T RX L Q (20 * t + q) → ∀ post : Int32 → SY → Prop, (∀ g' : Nat → Int32, (∀ s, s < 60 → (¬ g' s = 0 ↔ rt_G T RX L Q (20 * t + q) s)) → ∀ RY' : Nat → Int32, (∀ p, (p < 120 → rt_lg T RX L Q (20 * t + q) p → ¬ rt_G T RX L Q (20 * t + q) (p / 2) → RY' p = -1) ∧ ((p < 120 → rt_lg T RX L Q (20 * t + q) p → rt_G T RX L Q (20 * t + q) (p / 2)) → RY' p = RY p)) → (¬ rt_bad op Q (rt_S T RY L Q) (rt_S (rt_out T g' 60) RY' L Q) → post (nI (rt_cnt (rt_Gb T RX L Q (20 * t + q)) 60)) (op, (nI m), sb, L, Q, (rt_out T g' 60), RY', V, (rt_kp kTY (60 * 4) 60 (rt_nr T)), (rt_kp kRY (120 * 4) 120 RY), (rt_kp kVY (60 * 4) 60 V), g')) ∧ (rt_bad op Q (rt_S T RY L Q) (rt_S (rt_out T g' 60) RY' L Q) → post (-9) (op, (nI m), sb, L, Q, (rt_rs (rt_nr (rt_kp kTY (60 * 4) 60 (rt_nr T))) (60 * 4) 60 (rt_out T g' 60)), (rt_rs (rt_kp kRY (120 * 4) 120 RY) (120 * 4) 120 RY'), (rt_rs (rt_kp kVY (60 * 4) 60 V) (60 * 4) 60 V), (rt_kp kTY (60 * 4) 60 (rt_nr T)), (rt_kp kRY (120 * 4) 120 RY), (rt_kp kVY (60 * 4) 60 V), g'))) → wpY_remove post (op, (nI m), sb, L, Q, T, RY, V, kTY, kRY, kVY, g) (nI t) (nI q) := by
        intro nf post h
        unfold wpY_remove; dsimp only
        refine b _ (br_f (by decide) (d _ (br_f (by decide) ?_)))
        rw [rt_20b]
        refine rt_yspread hQ (rt_OKy hO) hr hT (fun g' hg => ⟨fun z => absurd (rt_Fc tc' z) nf, fun _ => br_t (nI_pos' (Nat.lt_of_le_of_lt (rt_cnt_le _ 60) (by decide))) (rt_ykeep (st := 4) (by decide) (rt_ysound hQ (rt_OKy hO) (rt_yrem hQ hO.1 (rt_OKy hO) hT hg (fun RY' hR' => ⟨fun p hp hz => ?_, ?_⟩))))⟩)
        · have hz := (rt_outT hO.1 hz (by omega)).1
          by_cases w : rt_lg T RY L Q (20 * t + q) p ∧ ¬ rt_G T RY L Q (20 * t + q) (p / 2)
          · exact Or.inl ((hR' p).1 hp w.1 w.2)
          · rw [(hR' p).2 (fun _ y => Classical.byContradiction (fun z => w ⟨y, z⟩))]
            exact rt_OKy hO p hp hz
        · have := h g' (fun s hs => (hg s hs).trans (rt_Gc tc')) RY' (fun p => ⟨fun hp y z => (hR' p).1 hp (rt_lgc tc hp y) (fun x => z ((rt_Gc tc').mp x)), fun y => (hR' p).2 (fun hp z => (rt_Gc tc).mp (y hp (rt_lgc tc' hp z)))⟩)
          rw [rt_Gbc tc 60] at this
          exact this
      unfold wpX_remove; dsimp only
      refine a _ (br_f (by decide) (c _ (br_f (by decide) ?_)))
      rw [rt_20a]
      refine rt_xgo hQ (rt_OKx hO) hr (fun w hw => rt_xheldback hQ (rt_OKx hO) hw (fun hf => br_f (by decide) (HY0 hf _ (fun g' => ⟨rfl, rt_rel (k + 5) hm hQ hO hK⟩))) (fun nf => br_t rfl (rt_xstart hQ (rt_OKx hO) (rt_xletgo hQ (rt_OKx hO) hw (fun RX' hRX => rt_xtake hw (fun T' hT' => ?_))))))
      have hRR : rt_RR T' RX' := by
        intro p hp hz
        have hz : ¬ T (p / 2) = 0 := by
          by_cases y : rt_G T RX L Q (20 * t + q) (p / 2)
          · exact absurd ((hT' (p / 2)).1 (by omega) y) hz
          · rw [(hT' (p / 2)).2 (fun _ => y)] at hz; exact hz
        by_cases y : rt_lg T RX L Q (20 * t + q) p
        · exact Or.inl ((hRX p).1 hp y)
        · rw [(hRX p).2 (fun _ => y)]; exact rt_OKx hO p hp hz
      have eAll : ∀ g' : Nat → Int32, (∀ s, s < 60 → (¬ g' s = 0 ↔ rt_G T RX L Q (20 * t + q) s)) → ∀ RY' : Nat → Int32, (∀ p, (p < 120 → rt_lg T RX L Q (20 * t + q) p → ¬ rt_G T RX L Q (20 * t + q) (p / 2) → RY' p = -1) ∧ ((p < 120 → rt_lg T RX L Q (20 * t + q) p → rt_G T RX L Q (20 * t + q) (p / 2)) → RY' p = RY p)) → T' = rt_out T g' 60 ∧ rt_OK T' RX' RY' := by
        intro g' hg RY' hRY
        have eT := rt_eT hO.1 hg hT'
        refine ⟨eT, fun s hs => ?_, fun p hp hz => ?_, fun t' ht' => ?_⟩
        · by_cases y : rt_G T RX L Q (20 * t + q) s
          · exact Or.inl ((hT' s).1 hs y)
          · rw [(hT' s).2 (fun _ => y)]; exact hO.1 s hs
        · refine ⟨?_, hRR p hp hz⟩
          have hz2 := hz
          rw [eT] at hz2
          obtain ⟨z1, z2⟩ := rt_outT hO.1 hz2 (by omega)
          have nG : ¬ rt_G T RX L Q (20 * t + q) (p / 2) := fun x => (hg _ (by omega)).mpr x z2
          by_cases y : rt_lg T RX L Q (20 * t + q) p
          · rw [(hRX p).1 hp y, (hRY p).1 hp y nG]
          · rw [(hRX p).2 (fun _ => y), (hRY p).2 (fun _ x => absurd x y)]
            exact (hO.2.1 p hp z1).1
        · refine Nat.le_trans (rt_cnt_mono 20 (fun i hi x => ?_)) (hO.2.2 t' ht')
          refine rt_b_t.mpr (fun z => rt_b_t.mp x ?_)
          by_cases y : rt_G T RX L Q (20 * t + q) (20 * t' + i)
          · exact (hT' _).1 (by omega) y
          · rw [(hT' _).2 (fun _ => y)]; exact z
      refine rt_xend hQ hRR (fun c hc z => rt_S6 hc z) (fun nb => HY nf _ (fun g' hg RY' hRY => ?_)) (fun nb => HY nf _ (fun g' hg RY' hRY => ?_))
      · obtain ⟨eT, hO'⟩ := eAll g' hg RY' hRY
        rw [rt_OS hO, rt_OS hO'] at nb
        subst eT
        exact ⟨fun _ => ⟨rfl, rt_rel (k + 5) hm hQ hO' (rt_K4x (rt_K4y hK))⟩, fun z => absurd z nb⟩
      · obtain ⟨eT, hO'⟩ := eAll g' hg RY' hRY
        rw [rt_OS hO, rt_OS hO'] at nb
        subst eT
        exact ⟨fun z => absurd nb z, fun _ => ⟨rfl, rt_relbad (k + 5) hm hQ hO hK⟩⟩
