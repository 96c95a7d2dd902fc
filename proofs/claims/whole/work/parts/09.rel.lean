/-! the relation -/
def rt_K (kTX kVX kRX kTY kVY kRY : Nat → Int32) : Prop := (∀ j, j < 240 → kTX j = kTY j ∧ kVX j = kVY j) ∧ ∀ i, i < 4 → rt_OK (fun s => kTX (60 * i + s)) (fun p => kRX (120 * i + p)) (fun p => kRY (120 * i + p))
/-- rows, values, links and rules are the same; references the same where a row is; kept states 0 to 3 alike; at most 12 rows a table -/
def i_Rel (k : Nat) (u : SX) (v : SY) : Prop := ∃ (op : Int32) (m : Nat) (sb sbs : Int32) (T V RX L Q kTX kVX kRX RY kTY kRY kVY g : Nat → Int32), m ≤ 3 ∧ rt_QL L Q ∧ rt_OK T RX RY ∧ rt_K kTX kVX kRX kTY kVY kRY ∧ u = (op, (nI m), sb, sbs, T, V, RX, L, Q, kTX, kVX, kRX) ∧ v = (op, (nI m), sb, L, Q, T, RY, V, kTY, kRY, kVY, g)
theorem i_up {k : Nat} {u : SX} {v : SY} (h : i_Rel k u v) : i_Rel (k + 5) u v := h
section
variable {op mk sb sbs : Int32} {m : Nat} {T V R L Q kT kV kR g RX RY kTX kTY kVX kVY kRX kRY T' V' RX' RY' kTX' kTY' kVX' kVY' kRX' kRY' : Nat → Int32}
theorem rt_rel (k : Nat) (hm : m ≤ 3) (hQ : rt_QL L Q) (hO : rt_OK T RX RY) (hK : rt_K kTX kVX kRX kTY kVY kRY) : i_Rel k (op, (nI m), sb, sbs, T, V, RX, L, Q, kTX, kVX, kRX) (op, (nI m), sb, L, Q, T, RY, V, kTY, kRY, kVY, g) := ⟨_, _, _, _, _, _, _, _, _, _, _, _, _, _, _, _, _, hm, hQ, hO, hK, rfl, rfl⟩
theorem rt_Kc (h : rt_K kTX kVX kRX kTY kVY kRY) (h1 : ∀ j, j < 240 → kTX' j = kTX j) (h2 : ∀ j, j < 240 → kVX' j = kVX j) (h3 : ∀ j, j < 480 → kRX' j = kRX j) (h4 : ∀ j, j < 240 → kTY' j = kTY j) (h5 : ∀ j, j < 240 → kVY' j = kVY j) (h6 : ∀ j, j < 480 → kRY' j = kRY j) : rt_K kTX' kVX' kRX' kTY' kVY' kRY' := by
  refine ⟨fun j hj => ?_, fun i hi => ?_⟩
  · rw [h1 j hj, h2 j hj, h4 j hj, h5 j hj]; exact h.1 j hj
  · exact rt_OKc (h.2 i hi) (fun s hs => h1 _ (by omega)) (fun p hp => h3 _ (by omega)) (fun p hp => h6 _ (by omega))
theorem rt_Kkeep {st : Nat} (hst : st < 4) (hO : rt_OK T RX RY) (h : rt_K kTX kVX kRX kTY kVY kRY) : rt_K (rt_kp kTX (60 * st) 60 (rt_nr T)) (rt_kp kVX (60 * st) 60 V) (rt_kp kRX (120 * st) 120 RX) (rt_kp kTY (60 * st) 60 (rt_nr T)) (rt_kp kVY (60 * st) 60 V) (rt_kp kRY (120 * st) 120 RY) := by
  refine ⟨fun j hj => ?_, fun i hi => ?_⟩
  · unfold rt_kp
    by_cases q : 60 * st ≤ j ∧ j < 60 * st + 60
    · rw [if_pos q, if_pos q, if_pos q, if_pos q]; exact ⟨rfl, rfl⟩
    · rw [if_neg q, if_neg q, if_neg q, if_neg q]; exact h.1 j hj
  · by_cases q : i = st
    · subst q
      refine rt_OKc hO (fun s hs => ?_) (fun p hp => rt_kpI hp) (fun p hp => rt_kpI hp)
      show rt_kp kTX (60 * i) 60 (rt_nr T) (60 * i + s) = T s
      rw [rt_kpI hs]; exact rt_nar (hO.1 s hs)
    · exact rt_OKc (h.2 i hi) (fun s hs => rt_kpO (by omega)) (fun p hp => rt_kpO (by omega)) (fun p hp => rt_kpO (by omega))
/-- state 4 is scratch, on both sides -/
theorem rt_K4x (h : rt_K kTX kVX kRX kTY kVY kRY) : rt_K (rt_kp kTX (60 * 4) 60 (rt_nr T)) (rt_kp kVX (60 * 4) 60 V) (rt_kp kRX (120 * 4) 120 RX) kTY kVY kRY :=
  rt_Kc h (fun j hj => rt_kpO (by omega)) (fun j hj => rt_kpO (by omega)) (fun j hj => rt_kpO (by omega)) (fun _ _ => rfl) (fun _ _ => rfl) (fun _ _ => rfl)
theorem rt_K4y (h : rt_K kTX kVX kRX kTY kVY kRY) : rt_K kTX kVX kRX (rt_kp kTY (60 * 4) 60 (rt_nr T)) (rt_kp kVY (60 * 4) 60 V) (rt_kp kRY (120 * 4) 120 RY) :=
  rt_Kc h (fun _ _ => rfl) (fun _ _ => rfl) (fun _ _ => rfl) (fun j hj => rt_kpO (by omega)) (fun j hj => rt_kpO (by omega)) (fun j hj => rt_kpO (by omega))
/-- back to a kept state -/
theorem rt_relrest (k : Nat) (hm : m ≤ 3) {st : Nat} (hst : st < 4) (hQ : rt_QL L Q) (hO : rt_OK T RX RY) (hK : rt_K kTX kVX kRX kTY kVY kRY) : i_Rel k (op, (nI m), sb, sbs, (rt_rs (rt_nr kTX) (60 * st) 60 T), (rt_rs kVX (60 * st) 60 V), (rt_rs kRX (120 * st) 120 RX), L, Q, kTX, kVX, kRX) (op, (nI m), sb, L, Q, (rt_rs (rt_nr kTY) (60 * st) 60 T), (rt_rs kRY (120 * st) 120 RY), (rt_rs kVY (60 * st) 60 V), kTY, kRY, kVY, g) := by
  have e1 : rt_rs (rt_nr kTY) (60 * st) 60 T = rt_rs (rt_nr kTX) (60 * st) 60 T := rt_rsc (fun j hj => by unfold rt_nr; rw [(hK.1 _ (by omega)).1])
  have e2 : rt_rs kVY (60 * st) 60 V = rt_rs kVX (60 * st) 60 V := rt_rsc (fun j hj => (hK.1 _ (by omega)).2.symm)
  rw [e1, e2]
  refine rt_rel k hm hQ (rt_OKc (hK.2 st hst) (fun s hs => ?_) (fun p hp => rt_rsI hp) (fun p hp => rt_rsI hp)) hK
  rw [rt_rsI hs]
  exact rt_nar ((hK.2 st hst).1 s hs)
/-- a refused statement -/
theorem rt_relbad (k : Nat) (hm : m ≤ 3) (hQ : rt_QL L Q) (hO : rt_OK T RX RY) (hK : rt_K kTX kVX kRX kTY kVY kRY) : i_Rel k (op, (nI m), sb, sbs, (rt_rs (rt_nr (rt_kp kTX (60 * 4) 60 (rt_nr T))) (60 * 4) 60 T'), (rt_rs (rt_kp kVX (60 * 4) 60 V) (60 * 4) 60 V'), (rt_rs (rt_kp kRX (120 * 4) 120 RX) (120 * 4) 120 RX'), L, Q, (rt_kp kTX (60 * 4) 60 (rt_nr T)), (rt_kp kVX (60 * 4) 60 V), (rt_kp kRX (120 * 4) 120 RX)) (op, (nI m), sb, L, Q, (rt_rs (rt_nr (rt_kp kTY (60 * 4) 60 (rt_nr T))) (60 * 4) 60 T'), (rt_rs (rt_kp kRY (120 * 4) 120 RY) (120 * 4) 120 RY'), (rt_rs (rt_kp kVY (60 * 4) 60 V) (60 * 4) 60 V'), (rt_kp kTY (60 * 4) 60 (rt_nr T)), (rt_kp kRY (120 * 4) 120 RY), (rt_kp kVY (60 * 4) 60 V), g) := by
  have e1 : rt_rs (rt_nr (rt_kp kTY (60 * 4) 60 (rt_nr T))) (60 * 4) 60 T' = rt_rs (rt_nr (rt_kp kTX (60 * 4) 60 (rt_nr T))) (60 * 4) 60 T' := rt_rsc (fun j hj => by unfold rt_nr; rw [rt_kpI hj, rt_kpI hj])
  have e2 : rt_rs (rt_kp kVY (60 * 4) 60 V) (60 * 4) 60 V' = rt_rs (rt_kp kVX (60 * 4) 60 V) (60 * 4) 60 V' := rt_rsc (fun j hj => by rw [rt_kpI hj, rt_kpI hj])
  rw [e1, e2]
  refine rt_rel k hm hQ (rt_OKc hO (fun s hs => ?_) (fun p hp => ?_) (fun p hp => ?_)) (rt_K4x (rt_K4y hK))
  · rw [rt_rsI hs]
    show vp_nar .boolean (rt_kp kTX (60 * 4) 60 (rt_nr T) (60 * 4 + s)) = T s
    rw [rt_kpI hs]
    show vp_nar .boolean (vp_nar .boolean (T s)) = T s
    rw [rt_nar (hO.1 s hs), rt_nar (hO.1 s hs)]
  · rw [rt_rsI hp, rt_kpI hp]
  · rw [rt_rsI hp, rt_kpI hp]
theorem rt_OS (hO : rt_OK T RX RY) : rt_S T RX L Q = rt_S T RY L Q := rt_Sc (fun p hp ht => (hO.2.1 p hp ht).1)
theorem rt_Otg (hO : rt_OK T RX RY) {p : Nat} (hp : p < 120) : rt_tg T RX L Q p = rt_tg T RY L Q p := rt_tgc (fun ht => (hO.2.1 p hp ht).1)
end
def rt_in (i : Nat) : Nat → Int32 := fun c => if c < i then -1 else 0
theorem rt_ins {i : Nat} : upd (rt_in i) i (-1) = rt_in (i + 1) := funext fun j => by
  unfold upd rt_in
  by_cases q : j = i
  · rw [if_pos q, if_pos (show j < i + 1 from by omega)]
  · rw [if_neg q]
    by_cases w : j < i
    · rw [if_pos w, if_pos (show j < i + 1 from by omega)]
    · rw [if_neg w, if_neg (show ¬ j < i + 1 from by omega)]
theorem rt_OK0 : rt_OK (fun _ => 0) (fun _ => 0) (fun _ => 0) := by
  refine ⟨fun s _ => Or.inl rfl, fun p _ ht => absurd rfl ht, fun t _ => ?_⟩
  have e0 : ∀ n, rt_cnt (fun _ => false) n = 0 := fun n => by
    induction n with
    | zero => rfl
    | succ n i1 => rw [rt_cnt_f Bool.false_ne_true, i1]
  have : rt_ct (fun _ => 0) t = rt_cnt (fun _ => false) 20 := rt_cnt_congr 20 (fun i _ => decide_eq_false (fun z => z rfl))
  rw [this, e0]; omega
theorem i_vc0 : wpX_init (fun u => wpY_init (fun v => i_Rel 0 u v)) := by
  have z : rt_in 0 = fun _ => 0 := funext (fun j => if_neg (Nat.not_lt_zero j))
  have hQ : rt_QL (fun _ => 0) (rt_in 6) := fun c hc => ⟨Or.inl (if_pos hc), 0, by decide, rfl⟩
  have hK : rt_K (fun _ => 0) (fun _ => 0) (fun _ => 0) (fun _ => 0) (fun _ => 0) (fun _ => 0) := ⟨fun _ _ => ⟨rfl, rfl⟩, fun _ _ => rt_OK0⟩
  have hY : wpY_init (fun v => i_Rel 0 (0, 0, 0, 0, (fun _ => 0), (fun _ => 0), (fun _ => 0), (fun _ => 0), rt_in 6, (fun _ => 0), (fun _ => 0), (fun _ => 0)) v) := by
    have key := rt_loopF (fun n i s => wY_init_81 (fun v => i_Rel 0 (0, 0, 0, 0, (fun _ => 0), (fun _ => 0), (fun _ => 0), (fun _ => 0), rt_in 6, (fun _ => 0), (fun _ => 0), (fun _ => 0)) v) 0 0 0 n (nI i) (fun _ => 0) s (fun _ => 0) (fun _ => 0) (fun _ => 0) (fun _ => 0) (fun _ => 0) (fun _ => 0) (fun _ => 0)) rt_in 6 (fun n => br_t (nI_le (a := 6) (b := 6) (by decide) (by decide)) (rt_rel (m := 0) 0 (by decide) hQ rt_OK0 hK)) (fun n i hi ih => by
      refine br_f (nI_ge (b := 6) hi (by decide)) ⟨vp_in_nI hi (by decide), fun y ey w ew => ?_⟩
      rw [nI_clamp (n := i) (by omega)] at ey
      rw [ew, ey.trans rt_ins, nI_1]; exact ih)
    rw [z] at key
    exact key
  have key := rt_loopF (fun n i s => wX_init_93 (fun u => wpY_init (fun v => i_Rel 0 u v)) 0 0 0 0 n (nI i) (fun _ => 0) (fun _ => 0) (fun _ => 0) (fun _ => 0) s (fun _ => 0) (fun _ => 0) (fun _ => 0)) rt_in 6 (fun n => br_t (nI_le (a := 6) (b := 6) (by decide) (by decide)) hY) (fun n i hi ih => by
    refine br_f (nI_ge (b := 6) hi (by decide)) ⟨vp_in_nI hi (by decide), fun y ey w ew => ?_⟩
    rw [nI_clamp (n := i) (by omega)] at ey
    rw [ew, ey.trans rt_ins, nI_1]; exact ih)
  rw [z] at key
  exact key
