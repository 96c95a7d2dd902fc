/-! copies -/
def rt_kp (K : Nat → Int32) (b n : Nat) (A : Nat → Int32) : Nat → Int32 := fun j => if b ≤ j ∧ j < b + n then A (j - b) else K j
theorem rt_kp0 {K A : Nat → Int32} {b : Nat} : rt_kp K b 0 A = K := funext (fun j => if_neg (by omega))
theorem rt_kps {K A : Nat → Int32} {b i : Nat} : upd (rt_kp K b i A) (b + i) (A i) = rt_kp K b (i + 1) A := funext fun j => by
  unfold upd rt_kp
  by_cases h : j = b + i
  · rw [if_pos h, if_pos (by omega), show j - b = i from by omega]
  · rw [if_neg h]
    by_cases q : b ≤ j ∧ j < b + i
    · rw [if_pos q, if_pos (by omega)]
    · rw [if_neg q, if_neg (by omega)]
theorem rt_kpI {K A : Nat → Int32} {b n i : Nat} (h : i < n) : rt_kp K b n A (b + i) = A i := by
  unfold rt_kp; rw [if_pos (by omega), show b + i - b = i from by omega]
theorem rt_kpO {K A : Nat → Int32} {b n j : Nat} (h : j < b ∨ b + n ≤ j) : rt_kp K b n A j = K j := if_neg (by omega)
def rt_rs (K : Nat → Int32) (b n : Nat) (A : Nat → Int32) : Nat → Int32 := fun j => if j < n then K (b + j) else A j
theorem rt_rs0 {K A : Nat → Int32} {b : Nat} : rt_rs K b 0 A = A := funext (fun j => if_neg (by omega))
theorem rt_rss {K A : Nat → Int32} {b i : Nat} : upd (rt_rs K b i A) i (K (b + i)) = rt_rs K b (i + 1) A := funext fun j => by
  unfold upd rt_rs
  by_cases h : j = i
  · rw [if_pos h, if_pos (by omega), h]
  · rw [if_neg h]
    by_cases q : j < i
    · rw [if_pos q, if_pos (by omega)]
    · rw [if_neg q, if_neg (by omega)]
theorem rt_rsI {K A : Nat → Int32} {b n i : Nat} (h : i < n) : rt_rs K b n A i = K (b + i) := if_pos h
theorem rt_rsc {K K' A : Nat → Int32} {b n : Nat} (h : ∀ j, j < n → K (b + j) = K' (b + j)) : rt_rs K b n A = rt_rs K' b n A := funext fun j => by
  unfold rt_rs
  by_cases q : j < n
  · rw [if_pos q, if_pos q, h j q]
  · rw [if_neg q, if_neg q]
def rt_nr (A : Nat → Int32) : Nat → Int32 := fun j => vp_nar .boolean (A j)
section
variable {op mk sb sbs : Int32} {T V R L Q kT kV kR g RX RY kTX kTY kVX kVY kRX kRY : Nat → Int32}
theorem rt_xkeep50 {st : Nat} (hst : st < 5) {post : SX → Prop} (h : post (op, mk, sb, sbs, T, V, R, L, Q, kT, kV, (rt_kp kR (120 * st) 120 R))) : ∃ n, wX_keepState_50 post (nI st) op mk sb sbs n 0 T V R L Q kT kV kR := by
  have key := rt_loopF (fun n i s => wX_keepState_50 post (nI st) op mk sb sbs n (nI i) T V R L Q kT kV s) (fun i => rt_kp kR (120 * st) i R) 120 (fun n => br_t (nI_le (a := 120) (b := 120) (by decide) (by decide)) h) (fun n i hi ih => by
    refine br_f (nI_ge (b := 120) hi (by decide)) ⟨vp_in_nI hi (by decide), ?_⟩
    rw [rt_120a, nI_clamp (n := 120 * st + i) (by omega), nI_clamp (n := i) (by omega)]
    refine ⟨vp_in_nI (by omega) (by decide), fun y ey z ez => ?_⟩
    rw [ez, ey.trans rt_kps, nI_1]; exact ih)
  rw [rt_kp0] at key
  exact key
theorem rt_xkeep {st : Nat} (hst : st < 5) {post : SX → Prop} (h : post (op, mk, sb, sbs, T, V, R, L, Q, (rt_kp kT (60 * st) 60 (rt_nr T)), (rt_kp kV (60 * st) 60 V), (rt_kp kR (120 * st) 120 R))) : wpX_keepState post (op, mk, sb, sbs, T, V, R, L, Q, kT, kV, kR) (nI st) := by
  unfold wpX_keepState; dsimp only
  have key := rt_loopF (fun n i (s : (Nat → Int32) × (Nat → Int32)) => wX_keepState_2 post (nI st) op mk sb sbs n (nI i) T V R L Q s.1 s.2 kR) (fun i => (rt_kp kT (60 * st) i (rt_nr T), rt_kp kV (60 * st) i V)) 60 (fun n => br_t (nI_le (a := 60) (b := 60) (by decide) (by decide)) (rt_xkeep50 hst h)) (fun n i hi ih => by
    refine br_f (nI_ge (b := 60) hi (by decide)) ⟨vp_in_nI hi (by decide), ?_⟩
    rw [rt_60a, nI_clamp (n := 60 * st + i) (by omega), nI_clamp (n := i) (by omega)]
    refine ⟨vp_in_nI (by omega) (by decide), fun y ey => ⟨vp_in_nI hi (by decide), vp_in_nI (by omega) (by decide), fun w ew z ez => ?_⟩⟩
    rw [ez, ey.trans (rt_kps (A := rt_nr T)), ew.trans rt_kps, nI_1]; exact ih)
  dsimp only at key
  rw [rt_kp0, rt_kp0] at key
  exact key
theorem rt_xrest50 {st : Nat} (hst : st < 5) {post : SX → Prop} (h : post (op, mk, sb, sbs, T, V, (rt_rs kR (120 * st) 120 R), L, Q, kT, kV, kR)) : ∃ n, wX_restoreState_50 post (nI st) op mk sb sbs n 0 T V R L Q kT kV kR := by
  have key := rt_loopF (fun n i s => wX_restoreState_50 post (nI st) op mk sb sbs n (nI i) T V s L Q kT kV kR) (fun i => rt_rs kR (120 * st) i R) 120 (fun n => br_t (nI_le (a := 120) (b := 120) (by decide) (by decide)) h) (fun n i hi ih => by
    refine br_f (nI_ge (b := 120) hi (by decide)) ?_
    rw [rt_120a, nI_clamp (n := 120 * st + i) (by omega), nI_clamp (n := i) (by omega)]
    refine ⟨vp_in_nI (by omega) (by decide), vp_in_nI hi (by decide), fun y ey z ez => ?_⟩
    rw [ez, ey.trans rt_rss, nI_1]; exact ih)
  rw [rt_rs0] at key
  exact key
theorem rt_xrest {st : Nat} (hst : st < 5) {post : SX → Prop} (h : post (op, mk, sb, sbs, (rt_rs (rt_nr kT) (60 * st) 60 T), (rt_rs kV (60 * st) 60 V), (rt_rs kR (120 * st) 120 R), L, Q, kT, kV, kR)) : wpX_restoreState post (op, mk, sb, sbs, T, V, R, L, Q, kT, kV, kR) (nI st) := by
  unfold wpX_restoreState; dsimp only
  have key := rt_loopF (fun n i (s : (Nat → Int32) × (Nat → Int32)) => wX_restoreState_2 post (nI st) op mk sb sbs n (nI i) s.1 s.2 R L Q kT kV kR) (fun i => (rt_rs (rt_nr kT) (60 * st) i T, rt_rs kV (60 * st) i V)) 60 (fun n => br_t (nI_le (a := 60) (b := 60) (by decide) (by decide)) (rt_xrest50 hst h)) (fun n i hi ih => by
    refine br_f (nI_ge (b := 60) hi (by decide)) ?_
    rw [rt_60a, nI_clamp (n := 60 * st + i) (by omega), nI_clamp (n := i) (by omega)]
    refine ⟨vp_in_nI (by omega) (by decide), vp_in_nI hi (by decide), fun y ey => ⟨vp_in_nI (by omega) (by decide), vp_in_nI hi (by decide), fun w ew z ez => ?_⟩⟩
    rw [ez, ey.trans (rt_rss (K := rt_nr kT)), ew.trans rt_rss, nI_1]; exact ih)
  dsimp only at key
  rw [rt_rs0, rt_rs0] at key
  exact key
theorem rt_ykeep50 {st : Nat} (hst : st < 5) {post : SY → Prop} (h : post (op, mk, sb, L, Q, T, R, V, kT, (rt_kp kR (120 * st) 120 R), kV, g)) : ∃ n, wY_keep_50 post (nI st) op mk sb n 0 L Q T R V kT kR kV g := by
  have key := rt_loopF (fun n i s => wY_keep_50 post (nI st) op mk sb n (nI i) L Q T R V kT s kV g) (fun i => rt_kp kR (120 * st) i R) 120 (fun n => br_t (nI_le (a := 120) (b := 120) (by decide) (by decide)) h) (fun n i hi ih => by
    refine br_f (nI_ge (b := 120) hi (by decide)) ⟨vp_in_nI hi (by decide), ?_⟩
    rw [rt_120b, nI_clamp (n := 120 * st + i) (by omega), nI_clamp (n := i) (by omega)]
    refine ⟨vp_in_nI (by omega) (by decide), fun y ey z ez => ?_⟩
    rw [ez, ey.trans rt_kps, nI_1]; exact ih)
  rw [rt_kp0] at key
  exact key
theorem rt_ykeep {st : Nat} (hst : st < 5) {post : SY → Prop} (h : post (op, mk, sb, L, Q, T, R, V, (rt_kp kT (60 * st) 60 (rt_nr T)), (rt_kp kR (120 * st) 120 R), (rt_kp kV (60 * st) 60 V), g)) : wpY_keep post (op, mk, sb, L, Q, T, R, V, kT, kR, kV, g) (nI st) := by
  unfold wpY_keep; dsimp only
  have key := rt_loopF (fun n i (s : (Nat → Int32) × (Nat → Int32)) => wY_keep_2 post (nI st) op mk sb n (nI i) L Q T R V s.1 kR s.2 g) (fun i => (rt_kp kT (60 * st) i (rt_nr T), rt_kp kV (60 * st) i V)) 60 (fun n => br_t (nI_le (a := 60) (b := 60) (by decide) (by decide)) (rt_ykeep50 hst h)) (fun n i hi ih => by
    refine br_f (nI_ge (b := 60) hi (by decide)) ⟨vp_in_nI hi (by decide), ?_⟩
    rw [rt_60b, nI_clamp (n := 60 * st + i) (by omega), nI_clamp (n := i) (by omega)]
    refine ⟨vp_in_nI (by omega) (by decide), fun y ey => ⟨vp_in_nI hi (by decide), vp_in_nI (by omega) (by decide), fun w ew z ez => ?_⟩⟩
    rw [ez, ey.trans (rt_kps (A := rt_nr T)), ew.trans rt_kps, nI_1]; exact ih)
  dsimp only at key
  rw [rt_kp0, rt_kp0] at key
  exact key
theorem rt_yrest50 {st : Nat} (hst : st < 5) {post : SY → Prop} (h : post (op, mk, sb, L, Q, T, (rt_rs kR (120 * st) 120 R), V, kT, kR, kV, g)) : ∃ n, wY_restore_50 post (nI st) op mk sb n 0 L Q T R V kT kR kV g := by
  have key := rt_loopF (fun n i s => wY_restore_50 post (nI st) op mk sb n (nI i) L Q T s V kT kR kV g) (fun i => rt_rs kR (120 * st) i R) 120 (fun n => br_t (nI_le (a := 120) (b := 120) (by decide) (by decide)) h) (fun n i hi ih => by
    refine br_f (nI_ge (b := 120) hi (by decide)) ?_
    rw [rt_120b, nI_clamp (n := 120 * st + i) (by omega), nI_clamp (n := i) (by omega)]
    refine ⟨vp_in_nI (by omega) (by decide), vp_in_nI hi (by decide), fun y ey z ez => ?_⟩
    rw [ez, ey.trans rt_rss, nI_1]; exact ih)
  rw [rt_rs0] at key
  exact key
theorem rt_yrest {st : Nat} (hst : st < 5) {post : SY → Prop} (h : post (op, mk, sb, L, Q, (rt_rs (rt_nr kT) (60 * st) 60 T), (rt_rs kR (120 * st) 120 R), (rt_rs kV (60 * st) 60 V), kT, kR, kV, g)) : wpY_restore post (op, mk, sb, L, Q, T, R, V, kT, kR, kV, g) (nI st) := by
  unfold wpY_restore; dsimp only
  have key := rt_loopF (fun n i (s : (Nat → Int32) × (Nat → Int32)) => wY_restore_2 post (nI st) op mk sb n (nI i) L Q s.1 R s.2 kT kR kV g) (fun i => (rt_rs (rt_nr kT) (60 * st) i T, rt_rs kV (60 * st) i V)) 60 (fun n => br_t (nI_le (a := 60) (b := 60) (by decide) (by decide)) (rt_yrest50 hst h)) (fun n i hi ih => by
    refine br_f (nI_ge (b := 60) hi (by decide)) ?_
    rw [rt_60b, nI_clamp (n := 60 * st + i) (by omega), nI_clamp (n := i) (by omega)]
    refine ⟨vp_in_nI (by omega) (by decide), vp_in_nI hi (by decide), fun y ey => ⟨vp_in_nI (by omega) (by decide), vp_in_nI hi (by decide), fun w ew z ez => ?_⟩⟩
    rw [ez, ey.trans (rt_rss (K := rt_nr kT)), ew.trans rt_rss, nI_1]; exact ih)
  dsimp only at key
  rw [rt_rs0, rt_rs0] at key
  exact key
theorem rt_xstart (hQ : rt_QL L Q) (hR : rt_RR T R) {post : SX → Prop} (h : post (op, mk, sb, (rt_S T R L Q), T, V, R, L, Q, (rt_kp kT (60 * 4) 60 (rt_nr T)), (rt_kp kV (60 * 4) 60 V), (rt_kp kR (120 * 4) 120 R))) : wpX_startStatement post (op, mk, sb, sbs, T, V, R, L, Q, kT, kV, kR) := by
  unfold wpX_startStatement; dsimp only
  exact rt_xsound hQ hR (rt_xkeep (st := 4) (by decide) h)
theorem rt_xend (hQ : rt_QL L Q) (hR : rt_RR T R) (hs : ∀ c, c < 32 → bt sbs c = true → c < 6) {ans : Int32} {post : Int32 → SX → Prop} (h0 : ¬ rt_bad op Q sbs (rt_S T R L Q) → post ans (op, mk, sb, sbs, T, V, R, L, Q, kT, kV, kR)) (h1 : rt_bad op Q sbs (rt_S T R L Q) → post (-9) (op, mk, sb, sbs, (rt_rs (rt_nr kT) (60 * 4) 60 T), (rt_rs kV (60 * 4) 60 V), (rt_rs kR (120 * 4) 120 R), L, Q, kT, kV, kR)) : wpX_endStatement post (op, mk, sb, sbs, T, V, R, L, Q, kT, kV, kR) ans := by
  unfold wpX_endStatement; dsimp only
  refine rt_xsound hQ hR (fun y ey => br_c (fun a => ?_) (fun a => rt_xlinks _ (fun z ez => ?_)))
  · unfold wX_endStatement_28
    rw [ey]
    exact br_c (fun b => h0 ((rt_badX0 hQ hs (fun c hc q => rt_Sm hc q) a).mp b)) (fun b => rt_xrest (st := 4) (by decide) (h1 (Classical.not_not.mp (fun q => b ((rt_badX0 hQ hs (fun c hc q => rt_Sm hc q) a).mpr q)))))
  · unfold wX_endStatement_28
    rw [ez, ey]
    exact br_c (fun b => h0 ((rt_badX1 hQ hs (fun c hc q => rt_Sm hc q) a).mp b)) (fun b => rt_xrest (st := 4) (by decide) (h1 (Classical.not_not.mp (fun q => b ((rt_badX1 hQ hs (fun c hc q => rt_Sm hc q) a).mpr q)))))
theorem rt_ychecked (hQ : rt_QL L Q) (hR : rt_RR T R) {s ans : Int32} {post : Int32 → SY → Prop} (h0 : ¬ rt_bad op Q s (rt_S T R L Q) → post ans (op, mk, sb, L, Q, T, R, V, kT, kR, kV, g)) (h1 : rt_bad op Q s (rt_S T R L Q) → post (-9) (op, mk, sb, L, Q, (rt_rs (rt_nr kT) (60 * 4) 60 T), (rt_rs kR (120 * 4) 120 R), (rt_rs kV (60 * 4) 60 V), kT, kR, kV, g)) : wpY_checked post (op, mk, sb, L, Q, T, R, V, kT, kR, kV, g) s ans := by
  unfold wpY_checked; dsimp only
  refine rt_ysound hQ hR ?_
  refine rt_loopS (fun n i => wY_checked_8 post s ans (rt_S T R L Q) op mk sb L Q T R V kT kR kV g n (nI i)) (fun c => ¬ Q c < 0 ∧ (Q c < 3 ∨ op = 0) ∧ bt s c = true ∧ bt (rt_S T R L Q) c = false) 6 (fun hn n => br_t (nI_le (a := 6) (b := 6) (by decide) (by decide)) (h0 (fun ⟨c, hc, z⟩ => hn c hc z))) (fun n i hi hn ih => br_f (nI_ge (b := 6) hi (by decide)) ⟨vp_in_nI hi (by decide), ?_⟩)
  rw [nI_clamp (n := i) (by omega)]
  have k0 : ¬ (¬ Q i < 0 ∧ (Q i < 3 ∨ op = 0) ∧ bt s i = true ∧ bt (rt_S T R L Q) i = false) → wY_checked_48 post (wY_checked_8 post s ans (rt_S T R L Q) op mk sb L Q T R V kT kR kV g n) s ans (rt_S T R L Q) (nI i) 0 op mk sb L Q T R V kT kR kV g := fun a => br_t rfl (fun y ey => by rw [ey, nI_1]; exact ih a)
  have k1 : ¬ Q i < 0 → (Q i < 3 ∨ op = 0) → wY_checked_48 post (wY_checked_8 post s ans (rt_S T R L Q) op mk sb L Q T R V kT kR kV g n) s ans (rt_S T R L Q) (nI i) 1 op mk sb L Q T R V kT kR kV g := fun a b => br_f (by decide) (br_c (fun c => br_c (fun d => rt_yrest (st := 4) (by decide) (h1 ⟨i, hi, a, b, (rt_sr hi).1.mp c, (rt_sr hi).2.mp d⟩)) (fun d y ey => by rw [ey, nI_1]; exact ih (fun z => d ((rt_sr hi).2.mpr z.2.2.2)))) (fun c y ey => by rw [ey, nI_1]; exact ih (fun z => c ((rt_sr hi).1.mpr z.2.2.1))))
  exact br_c (fun a => k0 (fun z => z.1 a)) (fun a => ⟨vp_in_nI hi (by decide), br_c (fun b => k1 a (Or.inl b)) (fun b => br_c (fun c => k1 a (Or.inr c)) (fun c => k0 (fun z => z.2.1.elim b c)))⟩)
end
