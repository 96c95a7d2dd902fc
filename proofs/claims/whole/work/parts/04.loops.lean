/-! loops that only read -/
theorem rt_loopF {σ : Type} (W : Nat → Nat → σ → Prop) (F : Nat → σ) (e : Nat) (hx : ∀ n, W (n + 1) e (F e)) (hs : ∀ n i, i < e → W n (i + 1) (F (i + 1)) → W (n + 1) i (F i)) : ∃ n, W n 0 (F 0) :=
  loop_0 W (fun i s => s = F i) e (F 0) rfl (fun n s h => by subst h; exact hx n) (fun n i s hi h ih => by subst h; exact hs n i hi (ih _ rfl))
theorem rt_loopC (W : Nat → Nat → Int32 → Prop) (f : Nat → Bool) (e : Nat) (hx : ∀ n, W (n + 1) e (nI (rt_cnt f e))) (hs : ∀ n i c, i < e → (f i = true → W n (i + 1) (c + 1)) → (¬ f i = true → W n (i + 1) c) → W (n + 1) i c) : ∃ n, W n 0 0 :=
  rt_loopF W (fun i => nI (rt_cnt f i)) e hx (fun n i hi h => hs n i _ hi (fun a => by rw [nI_1, ← rt_cnt_t a]; exact h) (fun a => by rw [← rt_cnt_f a]; exact h))
theorem rt_loopS (W : Nat → Nat → Prop) (hit : Nat → Prop) (e : Nat) (hx : (∀ j, j < e → ¬ hit j) → ∀ n, W (n + 1) e) (hs : ∀ n i, i < e → (∀ j, j < i → ¬ hit j) → (¬ hit i → W n (i + 1)) → W (n + 1) i) : ∃ n, W n 0 :=
  loop_0 (σ := Unit) (fun n i _ => W n i) (fun i _ => ∀ j, j < i → ¬ hit j) e () (fun j hj => absurd hj (Nat.not_lt_zero j)) (fun n _ h => hx h n)
    (fun n i _ hi h ih => hs n i hi h (fun a => ih () (fun j hj => by
      by_cases q : j = i
      · rw [q]; exact a
      · exact h j (by omega))))
def rt_sd (f : Nat → Bool) : Nat → Int32
  | 0 => 63
  | i + 1 => if f i = true then rt_sd f i &&& (((1 : Int32) <<< (nI (rt_c i) &&& 31)) ^^^ (-1)) else rt_sd f i
theorem rt_sd_t {f : Nat → Bool} {i : Nat} (h : f i = true) : rt_sd f (i + 1) = rt_sd f i &&& (((1 : Int32) <<< (nI (rt_c i) &&& 31)) ^^^ (-1)) := if_pos h
theorem rt_sd_f {f : Nat → Bool} {i : Nat} (h : ¬ f i = true) : rt_sd f (i + 1) = rt_sd f i := if_neg h
theorem rt_sd_congr {f h : Nat → Bool} : ∀ n, (∀ i, i < n → f i = h i) → rt_sd f n = rt_sd h n
  | 0, _ => rfl
  | n + 1, e => by
    have i1 := rt_sd_congr n (fun i hi => e i (by omega))
    have q := e n (by omega)
    by_cases a : f n = true
    · rw [rt_sd_t a, rt_sd_t (q.symm.trans a), i1]
    · rw [rt_sd_f a, rt_sd_f (by rw [← q]; exact a), i1]
def rt_le (Q : Nat → Int32) : Nat → Int32
  | 0 => 0
  | i + 1 => if Q i = 3 then rt_le Q i ||| ((1 : Int32) <<< (nI i &&& 31)) else rt_le Q i
def rt_sum (T V : Nat → Int32) (t : Nat) : Nat → Int32
  | 0 => 0
  | i + 1 => if T (20 * t + i) = 0 then rt_sum T V t i else rt_sum T V t i + V (20 * t + i)
theorem rt_sum_t {T V : Nat → Int32} {t i : Nat} (h : T (20 * t + i) = 0) : rt_sum T V t (i + 1) = rt_sum T V t i := if_pos h
theorem rt_sum_f {T V : Nat → Int32} {t i : Nat} (h : ¬ T (20 * t + i) = 0) : rt_sum T V t (i + 1) = rt_sum T V t i + V (20 * t + i) := if_neg h
section
variable {op mk sb sbs : Int32} {T V R L Q kT kV kR g RX RY kTX kTY kVX kVY kRX kRY : Nat → Int32}
theorem rt_xcount {t : Nat} (ht : t < 3) {post : Int32 → Prop} (h : post (nI (rt_ct T t))) : wpX_countRows post (op, mk, sb, sbs, T, V, R, L, Q, kT, kV, kR) (nI t) := by
  unfold wpX_countRows; dsimp only
  intro y ey
  rw [show nI t * 20 = nI (20 * t + 0) from by rw [Nat.mul_comm]; exact pk_mul _ 20] at ey
  subst ey
  refine rt_loopC (fun n i c => wX_countRows_7 post (nI t) op mk sb sbs T V R L Q kT kV kR n c (nI (20 * t + i))) (fun k => rt_b T (20 * t + k)) 20 (fun n => br_t ?_ h) (fun n i c hi h1 h0 => br_f ?_ ⟨vp_in_nI (by omega) (by decide), ?_⟩)
  · rw [rt_e20]; exact nI_le (by omega) (by omega)
  · rw [rt_e20]; exact nI_ge (by omega) (by omega)
  · rw [nI_clamp (n := 20 * t + i) (by omega)]
    refine br_c (fun a y ey => ?_) (fun a y ey z ez => ?_)
    · rw [ey, nI_1]; exact h0 (fun z => rt_b_t.mp z a)
    · rw [ez, ey, nI_1]; exact h1 (rt_b_t.mpr a)
theorem rt_ycount {t : Nat} (ht : t < 3) {post : Int32 → Prop} (h : post (nI (rt_ct T t))) : wpY_count post (op, mk, sb, L, Q, T, R, V, kT, kR, kV, g) (nI t) := by
  unfold wpY_count; dsimp only
  refine rt_loopC (fun n i c => wY_count_4 post (nI t) op mk sb L Q T R V kT kR kV g n c (nI i)) (fun k => rt_b T (20 * t + k)) 20 (fun n => br_t (nI_le (a := 20) (b := 20) (by decide) (by decide)) h) (fun n i c hi h1 h0 => br_f (nI_ge (b := 20) hi (by decide)) ?_)
  rw [rt_20b, nI_clamp (n := 20 * t + i) (by omega)]
  refine ⟨vp_in_nI (by omega) (by decide), br_c (fun a y ey => ?_) (fun a y ey z ez => ?_)⟩
  · rw [ey, nI_1]; exact h0 (fun z => rt_b_t.mp z a)
  · rw [ez, ey, nI_1]; exact h1 (rt_b_t.mpr a)
theorem rt_xsum {t : Nat} (ht : t < 3) {post : Int32 → Prop} (h : post (rt_sum T V t 20)) : ∃ n, wX_sum_16 post (nI t) op mk sb sbs T V R L Q kT kV kR n 0 (nI (20 * t + 0)) := by
  refine rt_loopF (fun n i c => wX_sum_16 post (nI t) op mk sb sbs T V R L Q kT kV kR n c (nI (20 * t + i))) (rt_sum T V t) 20 (fun n => br_t ?_ h) (fun n i hi ih => br_f ?_ ⟨vp_in_nI (by omega) (by decide), ?_⟩)
  · rw [rt_e20]; exact nI_le (by omega) (by omega)
  · rw [rt_e20]; exact nI_ge (by omega) (by omega)
  · rw [nI_clamp (n := 20 * t + i) (by omega)]
    refine br_c (fun a y ey => ?_) (fun a => ⟨vp_in_nI (by omega) (by decide), fun y ey z ez => ?_⟩)
    · rw [ey, nI_1, ← rt_sum_t a]; exact ih
    · rw [ez, ey, nI_1, ← rt_sum_f a]; exact ih
theorem rt_ysum {t : Nat} (ht : t < 3) {post : Int32 → Prop} (hT : ∀ q : Int32 → Prop, q 1 → wpY_isTable q (op, mk, sb, L, Q, T, R, V, kT, kR, kV, g) (nI t)) (h : post (rt_sum T V t 20)) : ∃ n, wY_sum_4 post (nI t) op mk sb L Q T R V kT kR kV g n 0 (nI 0) := by
  refine rt_loopF (fun n i c => wY_sum_4 post (nI t) op mk sb L Q T R V kT kR kV g n c (nI i)) (rt_sum T V t) 20 (fun n => br_t (nI_le (a := 20) (b := 20) (by decide) (by decide)) h) (fun n i hi ih => br_f (nI_ge (b := 20) hi (by decide)) (hT _ (br_f (by decide) ?_)))
  rw [rt_20b, nI_clamp (n := 20 * t + i) (by omega)]
  refine ⟨vp_in_nI (by omega) (by decide), br_c (fun a y ey => ?_) (fun a => ⟨vp_in_nI (by omega) (by decide), fun y ey z ez => ?_⟩)⟩
  · rw [ey, nI_1, ← rt_sum_t a]; exact ih
  · rw [ez, ey, nI_1, ← rt_sum_f a]; exact ih
theorem rt_d0 {a b : Int32} : a - b = 0 ↔ b = a := by
  constructor
  · intro h; grind
  · intro h; rw [h]; exact Int32.sub_self _
theorem rt_dm (a b : Int32) : a - b + (-1) = a - (b + 1) := by grind
theorem rt_keyAt {t : Nat} (ht : t < 3) (x2 : Int32) : ∀ d i, i + d = 20 → ∀ b : Int32, ∃ r : Int32, (∀ post : Int32 → Prop, post r → wX_keyAt_14 post (nI t) x2 op mk sb sbs T V RX L Q kTX kVX kRX (d + 1) b (nI i)) ∧ (∀ post : Int32 → Prop, post r → wY_keyAt_15 post (nI t) op mk sb L Q T RY V kTY kRY kVY g (d + 1) (x2 - b) (nI i)) := by
  intro d
  induction d with
  | zero =>
    intro i hi b
    have h : (20 : Int32) ≤ nI i := nI_le (a := 20) (by omega) (by omega)
    exact ⟨-2, fun _ p => br_t h p, fun _ p => br_t h p⟩
  | succ d ih =>
    intro i hi b
    have h : ¬ (20 : Int32) ≤ nI i := nI_ge (b := 20) (by omega) (by decide)
    by_cases z : T (20 * t + i) = 0
    · obtain ⟨r, hX, hY⟩ := ih (i + 1) (by omega) b
      refine ⟨r, fun post hp => br_f h ?_, fun post hp => br_f h ?_⟩
      · rw [rt_20a, nI_clamp (n := 20 * t + i) (by omega)]
        exact ⟨vp_in_nI (by omega) (by decide), br_t z (fun y ey => by rw [ey, nI_1]; exact hX post hp)⟩
      · rw [rt_20b, nI_clamp (n := 20 * t + i) (by omega)]
        exact ⟨vp_in_nI (by omega) (by decide), br_t z (fun y ey => by rw [ey, nI_1]; exact hY post hp)⟩
    · by_cases q : b = x2
      · refine ⟨nI i, fun post hp => br_f h ?_, fun post hp => br_f h ?_⟩
        · rw [rt_20a, nI_clamp (n := 20 * t + i) (by omega)]
          exact ⟨vp_in_nI (by omega) (by decide), br_f z (br_t q hp)⟩
        · rw [rt_20b, nI_clamp (n := 20 * t + i) (by omega)]
          exact ⟨vp_in_nI (by omega) (by decide), br_f z (br_t (rt_d0.mpr q) hp)⟩
      · obtain ⟨r, hX, hY⟩ := ih (i + 1) (by omega) (b + 1)
        refine ⟨r, fun post hp => br_f h ?_, fun post hp => br_f h ?_⟩
        · rw [rt_20a, nI_clamp (n := 20 * t + i) (by omega)]
          exact ⟨vp_in_nI (by omega) (by decide), br_f z (br_f q (fun y ey w ew => by rw [ew, ey, nI_1]; exact hX post hp))⟩
        · rw [rt_20b, nI_clamp (n := 20 * t + i) (by omega)]
          exact ⟨vp_in_nI (by omega) (by decide), br_f z (br_f (fun w => q (rt_d0.mp w)) (fun y ey w ew => by rw [ew, ey, nI_1, rt_dm]; exact hY post hp))⟩
theorem rt_xref (hQ : rt_QL L Q) (hR : rt_RR T R) {s : Nat} (hs : s < 60) {post : Int32 → Prop} (h : post (nI (rt_cnt (fun p => decide (rt_tg T R L Q p = some s)) 120))) : ∃ n, wX_referrers_34 post (nI s) op mk sb sbs T V R L Q kT kV kR n 0 (nI 0) := by
  refine rt_loopC (fun n i c => wX_referrers_34 post (nI s) op mk sb sbs T V R L Q kT kV kR n c (nI i)) (fun p => decide (rt_tg T R L Q p = some s)) 120 (fun n => br_t (nI_le (a := 120) (b := 120) (by decide) (by decide)) h) (fun n i c hi h1 h0 => br_f (nI_ge (b := 120) hi (by decide)) (rt_xtg hQ hR hi (fun e => br_f (fun z => rt_nI_m1 (by omega) z.symm) (fun y ey => ?_)) (fun t ht e => br_c (fun a y ey z ez => ?_) (fun a y ey => ?_))))
  · rw [ey, nI_1]; exact h0 (fun z => by rw [e] at z; exact (nomatch (of_decide_eq_true z)))
  · rw [ez, ey, nI_1]; exact h1 (decide_eq_true (by rw [e, (nI_eq (by omega) (by omega)).mp a]))
  · rw [ey, nI_1]; exact h0 (fun z => a (by have := of_decide_eq_true z; rw [e] at this; cases this; rfl))
theorem rt_yref (hQ : rt_QL L Q) (hR : rt_RR T R) {t0 k0 : Nat} (hs : 20 * t0 + k0 < 60) (hT : ¬ T (20 * t0 + k0) = 0) {post : Int32 → Prop} (h : post (nI (rt_cnt (fun p => decide (rt_tg T R L Q p = some (20 * t0 + k0))) 120))) : ∃ n, wY_referrers_27 post (nI t0) (nI k0) op mk sb L Q T R V kT kR kV g n 0 (nI 0) := by
  refine rt_loopC (fun n i c => wY_referrers_27 post (nI t0) (nI k0) op mk sb L Q T R V kT kR kV g n c (nI i)) (fun p => decide (rt_tg T R L Q p = some (20 * t0 + k0))) 120 (fun n => br_t (nI_le (a := 120) (b := 120) (by decide) (by decide)) h) (fun n i c hi h1 h0 => br_f (nI_ge (b := 120) hi (by decide)) (rt_ytg hQ hR hi (fun e => ?_) (fun t ht e d => ?_)))
  · rw [rt_20b]
    refine br_f (fun z => rt_nI_m1 (by omega) z.symm) (fun y ey => ?_)
    rw [ey, nI_1]
    refine h0 (fun z => ?_)
    have z := of_decide_eq_true z
    rcases e with e | ⟨t, e, d⟩
    · rw [e] at z; cases z
    · rw [e] at z; cases z; exact hT d
  · rw [rt_20b]
    refine br_c (fun a y ey z ez => ?_) (fun a y ey => ?_)
    · rw [ez, ey, nI_1]; exact h1 (decide_eq_true (by rw [e, (nI_eq (by omega) (by omega)).mp a]))
    · rw [ey, nI_1]; exact h0 (fun z => a (by have := of_decide_eq_true z; rw [e] at this; cases this; rfl))
theorem rt_xdangling (hQ : rt_QL L Q) (hR : rt_RR T R) {post : Int32 → Prop} (h : post (nI (rt_cnt (rt_dg T R L Q) 120))) : wpX_dangling post (op, mk, sb, sbs, T, V, R, L, Q, kT, kV, kR) := by
  unfold wpX_dangling; dsimp only
  refine rt_loopC (fun n i c => wX_dangling_4 post op mk sb sbs T V R L Q kT kV kR n c (nI i)) (rt_dg T R L Q) 120 (fun n => br_t (nI_le (a := 120) (b := 120) (by decide) (by decide)) h) (fun n i c hi h1 h0 => br_f (nI_ge (b := 120) hi (by decide)) (rt_xdg hQ hR hi (fun a => br_t rfl (fun y ey => ?_)) (fun a => br_f (by decide) (fun y ey z ez => ?_))))
  · rw [ey, nI_1]; exact h0 a
  · rw [ez, ey, nI_1]; exact h1 a
theorem rt_ydangling (hQ : rt_QL L Q) (hR : rt_RR T R) {post : Int32 → Prop} (h : post (nI (rt_cnt (rt_dg T R L Q) 120))) : wpY_dangling post (op, mk, sb, L, Q, T, R, V, kT, kR, kV, g) := by
  unfold wpY_dangling; dsimp only
  refine rt_loopC (fun n i c => wY_dangling_4 post op mk sb L Q T R V kT kR kV g n c (nI i)) (rt_dg T R L Q) 120 (fun n => br_t (nI_le (a := 120) (b := 120) (by decide) (by decide)) h) (fun n i c hi h1 h0 => br_f (nI_ge (b := 120) hi (by decide)) (rt_ydg hQ hR hi (fun a => br_t rfl (fun y ey => ?_)) (fun a => br_f (by decide) (fun y ey z ez => ?_))))
  · rw [ey, nI_1]; exact h0 a
  · rw [ez, ey, nI_1]; exact h1 a
theorem rt_xsound (hQ : rt_QL L Q) (hR : rt_RR T R) {post : Int32 → Prop} (h : post (rt_sd (rt_dg T R L Q) 120)) : wpX_soundLinks post (op, mk, sb, sbs, T, V, R, L, Q, kT, kV, kR) := by
  unfold wpX_soundLinks; dsimp only
  refine rt_loopF (fun n i c => wX_soundLinks_5 post op mk sb sbs T V R L Q kT kV kR n c (nI i)) (rt_sd (rt_dg T R L Q)) 120 (fun n => br_t (nI_le (a := 120) (b := 120) (by decide) (by decide)) h) (fun n i hi ih => br_f (nI_ge (b := 120) hi (by decide)) (rt_xdg hQ hR hi (fun a => br_t rfl (fun y ey => ?_)) (fun a => br_f (by decide) (rt_xlk hi (fun y ey z ez => ?_)))))
  · rw [ey, nI_1, ← rt_sd_f a]; exact ih
  · rw [ez, ey, nI_1, ← rt_sd_t a]; exact ih
theorem rt_ysound (hQ : rt_QL L Q) (hR : rt_RR T R) {post : Int32 → Prop} (h : post (rt_sd (rt_dg T R L Q) 120)) : wpY_soundLinks post (op, mk, sb, L, Q, T, R, V, kT, kR, kV, g) := by
  unfold wpY_soundLinks; dsimp only
  refine rt_loopF (fun n i c => wY_soundLinks_5 post op mk sb L Q T R V kT kR kV g n c (nI i)) (rt_sd (rt_dg T R L Q)) 120 (fun n => br_t (nI_le (a := 120) (b := 120) (by decide) (by decide)) h) (fun n i hi ih => br_f (nI_ge (b := 120) hi (by decide)) (rt_ydg hQ hR hi (fun a => br_t rfl (fun y ey => ?_)) (fun a => br_f (by decide) ⟨by decide, by decide, fun y ey z ez => ?_⟩)))
  · rw [ey, nI_1, ← rt_sd_f a]; exact ih
  · rw [rt_lk (p := i) (by omega)] at ey
    rw [ez, ey, nI_1, ← rt_sd_t a]; exact ih
theorem rt_xlinks (post : Int32 → Prop) (h : post (rt_le Q 6)) : wpX_linksCheckedAtEnd post (op, mk, sb, sbs, T, V, R, L, Q, kT, kV, kR) := by
  unfold wpX_linksCheckedAtEnd; dsimp only
  refine rt_loopF (fun n i c => wX_linksCheckedAtEnd_4 post op mk sb sbs T V R L Q kT kV kR n c (nI i)) (rt_le Q) 6 (fun n => br_t (nI_le (a := 6) (b := 6) (by decide) (by decide)) h) (fun n i hi ih => br_f (nI_ge (b := 6) hi (by decide)) ⟨vp_in_nI hi (by decide), ?_⟩)
  rw [nI_clamp (n := i) (by omega)]
  refine br_c (fun a y ey z ez => ?_) (fun a y ey => ?_)
  · rw [ez, ey, nI_1, ← show rt_le Q (i + 1) = rt_le Q i ||| ((1 : Int32) <<< (nI i &&& 31)) from if_pos a]; exact ih
  · rw [ey, nI_1, ← show rt_le Q (i + 1) = rt_le Q i from if_neg a]; exact ih
theorem rt_xused {t c : Nat} (ht : t < 3) (hc : c < 2) {post : Int32 → Prop} (h1 : (∃ k, k < 20 ∧ ¬ T (20 * t + k) = 0 ∧ ¬ R (2 * (20 * t + k) + c) = -1) → post 1) (h0 : (∀ k, k < 20 → ¬ (¬ T (20 * t + k) = 0 ∧ ¬ R (2 * (20 * t + k) + c) = -1)) → post 0) : wpX_isColumnUsed post (op, mk, sb, sbs, T, V, R, L, Q, kT, kV, kR) (nI t) (nI c) := by
  unfold wpX_isColumnUsed; dsimp only
  intro y ey
  rw [show nI t * 20 = nI (20 * t + 0) from by rw [Nat.mul_comm]; exact pk_mul _ 20] at ey
  subst ey
  refine rt_loopS (fun n i => wX_isColumnUsed_5 post (nI t) (nI c) op mk sb sbs T V R L Q kT kV kR n (nI (20 * t + i))) (fun k => ¬ T (20 * t + k) = 0 ∧ ¬ R (2 * (20 * t + k) + c) = -1) 20 (fun hn n => br_t ?_ (h0 hn)) (fun n i hi hn ih => br_f ?_ ⟨vp_in_nI (by omega) (by decide), ?_⟩)
  · rw [rt_e20]; exact nI_le (by omega) (by omega)
  · rw [rt_e20]; exact nI_ge (by omega) (by omega)
  · rw [nI_clamp (n := 20 * t + i) (by omega), rt_2a, nI_clamp (n := 2 * (20 * t + i) + c) (by omega)]
    refine br_c (fun a y ey => ?_) (fun a => ⟨vp_in_nI (by omega) (by decide), br_c (fun b y ey => ?_) (fun b => h1 ⟨i, hi, a, b⟩)⟩)
    · rw [ey, nI_1]; exact ih (fun z => z.1 a)
    · rw [ey, nI_1]; exact ih (fun z => z.2 b)
theorem rt_xmust (hQ : rt_QL L Q) (hR : rt_RR T R) {s : Nat} (hs : s < 60) {post : Int32 → Prop} (h1 : (∃ p, p < 120 ∧ rt_tg T R L Q p = some s ∧ Q (rt_c p) = 0) → post 1) (h0 : (∀ p, p < 120 → ¬ (rt_tg T R L Q p = some s ∧ Q (rt_c p) = 0)) → post 0) : wpX_mustKeepKey post (op, mk, sb, sbs, T, V, R, L, Q, kT, kV, kR) (nI s) := by
  unfold wpX_mustKeepKey; dsimp only
  refine rt_loopS (fun n i => wX_mustKeepKey_2 post (nI s) op mk sb sbs T V R L Q kT kV kR n (nI i)) (fun p => rt_tg T R L Q p = some s ∧ Q (rt_c p) = 0) 120 (fun hn n => br_t (nI_le (a := 120) (b := 120) (by decide) (by decide)) (h0 hn)) (fun n i hi hn ih => br_f (nI_ge (b := 120) hi (by decide)) (rt_xtg hQ hR hi (fun e => br_f (fun z => rt_nI_m1 (by omega) z.symm) (fun y ey => ?_)) (fun t ht e => br_c (fun a => rt_xrule hi (br_c (fun b => h1 ⟨i, hi, ?_, b⟩) (fun b y ey => ?_))) (fun a y ey => ?_))))
  · rw [ey, nI_1]; exact ih (fun z => by rw [e] at z; cases z.1)
  · rw [e, (nI_eq (by omega) (by omega)).mp a]
  · rw [ey, nI_1]; exact ih (fun z => b z.2)
  · rw [ey, nI_1]; exact ih (fun z => a (by have := z.1; rw [e] at this; cases this; rfl))
theorem rt_yheld (hQ : rt_QL L Q) (hR : rt_RR T R) {s : Nat} (hs : s < 60) (hT : ¬ T s = 0) {post : Int32 → Prop} (h1 : (∃ p, p < 120 ∧ rt_tg T R L Q p = some s ∧ Q (rt_c p) = 0) → post 1) (h0 : (∀ p, p < 120 → ¬ (rt_tg T R L Q p = some s ∧ Q (rt_c p) = 0)) → post 0) : wpY_isHeld post (op, mk, sb, L, Q, T, R, V, kT, kR, kV, g) (nI s) := by
  unfold wpY_isHeld; dsimp only
  refine loop_0 (fun n i c => wY_isHeld_4 post (nI s) op mk sb L Q T R V kT kR kV g n c (nI i)) (fun i c => (c = 0 ∧ ∀ p, p < i → ¬ (rt_tg T R L Q p = some s ∧ Q (rt_c p) = 0)) ∨ (c = 1 ∧ ∃ p, p < 120 ∧ rt_tg T R L Q p = some s ∧ Q (rt_c p) = 0)) 120 0 (Or.inl ⟨rfl, fun p hp => absurd hp (Nat.not_lt_zero p)⟩) (fun n c hc => br_t (nI_le (a := 120) (b := 120) (by decide) (by decide)) ?_) (fun n i c hi hc ih => br_f (nI_ge (b := 120) hi (by decide)) ?_)
  · rcases hc with ⟨rfl, h⟩ | ⟨rfl, h⟩
    · exact ⟨congrArg Value.int (by decide : (0 : Int32) &&& 1 = 0), h0 h⟩
    · exact ⟨congrArg Value.int (by decide : (1 : Int32) &&& 1 = 1), h1 h⟩
  · have step : ¬ (rt_tg T R L Q i = some s ∧ Q (rt_c i) = 0) → (∀ p, p < i → ¬ (rt_tg T R L Q p = some s ∧ Q (rt_c p) = 0)) → ∀ p, p < i + 1 → ¬ (rt_tg T R L Q p = some s ∧ Q (rt_c p) = 0) := fun a b => lt_s b a
    rcases hc with ⟨rfl, h⟩ | ⟨rfl, h⟩
    · refine rt_ytg hQ hR hi (fun e => br_t rfl (br_f (fun z => rt_nI_m1 (by omega) z.symm) (fun y ey => ?_))) (fun t ht e d => br_t rfl (br_c (fun a => rt_yrule hi (br_c (fun b y ey => ?_) (fun b y ey => ?_))) (fun a y ey => ?_)))
      · rw [ey, nI_1]
        refine ih 0 (Or.inl ⟨rfl, step (fun z => ?_) h⟩)
        rcases e with e | ⟨t, e, d⟩
        · rw [e] at z; cases z.1
        · have z1 := z.1; rw [e] at z1; cases z1; exact hT d
      · rw [ey, nI_1]
        exact ih 1 (Or.inr ⟨rfl, i, hi, by rw [e, (nI_eq (by omega) (by omega)).mp a], b⟩)
      · rw [ey, nI_1]; exact ih 0 (Or.inl ⟨rfl, step (fun z => b z.2) h⟩)
      · rw [ey, nI_1]; exact ih 0 (Or.inl ⟨rfl, step (fun z => a (by have := z.1; rw [e] at this; cases this; rfl)) h⟩)
    · exact rt_ytg hQ hR hi (fun e => br_f (by decide) (fun y ey => by rw [ey, nI_1]; exact ih 1 (Or.inr ⟨rfl, h⟩))) (fun t ht e d => br_f (by decide) (fun y ey => by rw [ey, nI_1]; exact ih 1 (Or.inr ⟨rfl, h⟩)))
end
