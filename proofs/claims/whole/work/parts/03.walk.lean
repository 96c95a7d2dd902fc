/-! the small walks -/
section
variable {op mk sb sbs : Int32} {T V R L Q kT kV kR g RX RY kTX kTY kVX kVY kRX kRY : Nat → Int32}
theorem rt_ge {x : Int32} {n : Nat} (hn : n + 1 < 2 ^ 31) (h : nI (n + 1) ≤ x) : ¬ x < 0 ∧ nI n < x ∧ ¬ x ≤ nI n := by
  rw [Int32.le_iff_toInt_le, nI_toInt hn] at h
  have h0 : (0 : Int32).toInt = 0 := by decide
  refine ⟨fun z => ?_, ?_, fun z => ?_⟩
  · rw [Int32.lt_iff_toInt_lt, h0] at z; omega
  · rw [Int32.lt_iff_toInt_lt, nI_toInt (by omega)]; omega
  · rw [Int32.le_iff_toInt_le, nI_toInt (by omega)] at z; omega
theorem rt_table (x : Int32) : ((∀ post : Int32 → Prop, post 0 → wpX_isTable post x) ∧ ∀ post : Int32 → Prop, post 0 → wpY_isTable post (op, mk, sb, L, Q, T, RY, V, kTY, kRY, kVY, g) x) ∨ ∃ t, t < 3 ∧ x = nI t ∧ (∀ post : Int32 → Prop, post 1 → wpX_isTable post x) ∧ ∀ post : Int32 → Prop, post 1 → wpY_isTable post (op, mk, sb, L, Q, T, RY, V, kTY, kRY, kVY, g) x := by
  rcases pk_ix x (n := 3) (by decide) with h | h | ⟨t, ht, rfl⟩
  · exact Or.inl ⟨fun post p => br_t h p, fun post p => br_t h p⟩
  · obtain ⟨n0, n1, _⟩ := rt_ge (n := 2) (by decide) h
    exact Or.inl ⟨fun post p => br_f n0 (br_t h p), fun post p => br_f n0 (br_t n1 p)⟩
  · exact Or.inr ⟨t, ht, rfl, fun post p => br_f (nI_pos (by omega)) (br_f (nI_ge (b := 3) ht (by decide)) p), fun post p => br_f (nI_pos (by omega)) (br_f (nI_nlt (a := 2) (by omega) (by decide)) p)⟩
theorem rt_key (x : Int32) : ((∀ post : Int32 → Prop, post 0 → wpX_isKey post x) ∧ ∀ post : Int32 → Prop, post 0 → wpY_isKey post (op, mk, sb, L, Q, T, RY, V, kTY, kRY, kVY, g) x) ∨ ∃ t, t < 20 ∧ x = nI t ∧ (∀ post : Int32 → Prop, post 1 → wpX_isKey post x) ∧ ∀ post : Int32 → Prop, post 1 → wpY_isKey post (op, mk, sb, L, Q, T, RY, V, kTY, kRY, kVY, g) x := by
  rcases pk_ix x (n := 20) (by decide) with h | h | ⟨t, ht, rfl⟩
  · exact Or.inl ⟨fun post p => br_t h p, fun post p => br_t h p⟩
  · obtain ⟨n0, n1, _⟩ := rt_ge (n := 19) (by decide) h
    exact Or.inl ⟨fun post p => br_f n0 (br_t h p), fun post p => br_f n0 (br_t n1 p)⟩
  · exact Or.inr ⟨t, ht, rfl, fun post p => br_f (nI_pos (by omega)) (br_f (nI_ge (b := 20) ht (by decide)) p), fun post p => br_f (nI_pos (by omega)) (br_f (nI_nlt (a := 19) (by omega) (by decide)) p)⟩
theorem rt_col (x : Int32) : ((∀ post : Int32 → Prop, post 0 → wpX_isColumn post x) ∧ ∀ P A : Prop, P → ((x < 0 → P) ∧ (¬ x < 0 → ((x ≤ 1 → A) ∧ (¬ x ≤ 1 → P))))) ∨ ∃ t, t < 2 ∧ x = nI t ∧ (∀ post : Int32 → Prop, post 1 → wpX_isColumn post x) ∧ ∀ P A : Prop, A → ((x < 0 → P) ∧ (¬ x < 0 → ((x ≤ 1 → A) ∧ (¬ x ≤ 1 → P)))) := by
  rcases pk_ix x (n := 2) (by decide) with h | h | ⟨t, ht, rfl⟩
  · exact Or.inl ⟨fun post p => br_t h p, fun P A p => br_t h p⟩
  · obtain ⟨n0, _, n1⟩ := rt_ge (n := 1) (by decide) h
    exact Or.inl ⟨fun post p => br_f n0 (br_t h p), fun P A p => br_f n0 (br_f n1 p)⟩
  · exact Or.inr ⟨t, ht, rfl, fun post p => br_f (nI_pos (by omega)) (br_f (nI_ge (b := 2) ht (by decide)) p), fun P A p => br_f (nI_pos (by omega)) (br_t (nI_le (b := 1) (by omega) (by decide)) p)⟩
theorem rt_xrow {t k : Nat} (ht : t < 3) (hk : k < 20) {post : Int32 → Prop} (h0 : T (20 * t + k) = 0 → post 0) (h1 : ¬ T (20 * t + k) = 0 → post 1) : wpX_hasRow post (op, mk, sb, sbs, T, V, R, L, Q, kT, kV, kR) (nI t) (nI k) := by
  unfold wpX_hasRow; dsimp only
  refine br_f (nI_pos (by omega)) (br_f (nI_ge (b := 20) hk (by decide)) (br_f (by decide) ?_))
  rw [rt_20a, nI_clamp (n := 20 * t + k) (by omega)]
  exact ⟨vp_in_nI (by omega) (by decide), br_c h0 h1⟩
theorem rt_yrow {t k : Nat} (ht : t < 3) (hk : k < 20) {post : Int32 → Prop} (h0 : T (20 * t + k) = 0 → post 0) (h1 : ¬ T (20 * t + k) = 0 → post 1) : wpY_isRow post (op, mk, sb, L, Q, T, R, V, kT, kR, kV, g) (nI t) (nI k) := by
  unfold wpY_isRow; dsimp only
  refine br_f (nI_pos (by omega)) (br_f (nI_nlt (a := 19) (by omega) (by decide)) (br_f (by decide) ?_))
  rw [rt_20b, nI_clamp (n := 20 * t + k) (by omega)]
  exact ⟨vp_in_nI (by omega) (by decide), br_c h0 h1⟩
/-- a row or none, both sides -/
theorem rt_row {t : Nat} (ht : t < 3) (x : Int32) : ((∀ post : Int32 → Prop, post 0 → wpX_hasRow post (op, mk, sb, sbs, T, V, RX, L, Q, kTX, kVX, kRX) (nI t) x) ∧ ∀ post : Int32 → Prop, post 0 → wpY_isRow post (op, mk, sb, L, Q, T, RY, V, kTY, kRY, kVY, g) (nI t) x) ∨ ∃ k, k < 20 ∧ x = nI k ∧ ¬ T (20 * t + k) = 0 ∧ (∀ post : Int32 → Prop, post 1 → wpX_hasRow post (op, mk, sb, sbs, T, V, RX, L, Q, kTX, kVX, kRX) (nI t) x) ∧ ∀ post : Int32 → Prop, post 1 → wpY_isRow post (op, mk, sb, L, Q, T, RY, V, kTY, kRY, kVY, g) (nI t) x := by
  rcases rt_key (op := op) (mk := mk) (sb := sb) (T := T) (V := V) (L := L) (Q := Q) (g := g) (RY := RY) (kTY := kTY) (kVY := kVY) (kRY := kRY) x with ⟨a, b⟩ | ⟨k, hk, rfl, a, b⟩
  · left
    constructor
    · intro post p; unfold wpX_hasRow; dsimp only; exact a _ (br_t rfl p)
    · intro post p; unfold wpY_isRow; dsimp only; exact b _ (br_t rfl p)
  · by_cases z : T (20 * t + k) = 0
    · exact Or.inl ⟨fun post p => rt_xrow ht hk (fun _ => p) (fun n => absurd z n), fun post p => rt_yrow ht hk (fun _ => p) (fun n => absurd z n)⟩
    · exact Or.inr ⟨k, hk, rfl, z, fun post p => rt_xrow ht hk (fun n => absurd n z) (fun _ => p), fun post p => rt_yrow ht hk (fun n => absurd n z) (fun _ => p)⟩
theorem rt_xlk {post : Int32 → Prop} {p : Nat} (hp : p < 120) (h : post (nI (rt_c p))) : wpX_linkOf post (nI p) := by
  refine ⟨by decide, fun y ey => ⟨by decide, ?_⟩⟩
  rw [ey, rt_lk (p := p) (by omega)]
  exact h
theorem rt_xrule {post : Int32 → Prop} {p : Nat} (hp : p < 120) (h : post (Q (rt_c p))) : wpX_ruleOf post (op, mk, sb, sbs, T, V, R, L, Q, kT, kV, kR) (nI p) := by
  have c6 := rt_c6 hp
  unfold wpX_ruleOf; dsimp only
  refine rt_xlk hp ⟨vp_in_nI c6 (by decide), ?_⟩
  rw [nI_clamp (n := rt_c p) (by omega)]
  exact h
theorem rt_yrule {post : Int32 → Prop} {p : Nat} (hp : p < 120) (h : post (Q (rt_c p))) : wpY_ruleOf post (op, mk, sb, L, Q, T, R, V, kT, kR, kV, g) (nI p) := by
  have c6 := rt_c6 hp
  unfold wpY_ruleOf; dsimp only
  rw [rt_lk (p := p) (by omega), nI_clamp (n := rt_c p) (by omega)]
  exact ⟨by decide, by decide, vp_in_nI c6 (by decide), h⟩
theorem rt_xtg (hQ : rt_QL L Q) (hR : rt_RR T R) {p : Nat} (hp : p < 120) {post : Int32 → Prop} (h0 : rt_tg T R L Q p = none → post (-1)) (h1 : ∀ t, t < 60 → rt_tg T R L Q p = some t → post (nI t)) : wpX_targetOf post (op, mk, sb, sbs, T, V, R, L, Q, kT, kV, kR) (nI p) := by
  have c6 := rt_c6 hp
  unfold wpX_targetOf; dsimp only
  refine rt_xlk hp ?_
  rw [rt_n2 (p := p) (by omega), nI_clamp (n := p / 2) (by omega), nI_clamp (n := rt_c p) (by omega), nI_clamp (n := p) (by omega)]
  refine ⟨by decide, vp_in_nI (by omega) (by decide), br_c (fun a => h0 (rt_tgN (Or.inl a))) (fun a => ⟨vp_in_nI c6 (by decide), br_c (fun b => h0 (rt_tgN (Or.inr (Or.inl b)))) (fun b => ⟨vp_in_nI hp (by decide), br_c (fun c => h0 (rt_tgN (Or.inr (Or.inr c)))) (fun c => ⟨vp_in_nI c6 (by decide), vp_in_nI hp (by decide), ?_⟩)⟩)⟩)⟩
  obtain ⟨l, r, hl, hr, el, er, e⟩ := rt_tgE hQ hR hp a b c
  rw [el, er, rt_20a]; exact h1 _ (by omega) e
theorem rt_ytg (hQ : rt_QL L Q) (hR : rt_RR T R) {p : Nat} (hp : p < 120) {post : Int32 → Prop} (h0 : (rt_tg T R L Q p = none ∨ ∃ t, rt_tg T R L Q p = some t ∧ T t = 0) → post (-1)) (h1 : ∀ t, t < 60 → rt_tg T R L Q p = some t → ¬ T t = 0 → post (nI t)) : wpY_target post (op, mk, sb, L, Q, T, R, V, kT, kR, kV, g) (nI p) := by
  have c6 := rt_c6 hp
  unfold wpY_target; dsimp only
  refine ⟨by decide, by decide, fun y ey => ?_⟩
  rw [rt_lk (p := p) (by omega)] at ey
  subst ey
  rw [rt_n2 (p := p) (by omega), nI_clamp (n := p / 2) (by omega), nI_clamp (n := rt_c p) (by omega), nI_clamp (n := p) (by omega)]
  refine ⟨by decide, vp_in_nI (by omega) (by decide), br_c (fun a => h0 (Or.inl (rt_tgN (Or.inl a)))) (fun a => ⟨vp_in_nI c6 (by decide), br_c (fun b => h0 (Or.inl (rt_tgN (Or.inr (Or.inl ((rt_Q0 hQ c6).mp b)))))) (fun b => ⟨vp_in_nI hp (by decide), br_c (fun c => ⟨vp_in_nI c6 (by decide), vp_in_nI hp (by decide), fun y ey => ?_⟩) (fun c => h0 (Or.inl (rt_tgN (Or.inr (Or.inr (Classical.not_not.mp (fun z => c ((rt_R0' (hR p hp a)).mpr z))))))))⟩)⟩)⟩
  obtain ⟨l, r, hl, hr, el, er, e⟩ := rt_tgE hQ hR hp a (fun z => b ((rt_Q0 hQ c6).mpr z)) ((rt_R0' (hR p hp a)).mp c)
  rw [el, er, rt_20b] at ey
  subst ey
  rw [nI_clamp (n := 20 * l + r) (by omega)]
  exact ⟨vp_in_nI (by omega) (by decide), br_c (fun d => h0 (Or.inr ⟨_, e, d⟩)) (fun d => h1 _ (by omega) e d)⟩
theorem rt_xdg (hQ : rt_QL L Q) (hR : rt_RR T R) {p : Nat} (hp : p < 120) {post : Int32 → Prop} (h0 : ¬ rt_dg T R L Q p = true → post 0) (h1 : rt_dg T R L Q p = true → post 1) : wpX_isDangling post (op, mk, sb, sbs, T, V, R, L, Q, kT, kV, kR) (nI p) := by
  unfold wpX_isDangling; dsimp only
  refine rt_xtg hQ hR hp (fun e => br_t rfl (h0 ?_)) (fun t ht e => br_f (rt_nI_m1 (by omega)) ⟨vp_in_nI ht (by decide), ?_⟩)
  · intro z
    obtain ⟨t, a, _⟩ := rt_dgT.mp z
    rw [e] at a; cases a
  · rw [nI_clamp (n := t) (by omega)]
    refine br_c (fun a => h1 (rt_dgT.mpr ⟨t, e, a⟩)) (fun a => h0 (fun z => ?_))
    obtain ⟨t', b, c⟩ := rt_dgT.mp z
    rw [e] at b; cases b; exact a c
theorem rt_ydg (hQ : rt_QL L Q) (hR : rt_RR T R) {p : Nat} (hp : p < 120) {post : Int32 → Prop} (h0 : ¬ rt_dg T R L Q p = true → post 0) (h1 : rt_dg T R L Q p = true → post 1) : wpY_dangles post (op, mk, sb, L, Q, T, R, V, kT, kR, kV, g) (nI p) := by
  have c6 := rt_c6 hp
  have hn : rt_tg T R L Q p = none → post 0 := fun e => h0 (fun z => by
    obtain ⟨t, a, _⟩ := rt_dgT.mp z
    rw [e] at a; cases a)
  unfold wpY_dangles; dsimp only
  rw [rt_n2 (p := p) (by omega), nI_clamp (n := p / 2) (by omega), nI_clamp (n := p) (by omega)]
  refine ⟨by decide, vp_in_nI (by omega) (by decide), br_c (fun a => hn (rt_tgN (Or.inl a))) (fun a => rt_yrule hp (br_c (fun b => hn (rt_tgN (Or.inr (Or.inl ((rt_Q0 hQ c6).mp b))))) (fun b => ⟨vp_in_nI hp (by decide), br_c (fun c => hn (rt_tgN (Or.inr (Or.inr ((rt_R0 (hR p hp a)).mp c))))) (fun c => ?_)⟩)))⟩
  obtain ⟨l, r, hl, hr, el, er, e⟩ := rt_tgE hQ hR hp a (fun z => b ((rt_Q0 hQ c6).mpr z)) (fun z => c ((rt_R0 (hR p hp a)).mpr z))
  refine rt_ytg hQ hR hp (fun d => br_f (by decide) (h1 (rt_dgT.mpr ?_))) (fun t ht e1 d => br_t (nI_pos' (by omega)) (h0 (fun z => ?_)))
  · rcases d with d | d
    · rw [d] at e; cases e
    · exact d
  · obtain ⟨t', x, y⟩ := rt_dgT.mp z
    rw [e1] at x; cases x; exact d y
def rt_bit (w : Int64) (j : Nat) : Bool := w.toBitVec.getLsbD j
theorem rt_xin {post : Int32 → Prop} {w : Int64} {s : Nat} (hs : s < 64) (h0 : ¬ rt_bit w s = true → post 0) (h1 : rt_bit w s = true → post 1) : wpX_isIn post w (nI s) := by
  have e := ts_bit (w := w) (s := ((nI s).toInt64.toUInt64 &&& Int64.toUInt64 63)) hs (by rw [wb_cu s hs]; exact Nat.mod_eq_of_lt (by omega))
  exact br_f (nI_pos (by omega)) (br_c (fun a => h0 (fun z => by have := e.mp a; unfold rt_bit at z; rw [this] at z; cases z)) (fun a => h1 (ts_nf (fun z => a (e.mpr z)))))
theorem rt_xinN {post : Int32 → Prop} {w : Int64} (h0 : post 0) : wpX_isIn post w (-1) := br_t (by decide) h0
end
