/-! pure picture: cells, targets, counts, sound bits -/
def rt_c (p : Nat) : Nat := p / 40 * 2 + p % 2
theorem rt_c6 {p : Nat} (h : p < 120) : rt_c p < 6 := by unfold rt_c; omega
def rt_tg (T R L Q : Nat → Int32) (p : Nat) : Option Nat :=
  if T (p / 2) = 0 ∨ Q (rt_c p) = -1 ∨ R p = -1 then none else some (20 * (L (rt_c p)).toNatClampNeg + (R p).toNatClampNeg)
def rt_dg (T R L Q : Nat → Int32) (p : Nat) : Bool := match rt_tg T R L Q p with
  | none => false
  | some t => decide (T t = 0)
def rt_cnt (f : Nat → Bool) : Nat → Nat
  | 0 => 0
  | n + 1 => rt_cnt f n + (if f n = true then 1 else 0)
theorem rt_cnt_le (f : Nat → Bool) : ∀ n, rt_cnt f n ≤ n
  | 0 => Nat.le_refl 0
  | n + 1 => by
    have := rt_cnt_le f n
    show rt_cnt f n + (if f n = true then 1 else 0) ≤ n + 1
    split <;> omega
theorem rt_cnt_t {f : Nat → Bool} {n : Nat} (h : f n = true) : rt_cnt f (n + 1) = rt_cnt f n + 1 := by
  show rt_cnt f n + (if f n = true then 1 else 0) = _
  rw [if_pos h]
theorem rt_cnt_f {f : Nat → Bool} {n : Nat} (h : ¬ f n = true) : rt_cnt f (n + 1) = rt_cnt f n := by
  show rt_cnt f n + (if f n = true then 1 else 0) = _
  rw [if_neg h, Nat.add_zero]
theorem rt_cnt_congr {f h : Nat → Bool} : ∀ n, (∀ i, i < n → f i = h i) → rt_cnt f n = rt_cnt h n
  | 0, _ => rfl
  | n + 1, e => by
    show rt_cnt f n + (if f n = true then 1 else 0) = rt_cnt h n + (if h n = true then 1 else 0)
    rw [rt_cnt_congr n (fun i hi => e i (by omega)), e n (by omega)]
theorem rt_cnt_mono {f h : Nat → Bool} : ∀ n, (∀ i, i < n → f i = true → h i = true) → rt_cnt f n ≤ rt_cnt h n
  | 0, _ => Nat.le_refl 0
  | n + 1, e => by
    have i1 := rt_cnt_mono n (fun i hi => e i (by omega))
    by_cases a : f n = true
    · rw [rt_cnt_t a, rt_cnt_t (e n (by omega) a)]; omega
    · rw [rt_cnt_f a]
      by_cases b : h n = true
      · rw [rt_cnt_t b]; omega
      · rw [rt_cnt_f b]; exact i1
theorem rt_cnt_lt {f h : Nat → Bool} : ∀ n, (∀ i, i < n → f i = true → h i = true) → (∃ i, i < n ∧ ¬ f i = true ∧ h i = true) → rt_cnt f n < rt_cnt h n
  | 0, _, ⟨i, hi, _⟩ => absurd hi (Nat.not_lt_zero i)
  | n + 1, e, ⟨i, hi, a, b⟩ => by
    by_cases c : i = n
    · subst c
      rw [rt_cnt_f a, rt_cnt_t b]
      have := rt_cnt_mono i (fun j hj => e j (by omega))
      omega
    · have i1 := rt_cnt_lt n (fun i hi => e i (by omega)) ⟨i, by omega, a, b⟩
      by_cases x : f n = true
      · rw [rt_cnt_t x, rt_cnt_t (e n (by omega) x)]; omega
      · rw [rt_cnt_f x]
        by_cases y : h n = true
        · rw [rt_cnt_t y]; omega
        · rw [rt_cnt_f y]; exact i1
/-- one place set: from false to true -/
theorem rt_cnt_set {f h : Nat → Bool} {a : Nat} (ha : ¬ f a = true) (hb : h a = true) : ∀ n, (∀ i, i < n → i ≠ a → h i = f i) → rt_cnt h n = rt_cnt f n + (if a < n then 1 else 0)
  | 0, _ => rfl
  | n + 1, e => by
    have i1 := rt_cnt_set ha hb n (fun i hi => e i (by omega))
    by_cases c : n = a
    · subst c
      rw [rt_cnt_t hb, rt_cnt_f ha, i1, if_neg (by omega), if_pos (by omega)]
    · have q := e n (by omega) c
      by_cases x : f n = true
      · rw [rt_cnt_t x, rt_cnt_t (q.trans x), i1]
        by_cases y : a < n
        · rw [if_pos y, if_pos (by omega)]
        · rw [if_neg y, if_neg (by omega)]
      · rw [rt_cnt_f x, rt_cnt_f (by rw [q]; exact x), i1]
        by_cases y : a < n
        · rw [if_pos y, if_pos (by omega)]
        · rw [if_neg y, if_neg (by omega)]
/-- what the relation asks of rules, links, rows and references -/
def rt_QL (L Q : Nat → Int32) : Prop := ∀ c, c < 6 → (Q c = -1 ∨ Q c = 0 ∨ Q c = 1 ∨ Q c = 2 ∨ Q c = 3) ∧ ∃ t, t < 3 ∧ L c = nI t
def rt_RR (T R : Nat → Int32) : Prop := ∀ p, p < 120 → ¬ T (p / 2) = 0 → R p = -1 ∨ ∃ r, r < 20 ∧ R p = nI r
def rt_TT (T : Nat → Int32) : Prop := ∀ s, s < 60 → T s = 0 ∨ T s = 1
def rt_b (T : Nat → Int32) (j : Nat) : Bool := decide (¬ T j = 0)
def rt_ct (T : Nat → Int32) (t : Nat) : Nat := rt_cnt (fun k => rt_b T (20 * t + k)) 20
def rt_OK (T RX RY : Nat → Int32) : Prop := rt_TT T ∧ (∀ p, p < 120 → ¬ T (p / 2) = 0 → RX p = RY p ∧ (RX p = -1 ∨ ∃ r, r < 20 ∧ RX p = nI r)) ∧ ∀ t, t < 3 → rt_ct T t ≤ 12
theorem rt_OKx {T RX RY : Nat → Int32} (h : rt_OK T RX RY) : rt_RR T RX := fun p hp ht => (h.2.1 p hp ht).2
theorem rt_OKy {T RX RY : Nat → Int32} (h : rt_OK T RX RY) : rt_RR T RY := fun p hp ht => (h.2.1 p hp ht).1 ▸ (h.2.1 p hp ht).2
theorem rt_OKc {T RX RY T' RX' RY' : Nat → Int32} (h : rt_OK T RX RY) (hT : ∀ s, s < 60 → T' s = T s) (hX : ∀ p, p < 120 → RX' p = RX p) (hY : ∀ p, p < 120 → RY' p = RY p) : rt_OK T' RX' RY' := by
  refine ⟨fun s hs => by rw [hT s hs]; exact h.1 s hs, fun p hp ht => ?_, fun t ht => ?_⟩
  · rw [hT _ (by omega)] at ht
    rw [hX p hp, hY p hp]; exact h.2.1 p hp ht
  · have : rt_ct T' t = rt_ct T t := rt_cnt_congr 20 (fun i hi => by unfold rt_b; rw [hT _ (by omega)])
    rw [this]; exact h.2.2 t ht
theorem rt_b_t {T : Nat → Int32} {j : Nat} : rt_b T j = true ↔ ¬ T j = 0 := decide_eq_true_iff
theorem rt_Q0 {L Q : Nat → Int32} (h : rt_QL L Q) {c : Nat} (hc : c < 6) : Q c < 0 ↔ Q c = -1 := by
  rcases (h c hc).1 with e | e | e | e | e <;> rw [e] <;> decide
theorem rt_Q0' {L Q : Nat → Int32} (h : rt_QL L Q) {c : Nat} (hc : c < 6) : 0 ≤ Q c ↔ ¬ Q c = -1 := by
  rcases (h c hc).1 with e | e | e | e | e <;> rw [e] <;> decide
theorem rt_Q3 {L Q : Nat → Int32} (h : rt_QL L Q) {c : Nat} (hc : c < 6) : Q c < 3 ↔ ¬ Q c = 3 := by
  rcases (h c hc).1 with e | e | e | e | e <;> rw [e] <;> decide
theorem rt_nI_m1 {r : Nat} (h : r < 2 ^ 31) : ¬ nI r = -1 := by
  intro e
  have := nI_toInt h
  rw [e, show ((-1 : Int32)).toInt = -1 from by decide] at this
  omega
theorem rt_R0 {x : Int32} (h : x = -1 ∨ ∃ r, r < 20 ∧ x = nI r) : x < 0 ↔ x = -1 := by
  rcases h with e | ⟨r, hr, e⟩
  · rw [e]; decide
  · rw [e]; exact ⟨fun z => absurd z (nI_pos (by omega)), fun z => absurd z (rt_nI_m1 (by omega))⟩
theorem rt_R0' {x : Int32} (h : x = -1 ∨ ∃ r, r < 20 ∧ x = nI r) : 0 ≤ x ↔ ¬ x = -1 := by
  rcases h with e | ⟨r, hr, e⟩
  · rw [e]; decide
  · rw [e]; exact ⟨fun _ => rt_nI_m1 (by omega), fun _ => nI_pos' (by omega)⟩
theorem rt_tgc {T R R' L Q : Nat → Int32} {p : Nat} (h : ¬ T (p / 2) = 0 → R p = R' p) : rt_tg T R L Q p = rt_tg T R' L Q p := by
  unfold rt_tg
  by_cases t : T (p / 2) = 0
  · rw [if_pos (Or.inl t), if_pos (Or.inl t)]
  · rw [h t]
theorem rt_tgE {T R L Q : Nat → Int32} (hQ : rt_QL L Q) (hR : rt_RR T R) {p : Nat} (hp : p < 120) (hT : ¬ T (p / 2) = 0) (hq : ¬ Q (rt_c p) = -1) (hr : ¬ R p = -1) :
    ∃ l r, l < 3 ∧ r < 20 ∧ L (rt_c p) = nI l ∧ R p = nI r ∧ rt_tg T R L Q p = some (20 * l + r) := by
  obtain ⟨l, hl, el⟩ := (hQ _ (rt_c6 hp)).2
  rcases hR p hp hT with e | ⟨r, h20, er⟩
  · exact absurd e hr
  · refine ⟨l, r, hl, h20, el, er, ?_⟩
    unfold rt_tg
    rw [if_neg (by rintro (a | a | a) <;> contradiction), el, er, nI_clamp (by omega), nI_clamp (by omega)]
theorem rt_tgN {T R L Q : Nat → Int32} {p : Nat} (h : T (p / 2) = 0 ∨ Q (rt_c p) = -1 ∨ R p = -1) : rt_tg T R L Q p = none := by
  unfold rt_tg; rw [if_pos h]
theorem rt_tgS {T R L Q : Nat → Int32} {p t : Nat} (h : rt_tg T R L Q p = some t) : ¬ T (p / 2) = 0 ∧ ¬ Q (rt_c p) = -1 ∧ ¬ R p = -1 := by
  refine ⟨fun z => ?_, fun z => ?_, fun z => ?_⟩
  · rw [rt_tgN (Or.inl z)] at h; cases h
  · rw [rt_tgN (Or.inr (Or.inl z))] at h; cases h
  · rw [rt_tgN (Or.inr (Or.inr z))] at h; cases h
theorem rt_tg60 {T R L Q : Nat → Int32} (hQ : rt_QL L Q) (hR : rt_RR T R) {p t : Nat} (hp : p < 120) (h : rt_tg T R L Q p = some t) : t < 60 := by
  obtain ⟨a, b, c⟩ := rt_tgS h
  obtain ⟨l, r, hl, hr, _, _, e⟩ := rt_tgE hQ hR hp a b c
  rw [h] at e; cases e; omega
theorem rt_dgc {T R R' L Q : Nat → Int32} {p : Nat} (h : ¬ T (p / 2) = 0 → R p = R' p) : rt_dg T R L Q p = rt_dg T R' L Q p := by
  unfold rt_dg; rw [rt_tgc h]
theorem rt_dgT {T R L Q : Nat → Int32} {p : Nat} : rt_dg T R L Q p = true ↔ ∃ t, rt_tg T R L Q p = some t ∧ T t = 0 := by
  unfold rt_dg
  cases e : rt_tg T R L Q p with
  | none => exact ⟨fun z => (nomatch z), fun ⟨t, a, _⟩ => (nomatch a)⟩
  | some t => exact ⟨fun z => ⟨t, rfl, decide_eq_true_iff.mp z⟩, fun ⟨t', a, b⟩ => by cases a; exact decide_eq_true_iff.mpr b⟩
/-! numbers as the walks print them -/
theorem rt_n2 {p : Nat} (hp : p < 2 ^ 31) : nI p / 2 = nI (p / 2) := pk_div (d := 2) hp (by decide) (by decide)
theorem rt_lk {p : Nat} (hp : p < 2 ^ 31) : nI p / 40 * 2 + (nI p - nI p / 2 * 2) = nI (rt_c p) := by
  have e1 : nI p / 40 = nI (p / 40) := pk_div (d := 40) hp (by decide) (by decide)
  have e2 : nI p - nI p / 2 * 2 = nI (p % 2) := pk_rem (d := 2) hp (by decide) (by decide)
  rw [e1, e2, show nI (p / 40) * 2 = nI (p / 40 * 2) from pk_mul _ 2, nI_add]; rfl
theorem rt_20a (t k : Nat) : nI t * 20 + nI k = nI (20 * t + k) := by
  rw [show nI t * 20 = nI (t * 20) from pk_mul _ 20, nI_add, Nat.mul_comm]
theorem rt_20b (t k : Nat) : 20 * nI t + nI k = nI (20 * t + k) := by
  rw [show 20 * nI t = nI (20 * t) from pk_mul 20 _, nI_add]
theorem rt_2a (s c : Nat) : nI s * 2 + nI c = nI (2 * s + c) := by
  rw [show nI s * 2 = nI (s * 2) from pk_mul _ 2, nI_add, Nat.mul_comm]
theorem rt_2b (s c : Nat) : 2 * nI s + nI c = nI (2 * s + c) := by
  rw [show 2 * nI s = nI (2 * s) from pk_mul 2 _, nI_add]
theorem rt_40 (t k c : Nat) : 40 * nI t + 2 * nI k + nI c = nI (2 * (20 * t + k) + c) := by
  rw [show 40 * nI t = nI (40 * t) from pk_mul 40 _, show 2 * nI k = nI (2 * k) from pk_mul 2 _, nI_add, nI_add]
  exact congrArg nI (by omega)
theorem rt_60a (t k : Nat) : nI t * 60 + nI k = nI (60 * t + k) := by
  rw [show nI t * 60 = nI (t * 60) from pk_mul _ 60, nI_add, Nat.mul_comm]
theorem rt_60b (t k : Nat) : 60 * nI t + nI k = nI (60 * t + k) := by
  rw [show 60 * nI t = nI (60 * t) from pk_mul 60 _, nI_add]
theorem rt_120a (t k : Nat) : nI t * 120 + nI k = nI (120 * t + k) := by
  rw [show nI t * 120 = nI (t * 120) from pk_mul _ 120, nI_add, Nat.mul_comm]
theorem rt_120b (t k : Nat) : 120 * nI t + nI k = nI (120 * t + k) := by
  rw [show 120 * nI t = nI (120 * t) from pk_mul 120 _, nI_add]
theorem rt_e20 (t : Nat) : (nI t + 1) * 20 = nI (20 * t + 20) := by
  rw [nI_1, show nI (t + 1) * 20 = nI ((t + 1) * 20) from pk_mul _ 20]; exact congrArg nI (by omega)
theorem rt_nar0 : vp_nar .boolean 0 = 0 := by decide
theorem rt_nar1 : vp_nar .boolean 1 = 1 := by decide
theorem rt_nar {x : Int32} (h : x = 0 ∨ x = 1) : vp_nar .boolean x = x := by
  rcases h with e | e <;> rw [e] <;> decide
