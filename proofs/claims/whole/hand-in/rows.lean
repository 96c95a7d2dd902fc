section
theorem pk_us {f : Nat → Int32} {k : Nat} {x : Int32} : upd f k x k = x := if_pos rfl
theorem pk_un {f : Nat → Int32} {k j : Nat} {x : Int32} (h : j ≠ k) : upd f k x j = f j := if_neg h
theorem pk_sub {a b : Nat} (h : b ≤ a) : nI a - nI b = nI (a - b) := by
  obtain ⟨c, rfl⟩ : ∃ c, a = c + b := ⟨a - b, by omega⟩
  rw [← nI_add, Int32.add_sub_cancel, Nat.add_sub_cancel]
theorem pk_m1 (n : Nat) : nI (n + 1) + (-1) = nI n := by
  rw [← nI_1, Int32.add_assoc, show (1 : Int32) + (-1) = 0 from rfl, Int32.add_zero]
theorem pk_mul (a b : Nat) : nI a * nI b = nI (a * b) := (Int32.ofNat_mul a b).symm
theorem pk_div {a d : Nat} (ha : a < 2 ^ 31) (h0 : 0 < d) (hd : d < 2 ^ 31) : nI a / nI d = nI (a / d) := by
  apply Int32.toInt_inj.mp
  rw [lg_idiv_nonneg (by rw [nI_toInt ha]; omega) (by rw [nI_toInt hd]; omega), nI_toInt ha, nI_toInt hd, nI_toInt (Nat.lt_of_le_of_lt (Nat.div_le_self a d) ha)]
  first | rfl | exact (Int.natCast_ediv _ _).symm
theorem pk_rem {a d : Nat} (ha : a < 2 ^ 31) (h0 : 0 < d) (hd : d < 2 ^ 31) : nI a - nI a / nI d * nI d = nI (a % d) := by
  rw [pk_div ha h0 hd, pk_mul, pk_sub (Nat.div_mul_le_self a d)]
  exact congrArg nI (by have := Nat.div_add_mod' a d; omega)
theorem pk_ix (x : Int32) {n : Nat} (hn : n < 2 ^ 31) : x < 0 ∨ nI n ≤ x ∨ ∃ j : Nat, j < n ∧ x = nI j := by
  by_cases h : x < 0
  · exact Or.inl h
  · obtain ⟨j, hj, rfl⟩ := nI_of h
    by_cases h2 : j < n
    · exact Or.inr (Or.inr ⟨j, h2, rfl⟩)
    · exact Or.inr (Or.inl (nI_le (by omega) hj))
theorem pk_le {x y : Int32} {A B : Prop} (a b : Nat) (f : a ≤ b → A) (g : b < a → B) (hx : x = nI a := by rfl) (hy : y = nI b := by rfl) (ha : a < 2 ^ 31 := by omega) (hb : b < 2 ^ 31 := by omega) : (x ≤ y → A) ∧ (¬ x ≤ y → B) := by
  subst hx hy
  rw [nI_leI ha hb]
  exact ⟨f, fun z => g (by omega)⟩
theorem pk_lt {x y : Int32} {A B : Prop} (a b : Nat) (f : a < b → A) (g : b ≤ a → B) (hx : x = nI a := by rfl) (hy : y = nI b := by rfl) (ha : a < 2 ^ 31 := by omega) (hb : b < 2 ^ 31 := by omega) : (x < y → A) ∧ (¬ x < y → B) := by
  subst hx hy
  rw [nI_ltI ha hb]
  exact ⟨f, fun z => g (by omega)⟩
theorem pk_eq {x y : Int32} {A B : Prop} (a b : Nat) (f : a = b → A) (g : a ≠ b → B) (hx : x = nI a := by rfl) (hy : y = nI b := by rfl) (ha : a < 2 ^ 31 := by omega) (hb : b < 2 ^ 31 := by omega) : (x = y → A) ∧ (¬ x = y → B) := by
  subst hx hy
  rw [nI_eq ha hb]
  exact ⟨f, g⟩
theorem pk_in {x : Int32} (n N : Nat) (h : n < N) (hx : x = nI n := by rfl) (hN : N < 2 ^ 31 := by omega) : vp_in x N := by
  subst hx
  exact vp_in_nI h hN
theorem pk_cl {x : Int32} (n : Nat) (hx : x = nI n := by rfl) (h : n < 2 ^ 31 := by omega) : x.toNatClampNeg = n := by
  subst hx
  exact nI_clamp h
theorem pk_loop {σ : Type} (W : Nat → Nat → σ → Prop) (I : Nat → σ → Prop) (e i0 : Nat) (s : σ) (hi : i0 ≤ e) (h0 : I i0 s) (hx : ∀ n s, I e s → W (n + 1) e s)
    (hs : ∀ n i s, i < e → I i s → (∀ s', I (i + 1) s' → W n (i + 1) s') → W (n + 1) i s) : ∃ n, W n i0 s :=
  ⟨e + 1, loop_i W I e hx hs (e + 1) i0 s hi (by omega) h0⟩
def bt (x : Int32) (i : Nat) : Bool := x.toBitVec.getLsbD i
theorem b_ext {x y : Int32} (h : ∀ i, i < 32 → bt x i = bt y i) : x = y := Int32.toBitVec_inj.mp (BitVec.eq_of_getLsbD_eq (fun i hi => h i hi))
theorem b_or (x y : Int32) (i : Nat) : bt (x ||| y) i = (bt x i || bt y i) := by unfold bt; rw [Int32.toBitVec_or, BitVec.getLsbD_or]
theorem b_and (x y : Int32) (i : Nat) : bt (x &&& y) i = (bt x i && bt y i) := by unfold bt; rw [Int32.toBitVec_and, BitVec.getLsbD_and]
theorem b_xor (x y : Int32) (i : Nat) : bt (x ^^^ y) i = (bt x i ^^ bt y i) := by unfold bt; rw [Int32.toBitVec_xor, BitVec.getLsbD_xor]
theorem b_big {x : Int32} {i : Nat} (h : 32 ≤ i) : bt x i = false := BitVec.getLsbD_of_ge _ _ h
theorem b_m1 : ∀ i, i < 32 → bt (-1) i = true := by decide +kernel
theorem b_0 (i : Nat) : bt 0 i = false := BitVec.getLsbD_zero
theorem s_l : ∀ n, n < 32 → ((nI n &&& 31).toBitVec.smod 32).toNat = n := by decide +kernel
theorem b_shl (n : Nat) (hn : n < 32) (x : Int32) {i : Nat} (hi : i < 32) : bt (x <<< (nI n &&& 31)) i = (decide (n ≤ i) && bt x (i - n)) := by
  unfold bt
  rw [Int32.toBitVec_shiftLeft]
  show (x.toBitVec <<< ((nI n &&& 31).toBitVec.smod 32).toNat).getLsbD i = _
  rw [s_l n hn, BitVec.getLsbD_shiftLeft]
  rcases Nat.lt_or_ge i n with h | h
  · simp [h, Nat.not_le.mpr h]
  · simp [hi, h, Nat.not_lt.mpr h]
theorem b_sshr (n : Nat) (hn : n < 32) (x : Int32) {i : Nat} (hi : i < 32) : bt (x >>> (nI n &&& 31)) i = if n + i < 32 then bt x (n + i) else bt x 31 := by
  unfold bt
  rw [Int32.toBitVec_shiftRight]
  show (x.toBitVec.sshiftRight ((nI n &&& 31).toBitVec.smod 32).toNat).getLsbD i = _
  rw [s_l n hn, BitVec.getLsbD_sshiftRight, BitVec.msb_eq_getLsbD_last]
  simp [hi]
theorem ts_nf {x : Bool} (h : ¬ x = false) : x = true := by cases x <;> first | rfl | exact absurd rfl h
theorem ts_nt {x : Bool} (h : ¬ x = true) : x = false := by cases x <;> first | rfl | exact absurd rfl h
theorem ts_bit {w : Int64} {s : UInt64} {j : Nat} (hj : j < 64) (hs : s.toNat = j) : ((w.toUInt64 >>> s).toInt64 &&& 1) = 0 ↔ w.toBitVec.getLsbD j = false := by
  have e : (w.toUInt64 >>> s).toInt64.toBitVec = w.toBitVec >>> j := by
    apply BitVec.eq_of_toNat_eq
    show (w.toUInt64 >>> s).toNat = _
    rw [UInt64.toNat_shiftRight, hs, Nat.mod_eq_of_lt hj, BitVec.toNat_ushiftRight]
    rfl
  rw [← Int64.toBitVec_inj, Int64.toBitVec_and, e]
  show w.toBitVec >>> j &&& 1#64 = 0#64 ↔ _
  constructor
  · intro h
    have t := congrArg (fun x => x.getLsbD 0) h
    simpa using t
  · intro h
    apply BitVec.eq_of_getLsbD_eq
    intro i hi
    cases i with
    | zero => simp [h]
    | succ i => simp
theorem wb_c : ∀ k, k < 64 → ((nI k).toInt64 &&& 63) = lN k := by decide +kernel
theorem wb_cu : ∀ k, k < 64 → ((nI k).toInt64.toUInt64 &&& Int64.toUInt64 63) = UInt64.ofNat k := by decide +kernel
end
section
/-! pure picture: cells, targets, counts, sound bits -/
def rt_c (p : Nat) : Nat := p / 40 * 2 + p % 2
theorem rt_c6 {p : Nat} (h : p < 120) : rt_c p < 6 := by unfold rt_c; omega
def rt_tg (T R L Q : Nat → Int32) (p : Nat) : Option Nat :=
  if T (p / 2) = 0 ∨ Q (rt_c p) = -1 ∨ R p = -1 then none else some (20 * (L (rt_c p)).toNatClampNeg + (R p).toNatClampNeg)
def rt_dg (T R L Q : Nat → Int32) (p : Nat) : Bool := match rt_tg T R L Q p with
  | none => false
  | some t => decide (T t = 0)
def rt_cnt (f : Nat → Bool) : Nat → Nat
  | 0 => 0
  | n + 1 => rt_cnt f n + (if f n = true then 1 else 0)
theorem rt_cnt_le (f : Nat → Bool) : ∀ n, rt_cnt f n ≤ n
  | 0 => Nat.le_refl 0
  | n + 1 => by
    have := rt_cnt_le f n
    show rt_cnt f n + (if f n = true then 1 else 0) ≤ n + 1
    split <;> omega
theorem rt_cnt_t {f : Nat → Bool} {n : Nat} (h : f n = true) : rt_cnt f (n + 1) = rt_cnt f n + 1 := by
  show rt_cnt f n + (if f n = true then 1 else 0) = _
  rw [if_pos h]
theorem rt_cnt_f {f : Nat → Bool} {n : Nat} (h : ¬ f n = true) : rt_cnt f (n + 1) = rt_cnt f n := by
  show rt_cnt f n + (if f n = true then 1 else 0) = _
  rw [if_neg h, Nat.add_zero]
theorem rt_cnt_congr {f h : Nat → Bool} : ∀ n, (∀ i, i < n → f i = h i) → rt_cnt f n = rt_cnt h n
  | 0, _ => rfl
  | n + 1, e => by
    show rt_cnt f n + (if f n = true then 1 else 0) = rt_cnt h n + (if h n = true then 1 else 0)
    rw [rt_cnt_congr n (fun i hi => e i (by omega)), e n (by omega)]
theorem rt_cnt_mono {f h : Nat → Bool} : ∀ n, (∀ i, i < n → f i = true → h i = true) → rt_cnt f n ≤ rt_cnt h n
  | 0, _ => Nat.le_refl 0
  | n + 1, e => by
    have i1 := rt_cnt_mono n (fun i hi => e i (by omega))
    by_cases a : f n = true
    · rw [rt_cnt_t a, rt_cnt_t (e n (by omega) a)]; omega
    · rw [rt_cnt_f a]
      by_cases b : h n = true
      · rw [rt_cnt_t b]; omega
      · rw [rt_cnt_f b]; exact i1
theorem rt_cnt_lt {f h : Nat → Bool} : ∀ n, (∀ i, i < n → f i = true → h i = true) → (∃ i, i < n ∧ ¬ f i = true ∧ h i = true) → rt_cnt f n < rt_cnt h n
  | 0, _, ⟨i, hi, _⟩ => absurd hi (Nat.not_lt_zero i)
  | n + 1, e, ⟨i, hi, a, b⟩ => by
    by_cases c : i = n
    · subst c
      rw [rt_cnt_f a, rt_cnt_t b]
      have := rt_cnt_mono i (fun j hj => e j (by omega))
      omega
    · have i1 := rt_cnt_lt n (fun i hi => e i (by omega)) ⟨i, by omega, a, b⟩
      by_cases x : f n = true
      · rw [rt_cnt_t x, rt_cnt_t (e n (by omega) x)]; omega
      · rw [rt_cnt_f x]
        by_cases y : h n = true
        · rw [rt_cnt_t y]; omega
        · rw [rt_cnt_f y]; exact i1
/-- one place set: from false to true -/
theorem rt_cnt_set {f h : Nat → Bool} {a : Nat} (ha : ¬ f a = true) (hb : h a = true) : ∀ n, (∀ i, i < n → i ≠ a → h i = f i) → rt_cnt h n = rt_cnt f n + (if a < n then 1 else 0)
  | 0, _ => rfl
  | n + 1, e => by
    have i1 := rt_cnt_set ha hb n (fun i hi => e i (by omega))
    by_cases c : n = a
    · subst c
      rw [rt_cnt_t hb, rt_cnt_f ha, i1, if_neg (by omega), if_pos (by omega)]
    · have q := e n (by omega) c
      by_cases x : f n = true
      · rw [rt_cnt_t x, rt_cnt_t (q.trans x), i1]
        by_cases y : a < n
        · rw [if_pos y, if_pos (by omega)]
        · rw [if_neg y, if_neg (by omega)]
      · rw [rt_cnt_f x, rt_cnt_f (by rw [q]; exact x), i1]
        by_cases y : a < n
        · rw [if_pos y, if_pos (by omega)]
        · rw [if_neg y, if_neg (by omega)]
/-- what the relation asks of rules, links, rows and references -/
def rt_QL (L Q : Nat → Int32) : Prop := ∀ c, c < 6 → (Q c = -1 ∨ Q c = 0 ∨ Q c = 1 ∨ Q c = 2 ∨ Q c = 3) ∧ ∃ t, t < 3 ∧ L c = nI t
def rt_RR (T R : Nat → Int32) : Prop := ∀ p, p < 120 → ¬ T (p / 2) = 0 → R p = -1 ∨ ∃ r, r < 20 ∧ R p = nI r
def rt_TT (T : Nat → Int32) : Prop := ∀ s, s < 60 → T s = 0 ∨ T s = 1
def rt_b (T : Nat → Int32) (j : Nat) : Bool := decide (¬ T j = 0)
def rt_ct (T : Nat → Int32) (t : Nat) : Nat := rt_cnt (fun k => rt_b T (20 * t + k)) 20
def rt_OK (T RX RY : Nat → Int32) : Prop := rt_TT T ∧ (∀ p, p < 120 → ¬ T (p / 2) = 0 → RX p = RY p ∧ (RX p = -1 ∨ ∃ r, r < 20 ∧ RX p = nI r)) ∧ ∀ t, t < 3 → rt_ct T t ≤ 12
theorem rt_OKx {T RX RY : Nat → Int32} (h : rt_OK T RX RY) : rt_RR T RX := fun p hp ht => (h.2.1 p hp ht).2
theorem rt_OKy {T RX RY : Nat → Int32} (h : rt_OK T RX RY) : rt_RR T RY := fun p hp ht => (h.2.1 p hp ht).1 ▸ (h.2.1 p hp ht).2
theorem rt_OKc {T RX RY T' RX' RY' : Nat → Int32} (h : rt_OK T RX RY) (hT : ∀ s, s < 60 → T' s = T s) (hX : ∀ p, p < 120 → RX' p = RX p) (hY : ∀ p, p < 120 → RY' p = RY p) : rt_OK T' RX' RY' := by
  refine ⟨fun s hs => by rw [hT s hs]; exact h.1 s hs, fun p hp ht => ?_, fun t ht => ?_⟩
  · rw [hT _ (by omega)] at ht
    rw [hX p hp, hY p hp]; exact h.2.1 p hp ht
  · have : rt_ct T' t = rt_ct T t := rt_cnt_congr 20 (fun i hi => by unfold rt_b; rw [hT _ (by omega)])
    rw [this]; exact h.2.2 t ht
theorem rt_b_t {T : Nat → Int32} {j : Nat} : rt_b T j = true ↔ ¬ T j = 0 := decide_eq_true_iff
theorem rt_Q0 {L Q : Nat → Int32} (h : rt_QL L Q) {c : Nat} (hc : c < 6) : Q c < 0 ↔ Q c = -1 := by
  rcases (h c hc).1 with e | e | e | e | e <;> rw [e] <;> decide
theorem rt_Q0' {L Q : Nat → Int32} (h : rt_QL L Q) {c : Nat} (hc : c < 6) : 0 ≤ Q c ↔ ¬ Q c = -1 := by
  rcases (h c hc).1 with e | e | e | e | e <;> rw [e] <;> decide
theorem rt_Q3 {L Q : Nat → Int32} (h : rt_QL L Q) {c : Nat} (hc : c < 6) : Q c < 3 ↔ ¬ Q c = 3 := by
  rcases (h c hc).1 with e | e | e | e | e <;> rw [e] <;> decide
theorem rt_nI_m1 {r : Nat} (h : r < 2 ^ 31) : ¬ nI r = -1 := by
  intro e
  have := nI_toInt h
  rw [e, show ((-1 : Int32)).toInt = -1 from by decide] at this
  omega
theorem rt_R0 {x : Int32} (h : x = -1 ∨ ∃ r, r < 20 ∧ x = nI r) : x < 0 ↔ x = -1 := by
  rcases h with e | ⟨r, hr, e⟩
  · rw [e]; decide
  · rw [e]; exact ⟨fun z => absurd z (nI_pos (by omega)), fun z => absurd z (rt_nI_m1 (by omega))⟩
theorem rt_R0' {x : Int32} (h : x = -1 ∨ ∃ r, r < 20 ∧ x = nI r) : 0 ≤ x ↔ ¬ x = -1 := by
  rcases h with e | ⟨r, hr, e⟩
  · rw [e]; decide
  · rw [e]; exact ⟨fun _ => rt_nI_m1 (by omega), fun _ => nI_pos' (by omega)⟩
theorem rt_tgc {T R R' L Q : Nat → Int32} {p : Nat} (h : ¬ T (p / 2) = 0 → R p = R' p) : rt_tg T R L Q p = rt_tg T R' L Q p := by
  unfold rt_tg
  by_cases t : T (p / 2) = 0
  · rw [if_pos (Or.inl t), if_pos (Or.inl t)]
  · rw [h t]
theorem rt_tgE {T R L Q : Nat → Int32} (hQ : rt_QL L Q) (hR : rt_RR T R) {p : Nat} (hp : p < 120) (hT : ¬ T (p / 2) = 0) (hq : ¬ Q (rt_c p) = -1) (hr : ¬ R p = -1) :
    ∃ l r, l < 3 ∧ r < 20 ∧ L (rt_c p) = nI l ∧ R p = nI r ∧ rt_tg T R L Q p = some (20 * l + r) := by
  obtain ⟨l, hl, el⟩ := (hQ _ (rt_c6 hp)).2
  rcases hR p hp hT with e | ⟨r, h20, er⟩
  · exact absurd e hr
  · refine ⟨l, r, hl, h20, el, er, ?_⟩
    unfold rt_tg
    rw [if_neg (by rintro (a | a | a) <;> contradiction), el, er, nI_clamp (by omega), nI_clamp (by omega)]
theorem rt_tgN {T R L Q : Nat → Int32} {p : Nat} (h : T (p / 2) = 0 ∨ Q (rt_c p) = -1 ∨ R p = -1) : rt_tg T R L Q p = none := by
  unfold rt_tg; rw [if_pos h]
theorem rt_tgS {T R L Q : Nat → Int32} {p t : Nat} (h : rt_tg T R L Q p = some t) : ¬ T (p / 2) = 0 ∧ ¬ Q (rt_c p) = -1 ∧ ¬ R p = -1 := by
  refine ⟨fun z => ?_, fun z => ?_, fun z => ?_⟩
  · rw [rt_tgN (Or.inl z)] at h; cases h
  · rw [rt_tgN (Or.inr (Or.inl z))] at h; cases h
  · rw [rt_tgN (Or.inr (Or.inr z))] at h; cases h
theorem rt_tg60 {T R L Q : Nat → Int32} (hQ : rt_QL L Q) (hR : rt_RR T R) {p t : Nat} (hp : p < 120) (h : rt_tg T R L Q p = some t) : t < 60 := by
  obtain ⟨a, b, c⟩ := rt_tgS h
  obtain ⟨l, r, hl, hr, _, _, e⟩ := rt_tgE hQ hR hp a b c
  rw [h] at e; cases e; omega
theorem rt_dgc {T R R' L Q : Nat → Int32} {p : Nat} (h : ¬ T (p / 2) = 0 → R p = R' p) : rt_dg T R L Q p = rt_dg T R' L Q p := by
  unfold rt_dg; rw [rt_tgc h]
theorem rt_dgT {T R L Q : Nat → Int32} {p : Nat} : rt_dg T R L Q p = true ↔ ∃ t, rt_tg T R L Q p = some t ∧ T t = 0 := by
  unfold rt_dg
  cases e : rt_tg T R L Q p with
  | none => exact ⟨fun z => (nomatch z), fun ⟨t, a, _⟩ => (nomatch a)⟩
  | some t => exact ⟨fun z => ⟨t, rfl, decide_eq_true_iff.mp z⟩, fun ⟨t', a, b⟩ => by cases a; exact decide_eq_true_iff.mpr b⟩
/-! numbers as the walks print them -/
theorem rt_n2 {p : Nat} (hp : p < 2 ^ 31) : nI p / 2 = nI (p / 2) := pk_div (d := 2) hp (by decide) (by decide)
theorem rt_lk {p : Nat} (hp : p < 2 ^ 31) : nI p / 40 * 2 + (nI p - nI p / 2 * 2) = nI (rt_c p) := by
  have e1 : nI p / 40 = nI (p / 40) := pk_div (d := 40) hp (by decide) (by decide)
  have e2 : nI p - nI p / 2 * 2 = nI (p % 2) := pk_rem (d := 2) hp (by decide) (by decide)
  rw [e1, e2, show nI (p / 40) * 2 = nI (p / 40 * 2) from pk_mul _ 2, nI_add]; rfl
theorem rt_20a (t k : Nat) : nI t * 20 + nI k = nI (20 * t + k) := by
  rw [show nI t * 20 = nI (t * 20) from pk_mul _ 20, nI_add, Nat.mul_comm]
theorem rt_20b (t k : Nat) : 20 * nI t + nI k = nI (20 * t + k) := by
  rw [show 20 * nI t = nI (20 * t) from pk_mul 20 _, nI_add]
theorem rt_2a (s c : Nat) : nI s * 2 + nI c = nI (2 * s + c) := by
  rw [show nI s * 2 = nI (s * 2) from pk_mul _ 2, nI_add, Nat.mul_comm]
theorem rt_2b (s c : Nat) : 2 * nI s + nI c = nI (2 * s + c) := by
  rw [show 2 * nI s = nI (2 * s) from pk_mul 2 _, nI_add]
theorem rt_40 (t k c : Nat) : 40 * nI t + 2 * nI k + nI c = nI (2 * (20 * t + k) + c) := by
  rw [show 40 * nI t = nI (40 * t) from pk_mul 40 _, show 2 * nI k = nI (2 * k) from pk_mul 2 _, nI_add, nI_add]
  exact congrArg nI (by omega)
theorem rt_60a (t k : Nat) : nI t * 60 + nI k = nI (60 * t + k) := by
  rw [show nI t * 60 = nI (t * 60) from pk_mul _ 60, nI_add, Nat.mul_comm]
theorem rt_60b (t k : Nat) : 60 * nI t + nI k = nI (60 * t + k) := by
  rw [show 60 * nI t = nI (60 * t) from pk_mul 60 _, nI_add]
theorem rt_120a (t k : Nat) : nI t * 120 + nI k = nI (120 * t + k) := by
  rw [show nI t * 120 = nI (t * 120) from pk_mul _ 120, nI_add, Nat.mul_comm]
theorem rt_120b (t k : Nat) : 120 * nI t + nI k = nI (120 * t + k) := by
  rw [show 120 * nI t = nI (120 * t) from pk_mul 120 _, nI_add]
theorem rt_e20 (t : Nat) : (nI t + 1) * 20 = nI (20 * t + 20) := by
  rw [nI_1, show nI (t + 1) * 20 = nI ((t + 1) * 20) from pk_mul _ 20]; exact congrArg nI (by omega)
theorem rt_nar0 : vp_nar .boolean 0 = 0 := by decide
theorem rt_nar1 : vp_nar .boolean 1 = 1 := by decide
theorem rt_nar {x : Int32} (h : x = 0 ∨ x = 1) : vp_nar .boolean x = x := by
  rcases h with e | e <;> rw [e] <;> decide
end
section
/-! the small walks -/
section
variable {op mk sb sbs : Int32} {T V R L Q kT kV kR g RX RY kTX kTY kVX kVY kRX kRY : Nat → Int32}
theorem rt_ge {x : Int32} {n : Nat} (hn : n + 1 < 2 ^ 31) (h : nI (n + 1) ≤ x) : ¬ x < 0 ∧ nI n < x ∧ ¬ x ≤ nI n := by
  rw [Int32.le_iff_toInt_le, nI_toInt hn] at h
  have h0 : (0 : Int32).toInt = 0 := by decide
  refine ⟨fun z => ?_, ?_, fun z => ?_⟩
  · rw [Int32.lt_iff_toInt_lt, h0] at z; omega
  · rw [Int32.lt_iff_toInt_lt, nI_toInt (by omega)]; omega
  · rw [Int32.le_iff_toInt_le, nI_toInt (by omega)] at z; omega
theorem rt_table (x : Int32) : ((∀ post : Int32 → Prop, post 0 → wpX_isTable post x) ∧ ∀ post : Int32 → Prop, post 0 → wpY_isTable post (op, mk, sb, L, Q, T, RY, V, kTY, kRY, kVY, g) x) ∨ ∃ t, t < 3 ∧ x = nI t ∧ (∀ post : Int32 → Prop, post 1 → wpX_isTable post x) ∧ ∀ post : Int32 → Prop, post 1 → wpY_isTable post (op, mk, sb, L, Q, T, RY, V, kTY, kRY, kVY, g) x := by
  rcases pk_ix x (n := 3) (by decide) with h | h | ⟨t, ht, rfl⟩
  · exact Or.inl ⟨fun post p => br_t h p, fun post p => br_t h p⟩
  · obtain ⟨n0, n1, _⟩ := rt_ge (n := 2) (by decide) h
    exact Or.inl ⟨fun post p => br_f n0 (br_t h p), fun post p => br_f n0 (br_t n1 p)⟩
  · exact Or.inr ⟨t, ht, rfl, fun post p => br_f (nI_pos (by omega)) (br_f (nI_ge (b := 3) ht (by decide)) p), fun post p => br_f (nI_pos (by omega)) (br_f (nI_nlt (a := 2) (by omega) (by decide)) p)⟩
theorem rt_key (x : Int32) : ((∀ post : Int32 → Prop, post 0 → wpX_isKey post x) ∧ ∀ post : Int32 → Prop, post 0 → wpY_isKey post (op, mk, sb, L, Q, T, RY, V, kTY, kRY, kVY, g) x) ∨ ∃ t, t < 20 ∧ x = nI t ∧ (∀ post : Int32 → Prop, post 1 → wpX_isKey post x) ∧ ∀ post : Int32 → Prop, post 1 → wpY_isKey post (op, mk, sb, L, Q, T, RY, V, kTY, kRY, kVY, g) x := by
  rcases pk_ix x (n := 20) (by decide) with h | h | ⟨t, ht, rfl⟩
  · exact Or.inl ⟨fun post p => br_t h p, fun post p => br_t h p⟩
  · obtain ⟨n0, n1, _⟩ := rt_ge (n := 19) (by decide) h
    exact Or.inl ⟨fun post p => br_f n0 (br_t h p), fun post p => br_f n0 (br_t n1 p)⟩
  · exact Or.inr ⟨t, ht, rfl, fun post p => br_f (nI_pos (by omega)) (br_f (nI_ge (b := 20) ht (by decide)) p), fun post p => br_f (nI_pos (by omega)) (br_f (nI_nlt (a := 19) (by omega) (by decide)) p)⟩
theorem rt_col (x : Int32) : ((∀ post : Int32 → Prop, post 0 → wpX_isColumn post x) ∧ ∀ P A : Prop, P → ((x < 0 → P) ∧ (¬ x < 0 → ((x ≤ 1 → A) ∧ (¬ x ≤ 1 → P))))) ∨ ∃ t, t < 2 ∧ x = nI t ∧ (∀ post : Int32 → Prop, post 1 → wpX_isColumn post x) ∧ ∀ P A : Prop, A → ((x < 0 → P) ∧ (¬ x < 0 → ((x ≤ 1 → A) ∧ (¬ x ≤ 1 → P)))) := by
  rcases pk_ix x (n := 2) (by decide) with h | h | ⟨t, ht, rfl⟩
  · exact Or.inl ⟨fun post p => br_t h p, fun P A p => br_t h p⟩
  · obtain ⟨n0, _, n1⟩ := rt_ge (n := 1) (by decide) h
    exact Or.inl ⟨fun post p => br_f n0 (br_t h p), fun P A p => br_f n0 (br_f n1 p)⟩
  · exact Or.inr ⟨t, ht, rfl, fun post p => br_f (nI_pos (by omega)) (br_f (nI_ge (b := 2) ht (by decide)) p), fun P A p => br_f (nI_pos (by omega)) (br_t (nI_le (b := 1) (by omega) (by decide)) p)⟩
theorem rt_xrow {t k : Nat} (ht : t < 3) (hk : k < 20) {post : Int32 → Prop} (h0 : T (20 * t + k) = 0 → post 0) (h1 : ¬ T (20 * t + k) = 0 → post 1) : wpX_hasRow post (op, mk, sb, sbs, T, V, R, L, Q, kT, kV, kR) (nI t) (nI k) := by
  unfold wpX_hasRow; dsimp only
  refine br_f (nI_pos (by omega)) (br_f (nI_ge (b := 20) hk (by decide)) (br_f (by decide) ?_))
  rw [rt_20a, nI_clamp (n := 20 * t + k) (by omega)]
  exact ⟨vp_in_nI (by omega) (by decide), br_c h0 h1⟩
theorem rt_yrow {t k : Nat} (ht : t < 3) (hk : k < 20) {post : Int32 → Prop} (h0 : T (20 * t + k) = 0 → post 0) (h1 : ¬ T (20 * t + k) = 0 → post 1) : wpY_isRow post (op, mk, sb, L, Q, T, R, V, kT, kR, kV, g) (nI t) (nI k) := by
  unfold wpY_isRow; dsimp only
  refine br_f (nI_pos (by omega)) (br_f (nI_nlt (a := 19) (by omega) (by decide)) (br_f (by decide) ?_))
  rw [rt_20b, nI_clamp (n := 20 * t + k) (by omega)]
  exact ⟨vp_in_nI (by omega) (by decide), br_c h0 h1⟩
/-- a row or none, both sides -/
theorem rt_row {t : Nat} (ht : t < 3) (x : Int32) : ((∀ post : Int32 → Prop, post 0 → wpX_hasRow post (op, mk, sb, sbs, T, V, RX, L, Q, kTX, kVX, kRX) (nI t) x) ∧ ∀ post : Int32 → Prop, post 0 → wpY_isRow post (op, mk, sb, L, Q, T, RY, V, kTY, kRY, kVY, g) (nI t) x) ∨ ∃ k, k < 20 ∧ x = nI k ∧ ¬ T (20 * t + k) = 0 ∧ (∀ post : Int32 → Prop, post 1 → wpX_hasRow post (op, mk, sb, sbs, T, V, RX, L, Q, kTX, kVX, kRX) (nI t) x) ∧ ∀ post : Int32 → Prop, post 1 → wpY_isRow post (op, mk, sb, L, Q, T, RY, V, kTY, kRY, kVY, g) (nI t) x := by
  rcases rt_key (op := op) (mk := mk) (sb := sb) (T := T) (V := V) (L := L) (Q := Q) (g := g) (RY := RY) (kTY := kTY) (kVY := kVY) (kRY := kRY) x with ⟨a, b⟩ | ⟨k, hk, rfl, a, b⟩
  · left
    constructor
    · intro post p; unfold wpX_hasRow; dsimp only; exact a _ (br_t rfl p)
    · intro post p; unfold wpY_isRow; dsimp only; exact b _ (br_t rfl p)
  · by_cases z : T (20 * t + k) = 0
    · exact Or.inl ⟨fun post p => rt_xrow ht hk (fun _ => p) (fun n => absurd z n), fun post p => rt_yrow ht hk (fun _ => p) (fun n => absurd z n)⟩
    · exact Or.inr ⟨k, hk, rfl, z, fun post p => rt_xrow ht hk (fun n => absurd n z) (fun _ => p), fun post p => rt_yrow ht hk (fun n => absurd n z) (fun _ => p)⟩
theorem rt_xlk {post : Int32 → Prop} {p : Nat} (hp : p < 120) (h : post (nI (rt_c p))) : wpX_linkOf post (nI p) := by
  refine ⟨by decide, fun y ey => ⟨by decide, ?_⟩⟩
  rw [ey, rt_lk (p := p) (by omega)]
  exact h
theorem rt_xrule {post : Int32 → Prop} {p : Nat} (hp : p < 120) (h : post (Q (rt_c p))) : wpX_ruleOf post (op, mk, sb, sbs, T, V, R, L, Q, kT, kV, kR) (nI p) := by
  have c6 := rt_c6 hp
  unfold wpX_ruleOf; dsimp only
  refine rt_xlk hp ⟨vp_in_nI c6 (by decide), ?_⟩
  rw [nI_clamp (n := rt_c p) (by omega)]
  exact h
theorem rt_yrule {post : Int32 → Prop} {p : Nat} (hp : p < 120) (h : post (Q (rt_c p))) : wpY_ruleOf post (op, mk, sb, L, Q, T, R, V, kT, kR, kV, g) (nI p) := by
  have c6 := rt_c6 hp
  unfold wpY_ruleOf; dsimp only
  rw [rt_lk (p := p) (by omega), nI_clamp (n := rt_c p) (by omega)]
  exact ⟨by decide, by decide, vp_in_nI c6 (by decide), h⟩
theorem rt_xtg (hQ : rt_QL L Q) (hR : rt_RR T R) {p : Nat} (hp : p < 120) {post : Int32 → Prop} (h0 : rt_tg T R L Q p = none → post (-1)) (h1 : ∀ t, t < 60 → rt_tg T R L Q p = some t → post (nI t)) : wpX_targetOf post (op, mk, sb, sbs, T, V, R, L, Q, kT, kV, kR) (nI p) := by
  have c6 := rt_c6 hp
  unfold wpX_targetOf; dsimp only
  refine rt_xlk hp ?_
  rw [rt_n2 (p := p) (by omega), nI_clamp (n := p / 2) (by omega), nI_clamp (n := rt_c p) (by omega), nI_clamp (n := p) (by omega)]
  refine ⟨by decide, vp_in_nI (by omega) (by decide), br_c (fun a => h0 (rt_tgN (Or.inl a))) (fun a => ⟨vp_in_nI c6 (by decide), br_c (fun b => h0 (rt_tgN (Or.inr (Or.inl b)))) (fun b => ⟨vp_in_nI hp (by decide), br_c (fun c => h0 (rt_tgN (Or.inr (Or.inr c)))) (fun c => ⟨vp_in_nI c6 (by decide), vp_in_nI hp (by decide), ?_⟩)⟩)⟩)⟩
  obtain ⟨l, r, hl, hr, el, er, e⟩ := rt_tgE hQ hR hp a b c
  rw [el, er, rt_20a]; exact h1 _ (by omega) e
theorem rt_ytg (hQ : rt_QL L Q) (hR : rt_RR T R) {p : Nat} (hp : p < 120) {post : Int32 → Prop} (h0 : (rt_tg T R L Q p = none ∨ ∃ t, rt_tg T R L Q p = some t ∧ T t = 0) → post (-1)) (h1 : ∀ t, t < 60 → rt_tg T R L Q p = some t → ¬ T t = 0 → post (nI t)) : wpY_target post (op, mk, sb, L, Q, T, R, V, kT, kR, kV, g) (nI p) := by
  have c6 := rt_c6 hp
  unfold wpY_target; dsimp only
  refine ⟨by decide, by decide, fun y ey => ?_⟩
  rw [rt_lk (p := p) (by omega)] at ey
  subst ey
  rw [rt_n2 (p := p) (by omega), nI_clamp (n := p / 2) (by omega), nI_clamp (n := rt_c p) (by omega), nI_clamp (n := p) (by omega)]
  refine ⟨by decide, vp_in_nI (by omega) (by decide), br_c (fun a => h0 (Or.inl (rt_tgN (Or.inl a)))) (fun a => ⟨vp_in_nI c6 (by decide), br_c (fun b => h0 (Or.inl (rt_tgN (Or.inr (Or.inl ((rt_Q0 hQ c6).mp b)))))) (fun b => ⟨vp_in_nI hp (by decide), br_c (fun c => ⟨vp_in_nI c6 (by decide), vp_in_nI hp (by decide), fun y ey => ?_⟩) (fun c => h0 (Or.inl (rt_tgN (Or.inr (Or.inr (Classical.not_not.mp (fun z => c ((rt_R0' (hR p hp a)).mpr z))))))))⟩)⟩)⟩
  obtain ⟨l, r, hl, hr, el, er, e⟩ := rt_tgE hQ hR hp a (fun z => b ((rt_Q0 hQ c6).mpr z)) ((rt_R0' (hR p hp a)).mp c)
  rw [el, er, rt_20b] at ey
  subst ey
  rw [nI_clamp (n := 20 * l + r) (by omega)]
  exact ⟨vp_in_nI (by omega) (by decide), br_c (fun d => h0 (Or.inr ⟨_, e, d⟩)) (fun d => h1 _ (by omega) e d)⟩
theorem rt_xdg (hQ : rt_QL L Q) (hR : rt_RR T R) {p : Nat} (hp : p < 120) {post : Int32 → Prop} (h0 : ¬ rt_dg T R L Q p = true → post 0) (h1 : rt_dg T R L Q p = true → post 1) : wpX_isDangling post (op, mk, sb, sbs, T, V, R, L, Q, kT, kV, kR) (nI p) := by
  unfold wpX_isDangling; dsimp only
  refine rt_xtg hQ hR hp (fun e => br_t rfl (h0 ?_)) (fun t ht e => br_f (rt_nI_m1 (by omega)) ⟨vp_in_nI ht (by decide), ?_⟩)
  · intro z
    obtain ⟨t, a, _⟩ := rt_dgT.mp z
    rw [e] at a; cases a
  · rw [nI_clamp (n := t) (by omega)]
    refine br_c (fun a => h1 (rt_dgT.mpr ⟨t, e, a⟩)) (fun a => h0 (fun z => ?_))
    obtain ⟨t', b, c⟩ := rt_dgT.mp z
    rw [e] at b; cases b; exact a c
theorem rt_ydg (hQ : rt_QL L Q) (hR : rt_RR T R) {p : Nat} (hp : p < 120) {post : Int32 → Prop} (h0 : ¬ rt_dg T R L Q p = true → post 0) (h1 : rt_dg T R L Q p = true → post 1) : wpY_dangles post (op, mk, sb, L, Q, T, R, V, kT, kR, kV, g) (nI p) := by
  have c6 := rt_c6 hp
  have hn : rt_tg T R L Q p = none → post 0 := fun e => h0 (fun z => by
    obtain ⟨t, a, _⟩ := rt_dgT.mp z
    rw [e] at a; cases a)
  unfold wpY_dangles; dsimp only
  rw [rt_n2 (p := p) (by omega), nI_clamp (n := p / 2) (by omega), nI_clamp (n := p) (by omega)]
  refine ⟨by decide, vp_in_nI (by omega) (by decide), br_c (fun a => hn (rt_tgN (Or.inl a))) (fun a => rt_yrule hp (br_c (fun b => hn (rt_tgN (Or.inr (Or.inl ((rt_Q0 hQ c6).mp b))))) (fun b => ⟨vp_in_nI hp (by decide), br_c (fun c => hn (rt_tgN (Or.inr (Or.inr ((rt_R0 (hR p hp a)).mp c))))) (fun c => ?_)⟩)))⟩
  obtain ⟨l, r, hl, hr, el, er, e⟩ := rt_tgE hQ hR hp a (fun z => b ((rt_Q0 hQ c6).mpr z)) (fun z => c ((rt_R0 (hR p hp a)).mpr z))
  refine rt_ytg hQ hR hp (fun d => br_f (by decide) (h1 (rt_dgT.mpr ?_))) (fun t ht e1 d => br_t (nI_pos' (by omega)) (h0 (fun z => ?_)))
  · rcases d with d | d
    · rw [d] at e; cases e
    · exact d
  · obtain ⟨t', x, y⟩ := rt_dgT.mp z
    rw [e1] at x; cases x; exact d y
def rt_bit (w : Int64) (j : Nat) : Bool := w.toBitVec.getLsbD j
theorem rt_xin {post : Int32 → Prop} {w : Int64} {s : Nat} (hs : s < 64) (h0 : ¬ rt_bit w s = true → post 0) (h1 : rt_bit w s = true → post 1) : wpX_isIn post w (nI s) := by
  have e := ts_bit (w := w) (s := ((nI s).toInt64.toUInt64 &&& Int64.toUInt64 63)) hs (by rw [wb_cu s hs]; exact Nat.mod_eq_of_lt (by omega))
  exact br_f (nI_pos (by omega)) (br_c (fun a => h0 (fun z => by have := e.mp a; unfold rt_bit at z; rw [this] at z; cases z)) (fun a => h1 (ts_nf (fun z => a (e.mpr z)))))
theorem rt_xinN {post : Int32 → Prop} {w : Int64} (h0 : post 0) : wpX_isIn post w (-1) := br_t (by decide) h0
end
end
section
/-! loops that only read -/
theorem rt_loopF {σ : Type} (W : Nat → Nat → σ → Prop) (F : Nat → σ) (e : Nat) (hx : ∀ n, W (n + 1) e (F e)) (hs : ∀ n i, i < e → W n (i + 1) (F (i + 1)) → W (n + 1) i (F i)) : ∃ n, W n 0 (F 0) :=
  loop_0 W (fun i s => s = F i) e (F 0) rfl (fun n s h => by subst h; exact hx n) (fun n i s hi h ih => by subst h; exact hs n i hi (ih _ rfl))
theorem rt_loopC (W : Nat → Nat → Int32 → Prop) (f : Nat → Bool) (e : Nat) (hx : ∀ n, W (n + 1) e (nI (rt_cnt f e))) (hs : ∀ n i c, i < e → (f i = true → W n (i + 1) (c + 1)) → (¬ f i = true → W n (i + 1) c) → W (n + 1) i c) : ∃ n, W n 0 0 :=
  rt_loopF W (fun i => nI (rt_cnt f i)) e hx (fun n i hi h => hs n i _ hi (fun a => by rw [nI_1, ← rt_cnt_t a]; exact h) (fun a => by rw [← rt_cnt_f a]; exact h))
theorem rt_loopS (W : Nat → Nat → Prop) (hit : Nat → Prop) (e : Nat) (hx : (∀ j, j < e → ¬ hit j) → ∀ n, W (n + 1) e) (hs : ∀ n i, i < e → (∀ j, j < i → ¬ hit j) → (¬ hit i → W n (i + 1)) → W (n + 1) i) : ∃ n, W n 0 :=
  loop_0 (σ := Unit) (fun n i _ => W n i) (fun i _ => ∀ j, j < i → ¬ hit j) e () (fun j hj => absurd hj (Nat.not_lt_zero j)) (fun n _ h => hx h n)
    (fun n i _ hi h ih => hs n i hi h (fun a => ih () (fun j hj => by
      by_cases q : j = i
      · rw [q]; exact a
      · exact h j (by omega))))
def rt_sd (f : Nat → Bool) : Nat → Int32
  | 0 => 63
  | i + 1 => if f i = true then rt_sd f i &&& (((1 : Int32) <<< (nI (rt_c i) &&& 31)) ^^^ (-1)) else rt_sd f i
theorem rt_sd_t {f : Nat → Bool} {i : Nat} (h : f i = true) : rt_sd f (i + 1) = rt_sd f i &&& (((1 : Int32) <<< (nI (rt_c i) &&& 31)) ^^^ (-1)) := if_pos h
theorem rt_sd_f {f : Nat → Bool} {i : Nat} (h : ¬ f i = true) : rt_sd f (i + 1) = rt_sd f i := if_neg h
theorem rt_sd_congr {f h : Nat → Bool} : ∀ n, (∀ i, i < n → f i = h i) → rt_sd f n = rt_sd h n
  | 0, _ => rfl
  | n + 1, e => by
    have i1 := rt_sd_congr n (fun i hi => e i (by omega))
    have q := e n (by omega)
    by_cases a : f n = true
    · rw [rt_sd_t a, rt_sd_t (q.symm.trans a), i1]
    · rw [rt_sd_f a, rt_sd_f (by rw [← q]; exact a), i1]
def rt_le (Q : Nat → Int32) : Nat → Int32
  | 0 => 0
  | i + 1 => if Q i = 3 then rt_le Q i ||| ((1 : Int32) <<< (nI i &&& 31)) else rt_le Q i
def rt_sum (T V : Nat → Int32) (t : Nat) : Nat → Int32
  | 0 => 0
  | i + 1 => if T (20 * t + i) = 0 then rt_sum T V t i else rt_sum T V t i + V (20 * t + i)
theorem rt_sum_t {T V : Nat → Int32} {t i : Nat} (h : T (20 * t + i) = 0) : rt_sum T V t (i + 1) = rt_sum T V t i := if_pos h
theorem rt_sum_f {T V : Nat → Int32} {t i : Nat} (h : ¬ T (20 * t + i) = 0) : rt_sum T V t (i + 1) = rt_sum T V t i + V (20 * t + i) := if_neg h
section
variable {op mk sb sbs : Int32} {T V R L Q kT kV kR g RX RY kTX kTY kVX kVY kRX kRY : Nat → Int32}
theorem rt_xcount {t : Nat} (ht : t < 3) {post : Int32 → Prop} (h : post (nI (rt_ct T t))) : wpX_countRows post (op, mk, sb, sbs, T, V, R, L, Q, kT, kV, kR) (nI t) := by
  unfold wpX_countRows; dsimp only
  intro y ey
  rw [show nI t * 20 = nI (20 * t + 0) from by rw [Nat.mul_comm]; exact pk_mul _ 20] at ey
  subst ey
  refine rt_loopC (fun n i c => wX_countRows_7 post (nI t) op mk sb sbs T V R L Q kT kV kR n c (nI (20 * t + i))) (fun k => rt_b T (20 * t + k)) 20 (fun n => br_t ?_ h) (fun n i c hi h1 h0 => br_f ?_ ⟨vp_in_nI (by omega) (by decide), ?_⟩)
  · rw [rt_e20]; exact nI_le (by omega) (by omega)
  · rw [rt_e20]; exact nI_ge (by omega) (by omega)
  · rw [nI_clamp (n := 20 * t + i) (by omega)]
    refine br_c (fun a y ey => ?_) (fun a y ey z ez => ?_)
    · rw [ey, nI_1]; exact h0 (fun z => rt_b_t.mp z a)
    · rw [ez, ey, nI_1]; exact h1 (rt_b_t.mpr a)
theorem rt_ycount {t : Nat} (ht : t < 3) {post : Int32 → Prop} (h : post (nI (rt_ct T t))) : wpY_count post (op, mk, sb, L, Q, T, R, V, kT, kR, kV, g) (nI t) := by
  unfold wpY_count; dsimp only
  refine rt_loopC (fun n i c => wY_count_4 post (nI t) op mk sb L Q T R V kT kR kV g n c (nI i)) (fun k => rt_b T (20 * t + k)) 20 (fun n => br_t (nI_le (a := 20) (b := 20) (by decide) (by decide)) h) (fun n i c hi h1 h0 => br_f (nI_ge (b := 20) hi (by decide)) ?_)
  rw [rt_20b, nI_clamp (n := 20 * t + i) (by omega)]
  refine ⟨vp_in_nI (by omega) (by decide), br_c (fun a y ey => ?_) (fun a y ey z ez => ?_)⟩
  · rw [ey, nI_1]; exact h0 (fun z => rt_b_t.mp z a)
  · rw [ez, ey, nI_1]; exact h1 (rt_b_t.mpr a)
theorem rt_xsum {t : Nat} (ht : t < 3) {post : Int32 → Prop} (h : post (rt_sum T V t 20)) : ∃ n, wX_sum_16 post (nI t) op mk sb sbs T V R L Q kT kV kR n 0 (nI (20 * t + 0)) := by
  refine rt_loopF (fun n i c => wX_sum_16 post (nI t) op mk sb sbs T V R L Q kT kV kR n c (nI (20 * t + i))) (rt_sum T V t) 20 (fun n => br_t ?_ h) (fun n i hi ih => br_f ?_ ⟨vp_in_nI (by omega) (by decide), ?_⟩)
  · rw [rt_e20]; exact nI_le (by omega) (by omega)
  · rw [rt_e20]; exact nI_ge (by omega) (by omega)
  · rw [nI_clamp (n := 20 * t + i) (by omega)]
    refine br_c (fun a y ey => ?_) (fun a => ⟨vp_in_nI (by omega) (by decide), fun y ey z ez => ?_⟩)
    · rw [ey, nI_1, ← rt_sum_t a]; exact ih
    · rw [ez, ey, nI_1, ← rt_sum_f a]; exact ih
theorem rt_ysum {t : Nat} (ht : t < 3) {post : Int32 → Prop} (hT : ∀ q : Int32 → Prop, q 1 → wpY_isTable q (op, mk, sb, L, Q, T, R, V, kT, kR, kV, g) (nI t)) (h : post (rt_sum T V t 20)) : ∃ n, wY_sum_4 post (nI t) op mk sb L Q T R V kT kR kV g n 0 (nI 0) := by
  refine rt_loopF (fun n i c => wY_sum_4 post (nI t) op mk sb L Q T R V kT kR kV g n c (nI i)) (rt_sum T V t) 20 (fun n => br_t (nI_le (a := 20) (b := 20) (by decide) (by decide)) h) (fun n i hi ih => br_f (nI_ge (b := 20) hi (by decide)) (hT _ (br_f (by decide) ?_)))
  rw [rt_20b, nI_clamp (n := 20 * t + i) (by omega)]
  refine ⟨vp_in_nI (by omega) (by decide), br_c (fun a y ey => ?_) (fun a => ⟨vp_in_nI (by omega) (by decide), fun y ey z ez => ?_⟩)⟩
  · rw [ey, nI_1, ← rt_sum_t a]; exact ih
  · rw [ez, ey, nI_1, ← rt_sum_f a]; exact ih
theorem rt_d0 {a b : Int32} : a - b = 0 ↔ b = a := by
  constructor
  · intro h; grind
  · intro h; rw [h]; exact Int32.sub_self _
theorem rt_dm (a b : Int32) : a - b + (-1) = a - (b + 1) := by grind
theorem rt_keyAt {t : Nat} (ht : t < 3) (x2 : Int32) : ∀ d i, i + d = 20 → ∀ b : Int32, ∃ r : Int32, (∀ post : Int32 → Prop, post r → wX_keyAt_14 post (nI t) x2 op mk sb sbs T V RX L Q kTX kVX kRX (d + 1) b (nI i)) ∧ (∀ post : Int32 → Prop, post r → wY_keyAt_15 post (nI t) op mk sb L Q T RY V kTY kRY kVY g (d + 1) (x2 - b) (nI i)) := by
  intro d
  induction d with
  | zero =>
    intro i hi b
    have h : (20 : Int32) ≤ nI i := nI_le (a := 20) (by omega) (by omega)
    exact ⟨-2, fun _ p => br_t h p, fun _ p => br_t h p⟩
  | succ d ih =>
    intro i hi b
    have h : ¬ (20 : Int32) ≤ nI i := nI_ge (b := 20) (by omega) (by decide)
    by_cases z : T (20 * t + i) = 0
    · obtain ⟨r, hX, hY⟩ := ih (i + 1) (by omega) b
      refine ⟨r, fun post hp => br_f h ?_, fun post hp => br_f h ?_⟩
      · rw [rt_20a, nI_clamp (n := 20 * t + i) (by omega)]
        exact ⟨vp_in_nI (by omega) (by decide), br_t z (fun y ey => by rw [ey, nI_1]; exact hX post hp)⟩
      · rw [rt_20b, nI_clamp (n := 20 * t + i) (by omega)]
        exact ⟨vp_in_nI (by omega) (by decide), br_t z (fun y ey => by rw [ey, nI_1]; exact hY post hp)⟩
    · by_cases q : b = x2
      · refine ⟨nI i, fun post hp => br_f h ?_, fun post hp => br_f h ?_⟩
        · rw [rt_20a, nI_clamp (n := 20 * t + i) (by omega)]
          exact ⟨vp_in_nI (by omega) (by decide), br_f z (br_t q hp)⟩
        · rw [rt_20b, nI_clamp (n := 20 * t + i) (by omega)]
          exact ⟨vp_in_nI (by omega) (by decide), br_f z (br_t (rt_d0.mpr q) hp)⟩
      · obtain ⟨r, hX, hY⟩ := ih (i + 1) (by omega) (b + 1)
        refine ⟨r, fun post hp => br_f h ?_, fun post hp => br_f h ?_⟩
        · rw [rt_20a, nI_clamp (n := 20 * t + i) (by omega)]
          exact ⟨vp_in_nI (by omega) (by decide), br_f z (br_f q (fun y ey w ew => by rw [ew, ey, nI_1]; exact hX post hp))⟩
        · rw [rt_20b, nI_clamp (n := 20 * t + i) (by omega)]
          exact ⟨vp_in_nI (by omega) (by decide), br_f z (br_f (fun w => q (rt_d0.mp w)) (fun y ey w ew => by rw [ew, ey, nI_1, rt_dm]; exact hY post hp))⟩
theorem rt_xref (hQ : rt_QL L Q) (hR : rt_RR T R) {s : Nat} (hs : s < 60) {post : Int32 → Prop} (h : post (nI (rt_cnt (fun p => decide (rt_tg T R L Q p = some s)) 120))) : ∃ n, wX_referrers_34 post (nI s) op mk sb sbs T V R L Q kT kV kR n 0 (nI 0) := by
  refine rt_loopC (fun n i c => wX_referrers_34 post (nI s) op mk sb sbs T V R L Q kT kV kR n c (nI i)) (fun p => decide (rt_tg T R L Q p = some s)) 120 (fun n => br_t (nI_le (a := 120) (b := 120) (by decide) (by decide)) h) (fun n i c hi h1 h0 => br_f (nI_ge (b := 120) hi (by decide)) (rt_xtg hQ hR hi (fun e => br_f (fun z => rt_nI_m1 (by omega) z.symm) (fun y ey => ?_)) (fun t ht e => br_c (fun a y ey z ez => ?_) (fun a y ey => ?_))))
  · rw [ey, nI_1]; exact h0 (fun z => by rw [e] at z; exact (nomatch (of_decide_eq_true z)))
  · rw [ez, ey, nI_1]; exact h1 (decide_eq_true (by rw [e, (nI_eq (by omega) (by omega)).mp a]))
  · rw [ey, nI_1]; exact h0 (fun z => a (by have := of_decide_eq_true z; rw [e] at this; cases this; rfl))
theorem rt_yref (hQ : rt_QL L Q) (hR : rt_RR T R) {t0 k0 : Nat} (hs : 20 * t0 + k0 < 60) (hT : ¬ T (20 * t0 + k0) = 0) {post : Int32 → Prop} (h : post (nI (rt_cnt (fun p => decide (rt_tg T R L Q p = some (20 * t0 + k0))) 120))) : ∃ n, wY_referrers_27 post (nI t0) (nI k0) op mk sb L Q T R V kT kR kV g n 0 (nI 0) := by
  refine rt_loopC (fun n i c => wY_referrers_27 post (nI t0) (nI k0) op mk sb L Q T R V kT kR kV g n c (nI i)) (fun p => decide (rt_tg T R L Q p = some (20 * t0 + k0))) 120 (fun n => br_t (nI_le (a := 120) (b := 120) (by decide) (by decide)) h) (fun n i c hi h1 h0 => br_f (nI_ge (b := 120) hi (by decide)) (rt_ytg hQ hR hi (fun e => ?_) (fun t ht e d => ?_)))
  · rw [rt_20b]
    refine br_f (fun z => rt_nI_m1 (by omega) z.symm) (fun y ey => ?_)
    rw [ey, nI_1]
    refine h0 (fun z => ?_)
    have z := of_decide_eq_true z
    rcases e with e | ⟨t, e, d⟩
    · rw [e] at z; cases z
    · rw [e] at z; cases z; exact hT d
  · rw [rt_20b]
    refine br_c (fun a y ey z ez => ?_) (fun a y ey => ?_)
    · rw [ez, ey, nI_1]; exact h1 (decide_eq_true (by rw [e, (nI_eq (by omega) (by omega)).mp a]))
    · rw [ey, nI_1]; exact h0 (fun z => a (by have := of_decide_eq_true z; rw [e] at this; cases this; rfl))
theorem rt_xdangling (hQ : rt_QL L Q) (hR : rt_RR T R) {post : Int32 → Prop} (h : post (nI (rt_cnt (rt_dg T R L Q) 120))) : wpX_dangling post (op, mk, sb, sbs, T, V, R, L, Q, kT, kV, kR) := by
  unfold wpX_dangling; dsimp only
  refine rt_loopC (fun n i c => wX_dangling_4 post op mk sb sbs T V R L Q kT kV kR n c (nI i)) (rt_dg T R L Q) 120 (fun n => br_t (nI_le (a := 120) (b := 120) (by decide) (by decide)) h) (fun n i c hi h1 h0 => br_f (nI_ge (b := 120) hi (by decide)) (rt_xdg hQ hR hi (fun a => br_t rfl (fun y ey => ?_)) (fun a => br_f (by decide) (fun y ey z ez => ?_))))
  · rw [ey, nI_1]; exact h0 a
  · rw [ez, ey, nI_1]; exact h1 a
theorem rt_ydangling (hQ : rt_QL L Q) (hR : rt_RR T R) {post : Int32 → Prop} (h : post (nI (rt_cnt (rt_dg T R L Q) 120))) : wpY_dangling post (op, mk, sb, L, Q, T, R, V, kT, kR, kV, g) := by
  unfold wpY_dangling; dsimp only
  refine rt_loopC (fun n i c => wY_dangling_4 post op mk sb L Q T R V kT kR kV g n c (nI i)) (rt_dg T R L Q) 120 (fun n => br_t (nI_le (a := 120) (b := 120) (by decide) (by decide)) h) (fun n i c hi h1 h0 => br_f (nI_ge (b := 120) hi (by decide)) (rt_ydg hQ hR hi (fun a => br_t rfl (fun y ey => ?_)) (fun a => br_f (by decide) (fun y ey z ez => ?_))))
  · rw [ey, nI_1]; exact h0 a
  · rw [ez, ey, nI_1]; exact h1 a
theorem rt_xsound (hQ : rt_QL L Q) (hR : rt_RR T R) {post : Int32 → Prop} (h : post (rt_sd (rt_dg T R L Q) 120)) : wpX_soundLinks post (op, mk, sb, sbs, T, V, R, L, Q, kT, kV, kR) := by
  unfold wpX_soundLinks; dsimp only
  refine rt_loopF (fun n i c => wX_soundLinks_5 post op mk sb sbs T V R L Q kT kV kR n c (nI i)) (rt_sd (rt_dg T R L Q)) 120 (fun n => br_t (nI_le (a := 120) (b := 120) (by decide) (by decide)) h) (fun n i hi ih => br_f (nI_ge (b := 120) hi (by decide)) (rt_xdg hQ hR hi (fun a => br_t rfl (fun y ey => ?_)) (fun a => br_f (by decide) (rt_xlk hi (fun y ey z ez => ?_)))))
  · rw [ey, nI_1, ← rt_sd_f a]; exact ih
  · rw [ez, ey, nI_1, ← rt_sd_t a]; exact ih
theorem rt_ysound (hQ : rt_QL L Q) (hR : rt_RR T R) {post : Int32 → Prop} (h : post (rt_sd (rt_dg T R L Q) 120)) : wpY_soundLinks post (op, mk, sb, L, Q, T, R, V, kT, kR, kV, g) := by
  unfold wpY_soundLinks; dsimp only
  refine rt_loopF (fun n i c => wY_soundLinks_5 post op mk sb L Q T R V kT kR kV g n c (nI i)) (rt_sd (rt_dg T R L Q)) 120 (fun n => br_t (nI_le (a := 120) (b := 120) (by decide) (by decide)) h) (fun n i hi ih => br_f (nI_ge (b := 120) hi (by decide)) (rt_ydg hQ hR hi (fun a => br_t rfl (fun y ey => ?_)) (fun a => br_f (by decide) ⟨by decide, by decide, fun y ey z ez => ?_⟩)))
  · rw [ey, nI_1, ← rt_sd_f a]; exact ih
  · rw [rt_lk (p := i) (by omega)] at ey
    rw [ez, ey, nI_1, ← rt_sd_t a]; exact ih
theorem rt_xlinks (post : Int32 → Prop) (h : post (rt_le Q 6)) : wpX_linksCheckedAtEnd post (op, mk, sb, sbs, T, V, R, L, Q, kT, kV, kR) := by
  unfold wpX_linksCheckedAtEnd; dsimp only
  refine rt_loopF (fun n i c => wX_linksCheckedAtEnd_4 post op mk sb sbs T V R L Q kT kV kR n c (nI i)) (rt_le Q) 6 (fun n => br_t (nI_le (a := 6) (b := 6) (by decide) (by decide)) h) (fun n i hi ih => br_f (nI_ge (b := 6) hi (by decide)) ⟨vp_in_nI hi (by decide), ?_⟩)
  rw [nI_clamp (n := i) (by omega)]
  refine br_c (fun a y ey z ez => ?_) (fun a y ey => ?_)
  · rw [ez, ey, nI_1, ← show rt_le Q (i + 1) = rt_le Q i ||| ((1 : Int32) <<< (nI i &&& 31)) from if_pos a]; exact ih
  · rw [ey, nI_1, ← show rt_le Q (i + 1) = rt_le Q i from if_neg a]; exact ih
theorem rt_xused {t c : Nat} (ht : t < 3) (hc : c < 2) {post : Int32 → Prop} (h1 : (∃ k, k < 20 ∧ ¬ T (20 * t + k) = 0 ∧ ¬ R (2 * (20 * t + k) + c) = -1) → post 1) (h0 : (∀ k, k < 20 → ¬ (¬ T (20 * t + k) = 0 ∧ ¬ R (2 * (20 * t + k) + c) = -1)) → post 0) : wpX_isColumnUsed post (op, mk, sb, sbs, T, V, R, L, Q, kT, kV, kR) (nI t) (nI c) := by
  unfold wpX_isColumnUsed; dsimp only
  intro y ey
  rw [show nI t * 20 = nI (20 * t + 0) from by rw [Nat.mul_comm]; exact pk_mul _ 20] at ey
  subst ey
  refine rt_loopS (fun n i => wX_isColumnUsed_5 post (nI t) (nI c) op mk sb sbs T V R L Q kT kV kR n (nI (20 * t + i))) (fun k => ¬ T (20 * t + k) = 0 ∧ ¬ R (2 * (20 * t + k) + c) = -1) 20 (fun hn n => br_t ?_ (h0 hn)) (fun n i hi hn ih => br_f ?_ ⟨vp_in_nI (by omega) (by decide), ?_⟩)
  · rw [rt_e20]; exact nI_le (by omega) (by omega)
  · rw [rt_e20]; exact nI_ge (by omega) (by omega)
  · rw [nI_clamp (n := 20 * t + i) (by omega), rt_2a, nI_clamp (n := 2 * (20 * t + i) + c) (by omega)]
    refine br_c (fun a y ey => ?_) (fun a => ⟨vp_in_nI (by omega) (by decide), br_c (fun b y ey => ?_) (fun b => h1 ⟨i, hi, a, b⟩)⟩)
    · rw [ey, nI_1]; exact ih (fun z => z.1 a)
    · rw [ey, nI_1]; exact ih (fun z => z.2 b)
theorem rt_xmust (hQ : rt_QL L Q) (hR : rt_RR T R) {s : Nat} (hs : s < 60) {post : Int32 → Prop} (h1 : (∃ p, p < 120 ∧ rt_tg T R L Q p = some s ∧ Q (rt_c p) = 0) → post 1) (h0 : (∀ p, p < 120 → ¬ (rt_tg T R L Q p = some s ∧ Q (rt_c p) = 0)) → post 0) : wpX_mustKeepKey post (op, mk, sb, sbs, T, V, R, L, Q, kT, kV, kR) (nI s) := by
  unfold wpX_mustKeepKey; dsimp only
  refine rt_loopS (fun n i => wX_mustKeepKey_2 post (nI s) op mk sb sbs T V R L Q kT kV kR n (nI i)) (fun p => rt_tg T R L Q p = some s ∧ Q (rt_c p) = 0) 120 (fun hn n => br_t (nI_le (a := 120) (b := 120) (by decide) (by decide)) (h0 hn)) (fun n i hi hn ih => br_f (nI_ge (b := 120) hi (by decide)) (rt_xtg hQ hR hi (fun e => br_f (fun z => rt_nI_m1 (by omega) z.symm) (fun y ey => ?_)) (fun t ht e => br_c (fun a => rt_xrule hi (br_c (fun b => h1 ⟨i, hi, ?_, b⟩) (fun b y ey => ?_))) (fun a y ey => ?_))))
  · rw [ey, nI_1]; exact ih (fun z => by rw [e] at z; cases z.1)
  · rw [e, (nI_eq (by omega) (by omega)).mp a]
  · rw [ey, nI_1]; exact ih (fun z => b z.2)
  · rw [ey, nI_1]; exact ih (fun z => a (by have := z.1; rw [e] at this; cases this; rfl))
theorem rt_yheld (hQ : rt_QL L Q) (hR : rt_RR T R) {s : Nat} (hs : s < 60) (hT : ¬ T s = 0) {post : Int32 → Prop} (h1 : (∃ p, p < 120 ∧ rt_tg T R L Q p = some s ∧ Q (rt_c p) = 0) → post 1) (h0 : (∀ p, p < 120 → ¬ (rt_tg T R L Q p = some s ∧ Q (rt_c p) = 0)) → post 0) : wpY_isHeld post (op, mk, sb, L, Q, T, R, V, kT, kR, kV, g) (nI s) := by
  unfold wpY_isHeld; dsimp only
  refine loop_0 (fun n i c => wY_isHeld_4 post (nI s) op mk sb L Q T R V kT kR kV g n c (nI i)) (fun i c => (c = 0 ∧ ∀ p, p < i → ¬ (rt_tg T R L Q p = some s ∧ Q (rt_c p) = 0)) ∨ (c = 1 ∧ ∃ p, p < 120 ∧ rt_tg T R L Q p = some s ∧ Q (rt_c p) = 0)) 120 0 (Or.inl ⟨rfl, fun p hp => absurd hp (Nat.not_lt_zero p)⟩) (fun n c hc => br_t (nI_le (a := 120) (b := 120) (by decide) (by decide)) ?_) (fun n i c hi hc ih => br_f (nI_ge (b := 120) hi (by decide)) ?_)
  · rcases hc with ⟨rfl, h⟩ | ⟨rfl, h⟩
    · exact ⟨congrArg Value.int (by decide : (0 : Int32) &&& 1 = 0), h0 h⟩
    · exact ⟨congrArg Value.int (by decide : (1 : Int32) &&& 1 = 1), h1 h⟩
  · have step : ¬ (rt_tg T R L Q i = some s ∧ Q (rt_c i) = 0) → (∀ p, p < i → ¬ (rt_tg T R L Q p = some s ∧ Q (rt_c p) = 0)) → ∀ p, p < i + 1 → ¬ (rt_tg T R L Q p = some s ∧ Q (rt_c p) = 0) := fun a b => lt_s b a
    rcases hc with ⟨rfl, h⟩ | ⟨rfl, h⟩
    · refine rt_ytg hQ hR hi (fun e => br_t rfl (br_f (fun z => rt_nI_m1 (by omega) z.symm) (fun y ey => ?_))) (fun t ht e d => br_t rfl (br_c (fun a => rt_yrule hi (br_c (fun b y ey => ?_) (fun b y ey => ?_))) (fun a y ey => ?_)))
      · rw [ey, nI_1]
        refine ih 0 (Or.inl ⟨rfl, step (fun z => ?_) h⟩)
        rcases e with e | ⟨t, e, d⟩
        · rw [e] at z; cases z.1
        · have z1 := z.1; rw [e] at z1; cases z1; exact hT d
      · rw [ey, nI_1]
        exact ih 1 (Or.inr ⟨rfl, i, hi, by rw [e, (nI_eq (by omega) (by omega)).mp a], b⟩)
      · rw [ey, nI_1]; exact ih 0 (Or.inl ⟨rfl, step (fun z => b z.2) h⟩)
      · rw [ey, nI_1]; exact ih 0 (Or.inl ⟨rfl, step (fun z => a (by have := z.1; rw [e] at this; cases this; rfl)) h⟩)
    · exact rt_ytg hQ hR hi (fun e => br_f (by decide) (fun y ey => by rw [ey, nI_1]; exact ih 1 (Or.inr ⟨rfl, h⟩))) (fun t ht e d => br_f (by decide) (fun y ey => by rw [ey, nI_1]; exact ih 1 (Or.inr ⟨rfl, h⟩)))
end
end
section
/-! bits of the sound sets -/
theorem rt_b1 : ∀ j, j < 32 → bt 1 j = decide (j = 0) := by decide +kernel
theorem rt_b63 : ∀ j, j < 32 → bt 63 j = decide (j < 6) := by decide +kernel
theorem rt_sh1 {i c : Nat} (hi : i < 32) (hc : c < 32) : bt ((1 : Int32) <<< (nI i &&& 31)) c = decide (i = c) := by
  rw [b_shl i hi 1 hc, rt_b1 _ (by omega), ← Bool.decide_and]
  exact decide_eq_decide.mpr (by omega)
theorem rt_a1 (y : Int32) : (y &&& 1 = 1 ↔ bt y 0 = true) ∧ (y &&& 1 = 0 ↔ bt y 0 = false) := by
  have e : ∀ j, j < 32 → bt (y &&& 1) j = (bt y j && decide (j = 0)) := fun j hj => by rw [b_and, rt_b1 j hj]
  cases h : bt y 0
  · have q : y &&& 1 = 0 := b_ext (fun j hj => by
      rw [e j hj, b_0]
      by_cases q : j = 0
      · subst q; rw [h]; rfl
      · rw [decide_eq_false q, Bool.and_false])
    rw [q]; decide
  · have q : y &&& 1 = 1 := b_ext (fun j hj => by
      rw [e j hj, rt_b1 j hj]
      by_cases q : j = 0
      · subst q; rw [h]; rfl
      · rw [decide_eq_false q, Bool.and_false])
    rw [q]; decide
theorem rt_sr {x : Int32} {c : Nat} (hc : c < 6) : (((x >>> (nI c &&& 31)) &&& 1) = 1 ↔ bt x c = true) ∧ (((x >>> (nI c &&& 31)) &&& 1) = 0 ↔ bt x c = false) := by
  have e : bt (x >>> (nI c &&& 31)) 0 = bt x c := by rw [b_sshr c (by omega) x (by omega), if_pos (by omega), Nat.add_zero]
  have := rt_a1 (x >>> (nI c &&& 31))
  rw [e] at this
  exact this
theorem rt_sdb (f : Nat → Bool) : ∀ n, n ≤ 120 → ∀ c, c < 32 → (bt (rt_sd f n) c = true ↔ c < 6 ∧ ∀ p, p < n → f p = true → ¬ rt_c p = c)
  | 0, _, c, hc => by
    show bt 63 c = true ↔ _
    rw [rt_b63 c hc, decide_eq_true_iff]
    exact ⟨fun h => ⟨h, fun p hp => absurd hp (Nat.not_lt_zero p)⟩, fun h => h.1⟩
  | n + 1, hn, c, hc => by
    have ih := rt_sdb f n (by omega) c hc
    have c6 := rt_c6 (p := n) (by omega)
    by_cases a : f n = true
    · rw [rt_sd_t a, b_and, b_xor, rt_sh1 (by omega) hc, b_m1 c hc, Bool.and_eq_true, ih]
      constructor
      · intro ⟨⟨h1, h2⟩, h3⟩
        refine ⟨h1, fun p hp hf => ?_⟩
        by_cases q : p = n
        · subst q
          intro z
          rw [decide_eq_true z] at h3
          cases h3
        · exact h2 p (by omega) hf
      · intro ⟨h1, h2⟩
        refine ⟨⟨h1, fun p hp => h2 p (by omega)⟩, ?_⟩
        rw [decide_eq_false (h2 n (by omega) a)]; rfl
    · rw [rt_sd_f a, ih]
      refine ⟨fun ⟨h1, h2⟩ => ⟨h1, fun p hp hf => ?_⟩, fun ⟨h1, h2⟩ => ⟨h1, fun p hp => h2 p (by omega)⟩⟩
      by_cases q : p = n
      · subst q; exact absurd hf a
      · exact h2 p (by omega) hf
theorem rt_leb (Q : Nat → Int32) : ∀ n, n ≤ 6 → ∀ c, c < 32 → (bt (rt_le Q n) c = true ↔ c < n ∧ Q c = 3)
  | 0, _, c, hc => by
    show bt 0 c = true ↔ _
    rw [b_0]
    exact ⟨fun h => (nomatch h), fun h => absurd h.1 (Nat.not_lt_zero c)⟩
  | n + 1, hn, c, hc => by
    have ih := rt_leb Q n (by omega) c hc
    by_cases a : Q n = 3
    · rw [show rt_le Q (n + 1) = rt_le Q n ||| ((1 : Int32) <<< (nI n &&& 31)) from if_pos a, b_or, rt_sh1 (by omega) hc, Bool.or_eq_true, ih, decide_eq_true_iff]
      constructor
      · rintro (⟨h1, h2⟩ | h)
        · exact ⟨by omega, h2⟩
        · subst h; exact ⟨by omega, a⟩
      · intro ⟨h1, h2⟩
        by_cases q : n = c
        · exact Or.inr q
        · exact Or.inl ⟨by omega, h2⟩
    · rw [show rt_le Q (n + 1) = rt_le Q n from if_neg a, ih]
      refine ⟨fun ⟨h1, h2⟩ => ⟨by omega, h2⟩, fun ⟨h1, h2⟩ => ⟨?_, h2⟩⟩
      by_cases q : c = n
      · subst q; exact absurd h2 a
      · omega
theorem rt_z (x : Int32) : x = 0 ↔ ∀ c, c < 32 → ¬ bt x c = true :=
  ⟨fun h c _ => by rw [h, b_0]; exact Bool.false_ne_true, fun h => b_ext (fun c hc => by rw [b_0]; exact ts_nt (h c hc))⟩
theorem rt_an {x y : Int32} {c : Nat} (hc : c < 32) : bt (x &&& (y ^^^ (-1))) c = true ↔ bt x c = true ∧ bt y c = false := by
  rw [b_and, b_xor, b_m1 c hc]
  cases bt x c <;> cases bt y c <;> decide
def rt_bad (op : Int32) (Q : Nat → Int32) (s now : Int32) : Prop := ∃ c, c < 6 ∧ ¬ Q c < 0 ∧ (Q c < 3 ∨ op = 0) ∧ bt s c = true ∧ bt now c = false
def rt_badC (Q : Nat → Int32) (s now : Int32) : Prop := ∃ c, c < 6 ∧ Q c = 3 ∧ bt s c = true ∧ bt now c = false
/-- sound links of a state -/
def rt_S (T R L Q : Nat → Int32) : Int32 := rt_sd (rt_dg T R L Q) 120
theorem rt_S6 {T R L Q : Nat → Int32} {c : Nat} (hc : c < 32) (h : bt (rt_S T R L Q) c = true) : c < 6 := ((rt_sdb _ 120 (by decide) c hc).mp h).1
theorem rt_Sm {T R L Q : Nat → Int32} {c : Nat} (hc : c < 6) (h : Q c = -1) : bt (rt_S T R L Q) c = true := by
  refine (rt_sdb _ 120 (by decide) c (by omega)).mpr ⟨hc, fun p hp hf z => ?_⟩
  obtain ⟨t, e, _⟩ := rt_dgT.mp hf
  exact (rt_tgS e).2.1 (by rw [z]; exact h)
theorem rt_Sc {T R R' L Q : Nat → Int32} (h : ∀ p, p < 120 → ¬ T (p / 2) = 0 → R p = R' p) : rt_S T R L Q = rt_S T R' L Q :=
  rt_sd_congr 120 (fun p hp => rt_dgc (h p hp))
/-- nothing new dangles: nothing is bad -/
theorem rt_Sle {op : Int32} {T R T' R' L Q : Nat → Int32} (h : ∀ p, p < 120 → rt_dg T' R' L Q p = true → rt_dg T R L Q p = true) : ¬ rt_bad op Q (rt_S T R L Q) (rt_S T' R' L Q) := by
  intro ⟨c, hc, _, _, a, b⟩
  have a := (rt_sdb _ 120 (by decide) c (by omega)).mp a
  have b2 : bt (rt_S T' R' L Q) c = true := (rt_sdb _ 120 (by decide) c (by omega)).mpr ⟨hc, fun p hp hf => a.2 p hp (h p hp hf)⟩
  rw [b2] at b; cases b
theorem rt_badX0 {op s now : Int32} {L Q : Nat → Int32} (hQ : rt_QL L Q) (hs : ∀ c, c < 32 → bt s c = true → c < 6) (hn : ∀ c, c < 6 → Q c = -1 → bt now c = true) (ho : op = 0) : (s &&& (now ^^^ (-1))) = 0 ↔ ¬ rt_bad op Q s now := by
  rw [rt_z]
  constructor
  · intro h ⟨c, hc, _, _, a, b⟩
    exact h c (by omega) ((rt_an (by omega)).mpr ⟨a, b⟩)
  · intro h c hc z
    obtain ⟨a, b⟩ := (rt_an hc).mp z
    have c6 := hs c hc a
    refine h ⟨c, c6, fun q => ?_, Or.inr ho, a, b⟩
    rw [hn c c6 ((rt_Q0 hQ c6).mp q)] at b; cases b
theorem rt_badX1 {op s now : Int32} {L Q : Nat → Int32} (hQ : rt_QL L Q) (hs : ∀ c, c < 32 → bt s c = true → c < 6) (hn : ∀ c, c < 6 → Q c = -1 → bt now c = true) (ho : ¬ op = 0) : ((s &&& (now ^^^ (-1))) &&& (rt_le Q 6 ^^^ (-1))) = 0 ↔ ¬ rt_bad op Q s now := by
  rw [rt_z]
  constructor
  · intro h ⟨c, hc, _, d, a, b⟩
    refine h c (by omega) ((rt_an (by omega)).mpr ⟨(rt_an (by omega)).mpr ⟨a, b⟩, ts_nt (fun z => ?_)⟩)
    have z := ((rt_leb Q 6 (by decide) c (by omega)).mp z).2
    rcases d with d | d
    · exact (rt_Q3 hQ hc).mp d z
    · exact ho d
  · intro h c hc z
    obtain ⟨z1, z2⟩ := (rt_an hc).mp z
    obtain ⟨a, b⟩ := (rt_an hc).mp z1
    have c6 := hs c hc a
    refine h ⟨c, c6, fun q => ?_, Or.inl ((rt_Q3 hQ c6).mpr (fun q => ?_)), a, b⟩
    · rw [hn c c6 ((rt_Q0 hQ c6).mp q)] at b; cases b
    · rw [(rt_leb Q 6 (by decide) c hc).mpr ⟨c6, q⟩] at z2; cases z2
theorem rt_badXC {s now : Int32} {Q : Nat → Int32} : ((s &&& (now ^^^ (-1))) &&& rt_le Q 6) = 0 ↔ ¬ rt_badC Q s now := by
  rw [rt_z]
  constructor
  · intro h ⟨c, hc, d, a, b⟩
    refine h c (by omega) ?_
    rw [b_and, (rt_an (by omega)).mpr ⟨a, b⟩, (rt_leb Q 6 (by decide) c (by omega)).mpr ⟨hc, d⟩]; rfl
  · intro h c hc z
    rw [b_and, Bool.and_eq_true] at z
    obtain ⟨a, b⟩ := (rt_an hc).mp z.1
    obtain ⟨c6, d⟩ := (rt_leb Q 6 (by decide) c hc).mp z.2
    exact h ⟨c, c6, d, a, b⟩
end
section
/-! copies -/
def rt_kp (K : Nat → Int32) (b n : Nat) (A : Nat → Int32) : Nat → Int32 := fun j => if b ≤ j ∧ j < b + n then A (j - b) else K j
theorem rt_kp0 {K A : Nat → Int32} {b : Nat} : rt_kp K b 0 A = K := funext (fun j => if_neg (by omega))
theorem rt_kps {K A : Nat → Int32} {b i : Nat} : upd (rt_kp K b i A) (b + i) (A i) = rt_kp K b (i + 1) A := funext fun j => by
  unfold upd rt_kp
  by_cases h : j = b + i
  · rw [if_pos h, if_pos (by omega), show j - b = i from by omega]
  · rw [if_neg h]
    by_cases q : b ≤ j ∧ j < b + i
    · rw [if_pos q, if_pos (by omega)]
    · rw [if_neg q, if_neg (by omega)]
theorem rt_kpI {K A : Nat → Int32} {b n i : Nat} (h : i < n) : rt_kp K b n A (b + i) = A i := by
  unfold rt_kp; rw [if_pos (by omega), show b + i - b = i from by omega]
theorem rt_kpO {K A : Nat → Int32} {b n j : Nat} (h : j < b ∨ b + n ≤ j) : rt_kp K b n A j = K j := if_neg (by omega)
def rt_rs (K : Nat → Int32) (b n : Nat) (A : Nat → Int32) : Nat → Int32 := fun j => if j < n then K (b + j) else A j
theorem rt_rs0 {K A : Nat → Int32} {b : Nat} : rt_rs K b 0 A = A := funext (fun j => if_neg (by omega))
theorem rt_rss {K A : Nat → Int32} {b i : Nat} : upd (rt_rs K b i A) i (K (b + i)) = rt_rs K b (i + 1) A := funext fun j => by
  unfold upd rt_rs
  by_cases h : j = i
  · rw [if_pos h, if_pos (by omega), h]
  · rw [if_neg h]
    by_cases q : j < i
    · rw [if_pos q, if_pos (by omega)]
    · rw [if_neg q, if_neg (by omega)]
theorem rt_rsI {K A : Nat → Int32} {b n i : Nat} (h : i < n) : rt_rs K b n A i = K (b + i) := if_pos h
theorem rt_rsc {K K' A : Nat → Int32} {b n : Nat} (h : ∀ j, j < n → K (b + j) = K' (b + j)) : rt_rs K b n A = rt_rs K' b n A := funext fun j => by
  unfold rt_rs
  by_cases q : j < n
  · rw [if_pos q, if_pos q, h j q]
  · rw [if_neg q, if_neg q]
def rt_nr (A : Nat → Int32) : Nat → Int32 := fun j => vp_nar .boolean (A j)
section
variable {op mk sb sbs : Int32} {T V R L Q kT kV kR g RX RY kTX kTY kVX kVY kRX kRY : Nat → Int32}
theorem rt_xkeep50 {st : Nat} (hst : st < 5) {post : SX → Prop} (h : post (op, mk, sb, sbs, T, V, R, L, Q, kT, kV, (rt_kp kR (120 * st) 120 R))) : ∃ n, wX_keepState_50 post (nI st) op mk sb sbs n 0 T V R L Q kT kV kR := by
  have key := rt_loopF (fun n i s => wX_keepState_50 post (nI st) op mk sb sbs n (nI i) T V R L Q kT kV s) (fun i => rt_kp kR (120 * st) i R) 120 (fun n => br_t (nI_le (a := 120) (b := 120) (by decide) (by decide)) h) (fun n i hi ih => by
    refine br_f (nI_ge (b := 120) hi (by decide)) ⟨vp_in_nI hi (by decide), ?_⟩
    rw [rt_120a, nI_clamp (n := 120 * st + i) (by omega), nI_clamp (n := i) (by omega)]
    refine ⟨vp_in_nI (by omega) (by decide), fun y ey z ez => ?_⟩
    rw [ez, ey.trans rt_kps, nI_1]; exact ih)
  rw [rt_kp0] at key
  exact key
theorem rt_xkeep {st : Nat} (hst : st < 5) {post : SX → Prop} (h : post (op, mk, sb, sbs, T, V, R, L, Q, (rt_kp kT (60 * st) 60 (rt_nr T)), (rt_kp kV (60 * st) 60 V), (rt_kp kR (120 * st) 120 R))) : wpX_keepState post (op, mk, sb, sbs, T, V, R, L, Q, kT, kV, kR) (nI st) := by
  unfold wpX_keepState; dsimp only
  have key := rt_loopF (fun n i (s : (Nat → Int32) × (Nat → Int32)) => wX_keepState_2 post (nI st) op mk sb sbs n (nI i) T V R L Q s.1 s.2 kR) (fun i => (rt_kp kT (60 * st) i (rt_nr T), rt_kp kV (60 * st) i V)) 60 (fun n => br_t (nI_le (a := 60) (b := 60) (by decide) (by decide)) (rt_xkeep50 hst h)) (fun n i hi ih => by
    refine br_f (nI_ge (b := 60) hi (by decide)) ⟨vp_in_nI hi (by decide), ?_⟩
    rw [rt_60a, nI_clamp (n := 60 * st + i) (by omega), nI_clamp (n := i) (by omega)]
    refine ⟨vp_in_nI (by omega) (by decide), fun y ey => ⟨vp_in_nI hi (by decide), vp_in_nI (by omega) (by decide), fun w ew z ez => ?_⟩⟩
    rw [ez, ey.trans (rt_kps (A := rt_nr T)), ew.trans rt_kps, nI_1]; exact ih)
  dsimp only at key
  rw [rt_kp0, rt_kp0] at key
  exact key
theorem rt_xrest50 {st : Nat} (hst : st < 5) {post : SX → Prop} (h : post (op, mk, sb, sbs, T, V, (rt_rs kR (120 * st) 120 R), L, Q, kT, kV, kR)) : ∃ n, wX_restoreState_50 post (nI st) op mk sb sbs n 0 T V R L Q kT kV kR := by
  have key := rt_loopF (fun n i s => wX_restoreState_50 post (nI st) op mk sb sbs n (nI i) T V s L Q kT kV kR) (fun i => rt_rs kR (120 * st) i R) 120 (fun n => br_t (nI_le (a := 120) (b := 120) (by decide) (by decide)) h) (fun n i hi ih => by
    refine br_f (nI_ge (b := 120) hi (by decide)) ?_
    rw [rt_120a, nI_clamp (n := 120 * st + i) (by omega), nI_clamp (n := i) (by omega)]
    refine ⟨vp_in_nI (by omega) (by decide), vp_in_nI hi (by decide), fun y ey z ez => ?_⟩
    rw [ez, ey.trans rt_rss, nI_1]; exact ih)
  rw [rt_rs0] at key
  exact key
theorem rt_xrest {st : Nat} (hst : st < 5) {post : SX → Prop} (h : post (op, mk, sb, sbs, (rt_rs (rt_nr kT) (60 * st) 60 T), (rt_rs kV (60 * st) 60 V), (rt_rs kR (120 * st) 120 R), L, Q, kT, kV, kR)) : wpX_restoreState post (op, mk, sb, sbs, T, V, R, L, Q, kT, kV, kR) (nI st) := by
  unfold wpX_restoreState; dsimp only
  have key := rt_loopF (fun n i (s : (Nat → Int32) × (Nat → Int32)) => wX_restoreState_2 post (nI st) op mk sb sbs n (nI i) s.1 s.2 R L Q kT kV kR) (fun i => (rt_rs (rt_nr kT) (60 * st) i T, rt_rs kV (60 * st) i V)) 60 (fun n => br_t (nI_le (a := 60) (b := 60) (by decide) (by decide)) (rt_xrest50 hst h)) (fun n i hi ih => by
    refine br_f (nI_ge (b := 60) hi (by decide)) ?_
    rw [rt_60a, nI_clamp (n := 60 * st + i) (by omega), nI_clamp (n := i) (by omega)]
    refine ⟨vp_in_nI (by omega) (by decide), vp_in_nI hi (by decide), fun y ey => ⟨vp_in_nI (by omega) (by decide), vp_in_nI hi (by decide), fun w ew z ez => ?_⟩⟩
    rw [ez, ey.trans (rt_rss (K := rt_nr kT)), ew.trans rt_rss, nI_1]; exact ih)
  dsimp only at key
  rw [rt_rs0, rt_rs0] at key
  exact key
theorem rt_ykeep50 {st : Nat} (hst : st < 5) {post : SY → Prop} (h : post (op, mk, sb, L, Q, T, R, V, kT, (rt_kp kR (120 * st) 120 R), kV, g)) : ∃ n, wY_keep_50 post (nI st) op mk sb n 0 L Q T R V kT kR kV g := by
  have key := rt_loopF (fun n i s => wY_keep_50 post (nI st) op mk sb n (nI i) L Q T R V kT s kV g) (fun i => rt_kp kR (120 * st) i R) 120 (fun n => br_t (nI_le (a := 120) (b := 120) (by decide) (by decide)) h) (fun n i hi ih => by
    refine br_f (nI_ge (b := 120) hi (by decide)) ⟨vp_in_nI hi (by decide), ?_⟩
    rw [rt_120b, nI_clamp (n := 120 * st + i) (by omega), nI_clamp (n := i) (by omega)]
    refine ⟨vp_in_nI (by omega) (by decide), fun y ey z ez => ?_⟩
    rw [ez, ey.trans rt_kps, nI_1]; exact ih)
  rw [rt_kp0] at key
  exact key
theorem rt_ykeep {st : Nat} (hst : st < 5) {post : SY → Prop} (h : post (op, mk, sb, L, Q, T, R, V, (rt_kp kT (60 * st) 60 (rt_nr T)), (rt_kp kR (120 * st) 120 R), (rt_kp kV (60 * st) 60 V), g)) : wpY_keep post (op, mk, sb, L, Q, T, R, V, kT, kR, kV, g) (nI st) := by
  unfold wpY_keep; dsimp only
  have key := rt_loopF (fun n i (s : (Nat → Int32) × (Nat → Int32)) => wY_keep_2 post (nI st) op mk sb n (nI i) L Q T R V s.1 kR s.2 g) (fun i => (rt_kp kT (60 * st) i (rt_nr T), rt_kp kV (60 * st) i V)) 60 (fun n => br_t (nI_le (a := 60) (b := 60) (by decide) (by decide)) (rt_ykeep50 hst h)) (fun n i hi ih => by
    refine br_f (nI_ge (b := 60) hi (by decide)) ⟨vp_in_nI hi (by decide), ?_⟩
    rw [rt_60b, nI_clamp (n := 60 * st + i) (by omega), nI_clamp (n := i) (by omega)]
    refine ⟨vp_in_nI (by omega) (by decide), fun y ey => ⟨vp_in_nI hi (by decide), vp_in_nI (by omega) (by decide), fun w ew z ez => ?_⟩⟩
    rw [ez, ey.trans (rt_kps (A := rt_nr T)), ew.trans rt_kps, nI_1]; exact ih)
  dsimp only at key
  rw [rt_kp0, rt_kp0] at key
  exact key
theorem rt_yrest50 {st : Nat} (hst : st < 5) {post : SY → Prop} (h : post (op, mk, sb, L, Q, T, (rt_rs kR (120 * st) 120 R), V, kT, kR, kV, g)) : ∃ n, wY_restore_50 post (nI st) op mk sb n 0 L Q T R V kT kR kV g := by
  have key := rt_loopF (fun n i s => wY_restore_50 post (nI st) op mk sb n (nI i) L Q T s V kT kR kV g) (fun i => rt_rs kR (120 * st) i R) 120 (fun n => br_t (nI_le (a := 120) (b := 120) (by decide) (by decide)) h) (fun n i hi ih => by
    refine br_f (nI_ge (b := 120) hi (by decide)) ?_
    rw [rt_120b, nI_clamp (n := 120 * st + i) (by omega), nI_clamp (n := i) (by omega)]
    refine ⟨vp_in_nI (by omega) (by decide), vp_in_nI hi (by decide), fun y ey z ez => ?_⟩
    rw [ez, ey.trans rt_rss, nI_1]; exact ih)
  rw [rt_rs0] at key
  exact key
theorem rt_yrest {st : Nat} (hst : st < 5) {post : SY → Prop} (h : post (op, mk, sb, L, Q, (rt_rs (rt_nr kT) (60 * st) 60 T), (rt_rs kR (120 * st) 120 R), (rt_rs kV (60 * st) 60 V), kT, kR, kV, g)) : wpY_restore post (op, mk, sb, L, Q, T, R, V, kT, kR, kV, g) (nI st) := by
  unfold wpY_restore; dsimp only
  have key := rt_loopF (fun n i (s : (Nat → Int32) × (Nat → Int32)) => wY_restore_2 post (nI st) op mk sb n (nI i) L Q s.1 R s.2 kT kR kV g) (fun i => (rt_rs (rt_nr kT) (60 * st) i T, rt_rs kV (60 * st) i V)) 60 (fun n => br_t (nI_le (a := 60) (b := 60) (by decide) (by decide)) (rt_yrest50 hst h)) (fun n i hi ih => by
    refine br_f (nI_ge (b := 60) hi (by decide)) ?_
    rw [rt_60b, nI_clamp (n := 60 * st + i) (by omega), nI_clamp (n := i) (by omega)]
    refine ⟨vp_in_nI (by omega) (by decide), vp_in_nI hi (by decide), fun y ey => ⟨vp_in_nI (by omega) (by decide), vp_in_nI hi (by decide), fun w ew z ez => ?_⟩⟩
    rw [ez, ey.trans (rt_rss (K := rt_nr kT)), ew.trans rt_rss, nI_1]; exact ih)
  dsimp only at key
  rw [rt_rs0, rt_rs0] at key
  exact key
theorem rt_xstart (hQ : rt_QL L Q) (hR : rt_RR T R) {post : SX → Prop} (h : post (op, mk, sb, (rt_S T R L Q), T, V, R, L, Q, (rt_kp kT (60 * 4) 60 (rt_nr T)), (rt_kp kV (60 * 4) 60 V), (rt_kp kR (120 * 4) 120 R))) : wpX_startStatement post (op, mk, sb, sbs, T, V, R, L, Q, kT, kV, kR) := by
  unfold wpX_startStatement; dsimp only
  exact rt_xsound hQ hR (rt_xkeep (st := 4) (by decide) h)
theorem rt_xend (hQ : rt_QL L Q) (hR : rt_RR T R) (hs : ∀ c, c < 32 → bt sbs c = true → c < 6) {ans : Int32} {post : Int32 → SX → Prop} (h0 : ¬ rt_bad op Q sbs (rt_S T R L Q) → post ans (op, mk, sb, sbs, T, V, R, L, Q, kT, kV, kR)) (h1 : rt_bad op Q sbs (rt_S T R L Q) → post (-9) (op, mk, sb, sbs, (rt_rs (rt_nr kT) (60 * 4) 60 T), (rt_rs kV (60 * 4) 60 V), (rt_rs kR (120 * 4) 120 R), L, Q, kT, kV, kR)) : wpX_endStatement post (op, mk, sb, sbs, T, V, R, L, Q, kT, kV, kR) ans := by
  unfold wpX_endStatement; dsimp only
  refine rt_xsound hQ hR (fun y ey => br_c (fun a => ?_) (fun a => rt_xlinks _ (fun z ez => ?_)))
  · unfold wX_endStatement_28
    rw [ey]
    exact br_c (fun b => h0 ((rt_badX0 hQ hs (fun c hc q => rt_Sm hc q) a).mp b)) (fun b => rt_xrest (st := 4) (by decide) (h1 (Classical.not_not.mp (fun q => b ((rt_badX0 hQ hs (fun c hc q => rt_Sm hc q) a).mpr q)))))
  · unfold wX_endStatement_28
    rw [ez, ey]
    exact br_c (fun b => h0 ((rt_badX1 hQ hs (fun c hc q => rt_Sm hc q) a).mp b)) (fun b => rt_xrest (st := 4) (by decide) (h1 (Classical.not_not.mp (fun q => b ((rt_badX1 hQ hs (fun c hc q => rt_Sm hc q) a).mpr q)))))
theorem rt_ychecked (hQ : rt_QL L Q) (hR : rt_RR T R) {s ans : Int32} {post : Int32 → SY → Prop} (h0 : ¬ rt_bad op Q s (rt_S T R L Q) → post ans (op, mk, sb, L, Q, T, R, V, kT, kR, kV, g)) (h1 : rt_bad op Q s (rt_S T R L Q) → post (-9) (op, mk, sb, L, Q, (rt_rs (rt_nr kT) (60 * 4) 60 T), (rt_rs kR (120 * 4) 120 R), (rt_rs kV (60 * 4) 60 V), kT, kR, kV, g)) : wpY_checked post (op, mk, sb, L, Q, T, R, V, kT, kR, kV, g) s ans := by
  unfold wpY_checked; dsimp only
  refine rt_ysound hQ hR ?_
  refine rt_loopS (fun n i => wY_checked_8 post s ans (rt_S T R L Q) op mk sb L Q T R V kT kR kV g n (nI i)) (fun c => ¬ Q c < 0 ∧ (Q c < 3 ∨ op = 0) ∧ bt s c = true ∧ bt (rt_S T R L Q) c = false) 6 (fun hn n => br_t (nI_le (a := 6) (b := 6) (by decide) (by decide)) (h0 (fun ⟨c, hc, z⟩ => hn c hc z))) (fun n i hi hn ih => br_f (nI_ge (b := 6) hi (by decide)) ⟨vp_in_nI hi (by decide), ?_⟩)
  rw [nI_clamp (n := i) (by omega)]
  have k0 : ¬ (¬ Q i < 0 ∧ (Q i < 3 ∨ op = 0) ∧ bt s i = true ∧ bt (rt_S T R L Q) i = false) → wY_checked_48 post (wY_checked_8 post s ans (rt_S T R L Q) op mk sb L Q T R V kT kR kV g n) s ans (rt_S T R L Q) (nI i) 0 op mk sb L Q T R V kT kR kV g := fun a => br_t rfl (fun y ey => by rw [ey, nI_1]; exact ih a)
  have k1 : ¬ Q i < 0 → (Q i < 3 ∨ op = 0) → wY_checked_48 post (wY_checked_8 post s ans (rt_S T R L Q) op mk sb L Q T R V kT kR kV g n) s ans (rt_S T R L Q) (nI i) 1 op mk sb L Q T R V kT kR kV g := fun a b => br_f (by decide) (br_c (fun c => br_c (fun d => rt_yrest (st := 4) (by decide) (h1 ⟨i, hi, a, b, (rt_sr hi).1.mp c, (rt_sr hi).2.mp d⟩)) (fun d y ey => by rw [ey, nI_1]; exact ih (fun z => d ((rt_sr hi).2.mpr z.2.2.2)))) (fun c y ey => by rw [ey, nI_1]; exact ih (fun z => c ((rt_sr hi).1.mpr z.2.2.1))))
  exact br_c (fun a => k0 (fun z => z.1 a)) (fun a => ⟨vp_in_nI hi (by decide), br_c (fun b => k1 a (Or.inl b)) (fun b => br_c (fun c => k1 a (Or.inr c)) (fun c => k0 (fun z => z.2.1.elim b c)))⟩)
end
end
section
/-! the rows that go: the least closed set -/
def rt_G (T R L Q : Nat → Int32) (r s : Nat) : Prop := ∀ S : Nat → Prop, S r → (∀ p t, p < 120 → rt_tg T R L Q p = some t → Q (rt_c p) = 1 → S t → S (p / 2)) → S s
noncomputable def rt_Gb (T R L Q : Nat → Int32) (r s : Nat) : Bool := @decide (rt_G T R L Q r s) (Classical.propDecidable _)
theorem rt_Gbt {T R L Q : Nat → Int32} {r s : Nat} : rt_Gb T R L Q r s = true ↔ rt_G T R L Q r s := @decide_eq_true_iff _ (Classical.propDecidable _)
def rt_F (T R L Q : Nat → Int32) (r : Nat) : Prop := ∃ p t, p < 120 ∧ rt_tg T R L Q p = some t ∧ Q (rt_c p) = 0 ∧ rt_G T R L Q r t ∧ ¬ rt_G T R L Q r (p / 2)
theorem rt_G0 {T R L Q : Nat → Int32} {r : Nat} : rt_G T R L Q r r := fun _ a _ => a
theorem rt_Gs {T R L Q : Nat → Int32} {r p t : Nat} (hp : p < 120) (e : rt_tg T R L Q p = some t) (q : Q (rt_c p) = 1) (h : rt_G T R L Q r t) : rt_G T R L Q r (p / 2) := fun S a b => b p t hp e q (h S a b)
theorem rt_GT {T R L Q : Nat → Int32} {r s : Nat} (hT : ¬ T r = 0) (h : rt_G T R L Q r s) : ¬ T s = 0 := h (fun s => ¬ T s = 0) hT (fun p t hp e q _ => (rt_tgS e).1)
theorem rt_G60 {T R L Q : Nat → Int32} {r s : Nat} (hr : r < 60) (h : rt_G T R L Q r s) : s < 60 := h (fun s => s < 60) hr (fun p t hp _ _ _ => by omega)
theorem rt_Gc {T R R' L Q : Nat → Int32} {r s : Nat} (h : ∀ p, p < 120 → rt_tg T R L Q p = rt_tg T R' L Q p) : rt_G T R L Q r s ↔ rt_G T R' L Q r s :=
  ⟨fun z S a b => z S a (fun p t hp e => b p t hp ((h p hp).symm.trans e)), fun z S a b => z S a (fun p t hp e => b p t hp ((h p hp).trans e))⟩
theorem rt_o1 : ∀ k, k < 64 → ((1 : Int64) <<< ((nI k).toInt64 &&& 63)).toBitVec = BitVec.twoPow 64 k := by decide +kernel
theorem rt_bit1 {k s : Nat} (hk : k < 64) : rt_bit ((1 : Int64) <<< ((nI k).toInt64 &&& 63)) s = true ↔ s = k := by
  unfold rt_bit
  rw [rt_o1 k hk, BitVec.getLsbD_twoPow, Bool.and_eq_true, decide_eq_true_iff, decide_eq_true_iff]
  exact ⟨fun h => h.2.symm, fun h => ⟨hk, h.symm⟩⟩
theorem rt_bitor {y : Int64} {k s : Nat} (hk : k < 64) : rt_bit (y ||| ((1 : Int64) <<< ((nI k).toInt64 &&& 63))) s = true ↔ rt_bit y s = true ∨ s = k := by
  rw [← rt_bit1 (s := s) hk]
  unfold rt_bit
  rw [Int64.toBitVec_or, BitVec.getLsbD_or, Bool.or_eq_true]
theorem rt_bitx {x y : Int64} (h : ∀ s, s < 64 → rt_bit x s = rt_bit y s) : x = y := Int64.toBitVec_inj.mp (BitVec.eq_of_getLsbD_eq (fun i hi => h i hi))
section
variable {op mk sb sbs : Int32} {T V R L Q kT kV kR g RX RY kTX kTY kVX kVY kRX kRY : Nat → Int32}
theorem rt_xfol (hQ : rt_QL L Q) (hR : rt_RR T R) {w : Int64} {post : Int64 → Prop} (h : ∀ y, (∀ s, s < 64 → (rt_bit y s = true ↔ rt_bit w s = true ∨ ∃ p t, p < 120 ∧ p / 2 = s ∧ rt_tg T R L Q p = some t ∧ Q (rt_c p) = 1 ∧ rt_bit w t = true)) → post y) : wpX_withFollowers post (op, mk, sb, sbs, T, V, R, L, Q, kT, kV, kR) w := by
  unfold wpX_withFollowers; dsimp only
  refine loop_0 (fun n i y => wX_withFollowers_5 post w op mk sb sbs T V R L Q kT kV kR n y (nI i)) (fun i y => ∀ s, s < 64 → (rt_bit y s = true ↔ rt_bit w s = true ∨ ∃ p t, p < i ∧ p / 2 = s ∧ rt_tg T R L Q p = some t ∧ Q (rt_c p) = 1 ∧ rt_bit w t = true)) 120 w (fun s _ => ⟨Or.inl, fun z => z.elim id (fun ⟨p, t, hp, _⟩ => absurd hp (Nat.not_lt_zero p))⟩) (fun n y hy => br_t (nI_le (a := 120) (b := 120) (by decide) (by decide)) (h y hy)) (fun n i y hi hy ih => br_f (nI_ge (b := 120) hi (by decide)) ?_)
  have same : ¬ (∃ t, rt_tg T R L Q i = some t ∧ Q (rt_c i) = 1 ∧ rt_bit w t = true) → ∀ s, s < 64 → (rt_bit y s = true ↔ rt_bit w s = true ∨ ∃ p t, p < i + 1 ∧ p / 2 = s ∧ rt_tg T R L Q p = some t ∧ Q (rt_c p) = 1 ∧ rt_bit w t = true) := by
    intro no s hs
    rw [hy s hs]
    refine ⟨fun z => z.imp id (fun ⟨p, t, hp, z⟩ => ⟨p, t, by omega, z⟩), fun z => z.imp id (fun ⟨p, t, hp, zz⟩ => ⟨p, t, ?_, zz⟩)⟩
    by_cases q : p = i
    · subst q; exact absurd ⟨t, zz.2.1, zz.2.2.1, zz.2.2.2⟩ no
    · omega
  refine rt_xtg hQ hR hi (fun e => rt_xinN (br_t rfl (fun z ez => ?_))) (fun t ht e => rt_xin (by omega) (fun a => br_t rfl (fun z ez => ?_)) (fun a => br_f (by decide) (rt_xrule hi (br_c (fun b => ⟨by decide, fun z ez u eu => ?_⟩) (fun b z ez => ?_)))))
  · rw [ez, nI_1]
    exact ih y (same (fun ⟨t, q, _⟩ => by rw [e] at q; cases q))
  · rw [ez, nI_1]
    exact ih y (same (fun ⟨t', q, _, q2⟩ => by rw [e] at q; cases q; exact a q2))
  · rw [rt_n2 (p := i) (by omega)] at ez
    rw [eu, nI_1, ez]
    refine ih _ (fun s hs => ?_)
    rw [rt_bitor (by omega), hy s hs]
    constructor
    · rintro ((z | ⟨p, t, hp, z⟩) | z)
      · exact Or.inl z
      · exact Or.inr ⟨p, t, by omega, z⟩
      · exact Or.inr ⟨i, t, by omega, z.symm, e, b, a⟩
    · rintro (z | ⟨p, t', hp, z⟩)
      · exact Or.inl (Or.inl z)
      · by_cases q : p = i
        · subst q; exact Or.inr z.1.symm
        · exact Or.inl (Or.inr ⟨p, t', by omega, z⟩)
  · rw [ez, nI_1]
    exact ih y (same (fun ⟨t', _, q, _⟩ => b q))
theorem rt_xgo (hQ : rt_QL L Q) (hR : rt_RR T R) {r : Nat} (hr : r < 60) {post : Int64 → Prop} (h : ∀ w, (∀ s, s < 64 → (rt_bit w s = true ↔ rt_G T R L Q r s)) → post w) : wpX_goingWith post (op, mk, sb, sbs, T, V, R, L, Q, kT, kV, kR) (nI r) := by
  unfold wpX_goingWith; dsimp only
  intro y ey
  refine loop_0 (fun n i w => wX_goingWith_7 post op mk sb sbs T V R L Q kT kV kR n w (nI i)) (fun i w => rt_bit w r = true ∧ (∀ s, s < 64 → rt_bit w s = true → rt_G T R L Q r s) ∧ i + 1 ≤ rt_cnt (rt_bit w) 60) 60 y ?_ (fun n w hw => absurd (rt_cnt_le (rt_bit w) 60) (by omega)) (fun n i w hi hw ih => br_f (nI_ge (b := 60) hi (by decide)) (rt_xfol hQ hR (fun w' hw' => ?_)))
  · rw [ey]
    refine ⟨(rt_bit1 (by omega)).mpr rfl, fun s hs z => ?_, ?_⟩
    · rw [(rt_bit1 (by omega)).mp z]; exact rt_G0
    · have e0 : ∀ n, rt_cnt (fun _ => false) n = 0 := fun n => by
        induction n with
        | zero => rfl
        | succ n i1 => rw [rt_cnt_f Bool.false_ne_true, i1]
      have := rt_cnt_lt (f := fun _ => false) (h := rt_bit ((1 : Int64) <<< ((nI r).toInt64 &&& 63))) 60 (fun i _ z => (nomatch z)) ⟨r, hr, Bool.false_ne_true, (rt_bit1 (by omega)).mpr rfl⟩
      omega
  · obtain ⟨w1, w2, w3⟩ := hw
    refine br_c (fun a => h w (fun s hs => ⟨w2 s hs, fun z => ?_⟩)) (fun a z ez => ?_)
    · have k := z (fun s => s < 60 ∧ rt_bit w s = true) ⟨hr, w1⟩ (fun p t hp e q b => ⟨by omega, by
        have := (hw' (p / 2) (by omega)).mpr (Or.inr ⟨p, t, hp, rfl, e, q, b.2⟩)
        rw [a] at this; exact this⟩)
      exact k.2
    · rw [ez, nI_1]
      have g' : ∀ s, s < 64 → rt_bit w' s = true → rt_G T R L Q r s := by
        intro s hs q
        rcases (hw' s hs).mp q with q | ⟨p, t, hp, e1, e2, e3, e4⟩
        · exact w2 s hs q
        · rw [← e1]
          exact rt_Gs hp e2 e3 (w2 t (by have := rt_tg60 hQ hR hp e2; omega) e4)
      refine ih w' ⟨(hw' r (by omega)).mpr (Or.inl w1), g', ?_⟩
      have m : rt_cnt (rt_bit w) 60 < rt_cnt (rt_bit w') 60 := by
        refine rt_cnt_lt 60 (fun s hs q => (hw' s (by omega)).mpr (Or.inl q)) (Classical.byContradiction (fun no => a (rt_bitx (fun s hs => ?_))))
        have sub : rt_bit w' s = true → rt_bit w s = true := fun q => Classical.byContradiction (fun nq => no ⟨s, rt_G60 hr (g' s hs q), nq, q⟩)
        have sup : rt_bit w s = true → rt_bit w' s = true := fun q => (hw' s hs).mpr (Or.inl q)
        cases x1 : rt_bit w s
        · exact ts_nt (fun q => by rw [sub q] at x1; cases x1)
        · exact sup x1
      omega
theorem rt_xheldback (hQ : rt_QL L Q) (hR : rt_RR T R) {r : Nat} {w : Int64} (hw : ∀ s, s < 64 → (rt_bit w s = true ↔ rt_G T R L Q r s)) {post : Int32 → Prop} (h1 : rt_F T R L Q r → post 1) (h0 : ¬ rt_F T R L Q r → post 0) : wpX_isHeldBack post (op, mk, sb, sbs, T, V, R, L, Q, kT, kV, kR) w := by
  unfold wpX_isHeldBack; dsimp only
  refine rt_loopS (fun n i => wX_isHeldBack_2 post w op mk sb sbs T V R L Q kT kV kR n (nI i)) (fun p => ∃ t, rt_tg T R L Q p = some t ∧ Q (rt_c p) = 0 ∧ rt_G T R L Q r t ∧ ¬ rt_G T R L Q r (p / 2)) 120 (fun hn n => br_t (nI_le (a := 120) (b := 120) (by decide) (by decide)) (h0 (fun ⟨p, t, hp, z⟩ => hn p hp ⟨t, z⟩))) (fun n i hi hn ih => br_f (nI_ge (b := 120) hi (by decide)) (rt_xtg hQ hR hi (fun e => ⟨by decide, ?_⟩) (fun t ht e => ⟨by decide, ?_⟩)))
  · have nh : ¬ ∃ t, rt_tg T R L Q i = some t ∧ Q (rt_c i) = 0 ∧ rt_G T R L Q r t ∧ ¬ rt_G T R L Q r (i / 2) := fun ⟨t, q, _⟩ => by rw [e] at q; cases q
    rw [rt_n2 (p := i) (by omega)]
    exact rt_xin (by omega) (fun a => br_t rfl (br_f (by decide) (rt_xinN (br_t rfl (fun y ey => by rw [ey, nI_1]; exact ih nh))))) (fun a => br_f (by decide) (br_t rfl (fun y ey => by rw [ey, nI_1]; exact ih nh)))
  · rw [rt_n2 (p := i) (by omega)]
    refine rt_xin (by omega) (fun a => br_t rfl (br_f (by decide) (rt_xin (by omega) (fun b => br_t rfl (fun y ey => ?_)) (fun b => br_f (by decide) (rt_xrule hi (br_c (fun c => h1 ⟨i, t, hi, e, c, (hw t (by omega)).mp b, fun z => a ((hw _ (by omega)).mpr z)⟩) (fun c y ey => ?_))))))) (fun a => br_f (by decide) (br_t rfl (fun y ey => ?_)))
    · rw [ey, nI_1]; exact ih (fun ⟨t', q, _, q2, _⟩ => by rw [e] at q; cases q; exact b ((hw t (by omega)).mpr q2))
    · rw [ey, nI_1]; exact ih (fun ⟨t', _, q, _⟩ => c q)
    · rw [ey, nI_1]; exact ih (fun ⟨t', _, _, _, q⟩ => q ((hw _ (by omega)).mp a))
theorem rt_xwould {r : Nat} {w : Int64} (hw : ∀ s, s < 64 → (rt_bit w s = true ↔ rt_G T R L Q r s)) {post : Int32 → Prop} (h : post (nI (rt_cnt (rt_Gb T R L Q r) 60))) : ∃ n, wX_wouldGo_49 post w op mk sb sbs T V R L Q kT kV kR n 0 0 := by
  refine rt_loopC (fun n i c => wX_wouldGo_49 post w op mk sb sbs T V R L Q kT kV kR n c (nI i)) (rt_Gb T R L Q r) 60 (fun n => br_t (nI_le (a := 60) (b := 60) (by decide) (by decide)) h) (fun n i c hi k1 k0 => br_f (nI_ge (b := 60) hi (by decide)) (rt_xin (by omega) (fun a => br_t rfl (fun y ey => ?_)) (fun a => br_f (by decide) (fun y ey z ez => ?_))))
  · rw [ey, nI_1]; exact k0 (fun q => a ((hw i (by omega)).mpr (rt_Gbt.mp q)))
  · rw [ez, ey, nI_1]; exact k1 (rt_Gbt.mpr ((hw i (by omega)).mp a))
def rt_Cl (T R L Q g : Nat → Int32) : Prop := ∀ p t, p < 120 → rt_tg T R L Q p = some t → Q (rt_c p) = 1 → ¬ g t = 0 → ¬ g (p / 2) = 0
def rt_J (T R L Q : Nat → Int32) (r : Nat) (g0 : Nat → Int32) (i : Nat) (g : Nat → Int32) : Prop :=
  (∀ s, s < 60 → ¬ g s = 0 → rt_G T R L Q r s) ∧ (∀ s, s < 60 → ¬ g0 s = 0 → ¬ g s = 0) ∧
  (((∀ s, s < 60 → (g s = 0 ↔ g0 s = 0)) ∧ ∀ p t, p < i → rt_tg T R L Q p = some t → Q (rt_c p) = 1 → ¬ g0 t = 0 → ¬ g0 (p / 2) = 0) ∨ (¬ rt_Cl T R L Q g0 ∧ rt_cnt (rt_b g0) 60 < rt_cnt (rt_b g) 60))
theorem rt_Jkeep (hQ : rt_QL L Q) (hR : rt_RR T R) {r i : Nat} {g0 g g' : Nat → Int32} (hi : i < 120) (h : rt_J T R L Q r g0 i g) (e : ∀ s, s < 60 → (g' s = 0 ↔ g s = 0)) (k : ∀ t, rt_tg T R L Q i = some t → Q (rt_c i) = 1 → ¬ g t = 0 → ¬ g (i / 2) = 0) : rt_J T R L Q r g0 (i + 1) g' := by
  obtain ⟨h1, h2, h3⟩ := h
  refine ⟨fun s hs z => h1 s hs (fun q => z ((e s hs).mpr q)), fun s hs z q => h2 s hs z ((e s hs).mp q), ?_⟩
  rcases h3 with ⟨a, b⟩ | ⟨a, b⟩
  · refine Or.inl ⟨fun s hs => (e s hs).trans (a s hs), fun p t hp e1 e2 e3 => ?_⟩
    by_cases q : p = i
    · subst q
      intro z
      exact k t e1 e2 (fun y => e3 ((a t (rt_tg60 hQ hR hi e1)).mp y)) ((a _ (by omega)).mpr z)
    · exact b p t (by omega) e1 e2 e3
  · refine Or.inr ⟨a, ?_⟩
    rw [rt_cnt_congr (f := rt_b g') (h := rt_b g) 60 (fun s hs => by unfold rt_b; exact decide_eq_decide.mpr (not_congr (e s hs)))]
    exact b
theorem rt_Jgrow (hQ : rt_QL L Q) (hR : rt_RR T R) {r i t : Nat} {g0 g : Nat → Int32} (hi : i < 120) (h : rt_J T R L Q r g0 i g) (z : g (i / 2) = 0) (e1 : rt_tg T R L Q i = some t) (e2 : Q (rt_c i) = 1) (e3 : ¬ g t = 0) : rt_J T R L Q r g0 (i + 1) (upd g (i / 2) 1) := by
  have t60 := rt_tg60 hQ hR hi e1
  obtain ⟨h1, h2, h3⟩ := h
  have up : ∀ s, ¬ g s = 0 → ¬ upd g (i / 2) 1 s = 0 := by
    intro s hs
    by_cases q : s = i / 2
    · subst q; exact absurd z hs
    · rw [pk_un q]; exact hs
  have on : ¬ upd g (i / 2) 1 (i / 2) = 0 := by rw [pk_us]; decide
  have grow : rt_cnt (rt_b g) 60 < rt_cnt (rt_b (upd g (i / 2) 1)) 60 :=
    rt_cnt_lt 60 (fun s _ q => rt_b_t.mpr (up s (rt_b_t.mp q))) ⟨i / 2, by omega, fun q => rt_b_t.mp q z, rt_b_t.mpr on⟩
  refine ⟨fun s hs y => ?_, fun s hs y => up s (h2 s hs y), Or.inr ?_⟩
  · by_cases q : s = i / 2
    · rw [q]; exact rt_Gs hi e1 e2 (h1 t t60 e3)
    · rw [pk_un q] at y; exact h1 s hs y
  · rcases h3 with ⟨a, b⟩ | ⟨a, b⟩
    · refine ⟨fun cl => cl i t hi e1 e2 (fun y => e3 ((a t t60).mpr y)) ((a _ (by omega)).mp z), ?_⟩
      rw [← rt_cnt_congr (f := rt_b g) (h := rt_b g0) 60 (fun s hs => by unfold rt_b; exact decide_eq_decide.mpr (not_congr (a s hs)))]
      exact grow
    · exact ⟨a, by omega⟩
theorem rt_updz {g : Nat → Int32} {k : Nat} {v : Int32} (h : v = 0 ↔ g k = 0) : ∀ s, s < 60 → (upd g k v s = 0 ↔ g s = 0) := by
  intro s _
  by_cases q : s = k
  · subst q; rw [pk_us]; exact h
  · rw [pk_un q]
theorem rt_y40 (hQ : rt_QL L Q) (hR : rt_RR T R) {r : Nat} (hTr : ¬ T r = 0) {x2 : Int32} {post : Int32 → SY → Prop} {J : Int32 → (Nat → Int32) → (Nat → Int32) → (Nat → Int32) → (Nat → Int32) → (Nat → Int32) → (Nat → Int32) → (Nat → Int32) → (Nat → Int32) → (Nat → Int32) → Prop} {g0 : Nat → Int32} (hg0 : ∀ s, s < 60 → ¬ g0 s = 0 → rt_G T R L Q r s)
    (hJ : ∀ g', rt_J T R L Q r g0 120 g' → J (x2 + 1) L Q T R V kT kR kV g') : ∃ n, wY_spread_40 post J x2 op mk sb n 0 L Q T R V kT kR kV g0 := by
  refine loop_0 (fun n i g => wY_spread_40 post J x2 op mk sb n (nI i) L Q T R V kT kR kV g) (fun i g => rt_J T R L Q r g0 i g) 120 g0 ⟨hg0, fun s _ z => z, Or.inl ⟨fun s _ => Iff.rfl, fun p t hp => absurd hp (Nat.not_lt_zero p)⟩⟩ (fun n g hg => br_t (nI_le (a := 120) (b := 120) (by decide) (by decide)) (fun y ey => by rw [ey]; exact hJ g hg)) (fun n i g hi hg ih => br_f (nI_ge (b := 120) hi (by decide)) ?_)
  have k1 : ¬ g (i / 2) = 0 → wY_spread_40 post J x2 op mk sb n (nI (i + 1)) L Q T R V kT kR kV (upd g (i / 2) (vp_nar .boolean 1)) := fun a =>
    ih _ (rt_Jkeep hQ hR hi hg (rt_updz (by rw [rt_nar1]; exact ⟨fun z => absurd z (by decide), fun z => absurd z a⟩)) (fun _ _ _ _ => a))
  have k0 : g (i / 2) = 0 → (∀ t, rt_tg T R L Q i = some t → Q (rt_c i) = 1 → g t = 0) → wY_spread_40 post J x2 op mk sb n (nI (i + 1)) L Q T R V kT kR kV (upd g (i / 2) (vp_nar .boolean 0)) := fun a b =>
    ih _ (rt_Jkeep hQ hR hi hg (rt_updz (by rw [rt_nar0]; exact ⟨fun _ => a, fun _ => rfl⟩)) (fun t e1 e2 e3 => absurd (b t e1 e2) e3))
  have k2 : ∀ t, g (i / 2) = 0 → rt_tg T R L Q i = some t → Q (rt_c i) = 1 → ¬ g t = 0 → wY_spread_40 post J x2 op mk sb n (nI (i + 1)) L Q T R V kT kR kV (upd g (i / 2) (vp_nar .boolean 1)) := fun t a e1 e2 e3 =>
    ih _ (by rw [rt_nar1]; exact rt_Jgrow hQ hR hi hg a e1 e2 e3)
  have h2 : vp_in (nI (i / 2)) 60 := vp_in_nI (by omega) (by decide)
  refine rt_ytg hQ hR hi (fun e => ?_) (fun t ht e d => ?_)
  · have nt : ∀ t, rt_tg T R L Q i = some t → Q (rt_c i) = 1 → g t = 0 := by
      intro t e1 e2
      rcases e with e | ⟨t', e, d⟩
      · rw [e] at e1; cases e1
      · rw [e] at e1; cases e1
        exact Classical.byContradiction (fun z => rt_GT hTr (hg.1 _ (rt_tg60 hQ hR hi e) z) d)
    rw [rt_n2 (p := i) (by omega), nI_clamp (n := i / 2) (by omega)]
    exact ⟨by decide, by decide, h2, br_c (fun a => br_t (by decide) ⟨h2, fun y ey z ez => by rw [ez, ey, nI_1]; exact k0 a nt⟩) (fun a => ⟨h2, fun y ey z ez => by rw [ez, ey, nI_1]; exact k1 a⟩)⟩
  · rw [rt_n2 (p := i) (by omega), nI_clamp (n := i / 2) (by omega), nI_clamp (n := t) (by omega)]
    refine ⟨by decide, by decide, h2, br_c (fun a => br_f (nI_pos (by omega)) (rt_yrule hi (br_c (fun b => ⟨vp_in_nI ht (by decide), br_c (fun c => ⟨h2, fun y ey z ez => ?_⟩) (fun c => ⟨h2, fun y ey z ez => ?_⟩)⟩) (fun b => ⟨h2, fun y ey z ez => ?_⟩)))) (fun a => ⟨h2, fun y ey z ez => ?_⟩)⟩
    · rw [ez, ey, nI_1]; exact k0 a (fun t' e1 _ => by rw [e] at e1; cases e1; exact c)
    · rw [ez, ey, nI_1]; exact k2 t a e b c
    · rw [ez, ey, nI_1]; exact k0 a (fun t' _ e2 => absurd e2 b)
    · rw [ez, ey, nI_1]; exact k1 a
theorem rt_y120 (hQ : rt_QL L Q) (hR : rt_RR T R) {r : Nat} (hTr : ¬ T r = 0) (hg : ∀ s, s < 60 → (¬ g s = 0 ↔ rt_G T R L Q r s)) {post : Int32 → SY → Prop} (h1 : rt_F T R L Q r → post (-5) (op, mk, sb, L, Q, T, R, V, kT, kR, kV, g)) (h0 : ¬ rt_F T R L Q r → post (nI (rt_cnt (rt_Gb T R L Q r) 60)) (op, mk, sb, L, Q, T, R, V, kT, kR, kV, g)) : ∃ n, wY_spread_120 post op mk sb L Q T R V kT kR kV g n 0 0 0 := by
  refine loop_0 (fun n i (s : Int32 × Int32) => wY_spread_120 post op mk sb L Q T R V kT kR kV g n s.1 s.2 (nI i)) (fun i s => s.1 = nI (rt_cnt (rt_Gb T R L Q r) ((i + 1) / 2)) ∧ ((s.2 = 0 ∧ ∀ p, p < i → ¬ ∃ t, rt_tg T R L Q p = some t ∧ Q (rt_c p) = 0 ∧ rt_G T R L Q r t ∧ ¬ rt_G T R L Q r (p / 2)) ∨ (s.2 = 1 ∧ rt_F T R L Q r))) 120 (0, 0) ⟨rfl, Or.inl ⟨rfl, fun p hp => absurd hp (Nat.not_lt_zero p)⟩⟩ (fun n s hs => br_t (nI_le (a := 120) (b := 120) (by decide) (by decide)) ?_) (fun n i s hi hs ih => br_f (nI_ge (b := 120) hi (by decide)) ?_)
  · obtain ⟨c, f⟩ := s
    obtain ⟨a, b⟩ := hs
    dsimp only at a b
    rcases b with ⟨b, k⟩ | ⟨b, k⟩
    · rw [b, a]; exact br_t rfl (h0 (fun ⟨p, t, hp, z⟩ => k p hp ⟨t, z⟩))
    · rw [b]; exact br_f (show ¬ (1 : Int32) = 0 from by decide) (h1 k)
  · obtain ⟨c, f⟩ := s
    obtain ⟨a, b⟩ := hs
    dsimp only at a b
    have h2 : vp_in (nI (i / 2)) 60 := vp_in_nI (by omega) (by decide)
    have k : ∀ z : Int32, ((z = 0 ∧ ∀ p, p < i + 1 → ¬ ∃ t, rt_tg T R L Q p = some t ∧ Q (rt_c p) = 0 ∧ rt_G T R L Q r t ∧ ¬ rt_G T R L Q r (p / 2)) ∨ (z = 1 ∧ rt_F T R L Q r)) → wY_spread_180 post (wY_spread_120 post op mk sb L Q T R V kT kR kV g n) c (nI i) z op mk sb L Q T R V kT kR kV g := by
      intro z hz
      have e2 : nI i - nI i / 2 * 2 = nI (i % 2) := pk_rem (d := 2) (by omega) (by decide) (by decide)
      unfold wY_spread_180
      rw [e2, rt_n2 (p := i) (by omega), nI_clamp (n := i / 2) (by omega)]
      refine ⟨by decide, h2, br_c (fun q y ey => ?_) (fun q => ⟨by decide, br_c (fun q2 y ey w ew => ?_) (fun q2 y ey => ?_)⟩)⟩
      · rw [ey, nI_1]
        refine ih (c, z) ⟨?_, hz⟩
        show c = _
        rw [a]
        have nG : ¬ rt_Gb T R L Q r (i / 2) = true := fun x => (hg _ (by omega)).mpr (rt_Gbt.mp x) q
        by_cases ev : i % 2 = 0
        · rw [show (i + 1) / 2 = i / 2 from by omega, show (i + 1 + 1) / 2 = i / 2 + 1 from by omega, rt_cnt_f nG]
        · rw [show (i + 1 + 1) / 2 = (i + 1) / 2 from by omega]
      · have ev : i % 2 = 0 := (nI_eq (b := 0) (by omega) (by decide)).mp q2
        rw [ew, ey, nI_1]
        refine ih (c + 1, z) ⟨?_, hz⟩
        show c + 1 = _
        rw [a, nI_1, show (i + 1) / 2 = i / 2 from by omega, show (i + 1 + 1) / 2 = i / 2 + 1 from by omega, rt_cnt_t (rt_Gbt.mpr ((hg _ (by omega)).mp q))]
      · have ev : ¬ i % 2 = 0 := fun x => q2 (by rw [x]; rfl)
        rw [ey, nI_1]
        refine ih (c, z) ⟨?_, hz⟩
        show c = _
        rw [a, show (i + 1 + 1) / 2 = (i + 1) / 2 from by omega]
    rcases b with ⟨b, m⟩ | ⟨b, m⟩
    · have no : (¬ ∃ t, rt_tg T R L Q i = some t ∧ Q (rt_c i) = 0 ∧ rt_G T R L Q r t ∧ ¬ rt_G T R L Q r (i / 2)) → wY_spread_180 post (wY_spread_120 post op mk sb L Q T R V kT kR kV g n) c (nI i) 0 op mk sb L Q T R V kT kR kV g := fun x => k 0 (Or.inl ⟨rfl, lt_s m x⟩)
      dsimp only
      rw [b]
      refine rt_ytg hQ hR hi (fun e => br_t rfl ?_) (fun t ht e d => br_t rfl ?_)
      · have nh : ¬ ∃ t, rt_tg T R L Q i = some t ∧ Q (rt_c i) = 0 ∧ rt_G T R L Q r t ∧ ¬ rt_G T R L Q r (i / 2) := by
          intro ⟨t, e1, _, e3, _⟩
          rcases e with e | ⟨t', e, d⟩
          · rw [e] at e1; cases e1
          · rw [e] at e1; cases e1
            exact rt_GT hTr e3 d
        rw [rt_n2 (p := i) (by omega), nI_clamp (n := i / 2) (by omega)]
        exact ⟨by decide, h2, br_c (fun _ => br_t (by decide) (no nh)) (fun _ => no nh)⟩
      · rw [rt_n2 (p := i) (by omega), nI_clamp (n := i / 2) (by omega), nI_clamp (n := t) (by omega)]
        refine ⟨by decide, h2, br_c (fun q => br_f (nI_pos (by omega)) (rt_yrule hi (br_c (fun q2 => ⟨vp_in_nI ht (by decide), br_c (fun q3 => no ?_) (fun q3 => k 1 (Or.inr ⟨rfl, i, t, hi, e, q2, (hg t ht).mp q3, fun x => (hg _ (by omega)).mpr x q⟩))⟩) (fun q2 => no ?_)))) (fun q => no ?_)⟩
        · intro ⟨t', e1, _, e3, _⟩
          rw [e] at e1; cases e1
          exact (hg t ht).mpr e3 q3
        · intro ⟨t', _, e2, _⟩
          exact q2 e2
        · intro ⟨t', _, _, _, e4⟩
          exact e4 ((hg _ (by omega)).mp q)
    · dsimp only
      rw [b]
      exact rt_ytg hQ hR hi (fun e => br_f (by decide) (k 1 (Or.inr ⟨rfl, m⟩))) (fun t ht e d => br_f (by decide) (k 1 (Or.inr ⟨rfl, m⟩)))
def rt_i0 (r : Nat) (g : Nat → Int32) (i : Nat) : Nat → Int32 := fun j => if j < i then (if j = r then 1 else 0) else g j
theorem rt_i0s {r i : Nat} {v : Int32} (hv : v = if i = r then 1 else 0) : upd (rt_i0 r g i) i v = rt_i0 r g (i + 1) := funext fun j => by
  unfold upd rt_i0
  by_cases h : j = i
  · rw [if_pos h, if_pos (by omega), h, hv]
  · rw [if_neg h]
    by_cases q : j < i
    · rw [if_pos q, if_pos (show j < i + 1 from by omega)]
    · rw [if_neg q, if_neg (show ¬ j < i + 1 from by omega)]
theorem rt_y32 (hQ : rt_QL L Q) (hR : rt_RR T R) {r : Nat} (hr : r < 60) (hTr : ¬ T r = 0) {g0 : Nat → Int32} (hg1 : ∀ s, s < 60 → ¬ g0 s = 0 → rt_G T R L Q r s) (hg2 : ¬ g0 r = 0) {post : Int32 → SY → Prop} (h : ∀ g', (∀ s, s < 60 → (¬ g' s = 0 ↔ rt_G T R L Q r s)) → (rt_F T R L Q r → post (-5) (op, mk, sb, L, Q, T, R, V, kT, kR, kV, g')) ∧ (¬ rt_F T R L Q r → post (nI (rt_cnt (rt_Gb T R L Q r) 60)) (op, mk, sb, L, Q, T, R, V, kT, kR, kV, g'))) : ∃ n, wY_spread_32 post op mk sb n 0 L Q T R V kT kR kV g0 := by
  refine loop_0 (fun n i g => wY_spread_32 post op mk sb n (nI i) L Q T R V kT kR kV g) (fun i g => (∀ s, s < 60 → ¬ g s = 0 → rt_G T R L Q r s) ∧ ¬ g r = 0 ∧ (rt_Cl T R L Q g ∨ i + 1 ≤ rt_cnt (rt_b g) 60)) 60 g0 ⟨hg1, hg2, Or.inr ?_⟩ (fun n g hg => br_t (nI_le (a := 60) (b := 60) (by decide) (by decide)) ?_) (fun n i g hi hg ih => br_f (nI_ge (b := 60) hi (by decide)) (rt_y40 hQ hR hTr hg.1 (fun g' hg' => ?_)))
  · have e0 : ∀ n, rt_cnt (fun _ => false) n = 0 := fun n => by
      induction n with
      | zero => rfl
      | succ n i1 => rw [rt_cnt_f Bool.false_ne_true, i1]
    have := rt_cnt_lt (f := fun _ => false) (h := rt_b g0) 60 (fun i _ z => (nomatch z)) ⟨r, hr, Bool.false_ne_true, rt_b_t.mpr hg2⟩
    omega
  · obtain ⟨a, b, c⟩ := hg
    have cl : rt_Cl T R L Q g := c.elim id (fun z => absurd (rt_cnt_le (rt_b g) 60) (by omega))
    have hg : ∀ s, s < 60 → (¬ g s = 0 ↔ rt_G T R L Q r s) := fun s hs => ⟨a s hs, fun z => z (fun s => ¬ g s = 0) b (fun p t hp e q y => cl p t hp e q y)⟩
    exact rt_y120 hQ hR hTr hg (h g hg).1 (h g hg).2
  · rw [nI_1]
    obtain ⟨a, b, c⟩ := hg
    obtain ⟨x, y, z⟩ := hg'
    refine ih g' ⟨x, y r hr b, ?_⟩
    rcases z with ⟨z1, z2⟩ | ⟨z1, z2⟩
    · left
      intro p t hp e q k
      have t60 := rt_tg60 hQ hR hp e
      intro w
      exact z2 p t hp e q (fun v => k ((z1 t t60).mpr v)) ((z1 _ (by omega)).mp w)
    · right
      have := c.resolve_left z1
      omega
theorem rt_yspread (hQ : rt_QL L Q) (hR : rt_RR T R) {r : Nat} (hr : r < 60) (hTr : ¬ T r = 0) {post : Int32 → SY → Prop} (h : ∀ g', (∀ s, s < 60 → (¬ g' s = 0 ↔ rt_G T R L Q r s)) → (rt_F T R L Q r → post (-5) (op, mk, sb, L, Q, T, R, V, kT, kR, kV, g')) ∧ (¬ rt_F T R L Q r → post (nI (rt_cnt (rt_Gb T R L Q r) 60)) (op, mk, sb, L, Q, T, R, V, kT, kR, kV, g'))) : wpY_spread post (op, mk, sb, L, Q, T, R, V, kT, kR, kV, g) (nI r) := by
  unfold wpY_spread; dsimp only
  have key := rt_loopF (fun n i s => wY_spread_2 post (nI r) op mk sb n (nI i) L Q T R V kT kR kV s) (rt_i0 r g) 60 (fun n => br_t (nI_le (a := 60) (b := 60) (by decide) (by decide)) (rt_y32 hQ hR hr hTr (fun s hs z => by
      unfold rt_i0 at z
      rw [if_pos hs] at z
      by_cases q : s = r
      · rw [q]; exact rt_G0
      · rw [if_neg q] at z; exact absurd rfl z) (by unfold rt_i0; rw [if_pos hr, if_pos rfl]; decide) h)) (fun n i hi ih => by
    refine br_f (nI_ge (b := 60) hi (by decide)) ?_
    rw [nI_clamp (n := i) (by omega)]
    refine br_c (fun a => ⟨vp_in_nI hi (by decide), fun y ey z ez => ?_⟩) (fun a => ⟨vp_in_nI hi (by decide), fun y ey z ez => ?_⟩)
    · rw [ez, ey, nI_1, rt_i0s (by rw [rt_nar1, if_pos ((nI_eq (by omega) (by omega)).mp a)])]; exact ih
    · rw [ez, ey, nI_1, rt_i0s (by rw [rt_nar0, if_neg (fun q => a (by rw [q]))])]; exact ih)
  rw [show rt_i0 r g 0 = g from funext (fun j => if_neg (Nat.not_lt_zero j))] at key
  exact key
end
end
section
/-! loops that store -/
def rt_lg (T R L Q : Nat → Int32) (r p : Nat) : Prop := ∃ t, rt_tg T R L Q p = some t ∧ Q (rt_c p) = 2 ∧ rt_G T R L Q r t
def rt_out (T g : Nat → Int32) (i : Nat) : Nat → Int32 := fun j => if j < i then (if T j = 0 then 0 else if g j = 0 then 1 else 0) else T j
theorem rt_outs {T g : Nat → Int32} {i : Nat} {v : Int32} (h : v = if T i = 0 then 0 else if g i = 0 then 1 else 0) : upd (rt_out T g i) i v = rt_out T g (i + 1) := funext fun j => by
  unfold upd rt_out
  by_cases q : j = i
  · rw [if_pos q, if_pos (show j < i + 1 from by omega), q, h]
  · rw [if_neg q]
    by_cases w : j < i
    · rw [if_pos w, if_pos (show j < i + 1 from by omega)]
    · rw [if_neg w, if_neg (show ¬ j < i + 1 from by omega)]
theorem rt_outO {T g : Nat → Int32} {i : Nat} : rt_out T g i i = T i := if_neg (Nat.lt_irrefl i)
def rt_ch (T R L Q : Nat → Int32) (s : Nat) (nk : Int32) (i : Nat) : Nat → Int32 := fun p => if p < i ∧ rt_tg T R L Q p = some s then (if Q (rt_c p) = 1 then nk else if Q (rt_c p) = 2 then -1 else R p) else R p
def rt_chf (T R L Q : Nat → Int32) (s : Nat) (p : Nat) : Bool := decide (rt_tg T R L Q p = some s ∧ (Q (rt_c p) = 1 ∨ Q (rt_c p) = 2))
def rt_mv (R : Nat → Int32) (a b : Nat) : Nat → Int32 := upd (upd R (2 * b) (R (2 * a))) (2 * b + 1) (upd R (2 * b) (R (2 * a)) (2 * a + 1))
section
variable {op mk sb sbs : Int32} {T V R L Q kT kV kR g RX RY kTX kTY kVX kVY kRX kRY : Nat → Int32}
theorem rt_xletgo (hQ : rt_QL L Q) (hR : rt_RR T R) {r : Nat} {w : Int64} (hw : ∀ s, s < 64 → (rt_bit w s = true ↔ rt_G T R L Q r s)) {post : SX → Prop} (h : ∀ R' : Nat → Int32, (∀ p, (p < 120 → rt_lg T R L Q r p → R' p = -1) ∧ ((p < 120 → ¬ rt_lg T R L Q r p) → R' p = R p)) → post (op, mk, sb, sbs, T, V, R', L, Q, kT, kV, kR)) : wpX_letGoOf post (op, mk, sb, sbs, T, V, R, L, Q, kT, kV, kR) w := by
  unfold wpX_letGoOf; dsimp only
  refine loop_0 (fun n i R' => wX_letGoOf_2 post w op mk sb sbs n (nI i) T V R' L Q kT kV kR) (fun i R' => ∀ p, (p < i → rt_lg T R L Q r p → R' p = -1) ∧ ((p < i → ¬ rt_lg T R L Q r p) → R' p = R p)) 120 R (fun p => ⟨fun z => absurd z (Nat.not_lt_zero p), fun _ => rfl⟩) (fun n R' hy => br_t (nI_le (a := 120) (b := 120) (by decide) (by decide)) (h R' hy)) (fun n i R' hi hy ih => br_f (nI_ge (b := 120) hi (by decide)) ?_)
  have same : ¬ rt_lg T R L Q r i → ∀ p, (p < i + 1 → rt_lg T R L Q r p → R' p = -1) ∧ ((p < i + 1 → ¬ rt_lg T R L Q r p) → R' p = R p) := by
    intro no p
    refine ⟨fun hp z => ?_, fun z => (hy p).2 (fun hp => z (by omega))⟩
    by_cases q : p = i
    · subst q; exact absurd z no
    · exact (hy p).1 (by omega) z
  have ri : R' i = R i := (hy i).2 (fun z => absurd z (Nat.lt_irrefl i))
  have te : rt_tg T R' L Q i = rt_tg T R L Q i := rt_tgc (fun _ => ri)
  have hR' : rt_RR T R' := by
    intro p hp ht
    by_cases q : p < i ∧ rt_lg T R L Q r p
    · exact Or.inl ((hy p).1 q.1 q.2)
    · rw [(hy p).2 (fun a b => q ⟨a, b⟩)]; exact hR p hp ht
  refine rt_xtg hQ hR' hi (fun e => rt_xinN (br_t rfl (fun z ez => ?_))) (fun t ht e => rt_xin (by omega) (fun a => br_t rfl (fun z ez => ?_)) (fun a => br_f (by decide) (rt_xrule hi (br_c (fun b => ⟨vp_in_nI hi (by decide), fun z ez u eu => ?_⟩) (fun b z ez => ?_)))))
  · rw [ez, nI_1]
    exact ih R' (same (fun ⟨t, q, _⟩ => by rw [te, q] at e; cases e))
  · rw [ez, nI_1]
    exact ih R' (same (fun ⟨t', q, _, q2⟩ => by rw [te, q] at e; cases e; exact a ((hw t (by omega)).mpr q2)))
  · rw [nI_clamp (n := i) (by omega)] at ez
    rw [eu, nI_1, ez]
    refine ih _ (fun p => ?_)
    have yes : rt_lg T R L Q r i := ⟨t, te.symm.trans e, b, (hw t (by omega)).mp a⟩
    by_cases q : p = i
    · subst q
      rw [pk_us]
      exact ⟨fun _ _ => rfl, fun z => absurd yes (z (by omega))⟩
    · rw [pk_un q]
      exact ⟨fun hp z => (hy p).1 (by omega) z, fun z => (hy p).2 (fun hp => z (by omega))⟩
  · rw [ez, nI_1]
    exact ih R' (same (fun ⟨t', _, q, _⟩ => b q))
theorem rt_xtake {T0 R0 L0 Q0 : Nat → Int32} {r : Nat} {w : Int64} (hw : ∀ s, s < 64 → (rt_bit w s = true ↔ rt_G T0 R0 L0 Q0 r s)) {post : Int32 → SX → Prop} (h : ∀ T' : Nat → Int32, (∀ s, (s < 60 → rt_G T0 R0 L0 Q0 r s → T' s = 0) ∧ ((s < 60 → ¬ rt_G T0 R0 L0 Q0 r s) → T' s = T s)) → post (nI (rt_cnt (rt_Gb T0 R0 L0 Q0 r) 60)) (op, mk, sb, sbs, T', V, R, L, Q, kT, kV, kR)) : wpX_takeOut post (op, mk, sb, sbs, T, V, R, L, Q, kT, kV, kR) w := by
  unfold wpX_takeOut; dsimp only
  refine loop_0 (fun n i (s : Int32 × (Nat → Int32)) => wX_takeOut_5 post w op mk sb sbs n s.1 (nI i) s.2 V R L Q kT kV kR) (fun i c => c.1 = nI (rt_cnt (rt_Gb T0 R0 L0 Q0 r) i) ∧ ∀ s, (s < i → rt_G T0 R0 L0 Q0 r s → c.2 s = 0) ∧ ((s < i → ¬ rt_G T0 R0 L0 Q0 r s) → c.2 s = T s)) 60 (0, T) ⟨rfl, fun s => ⟨fun z => absurd z (Nat.not_lt_zero s), fun _ => rfl⟩⟩ (fun n c hc => br_t (nI_le (a := 60) (b := 60) (by decide) (by decide)) ?_) (fun n i c hi hc ih => br_f (nI_ge (b := 60) hi (by decide)) ?_)
  · rw [hc.1]; exact h c.2 hc.2
  · obtain ⟨c, T'⟩ := c
    obtain ⟨c1, c2⟩ := hc
    dsimp only at c1 c2
    refine rt_xin (by omega) (fun a => br_t rfl (fun y ey => ?_)) (fun a => br_f (by decide) ⟨vp_in_nI hi (by decide), fun y ey z ez u eu => ?_⟩)
    · have nG : ¬ rt_G T0 R0 L0 Q0 r i := fun z => a ((hw i (by omega)).mpr z)
      rw [ey, nI_1]
      refine ih (c, T') ⟨?_, fun s => ⟨fun hs z => ?_, fun z => (c2 s).2 (fun hs => z (by omega))⟩⟩
      · show c = _
        rw [c1, rt_cnt_f (fun z => nG (rt_Gbt.mp z))]
      · by_cases q : s = i
        · subst q; exact absurd z nG
        · exact (c2 s).1 (by omega) z
    · have yG : rt_G T0 R0 L0 Q0 r i := (hw i (by omega)).mp a
      rw [nI_clamp (n := i) (by omega), rt_nar0] at ey
      rw [eu, ez, ey, nI_1]
      refine ih (c + 1, upd T' i 0) ⟨?_, fun s => ?_⟩
      · show c + 1 = _
        rw [c1, nI_1, rt_cnt_t (rt_Gbt.mpr yG)]
      · show (s < i + 1 → rt_G T0 R0 L0 Q0 r s → upd T' i 0 s = 0) ∧ ((s < i + 1 → ¬ rt_G T0 R0 L0 Q0 r s) → upd T' i 0 s = T s)
        by_cases q : s = i
        · subst q
          rw [pk_us]
          exact ⟨fun _ _ => rfl, fun z => absurd yG (z (by omega))⟩
        · rw [pk_un q]
          exact ⟨fun hs z => (c2 s).1 (by omega) z, fun z => (c2 s).2 (fun hs => z (by omega))⟩
theorem rt_yrem132 (hQ : rt_QL L Q) (hT : rt_TT T) {x3 x4 : Int32} {post : Int32 → SY → Prop} (hR : rt_RR (rt_out T g 60) R) (h0 : ¬ rt_bad op Q x4 (rt_S (rt_out T g 60) R L Q) → post x3 (op, mk, sb, L, Q, (rt_out T g 60), R, V, kT, kR, kV, g)) (h1 : rt_bad op Q x4 (rt_S (rt_out T g 60) R L Q) → post (-9) (op, mk, sb, L, Q, (rt_rs (rt_nr kT) (60 * 4) 60 (rt_out T g 60)), (rt_rs kR (120 * 4) 120 R), (rt_rs kV (60 * 4) 60 V), kT, kR, kV, g)) : ∃ n, wY_remove_132 post x3 x4 op mk sb n 0 L Q T R V kT kR kV g := by
  have key := rt_loopF (fun n i s => wY_remove_132 post x3 x4 op mk sb n (nI i) L Q s R V kT kR kV g) (rt_out T g) 60 (fun n => br_t (nI_le (a := 60) (b := 60) (by decide) (by decide)) (rt_ychecked hQ hR h0 h1)) (fun n i hi ih => by
    refine br_f (nI_ge (b := 60) hi (by decide)) ⟨vp_in_nI hi (by decide), ?_⟩
    rw [nI_clamp (n := i) (by omega), rt_outO]
    refine br_c (fun a => ⟨vp_in_nI hi (by decide), fun y ey z ez => ?_⟩) (fun a => ⟨vp_in_nI hi (by decide), br_c (fun b => ⟨vp_in_nI hi (by decide), fun y ey z ez => ?_⟩) (fun b => ⟨vp_in_nI hi (by decide), fun y ey z ez => ?_⟩)⟩)
    · rw [ez, ey, nI_1, rt_outs (by rw [rt_nar0, if_pos a])]; exact ih
    · rw [ez, ey, nI_1, rt_outs (by rw [rt_nar1, if_neg a, if_pos b])]; exact ih
    · rw [ez, ey, nI_1, rt_outs (by rw [rt_nar0, if_neg a, if_neg b])]; exact ih)
  rw [show rt_out T g 0 = T from funext (fun j => if_neg (Nat.not_lt_zero j))] at key
  exact key
theorem rt_yrem (hQ : rt_QL L Q) (hT : rt_TT T) (hR : rt_RR T R) {r : Nat} (hTr : ¬ T r = 0) (hg : ∀ s, s < 60 → (¬ g s = 0 ↔ rt_G T R L Q r s)) {x3 x4 : Int32} {post : Int32 → SY → Prop} (h : ∀ R' : Nat → Int32, (∀ p, (p < 120 → rt_lg T R L Q r p → ¬ rt_G T R L Q r (p / 2) → R' p = -1) ∧ ((p < 120 → rt_lg T R L Q r p → rt_G T R L Q r (p / 2)) → R' p = R p)) → rt_RR (rt_out T g 60) R' ∧ (¬ rt_bad op Q x4 (rt_S (rt_out T g 60) R' L Q) → post x3 (op, mk, sb, L, Q, (rt_out T g 60), R', V, kT, kR, kV, g)) ∧ (rt_bad op Q x4 (rt_S (rt_out T g 60) R' L Q) → post (-9) (op, mk, sb, L, Q, (rt_rs (rt_nr kT) (60 * 4) 60 (rt_out T g 60)), (rt_rs kR (120 * 4) 120 R'), (rt_rs kV (60 * 4) 60 V), kT, kR, kV, g))) : ∃ n, wY_remove_53 post x3 x4 op mk sb n 0 L Q T R V kT kR kV g := by
  refine loop_0 (fun n i R' => wY_remove_53 post x3 x4 op mk sb n (nI i) L Q T R' V kT kR kV g) (fun i R' => ∀ p, (p < i → rt_lg T R L Q r p → ¬ rt_G T R L Q r (p / 2) → R' p = -1) ∧ ((p < i → rt_lg T R L Q r p → rt_G T R L Q r (p / 2)) → R' p = R p)) 120 R (fun p => ⟨fun z => absurd z (Nat.not_lt_zero p), fun _ => rfl⟩) (fun n R' hy => br_t (nI_le (a := 120) (b := 120) (by decide) (by decide)) (rt_yrem132 hQ hT (h R' hy).1 (h R' hy).2.1 (h R' hy).2.2)) (fun n i R' hi hy ih => br_f (nI_ge (b := 120) hi (by decide)) ?_)
  have ri : R' i = R i := (hy i).2 (fun z => absurd z (Nat.lt_irrefl i))
  have te : rt_tg T R' L Q i = rt_tg T R L Q i := rt_tgc (fun _ => ri)
  have hR' : rt_RR T R' := by
    intro p hp ht
    by_cases q : p < i ∧ rt_lg T R L Q r p ∧ ¬ rt_G T R L Q r (p / 2)
    · exact Or.inl ((hy p).1 q.1 q.2.1 q.2.2)
    · rw [(hy p).2 (fun a b => Classical.byContradiction (fun c => q ⟨a, b, c⟩))]; exact hR p hp ht
  have same : (rt_lg T R L Q r i → rt_G T R L Q r (i / 2)) → ∀ z, z = upd R' i (R' i) → ∀ y, y = nI i + 1 → wY_remove_53 post x3 x4 op mk sb n y L Q T z V kT kR kV g := by
    intro no z ez y ey
    rw [ey, nI_1, ez]
    refine ih _ (fun p => ?_)
    by_cases q : p = i
    · subst q
      rw [pk_us]
      exact ⟨fun _ a b => absurd (no a) b, fun _ => ri⟩
    · rw [pk_un q]
      exact ⟨fun hp => (hy p).1 (by omega), fun a => (hy p).2 (fun hp => a (by omega))⟩
  have hit : rt_lg T R L Q r i → ¬ rt_G T R L Q r (i / 2) → ∀ z, z = upd R' i (-1) → ∀ y, y = nI i + 1 → wY_remove_53 post x3 x4 op mk sb n y L Q T z V kT kR kV g := by
    intro yes no z ez y ey
    rw [ey, nI_1, ez]
    refine ih _ (fun p => ?_)
    by_cases q : p = i
    · subst q
      rw [pk_us]
      exact ⟨fun _ _ _ => rfl, fun a => absurd (a (by omega) yes) no⟩
    · rw [pk_un q]
      exact ⟨fun hp => (hy p).1 (by omega), fun a => (hy p).2 (fun hp => a (by omega))⟩
  have hv : vp_in (nI i) 120 := vp_in_nI hi (by decide)
  refine rt_ytg hQ hR' hi (fun e => br_t (by decide) ?_) (fun t ht e d => br_f (nI_pos (by omega)) (rt_yrule hi ?_))
  · rw [nI_clamp (n := i) (by omega)]
    refine ⟨hv, hv, same ?_⟩
    intro ⟨t, e1, _, e3⟩
    rw [te] at e
    rcases e with e | ⟨t', e, d⟩
    · rw [e] at e1; cases e1
    · rw [e] at e1; cases e1
      exact absurd d (rt_GT hTr e3)
  · rw [nI_clamp (n := i) (by omega), nI_clamp (n := t) (by omega), rt_n2 (p := i) (by omega), nI_clamp (n := i / 2) (by omega)]
    rw [te] at e
    refine br_c (fun b => ⟨vp_in_nI ht (by decide), br_c (fun c => ⟨hv, hv, same ?_⟩) (fun c => ⟨by decide, vp_in_nI (by omega) (by decide), br_c (fun f => ⟨hv, hit ⟨t, e, b, (hg t ht).mp c⟩ (fun z => (hg _ (by omega)).mpr z f)⟩) (fun f => ⟨hv, hv, same (fun _ => (hg _ (by omega)).mp f)⟩)⟩)⟩) (fun b => ⟨hv, hv, same ?_⟩)
    · intro ⟨t', e1, _, e3⟩
      rw [e] at e1; cases e1
      exact absurd c ((hg t ht).mpr e3)
    · intro ⟨t', _, e2, _⟩
      exact absurd e2 b
theorem rt_chO {s i : Nat} {nk : Int32} : rt_ch T R L Q s nk i i = R i := if_neg (fun h => Nat.lt_irrefl i h.1)
theorem rt_chN {s i : Nat} {nk : Int32} (h : ¬ (rt_tg T R L Q i = some s ∧ (Q (rt_c i) = 1 ∨ Q (rt_c i) = 2))) : rt_ch T R L Q s nk (i + 1) = rt_ch T R L Q s nk i := funext fun p => by
  unfold rt_ch
  by_cases q : p = i
  · subst q
    rw [if_neg (show ¬ (p < p ∧ rt_tg T R L Q p = some s) from fun z => Nat.lt_irrefl p z.1)]
    by_cases w : rt_tg T R L Q p = some s
    · rw [if_pos ⟨Nat.lt_succ_self p, w⟩, if_neg (fun z => h ⟨w, Or.inl z⟩), if_neg (fun z => h ⟨w, Or.inr z⟩)]
    · rw [if_neg (fun z => w z.2)]
  · by_cases w : p < i ∧ rt_tg T R L Q p = some s
    · rw [if_pos w, if_pos (show p < i + 1 ∧ rt_tg T R L Q p = some s from ⟨by omega, w.2⟩)]
    · rw [if_neg w, if_neg (show ¬ (p < i + 1 ∧ rt_tg T R L Q p = some s) from fun z => w ⟨by omega, z.2⟩)]
theorem rt_chY {s i : Nat} {nk v : Int32} (w : rt_tg T R L Q i = some s) (hv : v = if Q (rt_c i) = 1 then nk else if Q (rt_c i) = 2 then -1 else R i) : upd (rt_ch T R L Q s nk i) i v = rt_ch T R L Q s nk (i + 1) := funext fun p => by
  unfold upd rt_ch
  by_cases q : p = i
  · subst q
    rw [if_pos rfl, if_pos (show p < p + 1 ∧ rt_tg T R L Q p = some s from ⟨Nat.lt_succ_self p, w⟩), hv]
  · rw [if_neg q]
    by_cases w : p < i ∧ rt_tg T R L Q p = some s
    · rw [if_pos w, if_pos (show p < i + 1 ∧ rt_tg T R L Q p = some s from ⟨by omega, w.2⟩)]
    · rw [if_neg w, if_neg (show ¬ (p < i + 1 ∧ rt_tg T R L Q p = some s) from fun z => w ⟨by omega, z.2⟩)]
theorem rt_chR (hR : rt_RR T R) {s i k : Nat} (hk : k < 20) : rt_RR T (rt_ch T R L Q s (nI k) i) := by
  intro p hp ht
  unfold rt_ch
  by_cases w : p < i ∧ rt_tg T R L Q p = some s
  · rw [if_pos w]
    by_cases a : Q (rt_c p) = 1
    · rw [if_pos a]; exact Or.inr ⟨k, hk, rfl⟩
    · rw [if_neg a]
      by_cases b : Q (rt_c p) = 2
      · rw [if_pos b]; exact Or.inl rfl
      · rw [if_neg b]; exact hR p hp ht
  · rw [if_neg w]; exact hR p hp ht
theorem rt_xchange (hQ : rt_QL L Q) (hR : rt_RR T R) {s k : Nat} (hs : s < 60) (hk : k < 20) {post : Int32 → SX → Prop} (h : post (nI (rt_cnt (rt_chf T R L Q s) 120)) (op, mk, sb, sbs, T, V, (rt_ch T R L Q s (nI k) 120), L, Q, kT, kV, kR)) : wpX_changeReferences post (op, mk, sb, sbs, T, V, R, L, Q, kT, kV, kR) (nI s) (nI k) := by
  unfold wpX_changeReferences; dsimp only
  have key := rt_loopF (fun n i (c : Int32 × (Nat → Int32)) => wX_changeReferences_5 post (nI s) (nI k) op mk sb sbs n c.1 (nI i) T V c.2 L Q kT kV kR) (fun i => (nI (rt_cnt (rt_chf T R L Q s) i), rt_ch T R L Q s (nI k) i)) 120 (fun n => br_t (nI_le (a := 120) (b := 120) (by decide) (by decide)) h) (fun n i hi ih => by
    have te : rt_tg T (rt_ch T R L Q s (nI k) i) L Q i = rt_tg T R L Q i := rt_tgc (fun _ => rt_chO)
    have skip : ¬ (rt_tg T R L Q i = some s ∧ (Q (rt_c i) = 1 ∨ Q (rt_c i) = 2)) → ∀ y, y = nI i + 1 → wX_changeReferences_5 post (nI s) (nI k) op mk sb sbs n (nI (rt_cnt (rt_chf T R L Q s) i)) y T V (rt_ch T R L Q s (nI k) i) L Q kT kV kR := by
      intro no y ey
      rw [ey, nI_1, ← rt_chN (nk := nI k) no, ← rt_cnt_f (f := rt_chf T R L Q s) (n := i) (fun z => no (of_decide_eq_true z))]
      exact ih
    have yes : rt_tg T R L Q i = some s → (Q (rt_c i) = 1 ∨ Q (rt_c i) = 2) → ∀ v, v = (if Q (rt_c i) = 1 then nI k else if Q (rt_c i) = 2 then -1 else R i) → ∀ u, u = upd (rt_ch T R L Q s (nI k) i) i v → ∀ z, z = nI (rt_cnt (rt_chf T R L Q s) i) + 1 → ∀ y, y = nI i + 1 → wX_changeReferences_5 post (nI s) (nI k) op mk sb sbs n z y T V u L Q kT kV kR := by
      intro a b v ev u eu z ez y ey
      rw [ey, nI_1, eu, rt_chY a ev, ez, nI_1, ← rt_cnt_t (f := rt_chf T R L Q s) (n := i) (decide_eq_true ⟨a, b⟩)]
      exact ih
    refine br_f (nI_ge (b := 120) hi (by decide)) (rt_xtg hQ (rt_chR hR hk) hi (fun e => br_f (fun z => rt_nI_m1 (by omega) z.symm) (skip ?_)) (fun t ht e => br_c (fun a => rt_xrule hi ?_) (fun a => skip ?_)))
    · rw [te] at e
      rw [e]; exact fun z => (nomatch z.1)
    · rw [te, (nI_eq (by omega) (by omega)).mp a] at e
      rw [nI_clamp (n := i) (by omega)]
      exact br_c (fun b => ⟨vp_in_nI hi (by decide), yes e (Or.inl b) _ (by rw [if_pos b])⟩) (fun b => br_c (fun c => ⟨vp_in_nI hi (by decide), yes e (Or.inr c) _ (by rw [if_neg b, if_pos c])⟩) (fun c => skip (fun z => z.2.elim b c)))
    · rw [te] at e
      rw [e]; exact fun z => a (by cases z.1; rfl))
  dsimp only at key
  rw [show rt_ch T R L Q s (nI k) 0 = R from funext (fun p => if_neg (fun z => Nat.not_lt_zero p z.1))] at key
  exact key
theorem rt_yfollow (hQ : rt_QL L Q) (hR : rt_RR T R) {s k : Nat} (hs : s < 60) (hTs : ¬ T s = 0) (hk : k < 20) {post : Int32 → SY → Prop} (h : post (nI (rt_cnt (rt_chf T R L Q s) 120)) (op, mk, sb, L, Q, T, (rt_ch T R L Q s (nI k) 120), V, kT, kR, kV, g)) : wpY_follow post (op, mk, sb, L, Q, T, R, V, kT, kR, kV, g) (nI s) (nI k) := by
  unfold wpY_follow; dsimp only
  have key := rt_loopF (fun n i (c : Int32 × (Nat → Int32)) => wY_follow_5 post (nI s) (nI k) op mk sb n c.1 (nI i) L Q T c.2 V kT kR kV g) (fun i => (nI (rt_cnt (rt_chf T R L Q s) i), rt_ch T R L Q s (nI k) i)) 120 (fun n => br_t (nI_le (a := 120) (b := 120) (by decide) (by decide)) h) (fun n i hi ih => by
    have te : rt_tg T (rt_ch T R L Q s (nI k) i) L Q i = rt_tg T R L Q i := rt_tgc (fun _ => rt_chO)
    have skip : ¬ (rt_tg T R L Q i = some s ∧ (Q (rt_c i) = 1 ∨ Q (rt_c i) = 2)) → ∀ y, y = nI i + 1 → wY_follow_5 post (nI s) (nI k) op mk sb n (nI (rt_cnt (rt_chf T R L Q s) i)) y L Q T (rt_ch T R L Q s (nI k) i) V kT kR kV g := by
      intro no y ey
      rw [ey, nI_1, ← rt_chN (nk := nI k) no, ← rt_cnt_f (f := rt_chf T R L Q s) (n := i) (fun z => no (of_decide_eq_true z))]
      exact ih
    have yes : rt_tg T R L Q i = some s → (Q (rt_c i) = 1 ∨ Q (rt_c i) = 2) → ∀ v, v = (if Q (rt_c i) = 1 then nI k else if Q (rt_c i) = 2 then -1 else R i) → ∀ u, u = upd (rt_ch T R L Q s (nI k) i) i v → ∀ z, z = nI (rt_cnt (rt_chf T R L Q s) i) + 1 → ∀ y, y = nI i + 1 → wY_follow_5 post (nI s) (nI k) op mk sb n z y L Q T u V kT kR kV g := by
      intro a b v ev u eu z ez y ey
      rw [ey, nI_1, eu, rt_chY a ev, ez, nI_1, ← rt_cnt_t (f := rt_chf T R L Q s) (n := i) (decide_eq_true ⟨a, b⟩)]
      exact ih
    have f46 : rt_tg T R L Q i = some s → (Q (rt_c i) = 1 ∨ Q (rt_c i) = 2) → wY_follow_46 post (wY_follow_5 post (nI s) (nI k) op mk sb n) (nI s) (nI k) (nI (rt_cnt (rt_chf T R L Q s) i)) (nI i) op mk sb L Q T (rt_ch T R L Q s (nI k) i) V kT kR kV g := by
      intro a b
      unfold wY_follow_46
      rw [nI_clamp (n := i) (by omega)]
      exact rt_yrule hi (br_c (fun c => ⟨vp_in_nI hi (by decide), yes a b _ (by rw [if_pos c])⟩) (fun c => ⟨vp_in_nI hi (by decide), yes a b _ (by rw [if_neg c, if_pos (b.resolve_left c)])⟩))
    refine br_f (nI_ge (b := 120) hi (by decide)) (rt_ytg hQ (rt_chR hR hk) hi (fun e => br_f (fun z => rt_nI_m1 (by omega) z.symm) (skip ?_)) (fun t ht e d => br_c (fun a => ?_) (fun a => skip ?_)))
    · rw [te] at e
      intro z
      rcases e with e | ⟨t, e, d⟩
      · rw [e] at z; cases z.1
      · rw [z.1] at e; cases e; exact hTs d
    · rw [te, (nI_eq (by omega) (by omega)).mp a] at e
      exact rt_yrule hi (br_c (fun b => f46 e (Or.inl b)) (fun b => rt_yrule hi (br_c (fun c => f46 e (Or.inr c)) (fun c => skip (fun z => z.2.elim b c)))))
    · rw [te] at e
      rw [e]; exact fun z => a (by cases z.1; rfl))
  dsimp only at key
  rw [show rt_ch T R L Q s (nI k) 0 = R from funext (fun p => if_neg (fun z => Nat.not_lt_zero p z.1))] at key
  exact key
theorem rt_xmove {a b : Nat} (ha : a < 60) (hb : b < 60) {post : SX → Prop} (h : post (op, mk, sb, sbs, (upd (upd T a 0) b 1), (upd V b (V a)), (rt_mv R a b), L, Q, kT, kV, kR)) : wpX_moveRow post (op, mk, sb, sbs, T, V, R, L, Q, kT, kV, kR) (nI a) (nI b) := by
  unfold wpX_moveRow; dsimp only
  rw [nI_clamp (n := a) (by omega), nI_clamp (n := b) (by omega), rt_nar0, rt_nar1]
  refine ⟨vp_in_nI ha (by decide), fun t1 e1 => ⟨vp_in_nI hb (by decide), fun t2 e2 => ⟨vp_in_nI ha (by decide), vp_in_nI hb (by decide), fun v1 e3 => ⟨3, ?_⟩⟩⟩⟩
  subst e1 e2 e3
  refine br_f (by decide) ?_
  have a0 : nI a * 2 + 0 = nI (2 * a + 0) := rt_2a a 0
  have b0 : nI b * 2 + 0 = nI (2 * b + 0) := rt_2a b 0
  rw [a0, b0, nI_clamp (n := 2 * a + 0) (by omega), nI_clamp (n := 2 * b + 0) (by omega)]
  refine ⟨vp_in_nI (by omega) (by decide), vp_in_nI (by omega) (by decide), fun r1 f1 y ey => ?_⟩
  have ey : y = 1 := ey
  subst f1 ey
  refine br_f (by decide) ?_
  have a1 : nI a * 2 + 1 = nI (2 * a + 1) := rt_2a a 1
  have b1 : nI b * 2 + 1 = nI (2 * b + 1) := rt_2a b 1
  rw [a1, b1, nI_clamp (n := 2 * a + 1) (by omega), nI_clamp (n := 2 * b + 1) (by omega)]
  refine ⟨vp_in_nI (by omega) (by decide), vp_in_nI (by omega) (by decide), fun r2 f2 y ey => ?_⟩
  have ey : y = 2 := ey
  subst f2 ey
  exact br_t (by decide) h
end
end
section
/-! the relation -/
def rt_K (kTX kVX kRX kTY kVY kRY : Nat → Int32) : Prop := (∀ j, j < 240 → kTX j = kTY j ∧ kVX j = kVY j) ∧ ∀ i, i < 4 → rt_OK (fun s => kTX (60 * i + s)) (fun p => kRX (120 * i + p)) (fun p => kRY (120 * i + p))
/-- rows, values, links and rules are the same; references the same where a row is; kept states 0 to 3 alike; at most 12 rows a table -/
def i_Rel (k : Nat) (u : SX) (v : SY) : Prop := ∃ (op : Int32) (m : Nat) (sb sbs : Int32) (T V RX L Q kTX kVX kRX RY kTY kRY kVY g : Nat → Int32), m ≤ 3 ∧ rt_QL L Q ∧ rt_OK T RX RY ∧ rt_K kTX kVX kRX kTY kVY kRY ∧ u = (op, (nI m), sb, sbs, T, V, RX, L, Q, kTX, kVX, kRX) ∧ v = (op, (nI m), sb, L, Q, T, RY, V, kTY, kRY, kVY, g)
theorem i_up {k : Nat} {u : SX} {v : SY} (h : i_Rel k u v) : i_Rel (k + 5) u v := h
section
variable {op mk sb sbs : Int32} {m : Nat} {T V R L Q kT kV kR g RX RY kTX kTY kVX kVY kRX kRY T' V' RX' RY' kTX' kTY' kVX' kVY' kRX' kRY' : Nat → Int32}
theorem rt_rel (k : Nat) (hm : m ≤ 3) (hQ : rt_QL L Q) (hO : rt_OK T RX RY) (hK : rt_K kTX kVX kRX kTY kVY kRY) : i_Rel k (op, (nI m), sb, sbs, T, V, RX, L, Q, kTX, kVX, kRX) (op, (nI m), sb, L, Q, T, RY, V, kTY, kRY, kVY, g) := ⟨_, _, _, _, _, _, _, _, _, _, _, _, _, _, _, _, _, hm, hQ, hO, hK, rfl, rfl⟩
theorem rt_Kc (h : rt_K kTX kVX kRX kTY kVY kRY) (h1 : ∀ j, j < 240 → kTX' j = kTX j) (h2 : ∀ j, j < 240 → kVX' j = kVX j) (h3 : ∀ j, j < 480 → kRX' j = kRX j) (h4 : ∀ j, j < 240 → kTY' j = kTY j) (h5 : ∀ j, j < 240 → kVY' j = kVY j) (h6 : ∀ j, j < 480 → kRY' j = kRY j) : rt_K kTX' kVX' kRX' kTY' kVY' kRY' := by
  refine ⟨fun j hj => ?_, fun i hi => ?_⟩
  · rw [h1 j hj, h2 j hj, h4 j hj, h5 j hj]; exact h.1 j hj
  · exact rt_OKc (h.2 i hi) (fun s hs => h1 _ (by omega)) (fun p hp => h3 _ (by omega)) (fun p hp => h6 _ (by omega))
theorem rt_Kkeep {st : Nat} (hst : st < 4) (hO : rt_OK T RX RY) (h : rt_K kTX kVX kRX kTY kVY kRY) : rt_K (rt_kp kTX (60 * st) 60 (rt_nr T)) (rt_kp kVX (60 * st) 60 V) (rt_kp kRX (120 * st) 120 RX) (rt_kp kTY (60 * st) 60 (rt_nr T)) (rt_kp kVY (60 * st) 60 V) (rt_kp kRY (120 * st) 120 RY) := by
  refine ⟨fun j hj => ?_, fun i hi => ?_⟩
  · unfold rt_kp
    by_cases q : 60 * st ≤ j ∧ j < 60 * st + 60
    · rw [if_pos q, if_pos q, if_pos q, if_pos q]; exact ⟨rfl, rfl⟩
    · rw [if_neg q, if_neg q, if_neg q, if_neg q]; exact h.1 j hj
  · by_cases q : i = st
    · subst q
      refine rt_OKc hO (fun s hs => ?_) (fun p hp => rt_kpI hp) (fun p hp => rt_kpI hp)
      show rt_kp kTX (60 * i) 60 (rt_nr T) (60 * i + s) = T s
      rw [rt_kpI hs]; exact rt_nar (hO.1 s hs)
    · exact rt_OKc (h.2 i hi) (fun s hs => rt_kpO (by omega)) (fun p hp => rt_kpO (by omega)) (fun p hp => rt_kpO (by omega))
/-- state 4 is scratch, on both sides -/
theorem rt_K4x (h : rt_K kTX kVX kRX kTY kVY kRY) : rt_K (rt_kp kTX (60 * 4) 60 (rt_nr T)) (rt_kp kVX (60 * 4) 60 V) (rt_kp kRX (120 * 4) 120 RX) kTY kVY kRY :=
  rt_Kc h (fun j hj => rt_kpO (by omega)) (fun j hj => rt_kpO (by omega)) (fun j hj => rt_kpO (by omega)) (fun _ _ => rfl) (fun _ _ => rfl) (fun _ _ => rfl)
theorem rt_K4y (h : rt_K kTX kVX kRX kTY kVY kRY) : rt_K kTX kVX kRX (rt_kp kTY (60 * 4) 60 (rt_nr T)) (rt_kp kVY (60 * 4) 60 V) (rt_kp kRY (120 * 4) 120 RY) :=
  rt_Kc h (fun _ _ => rfl) (fun _ _ => rfl) (fun _ _ => rfl) (fun j hj => rt_kpO (by omega)) (fun j hj => rt_kpO (by omega)) (fun j hj => rt_kpO (by omega))
/-- back to a kept state -/
theorem rt_relrest (k : Nat) (hm : m ≤ 3) {st : Nat} (hst : st < 4) (hQ : rt_QL L Q) (hO : rt_OK T RX RY) (hK : rt_K kTX kVX kRX kTY kVY kRY) : i_Rel k (op, (nI m), sb, sbs, (rt_rs (rt_nr kTX) (60 * st) 60 T), (rt_rs kVX (60 * st) 60 V), (rt_rs kRX (120 * st) 120 RX), L, Q, kTX, kVX, kRX) (op, (nI m), sb, L, Q, (rt_rs (rt_nr kTY) (60 * st) 60 T), (rt_rs kRY (120 * st) 120 RY), (rt_rs kVY (60 * st) 60 V), kTY, kRY, kVY, g) := by
  have e1 : rt_rs (rt_nr kTY) (60 * st) 60 T = rt_rs (rt_nr kTX) (60 * st) 60 T := rt_rsc (fun j hj => by unfold rt_nr; rw [(hK.1 _ (by omega)).1])
  have e2 : rt_rs kVY (60 * st) 60 V = rt_rs kVX (60 * st) 60 V := rt_rsc (fun j hj => (hK.1 _ (by omega)).2.symm)
  rw [e1, e2]
  refine rt_rel k hm hQ (rt_OKc (hK.2 st hst) (fun s hs => ?_) (fun p hp => rt_rsI hp) (fun p hp => rt_rsI hp)) hK
  rw [rt_rsI hs]
  exact rt_nar ((hK.2 st hst).1 s hs)
/-- a refused statement -/
theorem rt_relbad (k : Nat) (hm : m ≤ 3) (hQ : rt_QL L Q) (hO : rt_OK T RX RY) (hK : rt_K kTX kVX kRX kTY kVY kRY) : i_Rel k (op, (nI m), sb, sbs, (rt_rs (rt_nr (rt_kp kTX (60 * 4) 60 (rt_nr T))) (60 * 4) 60 T'), (rt_rs (rt_kp kVX (60 * 4) 60 V) (60 * 4) 60 V'), (rt_rs (rt_kp kRX (120 * 4) 120 RX) (120 * 4) 120 RX'), L, Q, (rt_kp kTX (60 * 4) 60 (rt_nr T)), (rt_kp kVX (60 * 4) 60 V), (rt_kp kRX (120 * 4) 120 RX)) (op, (nI m), sb, L, Q, (rt_rs (rt_nr (rt_kp kTY (60 * 4) 60 (rt_nr T))) (60 * 4) 60 T'), (rt_rs (rt_kp kRY (120 * 4) 120 RY) (120 * 4) 120 RY'), (rt_rs (rt_kp kVY (60 * 4) 60 V) (60 * 4) 60 V'), (rt_kp kTY (60 * 4) 60 (rt_nr T)), (rt_kp kRY (120 * 4) 120 RY), (rt_kp kVY (60 * 4) 60 V), g) := by
  have e1 : rt_rs (rt_nr (rt_kp kTY (60 * 4) 60 (rt_nr T))) (60 * 4) 60 T' = rt_rs (rt_nr (rt_kp kTX (60 * 4) 60 (rt_nr T))) (60 * 4) 60 T' := rt_rsc (fun j hj => by unfold rt_nr; rw [rt_kpI hj, rt_kpI hj])
  have e2 : rt_rs (rt_kp kVY (60 * 4) 60 V) (60 * 4) 60 V' = rt_rs (rt_kp kVX (60 * 4) 60 V) (60 * 4) 60 V' := rt_rsc (fun j hj => by rw [rt_kpI hj, rt_kpI hj])
  rw [e1, e2]
  refine rt_rel k hm hQ (rt_OKc hO (fun s hs => ?_) (fun p hp => ?_) (fun p hp => ?_)) (rt_K4x (rt_K4y hK))
  · rw [rt_rsI hs]
    show vp_nar .boolean (rt_kp kTX (60 * 4) 60 (rt_nr T) (60 * 4 + s)) = T s
    rw [rt_kpI hs]
    show vp_nar .boolean (vp_nar .boolean (T s)) = T s
    rw [rt_nar (hO.1 s hs), rt_nar (hO.1 s hs)]
  · rw [rt_rsI hp, rt_kpI hp]
  · rw [rt_rsI hp, rt_kpI hp]
theorem rt_OS (hO : rt_OK T RX RY) : rt_S T RX L Q = rt_S T RY L Q := rt_Sc (fun p hp ht => (hO.2.1 p hp ht).1)
theorem rt_Otg (hO : rt_OK T RX RY) {p : Nat} (hp : p < 120) : rt_tg T RX L Q p = rt_tg T RY L Q p := rt_tgc (fun ht => (hO.2.1 p hp ht).1)
end
def rt_in (i : Nat) : Nat → Int32 := fun c => if c < i then -1 else 0
theorem rt_ins {i : Nat} : upd (rt_in i) i (-1) = rt_in (i + 1) := funext fun j => by
  unfold upd rt_in
  by_cases q : j = i
  · rw [if_pos q, if_pos (show j < i + 1 from by omega)]
  · rw [if_neg q]
    by_cases w : j < i
    · rw [if_pos w, if_pos (show j < i + 1 from by omega)]
    · rw [if_neg w, if_neg (show ¬ j < i + 1 from by omega)]
theorem rt_OK0 : rt_OK (fun _ => 0) (fun _ => 0) (fun _ => 0) := by
  refine ⟨fun s _ => Or.inl rfl, fun p _ ht => absurd rfl ht, fun t _ => ?_⟩
  have e0 : ∀ n, rt_cnt (fun _ => false) n = 0 := fun n => by
    induction n with
    | zero => rfl
    | succ n i1 => rw [rt_cnt_f Bool.false_ne_true, i1]
  have : rt_ct (fun _ => 0) t = rt_cnt (fun _ => false) 20 := rt_cnt_congr 20 (fun i _ => decide_eq_false (fun z => z rfl))
  rw [this, e0]; omega
theorem i_vc0 : wpX_init (fun u => wpY_init (fun v => i_Rel 0 u v)) := by
  have z : rt_in 0 = fun _ => 0 := funext (fun j => if_neg (Nat.not_lt_zero j))
  have hQ : rt_QL (fun _ => 0) (rt_in 6) := fun c hc => ⟨Or.inl (if_pos hc), 0, by decide, rfl⟩
  have hK : rt_K (fun _ => 0) (fun _ => 0) (fun _ => 0) (fun _ => 0) (fun _ => 0) (fun _ => 0) := ⟨fun _ _ => ⟨rfl, rfl⟩, fun _ _ => rt_OK0⟩
  have hY : wpY_init (fun v => i_Rel 0 (0, 0, 0, 0, (fun _ => 0), (fun _ => 0), (fun _ => 0), (fun _ => 0), rt_in 6, (fun _ => 0), (fun _ => 0), (fun _ => 0)) v) := by
    have key := rt_loopF (fun n i s => wY_init_81 (fun v => i_Rel 0 (0, 0, 0, 0, (fun _ => 0), (fun _ => 0), (fun _ => 0), (fun _ => 0), rt_in 6, (fun _ => 0), (fun _ => 0), (fun _ => 0)) v) 0 0 0 n (nI i) (fun _ => 0) s (fun _ => 0) (fun _ => 0) (fun _ => 0) (fun _ => 0) (fun _ => 0) (fun _ => 0) (fun _ => 0)) rt_in 6 (fun n => br_t (nI_le (a := 6) (b := 6) (by decide) (by decide)) (rt_rel (m := 0) 0 (by decide) hQ rt_OK0 hK)) (fun n i hi ih => by
      refine br_f (nI_ge (b := 6) hi (by decide)) ⟨vp_in_nI hi (by decide), fun y ey w ew => ?_⟩
      rw [nI_clamp (n := i) (by omega)] at ey
      rw [ew, ey.trans rt_ins, nI_1]; exact ih)
    rw [z] at key
    exact key
  have key := rt_loopF (fun n i s => wX_init_93 (fun u => wpY_init (fun v => i_Rel 0 u v)) 0 0 0 0 n (nI i) (fun _ => 0) (fun _ => 0) (fun _ => 0) (fun _ => 0) s (fun _ => 0) (fun _ => 0) (fun _ => 0)) rt_in 6 (fun n => br_t (nI_le (a := 6) (b := 6) (by decide) (by decide)) hY) (fun n i hi ih => by
    refine br_f (nI_ge (b := 6) hi (by decide)) ⟨vp_in_nI hi (by decide), fun y ey w ew => ?_⟩
    rw [nI_clamp (n := i) (by omega)] at ey
    rw [ew, ey.trans rt_ins, nI_1]; exact ih)
  rw [z] at key
  exact key
end
section
/-! the calls that only read, and those of transactions -/
theorem i_vc_rows {k : Nat} {u : SX} {v : SY} (I : i_Rel k u v) (hk : k + 5 ≤ 2560) (v1 : Int32) : wpX_rows (fun r => wpY_rows (fun r' => r' = r ∧ i_Rel (k + 5) u v) v v1) u v1 := by
  obtain ⟨op, m, sb, sbs, T, V, RX, L, Q, kTX, kVX, kRX, RY, kTY, kRY, kVY, g, hm, hQ, hO, hK, rfl, rfl⟩ := I
  have J := rt_rel (op := op) (sb := sb) (sbs := sbs) (V := V) (g := g) (k + 5) hm hQ hO hK
  unfold wpX_rows wpY_rows; dsimp only
  rcases rt_table (op := op) (mk := nI m) (sb := sb) (T := T) (V := V) (L := L) (Q := Q) (g := g) (RY := RY) (kTY := kTY) (kVY := kVY) (kRY := kRY) v1 with ⟨a, b⟩ | ⟨t, ht, rfl, a, b⟩
  · exact a _ (br_t rfl (b _ (br_t rfl ⟨rfl, J⟩)))
  · exact a _ (br_f (by decide) (rt_xcount ht (b _ (br_f (by decide) (rt_ycount ht ⟨rfl, J⟩)))))
theorem i_vc_keyAt {k : Nat} {u : SX} {v : SY} (I : i_Rel k u v) (hk : k + 5 ≤ 2560) (v1 : Int32) (v2 : Int32) : wpX_keyAt (fun r => wpY_keyAt (fun r' => r' = r ∧ i_Rel (k + 5) u v) v v1 v2) u v1 v2 := by
  obtain ⟨op, m, sb, sbs, T, V, RX, L, Q, kTX, kVX, kRX, RY, kTY, kRY, kVY, g, hm, hQ, hO, hK, rfl, rfl⟩ := I
  have J := rt_rel (op := op) (sb := sb) (sbs := sbs) (V := V) (g := g) (k + 5) hm hQ hO hK
  unfold wpX_keyAt wpY_keyAt; dsimp only
  rcases rt_table (op := op) (mk := nI m) (sb := sb) (T := T) (V := V) (L := L) (Q := Q) (g := g) (RY := RY) (kTY := kTY) (kVY := kVY) (kRY := kRY) v1 with ⟨a, b⟩ | ⟨t, ht, rfl, a, b⟩
  · exact a _ (br_t rfl (b _ (br_t rfl ⟨rfl, J⟩)))
  · obtain ⟨r, hX, hY⟩ := rt_keyAt (op := op) (mk := nI m) (sb := sb) (T := T) (V := V) (L := L) (Q := Q) (g := g) (RY := RY) (kTY := kTY) (kVY := kVY) (kRY := kRY) (sbs := sbs) (RX := RX) (kTX := kTX) (kVX := kVX) (kRX := kRX) ht v2 20 0 rfl 0
    rw [show v2 - 0 = v2 from Int32.sub_zero _] at hY
    exact a _ (br_f (by decide) ⟨21, hX _ (b _ (br_f (by decide) ⟨21, hY _ ⟨rfl, J⟩⟩))⟩)
theorem i_vc_reference {k : Nat} {u : SX} {v : SY} (I : i_Rel k u v) (hk : k + 5 ≤ 2560) (v1 : Int32) (v2 : Int32) (v3 : Int32) : wpX_reference (fun r => wpY_reference (fun r' => r' = r ∧ i_Rel (k + 5) u v) v v1 v2 v3) u v1 v2 v3 := by
  obtain ⟨op, m, sb, sbs, T, V, RX, L, Q, kTX, kVX, kRX, RY, kTY, kRY, kVY, g, hm, hQ, hO, hK, rfl, rfl⟩ := I
  have J := rt_rel (op := op) (sb := sb) (sbs := sbs) (V := V) (g := g) (k + 5) hm hQ hO hK
  unfold wpX_reference wpY_reference; dsimp only
  rcases rt_table (op := op) (mk := nI m) (sb := sb) (T := T) (V := V) (L := L) (Q := Q) (g := g) (RY := RY) (kTY := kTY) (kVY := kVY) (kRY := kRY) v1 with ⟨a, b⟩ | ⟨t, ht, rfl, a, b⟩
  · exact a _ (br_t rfl (b _ (br_t rfl ⟨rfl, J⟩)))
  · rcases rt_row (op := op) (mk := nI m) (sb := sb) (T := T) (V := V) (L := L) (Q := Q) (g := g) (RY := RY) (kTY := kTY) (kVY := kVY) (kRY := kRY) (sbs := sbs) (RX := RX) (kTX := kTX) (kVX := kVX) (kRX := kRX) ht v2 with ⟨c, d⟩ | ⟨q, hq, rfl, hT, c, d⟩
    · exact a _ (br_f (by decide) (c _ (br_t rfl (b _ (br_f (by decide) (d _ (br_t rfl ⟨rfl, J⟩)))))))
    · rcases rt_col v3 with ⟨e, f⟩ | ⟨o, ho, rfl, e, f⟩
      · exact a _ (br_f (by decide) (c _ (br_f (by decide) (e _ (br_t rfl (b _ (br_f (by decide) (d _ (br_f (by decide) (f _ _ ⟨rfl, J⟩))))))))))
      · refine a _ (br_f (by decide) (c _ (br_f (by decide) (e _ (br_f (by decide) ?_)))))
        rw [rt_20a, rt_2a, nI_clamp (n := 2 * (20 * t + q) + o) (by omega)]
        refine ⟨vp_in_nI (by omega) (by decide), b _ (br_f (by decide) (d _ (br_f (by decide) (f _ _ ?_))))⟩
        rw [rt_40, nI_clamp (n := 2 * (20 * t + q) + o) (by omega)]
        exact ⟨vp_in_nI (by omega) (by decide), ((hO.2.1 (2 * (20 * t + q) + o) (by omega) (by rw [show (2 * (20 * t + q) + o) / 2 = 20 * t + q from by omega]; exact hT)).1).symm, J⟩
theorem i_vc_valueOf {k : Nat} {u : SX} {v : SY} (I : i_Rel k u v) (hk : k + 5 ≤ 2560) (v1 : Int32) (v2 : Int32) : wpX_valueOf (fun r => wpY_valueOf (fun r' => r' = r ∧ i_Rel (k + 5) u v) v v1 v2) u v1 v2 := by
  obtain ⟨op, m, sb, sbs, T, V, RX, L, Q, kTX, kVX, kRX, RY, kTY, kRY, kVY, g, hm, hQ, hO, hK, rfl, rfl⟩ := I
  have J := rt_rel (op := op) (sb := sb) (sbs := sbs) (V := V) (g := g) (k + 5) hm hQ hO hK
  unfold wpX_valueOf wpY_valueOf; dsimp only
  rcases rt_table (op := op) (mk := nI m) (sb := sb) (T := T) (V := V) (L := L) (Q := Q) (g := g) (RY := RY) (kTY := kTY) (kVY := kVY) (kRY := kRY) v1 with ⟨a, b⟩ | ⟨t, ht, rfl, a, b⟩
  · exact a _ (br_t rfl (b _ (br_t rfl ⟨rfl, J⟩)))
  · rcases rt_row (op := op) (mk := nI m) (sb := sb) (T := T) (V := V) (L := L) (Q := Q) (g := g) (RY := RY) (kTY := kTY) (kVY := kVY) (kRY := kRY) (sbs := sbs) (RX := RX) (kTX := kTX) (kVX := kVX) (kRX := kRX) ht v2 with ⟨c, d⟩ | ⟨q, hq, rfl, hT, c, d⟩
    · exact a _ (br_f (by decide) (c _ (br_t rfl (b _ (br_f (by decide) (d _ (br_t rfl ⟨rfl, J⟩)))))))
    · refine a _ (br_f (by decide) (c _ (br_f (by decide) ?_)))
      rw [rt_20a]
      refine ⟨vp_in_nI (by omega) (by decide), b _ (br_f (by decide) (d _ (br_f (by decide) ?_)))⟩
      rw [rt_20b]
      exact ⟨vp_in_nI (by omega) (by decide), rfl, J⟩
theorem i_vc_referrers {k : Nat} {u : SX} {v : SY} (I : i_Rel k u v) (hk : k + 5 ≤ 2560) (v1 : Int32) (v2 : Int32) : wpX_referrers (fun r => wpY_referrers (fun r' => r' = r ∧ i_Rel (k + 5) u v) v v1 v2) u v1 v2 := by
  obtain ⟨op, m, sb, sbs, T, V, RX, L, Q, kTX, kVX, kRX, RY, kTY, kRY, kVY, g, hm, hQ, hO, hK, rfl, rfl⟩ := I
  have J := rt_rel (op := op) (sb := sb) (sbs := sbs) (V := V) (g := g) (k + 5) hm hQ hO hK
  unfold wpX_referrers wpY_referrers; dsimp only
  rcases rt_table (op := op) (mk := nI m) (sb := sb) (T := T) (V := V) (L := L) (Q := Q) (g := g) (RY := RY) (kTY := kTY) (kVY := kVY) (kRY := kRY) v1 with ⟨a, b⟩ | ⟨t, ht, rfl, a, b⟩
  · exact a _ (br_t rfl (b _ (br_t rfl ⟨rfl, J⟩)))
  · rcases rt_row (op := op) (mk := nI m) (sb := sb) (T := T) (V := V) (L := L) (Q := Q) (g := g) (RY := RY) (kTY := kTY) (kVY := kVY) (kRY := kRY) (sbs := sbs) (RX := RX) (kTX := kTX) (kVX := kVX) (kRX := kRX) ht v2 with ⟨c, d⟩ | ⟨q, hq, rfl, hT, c, d⟩
    · exact a _ (br_f (by decide) (c _ (br_t rfl (b _ (br_f (by decide) (d _ (br_t rfl ⟨rfl, J⟩)))))))
    · refine a _ (br_f (by decide) (c _ (br_f (by decide) (fun y ey => ?_))))
      rw [ey, rt_20a]
      refine rt_xref hQ (rt_OKx hO) (by omega) (b _ (br_f (by decide) (d _ (br_f (by decide) (rt_yref hQ (rt_OKy hO) (by omega) hT ⟨congrArg nI (rt_cnt_congr 120 (fun p hp => ?_)), J⟩)))))
      rw [rt_Otg hO hp]
theorem rt_Fc {T R R' L Q : Nat → Int32} {r : Nat} (h : ∀ p, p < 120 → rt_tg T R L Q p = rt_tg T R' L Q p) : rt_F T R L Q r → rt_F T R' L Q r :=
  fun ⟨p, t, hp, a, b, c, d⟩ => ⟨p, t, hp, (h p hp).symm.trans a, b, (rt_Gc h).mp c, fun z => d ((rt_Gc h).mpr z)⟩
theorem rt_Gbc {T R R' L Q : Nat → Int32} {r : Nat} (h : ∀ p, p < 120 → rt_tg T R L Q p = rt_tg T R' L Q p) (n : Nat) : rt_cnt (rt_Gb T R L Q r) n = rt_cnt (rt_Gb T R' L Q r) n :=
  rt_cnt_congr n (fun i _ => Bool.eq_iff_iff.mpr (rt_Gbt.trans ((rt_Gc h).trans rt_Gbt.symm)))
theorem i_vc_wouldGo {k : Nat} {u : SX} {v : SY} (I : i_Rel k u v) (hk : k + 5 ≤ 2560) (v1 : Int32) (v2 : Int32) : wpX_wouldGo (fun r => wpY_wouldGo (fun r' v' => r' = r ∧ i_Rel (k + 5) u v') v v1 v2) u v1 v2 := by
  obtain ⟨op, m, sb, sbs, T, V, RX, L, Q, kTX, kVX, kRX, RY, kTY, kRY, kVY, g, hm, hQ, hO, hK, rfl, rfl⟩ := I
  have J := rt_rel (op := op) (sb := sb) (sbs := sbs) (V := V) (g := g) (k + 5) hm hQ hO hK
  unfold wpX_wouldGo wpY_wouldGo; dsimp only
  rcases rt_table (op := op) (mk := nI m) (sb := sb) (T := T) (V := V) (L := L) (Q := Q) (g := g) (RY := RY) (kTY := kTY) (kVY := kVY) (kRY := kRY) v1 with ⟨a, b⟩ | ⟨t, ht, rfl, a, b⟩
  · exact a _ (br_t rfl (b _ (br_t rfl ⟨rfl, J⟩)))
  · rcases rt_row (op := op) (mk := nI m) (sb := sb) (T := T) (V := V) (L := L) (Q := Q) (g := g) (RY := RY) (kTY := kTY) (kVY := kVY) (kRY := kRY) (sbs := sbs) (RX := RX) (kTX := kTX) (kVX := kVX) (kRX := kRX) ht v2 with ⟨c, d⟩ | ⟨q, hq, rfl, hT, c, d⟩
    · exact a _ (br_f (by decide) (c _ (br_t rfl (b _ (br_f (by decide) (d _ (br_t rfl ⟨rfl, J⟩)))))))
    · have tc : ∀ p, p < 120 → rt_tg T RX L Q p = rt_tg T RY L Q p := fun p hp => rt_Otg hO hp
      refine a _ (br_f (by decide) (c _ (br_f (by decide) ?_)))
      rw [rt_20a]
      refine rt_xgo hQ (rt_OKx hO) (by omega) (fun w hw => rt_xheldback hQ (rt_OKx hO) hw (fun f => br_f (by decide) (b _ (br_f (by decide) (d _ (br_f (by decide) ?_))))) (fun f => br_t rfl (rt_xwould hw (b _ (br_f (by decide) (d _ (br_f (by decide) ?_)))))))
      · rw [rt_20b]
        exact rt_yspread hQ (rt_OKy hO) (by omega) hT (fun g' hg => ⟨fun _ => ⟨rfl, rt_rel (k + 5) hm hQ hO hK⟩, fun z => absurd (rt_Fc tc f) z⟩)
      · rw [rt_20b]
        exact rt_yspread hQ (rt_OKy hO) (by omega) hT (fun g' hg => ⟨fun z => absurd (rt_Fc (fun p hp => (tc p hp).symm) z) f, fun _ => ⟨congrArg nI (rt_Gbc tc 60).symm, rt_rel (k + 5) hm hQ hO hK⟩⟩)
theorem i_vc_dangling {k : Nat} {u : SX} {v : SY} (I : i_Rel k u v) (hk : k + 5 ≤ 2560) : wpX_dangling (fun r => wpY_dangling (fun r' => r' = r ∧ i_Rel (k + 5) u v) v) u := by
  obtain ⟨op, m, sb, sbs, T, V, RX, L, Q, kTX, kVX, kRX, RY, kTY, kRY, kVY, g, hm, hQ, hO, hK, rfl, rfl⟩ := I
  have J := rt_rel (op := op) (sb := sb) (sbs := sbs) (V := V) (g := g) (k + 5) hm hQ hO hK
  exact rt_xdangling hQ (rt_OKx hO) (rt_ydangling hQ (rt_OKy hO) ⟨congrArg nI (rt_cnt_congr 120 (fun p hp => (rt_dgc (fun ht => (hO.2.1 p hp ht).1)).symm)), J⟩)
theorem i_vc_sum {k : Nat} {u : SX} {v : SY} (I : i_Rel k u v) (hk : k + 5 ≤ 2560) (v1 : Int32) : wpX_sum (fun r => wpY_sum (fun r' => r' = r ∧ i_Rel (k + 5) u v) v v1) u v1 := by
  obtain ⟨op, m, sb, sbs, T, V, RX, L, Q, kTX, kVX, kRX, RY, kTY, kRY, kVY, g, hm, hQ, hO, hK, rfl, rfl⟩ := I
  have J := rt_rel (op := op) (sb := sb) (sbs := sbs) (V := V) (g := g) (k + 5) hm hQ hO hK
  unfold wpX_sum wpY_sum; dsimp only
  rcases rt_table (op := op) (mk := nI m) (sb := sb) (T := T) (V := V) (L := L) (Q := Q) (g := g) (RY := RY) (kTY := kTY) (kVY := kVY) (kRY := kRY) v1 with ⟨a, b⟩ | ⟨t, ht, rfl, a, b⟩
  · exact a _ (br_t rfl ⟨1, br_f (by decide) (b _ (br_t rfl ⟨rfl, J⟩))⟩)
  · refine a _ (br_f (by decide) (fun y ey => ?_))
    rw [show nI t * 20 = nI (20 * t + 0) from by rw [Nat.mul_comm]; exact pk_mul _ 20] at ey
    rw [ey]
    exact rt_xsum ht (rt_ysum ht b ⟨rfl, J⟩)
theorem i_vc_value {k : Nat} {u : SX} {v : SY} (I : i_Rel k u v) (hk : k + 5 ≤ 2560) (v1 : Int32) (v2 : Int32) (v3 : Int32) : wpX_value (fun r u' => wpY_value (fun r' v' => r' = r ∧ i_Rel (k + 5) u' v') v v1 v2 v3) u v1 v2 v3 := by
  obtain ⟨op, m, sb, sbs, T, V, RX, L, Q, kTX, kVX, kRX, RY, kTY, kRY, kVY, g, hm, hQ, hO, hK, rfl, rfl⟩ := I
  have J := rt_rel (op := op) (sb := sb) (sbs := sbs) (V := V) (g := g) (k + 5) hm hQ hO hK
  unfold wpX_value wpY_value; dsimp only
  rcases rt_table (op := op) (mk := nI m) (sb := sb) (T := T) (V := V) (L := L) (Q := Q) (g := g) (RY := RY) (kTY := kTY) (kVY := kVY) (kRY := kRY) v1 with ⟨a, b⟩ | ⟨t, ht, rfl, a, b⟩
  · exact a _ (br_t rfl (b _ (br_t rfl ⟨rfl, J⟩)))
  · rcases rt_row (op := op) (mk := nI m) (sb := sb) (T := T) (V := V) (L := L) (Q := Q) (g := g) (RY := RY) (kTY := kTY) (kVY := kVY) (kRY := kRY) (sbs := sbs) (RX := RX) (kTX := kTX) (kVX := kVX) (kRX := kRX) ht v2 with ⟨c, d⟩ | ⟨q, hq, rfl, hT, c, d⟩
    · exact a _ (br_f (by decide) (c _ (br_t rfl (b _ (br_f (by decide) (d _ (br_t rfl ⟨rfl, J⟩)))))))
    · refine a _ (br_f (by decide) (c _ (br_f (by decide) ?_)))
      rw [rt_20a]
      refine ⟨vp_in_nI (by omega) (by decide), fun y ey => b _ (br_f (by decide) (d _ (br_f (by decide) ?_)))⟩
      rw [rt_20b]
      refine ⟨vp_in_nI (by omega) (by decide), fun z ez => ⟨rfl, ?_⟩⟩
      rw [ez, ey]
      exact rt_rel (k + 5) hm hQ hO hK
theorem i_vc_begin {k : Nat} {u : SX} {v : SY} (I : i_Rel k u v) (hk : k + 5 ≤ 2560) : wpX_begin (fun r u' => wpY_begin (fun r' v' => r' = r ∧ i_Rel (k + 5) u' v') v) u := by
  obtain ⟨op, m, sb, sbs, T, V, RX, L, Q, kTX, kVX, kRX, RY, kTY, kRY, kVY, g, hm, hQ, hO, hK, rfl, rfl⟩ := I
  have J := rt_rel (op := op) (sb := sb) (sbs := sbs) (V := V) (g := g) (k + 5) hm hQ hO hK
  unfold wpX_begin wpY_begin; dsimp only
  refine br_c (fun a => rt_xsound hQ (rt_OKx hO) (rt_xkeep (st := 0) (by decide) (br_t a (rt_ykeep (st := 0) (by decide) (rt_ysound hQ (rt_OKy hO) ⟨rfl, ?_⟩))))) (fun a => br_f a ⟨rfl, J⟩)
  rw [show rt_sd (rt_dg T RY L Q) 120 = rt_sd (rt_dg T RX L Q) 120 from (rt_OS hO).symm]
  exact rt_rel (m := 0) (k + 5) (by decide) hQ hO (rt_Kkeep (by decide) hO hK)
theorem i_vc_mark {k : Nat} {u : SX} {v : SY} (I : i_Rel k u v) (hk : k + 5 ≤ 2560) : wpX_mark (fun r u' => wpY_mark (fun r' v' => r' = r ∧ i_Rel (k + 5) u' v') v) u := by
  obtain ⟨op, m, sb, sbs, T, V, RX, L, Q, kTX, kVX, kRX, RY, kTY, kRY, kVY, g, hm, hQ, hO, hK, rfl, rfl⟩ := I
  have J := rt_rel (op := op) (sb := sb) (sbs := sbs) (V := V) (g := g) (k + 5) hm hQ hO hK
  unfold wpX_mark wpY_mark; dsimp only
  refine br_c (fun a => br_t a ⟨rfl, J⟩) (fun a => ?_)
  by_cases h : m < 3
  · refine br_t (nI_lt (b := 3) h (by decide)) (fun y ey => ?_)
    rw [nI_1] at ey
    subst ey
    rw [show (0 : Int32) + nI (m + 1) = nI (m + 1) from Int32.zero_add _]
    refine rt_xkeep (by omega) (br_f a (br_f (fun z => absurd ((nI_eq (b := 3) (by omega) (by decide)).mp z) (by omega)) (fun z ez => ?_)))
    rw [nI_1] at ez
    subst ez
    exact rt_ykeep (by omega) ⟨rfl, rt_rel (m := m + 1) (k + 5) (by omega) hQ hO (rt_Kkeep (by omega) hO hK)⟩
  · have e : m = 3 := by omega
    subst e
    exact br_f (by decide) (br_f a (br_t rfl ⟨rfl, J⟩))
theorem i_vc_back {k : Nat} {u : SX} {v : SY} (I : i_Rel k u v) (hk : k + 5 ≤ 2560) : wpX_back (fun r u' => wpY_back (fun r' v' => r' = r ∧ i_Rel (k + 5) u' v') v) u := by
  obtain ⟨op, m, sb, sbs, T, V, RX, L, Q, kTX, kVX, kRX, RY, kTY, kRY, kVY, g, hm, hQ, hO, hK, rfl, rfl⟩ := I
  have J := rt_rel (op := op) (sb := sb) (sbs := sbs) (V := V) (g := g) (k + 5) hm hQ hO hK
  unfold wpX_back wpY_back; dsimp only
  refine br_c (fun a => br_t a ⟨rfl, J⟩) (fun a => ?_)
  rw [show (0 : Int32) + nI m = nI m from Int32.zero_add _]
  refine rt_xrest (by omega) ?_
  dsimp only
  cases m with
  | zero =>
    exact br_t (by decide) (br_f a (rt_yrest (st := 0) (by omega) (br_t (show nI 0 ≤ 0 from by decide) ⟨rfl, rt_relrest (m := 0) (k + 5) (by decide) (by omega) hQ hO hK⟩)))
  | succ m =>
    have h : ¬ nI (m + 1) ≤ 0 := nI_nle (by omega) (by omega)
    refine br_f h (fun y ey => br_f a (rt_yrest (by omega) (br_f h (fun z ez => ?_))))
    rw [nI_pred] at ey ez
    rw [ey, ez]
    exact ⟨rfl, rt_relrest (m := m) (k + 5) (by omega) (by omega) hQ hO hK⟩
theorem i_vc_rollback {k : Nat} {u : SX} {v : SY} (I : i_Rel k u v) (hk : k + 5 ≤ 2560) : wpX_rollback (fun r u' => wpY_rollback (fun r' v' => r' = r ∧ i_Rel (k + 5) u' v') v) u := by
  obtain ⟨op, m, sb, sbs, T, V, RX, L, Q, kTX, kVX, kRX, RY, kTY, kRY, kVY, g, hm, hQ, hO, hK, rfl, rfl⟩ := I
  have J := rt_rel (op := op) (sb := sb) (sbs := sbs) (V := V) (g := g) (k + 5) hm hQ hO hK
  unfold wpX_rollback wpY_rollback; dsimp only
  exact br_c (fun a => br_t a ⟨rfl, J⟩) (fun a => rt_xrest (st := 0) (by decide) (br_f a (rt_yrest (st := 0) (by decide) ⟨rfl, rt_relrest (k + 5) hm (by decide) hQ hO hK⟩)))
theorem i_vc_commit {k : Nat} {u : SX} {v : SY} (I : i_Rel k u v) (hk : k + 5 ≤ 2560) : wpX_commit (fun r u' => wpY_commit (fun r' v' => r' = r ∧ i_Rel (k + 5) u' v') v) u := by
  obtain ⟨op, m, sb, sbs, T, V, RX, L, Q, kTX, kVX, kRX, RY, kTY, kRY, kVY, g, hm, hQ, hO, hK, rfl, rfl⟩ := I
  have J := rt_rel (op := op) (sb := sb) (sbs := sbs) (V := V) (g := g) (k + 5) hm hQ hO hK
  have HY : ¬ op = 0 → ∀ post : Int32 → SY → Prop, (rt_badC Q sb (rt_S T RX L Q) → post (-9) (op, (nI m), sb, L, Q, T, RY, V, kTY, kRY, kVY, g)) → (¬ rt_badC Q sb (rt_S T RX L Q) → post 1 (0, (nI m), sb, L, Q, T, RY, V, kTY, kRY, kVY, g)) → wpY_commit post (op, (nI m), sb, L, Q, T, RY, V, kTY, kRY, kVY, g) := by
    intro a post h1 h0
    unfold wpY_commit; dsimp only
    refine br_f a (rt_ysound hQ (rt_OKy hO) ?_)
    rw [show rt_sd (rt_dg T RY L Q) 120 = rt_S T RX L Q from (rt_OS hO).symm]
    refine rt_loopS (fun n i => wY_commit_16 post (rt_S T RX L Q) op (nI m) sb L Q T RY V kTY kRY kVY g n (nI i)) (fun c => Q c = 3 ∧ bt sb c = true ∧ bt (rt_S T RX L Q) c = false) 6 (fun hn n => br_t (nI_le (a := 6) (b := 6) (by decide) (by decide)) (h0 (fun ⟨c, hc, z⟩ => hn c hc z))) (fun n i hi hn ih => br_f (nI_ge (b := 6) hi (by decide)) ⟨vp_in_nI hi (by decide), ?_⟩)
    rw [nI_clamp (n := i) (by omega)]
    exact br_c (fun b => br_c (fun c => br_c (fun d => h1 ⟨i, hi, b, (rt_sr hi).1.mp c, (rt_sr hi).2.mp d⟩) (fun d y ey => by rw [ey, nI_1]; exact ih (fun z => d ((rt_sr hi).2.mpr z.2.2)))) (fun c y ey => by rw [ey, nI_1]; exact ih (fun z => c ((rt_sr hi).1.mpr z.2.1)))) (fun b y ey => by rw [ey, nI_1]; exact ih (fun z => b z.1))
  unfold wpX_commit; dsimp only
  refine br_c (fun a => br_t a ⟨rfl, J⟩) (fun a => rt_xsound hQ (rt_OKx hO) (fun y ey => rt_xlinks _ ?_))
  rw [ey]
  refine br_c (fun b => HY a _ (fun c => absurd c (rt_badXC.mp b)) (fun c => ⟨rfl, rt_rel (k + 5) hm hQ hO hK⟩)) (fun b => HY a _ (fun c => ⟨rfl, J⟩) (fun c => absurd (rt_badXC.mpr c) b))
end
section
/-! link and insert -/
theorem rt_v4 {x : Int32} (h1 : ¬ x < -1) (h2 : x ≤ 3) : x = -1 ∨ x = 0 ∨ x = 1 ∨ x = 2 ∨ x = 3 := by
  have m1 : (-1 : Int32).toInt = -1 := by decide
  have m3 : (3 : Int32).toInt = 3 := by decide
  rw [Int32.lt_iff_toInt_lt, m1] at h1
  rw [Int32.le_iff_toInt_le, m3] at h2
  have e : x.toInt = -1 ∨ x.toInt = 0 ∨ x.toInt = 1 ∨ x.toInt = 2 ∨ x.toInt = 3 := by omega
  have f : ∀ y : Int32, x.toInt = y.toInt → x = y := fun y => Int32.toInt_inj.mp
  rcases e with e | e | e | e | e
  · exact Or.inl (f _ (e.trans (by decide)))
  · exact Or.inr (Or.inl (f _ (e.trans (by decide))))
  · exact Or.inr (Or.inr (Or.inl (f _ (e.trans (by decide)))))
  · exact Or.inr (Or.inr (Or.inr (Or.inl (f _ (e.trans (by decide))))))
  · exact Or.inr (Or.inr (Or.inr (Or.inr (f _ (e.trans (by decide))))))
theorem rt_QLu {L Q : Nat → Int32} (hQ : rt_QL L Q) {c l : Nat} {x : Int32} (hx : x = -1 ∨ x = 0 ∨ x = 1 ∨ x = 2 ∨ x = 3) (hl : l < 3) : rt_QL (upd L c (nI l)) (upd Q c x) := by
  intro d hd
  by_cases q : d = c
  · subst q; rw [pk_us, pk_us]; exact ⟨hx, l, hl, rfl⟩
  · rw [pk_un q, pk_un q]; exact hQ d hd
section
variable {op mk sb sbs : Int32} {m : Nat} {T V R L Q kT kV kR g RX RY kTX kTY kVX kVY kRX kRY : Nat → Int32}
theorem rt_ylink {t o : Nat} (ht : t < 3) (ho : o < 2) {v3 v4 : Int32} {post : Int32 → SY → Prop} (h1 : (∃ k, k < 20 ∧ ¬ T (20 * t + k) = 0 ∧ ¬ R (2 * (20 * t + k) + o) = -1) → post (-5) (op, mk, sb, L, Q, T, R, V, kT, kR, kV, g)) (h0 : (∀ k, k < 20 → ¬ (¬ T (20 * t + k) = 0 ∧ ¬ R (2 * (20 * t + k) + o) = -1)) → (0 ≤ v4 → post (Q (2 * t + o)) (op, mk, sb, (upd L (2 * t + o) v3), (upd Q (2 * t + o) v4), T, R, V, kT, kR, kV, g)) ∧ (¬ 0 ≤ v4 → post (Q (2 * t + o)) (op, mk, sb, (upd L (2 * t + o) 0), (upd Q (2 * t + o) v4), T, R, V, kT, kR, kV, g))) : ∃ n, wY_link_64 post (nI t) (nI o) v3 v4 op mk sb L Q T R V kT kR kV g n 0 := by
  refine rt_loopS (fun n i => wY_link_64 post (nI t) (nI o) v3 v4 op mk sb L Q T R V kT kR kV g n (nI i)) (fun k => ¬ T (20 * t + k) = 0 ∧ ¬ R (2 * (20 * t + k) + o) = -1) 20 (fun hn n => br_t (nI_le (a := 20) (b := 20) (by decide) (by decide)) ?_) (fun n i hi hn ih => br_f (nI_ge (b := 20) hi (by decide)) ?_)
  · rw [rt_2b, nI_clamp (n := 2 * t + o) (by omega)]
    have hv : vp_in (nI (2 * t + o)) 6 := vp_in_nI (by omega) (by decide)
    refine ⟨hv, fun y ey => ⟨hv, fun z ez => br_c (fun a => ⟨hv, fun w ew => ?_⟩) (fun a => ⟨hv, fun w ew => ?_⟩)⟩⟩
    · rw [ey, ez, ew]; exact (h0 hn).1 a
    · rw [ey, ez, ew]; exact (h0 hn).2 a
  · rw [rt_20b, rt_40, nI_clamp (n := 20 * t + i) (by omega), nI_clamp (n := 2 * (20 * t + i) + o) (by omega)]
    refine ⟨vp_in_nI (by omega) (by decide), br_c (fun a y ey => ?_) (fun a => ⟨vp_in_nI (by omega) (by decide), br_c (fun b y ey => ?_) (fun b => h1 ⟨i, hi, a, b⟩)⟩)⟩
    · rw [ey, nI_1]; exact ih (fun z => z.1 a)
    · rw [ey, nI_1]; exact ih (fun z => z.2 b)
theorem rt_link {k : Nat} (hm : m ≤ 3) (hQ : rt_QL L Q) (hO : rt_OK T RX RY) (hK : rt_K kTX kVX kRX kTY kVY kRY) {t : Nat} (ht : t < 3) {v2 v3 v4 : Int32} (hto : v4 = -1 ∨ ∃ q, q < 3 ∧ v3 = nI q) (HY : ∀ post : Int32 → SY → Prop, wY_link_24 post (nI t) v2 v3 v4 op (nI m) sb L Q T RY V kTY kRY kVY g → wpY_link post (op, (nI m), sb, L, Q, T, RY, V, kTY, kRY, kVY, g) (nI t) v2 v3 v4) : wX_link_24 (fun r u' => wpY_link (fun r' v' => r' = r ∧ i_Rel k u' v') (op, (nI m), sb, L, Q, T, RY, V, kTY, kRY, kVY, g) (nI t) v2 v3 v4) (nI t) v2 v3 v4 op (nI m) sb sbs T V RX L Q kTX kVX kRX := by
  have J := rt_rel (op := op) (sb := sb) (sbs := sbs) (V := V) (g := g) k hm hQ hO hK
  unfold wX_link_24
  rcases rt_col v2 with ⟨e, f⟩ | ⟨o, ho, rfl, e, f⟩
  · exact e _ (br_t rfl (HY _ (f _ _ ⟨rfl, J⟩)))
  · refine e _ (br_f (by decide) (br_c (fun a => HY _ (f _ _ (br_t a ⟨rfl, J⟩))) (fun a => br_c (fun b => br_c (fun c => ?_) (fun c => HY _ (f _ _ (br_f a (br_t b (br_f c ⟨rfl, J⟩)))))) (fun b => HY _ (f _ _ (br_f a (br_f b ⟨rfl, J⟩)))))))
    have same : ∀ i, i < 20 → ¬ T (20 * t + i) = 0 → RX (2 * (20 * t + i) + o) = RY (2 * (20 * t + i) + o) := fun i hi z => (hO.2.1 (2 * (20 * t + i) + o) (by omega) (by rw [show (2 * (20 * t + i) + o) / 2 = 20 * t + i from by omega]; exact z)).1
    refine rt_xused ht ho (fun hu => br_f (by decide) ?_) (fun no => br_t rfl (fun y ey => ?_))
    · obtain ⟨i, hi, z1, z2⟩ := hu
      exact HY _ (f _ _ (br_f a (br_t b (br_t c (rt_ylink ht ho (fun _ => ⟨rfl, J⟩) (fun no => (no i hi ⟨z1, by rw [← same i hi z1]; exact z2⟩).elim))))))
    · rw [rt_2a] at ey
      subst ey
      have hv : vp_in (nI (2 * t + o)) 6 := vp_in_nI (by omega) (by decide)
      rw [nI_clamp (n := 2 * t + o) (by omega)]
      have v4r := rt_v4 a b
      have ny : ∀ P : Prop, (∃ k, k < 20 ∧ ¬ T (20 * t + k) = 0 ∧ ¬ RY (2 * (20 * t + k) + o) = -1) → P := fun P ⟨i, hi, z1, z2⟩ => (no i hi ⟨z1, by rw [same i hi z1]; exact z2⟩).elim
      have neg : v4 = -1 ↔ ¬ 0 ≤ v4 := by rcases v4r with e | e | e | e | e <;> rw [e] <;> decide
      refine ⟨hv, fun y ey => ⟨hv, fun z ez => br_c (fun d => ⟨hv, fun w ew => HY _ (f _ _ (br_f a (br_t b (br_t c (rt_ylink ht ho (ny _) (fun _ => ⟨fun x => absurd x (neg.mp d), fun _ => ?_⟩))))))⟩) (fun d => ⟨hv, fun w ew => HY _ (f _ _ (br_f a (br_t b (br_t c (rt_ylink ht ho (ny _) (fun _ => ⟨fun _ => ?_, fun x => absurd (neg.mpr x) d⟩))))))⟩)⟩⟩
      · rw [ey, ez, ew]
        exact ⟨rfl, rt_rel k hm (rt_QLu (l := 0) hQ v4r (by decide)) hO hK⟩
      · rw [ey, ez, ew]
        obtain ⟨q, hq, eq⟩ := hto.resolve_left d
        rw [eq]
        exact ⟨rfl, rt_rel k hm (rt_QLu hQ v4r hq) hO hK⟩
end
theorem i_vc_link {k : Nat} {u : SX} {v : SY} (I : i_Rel k u v) (hk : k + 5 ≤ 2560) (v1 : Int32) (v2 : Int32) (v3 : Int32) (v4 : Int32) : wpX_link (fun r u' => wpY_link (fun r' v' => r' = r ∧ i_Rel (k + 5) u' v') v v1 v2 v3 v4) u v1 v2 v3 v4 := by
  obtain ⟨op, m, sb, sbs, T, V, RX, L, Q, kTX, kVX, kRX, RY, kTY, kRY, kVY, g, hm, hQ, hO, hK, rfl, rfl⟩ := I
  have J := rt_rel (op := op) (sb := sb) (sbs := sbs) (V := V) (g := g) (k + 5) hm hQ hO hK
  unfold wpX_link; dsimp only
  rcases rt_table (op := op) (mk := nI m) (sb := sb) (T := T) (V := V) (L := L) (Q := Q) (g := g) (RY := RY) (kTY := kTY) (kVY := kVY) (kRY := kRY) v1 with ⟨a, b⟩ | ⟨t, ht, rfl, a, b⟩
  · exact a _ (br_t rfl (by unfold wpY_link; dsimp only; exact b _ (br_t rfl ⟨rfl, J⟩)))
  · refine a _ (br_f (by decide) (br_c (fun c => ?_) (fun c => ?_)))
    · exact rt_link hm hQ hO hK ht (Or.inl c) (fun post h => by unfold wpY_link; dsimp only; exact b _ (br_f (by decide) (br_t c h)))
    · rcases rt_table (op := op) (mk := nI m) (sb := sb) (T := T) (V := V) (L := L) (Q := Q) (g := g) (RY := RY) (kTY := kTY) (kVY := kVY) (kRY := kRY) v3 with ⟨d, e⟩ | ⟨s, hs, rfl, d, e⟩
      · exact d _ (br_t rfl (by unfold wpY_link; dsimp only; exact b _ (br_f (by decide) (br_f c (e _ (br_t rfl ⟨rfl, J⟩))))))
      · exact d _ (br_f (by decide) (rt_link hm hQ hO hK ht (Or.inr ⟨s, hs, rfl⟩) (fun post h => by unfold wpY_link; dsimp only; exact b _ (br_f (by decide) (br_f c (e _ (br_f (by decide) h)))))))
def rt_ne (R : Nat → Int32) (s : Nat) : Nat → Int32 := upd (upd R (2 * s) (-1)) (2 * s + 1) (-1)
theorem rt_neI {R : Nat → Int32} {s p : Nat} (h : p / 2 = s) : rt_ne R s p = -1 := by
  unfold rt_ne
  by_cases q : p = 2 * s + 1
  · rw [q, pk_us]
  · rw [pk_un q, show p = 2 * s from by omega, pk_us]
theorem rt_neO {R : Nat → Int32} {s p : Nat} (h : ¬ p / 2 = s) : rt_ne R s p = R p := by
  unfold rt_ne
  rw [pk_un (by omega), pk_un (by omega)]
theorem rt_ctset {T : Nat → Int32} {t0 q t : Nat} {x : Int32} (hq : q < 20) (hT : T (20 * t0 + q) = 0) (hx : ¬ x = 0) : rt_ct (upd T (20 * t0 + q) x) t = rt_ct T t + (if t = t0 then 1 else 0) := by
  unfold rt_ct
  by_cases e : t = t0
  · subst e
    rw [if_pos rfl, rt_cnt_set (f := fun k => rt_b T (20 * t + k)) (h := fun k => rt_b (upd T (20 * t + q) x) (20 * t + k)) (a := q) (fun z => rt_b_t.mp z hT) (rt_b_t.mpr (by rw [pk_us]; exact hx)) 20 (fun i _ ne => by unfold rt_b; rw [pk_un (by omega)]), if_pos hq]
  · rw [if_neg e, Nat.add_zero]
    exact rt_cnt_congr 20 (fun i hi => by unfold rt_b; rw [pk_un (by omega)])
theorem rt_tgc2 {T R T' R' L Q : Nat → Int32} {p : Nat} (h : T (p / 2) = T' (p / 2)) (h2 : R p = R' p) : rt_tg T R L Q p = rt_tg T' R' L Q p := by
  unfold rt_tg
  rw [h, h2]
theorem rt_OKins {T RX RY : Nat → Int32} (hO : rt_OK T RX RY) {t q : Nat} (ht : t < 3) (hq : q < 20) (hT : T (20 * t + q) = 0) (h12 : rt_ct T t < 12) : rt_OK (upd T (20 * t + q) 1) (rt_ne RX (20 * t + q)) (rt_ne RY (20 * t + q)) := by
  refine ⟨fun s hs => ?_, fun p hp ht => ?_, fun t' ht' => ?_⟩
  · by_cases e : s = 20 * t + q
    · rw [e, pk_us]; exact Or.inr rfl
    · rw [pk_un e]; exact hO.1 s hs
  · by_cases e : p / 2 = 20 * t + q
    · rw [rt_neI e, rt_neI e]; exact ⟨rfl, Or.inl rfl⟩
    · rw [pk_un e] at ht
      rw [rt_neO e, rt_neO e]; exact hO.2.1 p hp ht
  · rw [rt_ctset hq hT (by decide)]
    have := hO.2.2 t' ht'
    by_cases e : t' = t
    · rw [if_pos e, e]; omega
    · rw [if_neg e]; omega
theorem rt_insdg {T R L Q : Nat → Int32} {s p : Nat} (h : rt_dg (upd T s 1) (rt_ne R s) L Q p = true) : rt_dg T R L Q p = true := by
  obtain ⟨t, e, z⟩ := rt_dgT.mp h
  obtain ⟨a, _, c⟩ := rt_tgS e
  have ps : ¬ p / 2 = s := fun q => c (rt_neI q)
  have ts : ¬ t = s := fun q => by rw [q, pk_us] at z; exact absurd z (by decide)
  rw [pk_un ts] at z
  rw [rt_tgc2 (T' := T) (R' := R) (pk_un ps) (rt_neO ps)] at e
  exact rt_dgT.mpr ⟨t, e, z⟩
theorem i_vc_insert {k : Nat} {u : SX} {v : SY} (I : i_Rel k u v) (hk : k + 5 ≤ 2560) (v1 : Int32) (v2 : Int32) : wpX_insert (fun r u' => wpY_insert (fun r' v' => r' = r ∧ i_Rel (k + 5) u' v') v v1 v2) u v1 v2 := by
  obtain ⟨op, m, sb, sbs, T, V, RX, L, Q, kTX, kVX, kRX, RY, kTY, kRY, kVY, g, hm, hQ, hO, hK, rfl, rfl⟩ := I
  have J := rt_rel (op := op) (sb := sb) (sbs := sbs) (V := V) (g := g) (k + 5) hm hQ hO hK
  unfold wpX_insert wpY_insert; dsimp only
  rcases rt_table (op := op) (mk := nI m) (sb := sb) (T := T) (V := V) (L := L) (Q := Q) (g := g) (RY := RY) (kTY := kTY) (kVY := kVY) (kRY := kRY) v1 with ⟨a, b⟩ | ⟨t, ht, rfl, a, b⟩
  · exact a _ (br_t rfl (b _ (br_t rfl ⟨rfl, J⟩)))
  · rcases rt_key (op := op) (mk := nI m) (sb := sb) (T := T) (V := V) (L := L) (Q := Q) (g := g) (RY := RY) (kTY := kTY) (kVY := kVY) (kRY := kRY) v2 with ⟨c, d⟩ | ⟨q, hq, rfl, c, d⟩
    · exact a _ (br_f (by decide) (c _ (br_t rfl (b _ (br_f (by decide) (d _ (br_t rfl ⟨rfl, J⟩)))))))
    · refine a _ (br_f (by decide) (c _ (br_f (by decide) (rt_xrow ht hq (fun hT => br_t rfl (rt_xcount ht ?_)) (fun hT => br_f (by decide) (b _ (br_f (by decide) (d _ (br_f (by decide) (rt_yrow ht hq (fun z => absurd z hT) (fun _ => br_f (by decide) ⟨rfl, J⟩)))))))))))
      have c12 := hO.2.2 t ht
      by_cases h12 : rt_ct T t < 12
      · refine br_t (nI_lt (b := 12) h12 (by decide)) (fun y ey => ?_)
        rw [rt_20a] at ey
        subst ey
        have hs : 20 * t + q < 60 := by omega
        have hO' := rt_OKins hO ht hq hT h12
        rw [nI_clamp (n := 20 * t + q) (by omega), rt_nar1]
        refine ⟨vp_in_nI hs (by decide), fun T' eT => ⟨vp_in_nI hs (by decide), fun V' eV => ⟨3, ?_⟩⟩⟩
        subst eT eV
        refine br_f (by decide) ?_
        have a0 : nI (20 * t + q) * 2 + 0 = nI (2 * (20 * t + q) + 0) := rt_2a _ 0
        have a1 : nI (20 * t + q) * 2 + 1 = nI (2 * (20 * t + q) + 1) := rt_2a _ 1
        rw [a0, nI_clamp (n := 2 * (20 * t + q) + 0) (by omega)]
        refine ⟨vp_in_nI (by omega) (by decide), fun R1 e1 y ey => ?_⟩
        have ey : y = 1 := ey
        subst e1 ey
        refine br_f (by decide) ?_
        rw [a1, nI_clamp (n := 2 * (20 * t + q) + 1) (by omega)]
        refine ⟨vp_in_nI (by omega) (by decide), fun R2 e2 y ey => ?_⟩
        have ey : y = 2 := ey
        subst e2 ey
        refine br_t (by decide) (b _ (br_f (by decide) (d _ (br_f (by decide) (rt_yrow ht hq (fun _ => br_t rfl (rt_ycount ht (br_f (fun z => absurd ((nI_eq (b := 12) (by omega) (by decide)).mp z) (by omega)) (rt_ykeep (st := 4) (by decide) (rt_ysound hQ (rt_OKy hO) ?_))))) (fun z => absurd hT z))))))
        unfold wpY_makeRow
        have m0 : 2 * nI (20 * t + q) = nI (2 * (20 * t + q)) := pk_mul 2 _
        have m1 : nI (2 * (20 * t + q)) + 1 = nI (2 * (20 * t + q) + 1) := nI_1 _
        rw [rt_20b]
        dsimp only
        rw [m0, m1, nI_clamp (n := 20 * t + q) (by omega), nI_clamp (n := 2 * (20 * t + q)) (by omega), nI_clamp (n := 2 * (20 * t + q) + 1) (by omega), rt_nar1]
        refine ⟨vp_in_nI hs (by decide), fun T1 f1 => ⟨vp_in_nI (by omega) (by decide), fun R1 f2 => ⟨vp_in_nI (by omega) (by decide), fun R2 f3 => ⟨vp_in_nI hs (by decide), fun V1 f4 => ?_⟩⟩⟩⟩
        subst f1 f2 f3 f4
        refine rt_ycount ht (rt_ychecked hQ (rt_OKy hO') (fun _ => ⟨?_, rt_rel (k + 5) hm hQ hO' (rt_K4y hK)⟩) (fun z => absurd z (rt_Sle (fun p _ h => rt_insdg h))))
        rw [rt_ctset hq hT (by decide), if_pos rfl, nI_1]
      · refine br_f (nI_nlt (a := rt_ct T t) (b := 12) (by omega) (by omega)) (b _ (br_f (by decide) (d _ (br_f (by decide) (rt_yrow ht hq (fun _ => br_t rfl (rt_ycount ht (br_t ?_ ⟨rfl, J⟩))) (fun z => absurd hT z))))))
        rw [show rt_ct T t = 12 from by omega]; rfl
end
section
/-! refer, rekey, remove -/
theorem rt_refarg (x : Int32) : ((x = -1 ∨ ∃ q, q < 20 ∧ x = nI q) ∧ (∀ P A : Prop, A → ((x = -1 → A) ∧ (¬ x = -1 → wpX_isKey (fun r => ((r = 0 → P) ∧ (¬ r = 0 → A))) x))) ∧ ∀ P A : Prop, A → ((x < -1 → P) ∧ (¬ x < -1 → ((x ≤ 19 → A) ∧ (¬ x ≤ 19 → P))))) ∨ ((∀ P A : Prop, P → ((x = -1 → A) ∧ (¬ x = -1 → wpX_isKey (fun r => ((r = 0 → P) ∧ (¬ r = 0 → A))) x))) ∧ ∀ P A : Prop, P → ((x < -1 → P) ∧ (¬ x < -1 → ((x ≤ 19 → A) ∧ (¬ x ≤ 19 → P))))) := by
  by_cases h1 : x = -1
  · subst h1
    exact Or.inl ⟨Or.inl rfl, fun P A p => br_t rfl p, fun P A p => br_f (by decide) (br_t (by decide) p)⟩
  · rcases pk_ix x (n := 20) (by decide) with h | h | ⟨t, ht, rfl⟩
    · right
      refine ⟨fun P A p => br_f h1 (br_t h (br_t rfl p)), fun P A p => br_t ?_ p⟩
      have m1 : (-1 : Int32).toInt = -1 := by decide
      have m0 : (0 : Int32).toInt = 0 := by decide
      rw [Int32.lt_iff_toInt_lt, m0] at h
      rw [Int32.lt_iff_toInt_lt, m1]
      have : ¬ x.toInt = -1 := fun z => h1 (Int32.toInt_inj.mp (z.trans m1.symm))
      omega
    · obtain ⟨n0, _, n1⟩ := rt_ge (n := 19) (by decide) h
      right
      refine ⟨fun P A p => br_f h1 (br_f n0 (br_t h (br_t rfl p))), fun P A p => br_f (fun z => n0 ?_) (br_f n1 p)⟩
      have m1 : (-1 : Int32).toInt = -1 := by decide
      have m0 : (0 : Int32).toInt = 0 := by decide
      rw [Int32.lt_iff_toInt_lt, m1] at z
      rw [Int32.lt_iff_toInt_lt, m0]
      omega
    · left
      refine ⟨Or.inr ⟨t, ht, rfl⟩, fun P A p => br_f h1 (br_f (nI_pos (by omega)) (br_f (nI_ge (b := 20) ht (by decide)) (br_f (by decide) p))), fun P A p => br_f (fun z => ?_) (br_t (nI_le (b := 19) (by omega) (by decide)) p)⟩
      have m1 : (-1 : Int32).toInt = -1 := by decide
      rw [Int32.lt_iff_toInt_lt, m1, nI_toInt (by omega)] at z
      omega
theorem rt_OKref {T RX RY : Nat → Int32} (hO : rt_OK T RX RY) {c : Nat} {x : Int32} (hx : x = -1 ∨ ∃ q, q < 20 ∧ x = nI q) : rt_OK T (upd RX c x) (upd RY c x) := by
  refine ⟨hO.1, fun p hp ht => ?_, hO.2.2⟩
  by_cases e : p = c
  · subst e; rw [pk_us, pk_us]; exact ⟨rfl, hx⟩
  · rw [pk_un e, pk_un e]; exact hO.2.1 p hp ht
theorem i_vc_refer {k : Nat} {u : SX} {v : SY} (I : i_Rel k u v) (hk : k + 5 ≤ 2560) (v1 : Int32) (v2 : Int32) (v3 : Int32) (v4 : Int32) : wpX_refer (fun r u' => wpY_refer (fun r' v' => r' = r ∧ i_Rel (k + 5) u' v') v v1 v2 v3 v4) u v1 v2 v3 v4 := by
  obtain ⟨op, m, sb, sbs, T, V, RX, L, Q, kTX, kVX, kRX, RY, kTY, kRY, kVY, g, hm, hQ, hO, hK, rfl, rfl⟩ := I
  have J := rt_rel (op := op) (sb := sb) (sbs := sbs) (V := V) (g := g) (k + 5) hm hQ hO hK
  rcases rt_table (op := op) (mk := nI m) (sb := sb) (T := T) (V := V) (L := L) (Q := Q) (g := g) (RY := RY) (kTY := kTY) (kVY := kVY) (kRY := kRY) v1 with ⟨a, b⟩ | ⟨t, ht, rfl, a, b⟩
  · unfold wpX_refer wpY_refer; dsimp only
    exact a _ (br_t rfl (b _ (br_t rfl ⟨rfl, J⟩)))
  · rcases rt_row (op := op) (mk := nI m) (sb := sb) (T := T) (V := V) (L := L) (Q := Q) (g := g) (RY := RY) (kTY := kTY) (kVY := kVY) (kRY := kRY) (sbs := sbs) (RX := RX) (kTX := kTX) (kVX := kVX) (kRX := kRX) ht v2 with ⟨c, d⟩ | ⟨q, hq, rfl, hT, c, d⟩
    · unfold wpX_refer wpY_refer; dsimp only
      exact a _ (br_f (by decide) (c _ (br_t rfl (b _ (br_f (by decide) (d _ (br_t rfl ⟨rfl, J⟩)))))))
    · rcases rt_col v3 with ⟨e, f⟩ | ⟨o, ho, rfl, e, f⟩
      · unfold wpX_refer wpY_refer; dsimp only
        exact a _ (br_f (by decide) (c _ (br_f (by decide) (e _ (br_t rfl (b _ (br_f (by decide) (d _ (br_f (by decide) (f _ _ ⟨rfl, J⟩))))))))))
      · rcases rt_refarg v4 with ⟨hx, x1, y1⟩ | ⟨x1, y1⟩
        · have hO' := rt_OKref (c := 2 * (20 * t + q) + o) hO hx
          have eB : rt_bad op Q (rt_S T RX L Q) (rt_S T (upd RX (2 * (20 * t + q) + o) v4) L Q) = rt_bad op Q (rt_S T RY L Q) (rt_S T (upd RY (2 * (20 * t + q) + o) v4) L Q) := by rw [rt_OS hO, rt_OS hO']
          have eold : RY (2 * (20 * t + q) + o) = RX (2 * (20 * t + q) + o) := (hO.2.1 (2 * (20 * t + q) + o) (by omega) (by rw [show (2 * (20 * t + q) + o) / 2 = 20 * t + q from by omega]; exact hT)).1.symm
          have HY : ∀ post : Int32 → SY → Prop, (¬ rt_bad op Q (rt_S T RX L Q) (rt_S T (upd RX (2 * (20 * t + q) + o) v4) L Q) → post (RX (2 * (20 * t + q) + o)) (op, (nI m), sb, L, Q, T, (upd RY (2 * (20 * t + q) + o) v4), V, (rt_kp kTY (60 * 4) 60 (rt_nr T)), (rt_kp kRY (120 * 4) 120 RY), (rt_kp kVY (60 * 4) 60 V), g)) → (rt_bad op Q (rt_S T RX L Q) (rt_S T (upd RX (2 * (20 * t + q) + o) v4) L Q) → post (-9) (op, (nI m), sb, L, Q, (rt_rs (rt_nr (rt_kp kTY (60 * 4) 60 (rt_nr T))) (60 * 4) 60 T), (rt_rs (rt_kp kRY (120 * 4) 120 RY) (120 * 4) 120 (upd RY (2 * (20 * t + q) + o) v4)), (rt_rs (rt_kp kVY (60 * 4) 60 V) (60 * 4) 60 V), (rt_kp kTY (60 * 4) 60 (rt_nr T)), (rt_kp kRY (120 * 4) 120 RY), (rt_kp kVY (60 * 4) 60 V), g)) → wpY_refer post (op, (nI m), sb, L, Q, T, RY, V, kTY, kRY, kVY, g) (nI t) (nI q) (nI o) v4 := by
            intro post h0 h1
            rw [eB] at h0 h1
            rw [← eold] at h0
            unfold wpY_refer; dsimp only
            refine b _ (br_f (by decide) (d _ (br_f (by decide) (f _ _ (y1 _ _ (rt_ykeep (st := 4) (by decide) (rt_ysound hQ (rt_OKy hO) (fun y ey => ?_))))))))
            rw [rt_40] at ey
            subst ey
            rw [nI_clamp (n := 2 * (20 * t + q) + o) (by omega)]
            refine ⟨vp_in_nI (by omega) (by decide), fun y ey => ⟨vp_in_nI (by omega) (by decide), fun z ez => ?_⟩⟩
            subst ey ez
            exact rt_ychecked hQ (rt_OKy hO') h0 h1
          unfold wpX_refer; dsimp only
          refine a _ (br_f (by decide) (c _ (br_f (by decide) (e _ (br_f (by decide) (x1 _ _ ?_))))))
          unfold wX_refer_48
          intro y ey
          rw [rt_20a, rt_2a] at ey
          subst ey
          rw [nI_clamp (n := 2 * (20 * t + q) + o) (by omega)]
          refine ⟨vp_in_nI (by omega) (by decide), fun y ey => rt_xstart hQ (rt_OKx hO) ⟨vp_in_nI (by omega) (by decide), fun z ez => ?_⟩⟩
          subst ey ez
          exact rt_xend hQ (rt_OKx hO') (fun c hc z => rt_S6 hc z) (fun nb => HY _ (fun _ => ⟨rfl, rt_rel (k + 5) hm hQ hO' (rt_K4x (rt_K4y hK))⟩) (fun z => absurd z nb)) (fun z => HY _ (fun nb => absurd z nb) (fun _ => ⟨rfl, rt_relbad (k + 5) hm hQ hO hK⟩))
        · unfold wpX_refer wpY_refer; dsimp only
          exact a _ (br_f (by decide) (c _ (br_f (by decide) (e _ (br_f (by decide) (x1 _ _ (b _ (br_f (by decide) (d _ (br_f (by decide) (f _ _ (y1 _ _ ⟨rfl, J⟩))))))))))))
theorem rt_mvI {R : Nat → Int32} {a b p : Nat} (hab : ¬ a = b) (h : p / 2 = b) : rt_mv R a b p = R (2 * a + p % 2) := by
  unfold rt_mv
  by_cases q : p = 2 * b + 1
  · rw [q, pk_us, pk_un (by omega), show (2 * b + 1) % 2 = 1 from by omega]
  · rw [pk_un q, show p = 2 * b from by omega, pk_us, show 2 * b % 2 = 0 from by omega, Nat.add_zero]
theorem rt_mvO {R : Nat → Int32} {a b p : Nat} (h : ¬ p / 2 = b) : rt_mv R a b p = R p := by
  unfold rt_mv
  rw [pk_un (by omega), pk_un (by omega)]
theorem rt_updc {T : Nat → Int32} {a b : Nat} {x y : Int32} (h : ¬ a = b) : upd (upd T a x) b y = upd (upd T b y) a x := funext fun j => by
  unfold upd
  by_cases p : j = b
  · rw [if_pos p, if_neg (show ¬ j = a from fun z => h (z.symm.trans p)), if_pos p]
  · rw [if_neg p]
    by_cases q : j = a
    · rw [if_pos q, if_pos q]
    · rw [if_neg q, if_neg q, if_neg p]
theorem rt_OKmv {T RX RY L Q : Nat → Int32} (hO : rt_OK T RX RY) {t q n : Nat} (ht : t < 3) (hq : q < 20) (hn : n < 20) (hT : ¬ T (20 * t + q) = 0) (hN : T (20 * t + n) = 0) : rt_OK (upd (upd T (20 * t + q) 0) (20 * t + n) 1) (rt_mv (rt_ch T RX L Q (20 * t + q) (nI n) 120) (20 * t + q) (20 * t + n)) (rt_mv (rt_ch T RY L Q (20 * t + q) (nI n) 120) (20 * t + q) (20 * t + n)) := by
  have hab : ¬ 20 * t + q = 20 * t + n := fun z => hT (by rw [z]; exact hN)
  have hc : ∀ p, p < 120 → ¬ T (p / 2) = 0 → rt_ch T RX L Q (20 * t + q) (nI n) 120 p = rt_ch T RY L Q (20 * t + q) (nI n) 120 p := by
    intro p hp hz
    unfold rt_ch
    rw [rt_Otg hO hp, (hO.2.1 p hp hz).1]
  have hr := rt_chR (L := L) (Q := Q) (s := 20 * t + q) (i := 120) (rt_OKx hO) hn
  refine ⟨fun s hs => ?_, fun p hp hz => ?_, fun t' ht' => ?_⟩
  · by_cases e : s = 20 * t + n
    · rw [e, pk_us]; exact Or.inr rfl
    · rw [pk_un e]
      by_cases f : s = 20 * t + q
      · rw [f, pk_us]; exact Or.inl rfl
      · rw [pk_un f]; exact hO.1 s hs
  · by_cases e : p / 2 = 20 * t + n
    · rw [rt_mvI hab e, rt_mvI hab e]
      have hz' : ¬ T ((2 * (20 * t + q) + p % 2) / 2) = 0 := by rw [show (2 * (20 * t + q) + p % 2) / 2 = 20 * t + q from by omega]; exact hT
      exact ⟨hc _ (by omega) hz', hr _ (by omega) hz'⟩
    · rw [rt_mvO e, rt_mvO e]
      rw [pk_un e] at hz
      by_cases f : p / 2 = 20 * t + q
      · rw [f, pk_us] at hz; exact absurd rfl hz
      · rw [pk_un f] at hz; exact ⟨hc p hp hz, hr p hp hz⟩
  · have h1 : rt_ct (upd (upd T (20 * t + q) 0) (20 * t + n) 1) t' = rt_ct (upd T (20 * t + q) 0) t' + (if t' = t then 1 else 0) := rt_ctset hn (by rw [pk_un (fun z => hab z.symm)]; exact hN) (by decide)
    have h2 : rt_ct (upd (upd T (20 * t + q) 0) (20 * t + q) (T (20 * t + q))) t' = rt_ct (upd T (20 * t + q) 0) t' + (if t' = t then 1 else 0) := rt_ctset hq pk_us hT
    have h3 : upd (upd T (20 * t + q) 0) (20 * t + q) (T (20 * t + q)) = T := funext fun j => by
      by_cases e : j = 20 * t + q
      · rw [e, pk_us]
      · rw [pk_un e, pk_un e]
    rw [h3] at h2
    rw [h1, ← h2]
    exact hO.2.2 t' ht'
theorem i_vc_rekey {k : Nat} {u : SX} {v : SY} (I : i_Rel k u v) (hk : k + 5 ≤ 2560) (v1 : Int32) (v2 : Int32) (v3 : Int32) : wpX_rekey (fun r u' => wpY_rekey (fun r' v' => r' = r ∧ i_Rel (k + 5) u' v') v v1 v2 v3) u v1 v2 v3 := by
  obtain ⟨op, m, sb, sbs, T, V, RX, L, Q, kTX, kVX, kRX, RY, kTY, kRY, kVY, g, hm, hQ, hO, hK, rfl, rfl⟩ := I
  have J := rt_rel (op := op) (sb := sb) (sbs := sbs) (V := V) (g := g) (k + 5) hm hQ hO hK
  rcases rt_table (op := op) (mk := nI m) (sb := sb) (T := T) (V := V) (L := L) (Q := Q) (g := g) (RY := RY) (kTY := kTY) (kVY := kVY) (kRY := kRY) v1 with ⟨a, b⟩ | ⟨t, ht, rfl, a, b⟩
  · unfold wpX_rekey wpY_rekey; dsimp only
    exact a _ (br_t rfl (b _ (br_t rfl ⟨rfl, J⟩)))
  · rcases rt_row (op := op) (mk := nI m) (sb := sb) (T := T) (V := V) (L := L) (Q := Q) (g := g) (RY := RY) (kTY := kTY) (kVY := kVY) (kRY := kRY) (sbs := sbs) (RX := RX) (kTX := kTX) (kVX := kVX) (kRX := kRX) ht v2 with ⟨c, d⟩ | ⟨q, hq, rfl, hT, c, d⟩
    · unfold wpX_rekey wpY_rekey; dsimp only
      exact a _ (br_f (by decide) (c _ (br_t rfl (b _ (br_f (by decide) (d _ (br_t rfl ⟨rfl, J⟩)))))))
    · rcases rt_key (op := op) (mk := nI m) (sb := sb) (T := T) (V := V) (L := L) (Q := Q) (g := g) (RY := RY) (kTY := kTY) (kVY := kVY) (kRY := kRY) v3 with ⟨e, f⟩ | ⟨n, hn, rfl, e, f⟩
      · unfold wpX_rekey wpY_rekey; dsimp only
        exact a _ (br_f (by decide) (c _ (br_f (by decide) (e _ (br_t rfl (b _ (br_f (by decide) (d _ (br_f (by decide) (f _ (br_t rfl ⟨rfl, J⟩)))))))))))
      · by_cases hN : T (20 * t + n) = 0
        · have tc : ∀ p, p < 120 → rt_tg T RX L Q p = rt_tg T RY L Q p := fun p hp => rt_Otg hO hp
          have hab : ¬ 20 * t + q = 20 * t + n := fun z => hT (by rw [z]; exact hN)
          have hO' := rt_OKmv (L := L) (Q := Q) hO ht hq hn hT hN
          have HY0 : (∃ p, p < 120 ∧ rt_tg T RX L Q p = some (20 * t + q) ∧ Q (rt_c p) = 0) → ∀ post : Int32 → SY → Prop, post (-5) (op, (nI m), sb, L, Q, T, RY, V, kTY, kRY, kVY, g) → wpY_rekey post (op, (nI m), sb, L, Q, T, RY, V, kTY, kRY, kVY, g) (nI t) (nI q) (nI n) := by
            intro ⟨p, hp, z1, z2⟩ post h
            unfold wpY_rekey; dsimp only
            refine b _ (br_f (by decide) (d _ (br_f (by decide) (f _ (br_f (by decide) (rt_yrow ht hn (fun _ => br_t rfl (fun y ey => ?_)) (fun z => absurd hN z)))))))
            rw [rt_20b] at ey
            subst ey
            exact rt_yheld hQ (rt_OKy hO) (by omega) hT (fun _ => br_f (by decide) h) (fun no => (no p hp ⟨(tc p hp).symm.trans z1, z2⟩).elim)
          have HY : (∀ p, p < 120 → ¬ (rt_tg T RX L Q p = some (20 * t + q) ∧ Q (rt_c p) = 0)) → ∀ post : Int32 → SY → Prop, (¬ rt_bad op Q (rt_S T RX L Q) (rt_S (upd (upd T (20 * t + q) 0) (20 * t + n) 1) (rt_mv (rt_ch T RX L Q (20 * t + q) (nI n) 120) (20 * t + q) (20 * t + n)) L Q) → post (nI (rt_cnt (rt_chf T RX L Q (20 * t + q)) 120)) (op, (nI m), sb, L, Q, (upd (upd T (20 * t + q) 0) (20 * t + n) 1), (rt_mv (rt_ch T RY L Q (20 * t + q) (nI n) 120) (20 * t + q) (20 * t + n)), (upd V (20 * t + n) (V (20 * t + q))), (rt_kp kTY (60 * 4) 60 (rt_nr T)), (rt_kp kRY (120 * 4) 120 RY), (rt_kp kVY (60 * 4) 60 V), g)) → (rt_bad op Q (rt_S T RX L Q) (rt_S (upd (upd T (20 * t + q) 0) (20 * t + n) 1) (rt_mv (rt_ch T RX L Q (20 * t + q) (nI n) 120) (20 * t + q) (20 * t + n)) L Q) → post (-9) (op, (nI m), sb, L, Q, (rt_rs (rt_nr (rt_kp kTY (60 * 4) 60 (rt_nr T))) (60 * 4) 60 (upd (upd T (20 * t + q) 0) (20 * t + n) 1)), (rt_rs (rt_kp kRY (120 * 4) 120 RY) (120 * 4) 120 (rt_mv (rt_ch T RY L Q (20 * t + q) (nI n) 120) (20 * t + q) (20 * t + n))), (rt_rs (rt_kp kVY (60 * 4) 60 V) (60 * 4) 60 (upd V (20 * t + n) (V (20 * t + q)))), (rt_kp kTY (60 * 4) 60 (rt_nr T)), (rt_kp kRY (120 * 4) 120 RY), (rt_kp kVY (60 * 4) 60 V), g)) → wpY_rekey post (op, (nI m), sb, L, Q, T, RY, V, kTY, kRY, kVY, g) (nI t) (nI q) (nI n) := by
            intro no post h0 h1
            rw [rt_OS hO, rt_OS hO'] at h0 h1
            have ecnt : rt_cnt (rt_chf T RX L Q (20 * t + q)) 120 = rt_cnt (rt_chf T RY L Q (20 * t + q)) 120 := rt_cnt_congr 120 (fun p hp => by unfold rt_chf; rw [tc p hp])
            rw [ecnt] at h0
            unfold wpY_rekey; dsimp only
            refine b _ (br_f (by decide) (d _ (br_f (by decide) (f _ (br_f (by decide) (rt_yrow ht hn (fun _ => br_t rfl (fun y ey => ?_)) (fun z => absurd hN z)))))))
            rw [rt_20b] at ey
            subst ey
            refine rt_yheld hQ (rt_OKy hO) (by omega) hT (fun ⟨p, hp, z1, z2⟩ => (no p hp ⟨(tc p hp).trans z1, z2⟩).elim) (fun _ => br_t rfl (rt_ykeep (st := 4) (by decide) (rt_ysound hQ (rt_OKy hO) (rt_yfollow hQ (rt_OKy hO) (by omega) hT hn (fun y ey => ?_)))))
            rw [rt_20b] at ey
            subst ey
            have a0 : 2 * nI (20 * t + q) = nI (2 * (20 * t + q)) := pk_mul 2 _
            have a1 : nI (2 * (20 * t + q)) + 1 = nI (2 * (20 * t + q) + 1) := nI_1 _
            have b0 : 2 * nI (20 * t + n) = nI (2 * (20 * t + n)) := pk_mul 2 _
            have b1 : nI (2 * (20 * t + n)) + 1 = nI (2 * (20 * t + n) + 1) := nI_1 _
            rw [a0, b0, a1, b1, nI_clamp (n := 20 * t + q) (by omega), nI_clamp (n := 20 * t + n) (by omega), nI_clamp (n := 2 * (20 * t + q)) (by omega), nI_clamp (n := 2 * (20 * t + n)) (by omega), nI_clamp (n := 2 * (20 * t + q) + 1) (by omega), nI_clamp (n := 2 * (20 * t + n) + 1) (by omega), rt_nar0, rt_nar1]
            refine ⟨vp_in_nI (by omega) (by decide), fun t1 f1 => ⟨vp_in_nI (by omega) (by decide), fun t2 f2 => ⟨vp_in_nI (by omega) (by decide), vp_in_nI (by omega) (by decide), fun r1 f3 => ⟨vp_in_nI (by omega) (by decide), vp_in_nI (by omega) (by decide), fun r2 f4 => ⟨vp_in_nI (by omega) (by decide), vp_in_nI (by omega) (by decide), fun w1 f5 => ?_⟩⟩⟩⟩⟩
            rw [f1, ← rt_updc hab] at f2
            subst f2 f3 f4 f5
            exact rt_ychecked hQ (rt_OKy hO') h0 h1
          unfold wpX_rekey; dsimp only
          refine a _ (br_f (by decide) (c _ (br_f (by decide) (e _ (br_f (by decide) (rt_xrow ht hn (fun _ => br_t rfl (fun y ey => ?_)) (fun z => absurd hN z)))))))
          rw [rt_20a] at ey
          subst ey
          refine rt_xmust hQ (rt_OKx hO) (by omega) (fun z => br_f (by decide) (HY0 z _ ⟨rfl, J⟩)) (fun no => br_t rfl (rt_xstart hQ (rt_OKx hO) (rt_xchange hQ (rt_OKx hO) (by omega) hn ?_)))
          rw [rt_20a]
          refine rt_xmove (by omega) (by omega) (rt_xend hQ (rt_OKx hO') (fun c hc z => rt_S6 hc z) (fun nb => HY no _ (fun _ => ⟨rfl, rt_rel (k + 5) hm hQ hO' (rt_K4x (rt_K4y hK))⟩) (fun z => absurd z nb)) (fun z => HY no _ (fun nb => absurd z nb) (fun _ => ⟨rfl, rt_relbad (k + 5) hm hQ hO hK⟩)))
        · unfold wpX_rekey wpY_rekey; dsimp only
          exact a _ (br_f (by decide) (c _ (br_f (by decide) (e _ (br_f (by decide) (rt_xrow ht hn (fun z => absurd z hN) (fun _ => br_f (by decide) (b _ (br_f (by decide) (d _ (br_f (by decide) (f _ (br_f (by decide) (rt_yrow ht hn (fun z => absurd z hN) (fun _ => br_f (by decide) ⟨rfl, J⟩)))))))))))))))
theorem rt_lgc {T R R' L Q : Nat → Int32} {r p : Nat} (h : ∀ p, p < 120 → rt_tg T R L Q p = rt_tg T R' L Q p) (hp : p < 120) : rt_lg T R L Q r p → rt_lg T R' L Q r p :=
  fun ⟨t, a, b, c⟩ => ⟨t, (h p hp).symm.trans a, b, (rt_Gc h).mp c⟩
theorem rt_outT {T g : Nat → Int32} {s : Nat} (hT : rt_TT T) (h : ¬ rt_out T g 60 s = 0) (hs : s < 60) : ¬ T s = 0 ∧ g s = 0 := by
  unfold rt_out at h
  rw [if_pos hs] at h
  by_cases a : T s = 0
  · rw [if_pos a] at h; exact absurd rfl h
  · rw [if_neg a] at h
    by_cases b : g s = 0
    · exact ⟨a, b⟩
    · rw [if_neg b] at h; exact absurd rfl h
theorem rt_eT {T T' g : Nat → Int32} {G : Nat → Prop} (hT : rt_TT T) (hg : ∀ s, s < 60 → (¬ g s = 0 ↔ G s)) (h : ∀ s, (s < 60 → G s → T' s = 0) ∧ ((s < 60 → ¬ G s) → T' s = T s)) : T' = rt_out T g 60 := funext fun s => by
  unfold rt_out
  by_cases hs : s < 60
  · rw [if_pos hs]
    by_cases b : g s = 0
    · have e := (h s).2 (fun _ z => (hg s hs).mpr z b)
      rw [e, if_pos b]
      rcases hT s hs with z | z
      · rw [if_pos z]; exact z
      · rw [if_neg (by rw [z]; decide)]; exact z
    · rw [(h s).1 hs ((hg s hs).mp b), if_neg b]
      by_cases a : T s = 0
      · rw [if_pos a]
      · rw [if_neg a]
  · rw [if_neg hs]; exact (h s).2 (fun z => absurd z hs)
theorem i_vc_remove {k : Nat} {u : SX} {v : SY} (I : i_Rel k u v) (hk : k + 5 ≤ 2560) (v1 : Int32) (v2 : Int32) : wpX_remove (fun r u' => wpY_remove (fun r' v' => r' = r ∧ i_Rel (k + 5) u' v') v v1 v2) u v1 v2 := by
  obtain ⟨op, m, sb, sbs, T, V, RX, L, Q, kTX, kVX, kRX, RY, kTY, kRY, kVY, g, hm, hQ, hO, hK, rfl, rfl⟩ := I
  have J := rt_rel (op := op) (sb := sb) (sbs := sbs) (V := V) (g := g) (k + 5) hm hQ hO hK
  rcases rt_table (op := op) (mk := nI m) (sb := sb) (T := T) (V := V) (L := L) (Q := Q) (g := g) (RY := RY) (kTY := kTY) (kVY := kVY) (kRY := kRY) v1 with ⟨a, b⟩ | ⟨t, ht, rfl, a, b⟩
  · unfold wpX_remove wpY_remove; dsimp only
    exact a _ (br_t rfl (b _ (br_t rfl ⟨rfl, J⟩)))
  · rcases rt_row (op := op) (mk := nI m) (sb := sb) (T := T) (V := V) (L := L) (Q := Q) (g := g) (RY := RY) (kTY := kTY) (kVY := kVY) (kRY := kRY) (sbs := sbs) (RX := RX) (kTX := kTX) (kVX := kVX) (kRX := kRX) ht v2 with ⟨c, d⟩ | ⟨q, hq, rfl, hT, c, d⟩
    · unfold wpX_remove wpY_remove; dsimp only
      exact a _ (br_f (by decide) (c _ (br_t rfl (b _ (br_f (by decide) (d _ (br_t rfl ⟨rfl, J⟩)))))))
    · have tc : ∀ p, p < 120 → rt_tg T RX L Q p = rt_tg T RY L Q p := fun p hp => rt_Otg hO hp
      have tc' : ∀ p, p < 120 → rt_tg T RY L Q p = rt_tg T RX L Q p := fun p hp => (tc p hp).symm
      have hr : 20 * t + q < 60 := by omega
      have HY0 : rt_F T RX L Q (20 * t + q) → ∀ post : Int32 → SY → Prop, (∀ g', post (-5) (op, (nI m), sb, L, Q, T, RY, V, kTY, kRY, kVY, g')) → wpY_remove post (op, (nI m), sb, L, Q, T, RY, V, kTY, kRY, kVY, g) (nI t) (nI q) := by
        intro hf post h
        unfold wpY_remove; dsimp only
        refine b _ (br_f (by decide) (d _ (br_f (by decide) ?_)))
        rw [rt_20b]
        exact rt_yspread hQ (rt_OKy hO) hr hT (fun g' hg => ⟨fun _ => br_f (by decide) (h g'), fun z => absurd (rt_Fc tc hf) z⟩)
      have HY : ¬ rt_F T RX L Q (20 * t + q) → ∀ post : Int32 → SY → Prop, (∀ g' : Nat → Int32, (∀ s, s < 60 → (¬ g' s = 0 ↔ rt_G T RX L Q (20 * t + q) s)) → ∀ RY' : Nat → Int32, (∀ p, (p < 120 → rt_lg T RX L Q (20 * t + q) p → ¬ rt_G T RX L Q (20 * t + q) (p / 2) → RY' p = -1) ∧ ((p < 120 → rt_lg T RX L Q (20 * t + q) p → rt_G T RX L Q (20 * t + q) (p / 2)) → RY' p = RY p)) → (¬ rt_bad op Q (rt_S T RY L Q) (rt_S (rt_out T g' 60) RY' L Q) → post (nI (rt_cnt (rt_Gb T RX L Q (20 * t + q)) 60)) (op, (nI m), sb, L, Q, (rt_out T g' 60), RY', V, (rt_kp kTY (60 * 4) 60 (rt_nr T)), (rt_kp kRY (120 * 4) 120 RY), (rt_kp kVY (60 * 4) 60 V), g')) ∧ (rt_bad op Q (rt_S T RY L Q) (rt_S (rt_out T g' 60) RY' L Q) → post (-9) (op, (nI m), sb, L, Q, (rt_rs (rt_nr (rt_kp kTY (60 * 4) 60 (rt_nr T))) (60 * 4) 60 (rt_out T g' 60)), (rt_rs (rt_kp kRY (120 * 4) 120 RY) (120 * 4) 120 RY'), (rt_rs (rt_kp kVY (60 * 4) 60 V) (60 * 4) 60 V), (rt_kp kTY (60 * 4) 60 (rt_nr T)), (rt_kp kRY (120 * 4) 120 RY), (rt_kp kVY (60 * 4) 60 V), g'))) → wpY_remove post (op, (nI m), sb, L, Q, T, RY, V, kTY, kRY, kVY, g) (nI t) (nI q) := by
        intro nf post h
        unfold wpY_remove; dsimp only
        refine b _ (br_f (by decide) (d _ (br_f (by decide) ?_)))
        rw [rt_20b]
        refine rt_yspread hQ (rt_OKy hO) hr hT (fun g' hg => ⟨fun z => absurd (rt_Fc tc' z) nf, fun _ => br_t (nI_pos' (Nat.lt_of_le_of_lt (rt_cnt_le _ 60) (by decide))) (rt_ykeep (st := 4) (by decide) (rt_ysound hQ (rt_OKy hO) (rt_yrem hQ hO.1 (rt_OKy hO) hT hg (fun RY' hR' => ⟨fun p hp hz => ?_, ?_⟩))))⟩)
        · have hz := (rt_outT hO.1 hz (by omega)).1
          by_cases w : rt_lg T RY L Q (20 * t + q) p ∧ ¬ rt_G T RY L Q (20 * t + q) (p / 2)
          · exact Or.inl ((hR' p).1 hp w.1 w.2)
          · rw [(hR' p).2 (fun _ y => Classical.byContradiction (fun z => w ⟨y, z⟩))]
            exact rt_OKy hO p hp hz
        · have := h g' (fun s hs => (hg s hs).trans (rt_Gc tc')) RY' (fun p => ⟨fun hp y z => (hR' p).1 hp (rt_lgc tc hp y) (fun x => z ((rt_Gc tc').mp x)), fun y => (hR' p).2 (fun hp z => (rt_Gc tc).mp (y hp (rt_lgc tc' hp z)))⟩)
          rw [rt_Gbc tc 60] at this
          exact this
      unfold wpX_remove; dsimp only
      refine a _ (br_f (by decide) (c _ (br_f (by decide) ?_)))
      rw [rt_20a]
      refine rt_xgo hQ (rt_OKx hO) hr (fun w hw => rt_xheldback hQ (rt_OKx hO) hw (fun hf => br_f (by decide) (HY0 hf _ (fun g' => ⟨rfl, rt_rel (k + 5) hm hQ hO hK⟩))) (fun nf => br_t rfl (rt_xstart hQ (rt_OKx hO) (rt_xletgo hQ (rt_OKx hO) hw (fun RX' hRX => rt_xtake hw (fun T' hT' => ?_))))))
      have hRR : rt_RR T' RX' := by
        intro p hp hz
        have hz : ¬ T (p / 2) = 0 := by
          by_cases y : rt_G T RX L Q (20 * t + q) (p / 2)
          · exact absurd ((hT' (p / 2)).1 (by omega) y) hz
          · rw [(hT' (p / 2)).2 (fun _ => y)] at hz; exact hz
        by_cases y : rt_lg T RX L Q (20 * t + q) p
        · exact Or.inl ((hRX p).1 hp y)
        · rw [(hRX p).2 (fun _ => y)]; exact rt_OKx hO p hp hz
      have eAll : ∀ g' : Nat → Int32, (∀ s, s < 60 → (¬ g' s = 0 ↔ rt_G T RX L Q (20 * t + q) s)) → ∀ RY' : Nat → Int32, (∀ p, (p < 120 → rt_lg T RX L Q (20 * t + q) p → ¬ rt_G T RX L Q (20 * t + q) (p / 2) → RY' p = -1) ∧ ((p < 120 → rt_lg T RX L Q (20 * t + q) p → rt_G T RX L Q (20 * t + q) (p / 2)) → RY' p = RY p)) → T' = rt_out T g' 60 ∧ rt_OK T' RX' RY' := by
        intro g' hg RY' hRY
        have eT := rt_eT hO.1 hg hT'
        refine ⟨eT, fun s hs => ?_, fun p hp hz => ?_, fun t' ht' => ?_⟩
        · by_cases y : rt_G T RX L Q (20 * t + q) s
          · exact Or.inl ((hT' s).1 hs y)
          · rw [(hT' s).2 (fun _ => y)]; exact hO.1 s hs
        · refine ⟨?_, hRR p hp hz⟩
          have hz2 := hz
          rw [eT] at hz2
          obtain ⟨z1, z2⟩ := rt_outT hO.1 hz2 (by omega)
          have nG : ¬ rt_G T RX L Q (20 * t + q) (p / 2) := fun x => (hg _ (by omega)).mpr x z2
          by_cases y : rt_lg T RX L Q (20 * t + q) p
          · rw [(hRX p).1 hp y, (hRY p).1 hp y nG]
          · rw [(hRX p).2 (fun _ => y), (hRY p).2 (fun _ x => absurd x y)]
            exact (hO.2.1 p hp z1).1
        · refine Nat.le_trans (rt_cnt_mono 20 (fun i hi x => ?_)) (hO.2.2 t' ht')
          refine rt_b_t.mpr (fun z => rt_b_t.mp x ?_)
          by_cases y : rt_G T RX L Q (20 * t + q) (20 * t' + i)
          · exact (hT' _).1 (by omega) y
          · rw [(hT' _).2 (fun _ => y)]; exact z
      refine rt_xend hQ hRR (fun c hc z => rt_S6 hc z) (fun nb => HY nf _ (fun g' hg RY' hRY => ?_)) (fun nb => HY nf _ (fun g' hg RY' hRY => ?_))
      · obtain ⟨eT, hO'⟩ := eAll g' hg RY' hRY
        rw [rt_OS hO, rt_OS hO'] at nb
        subst eT
        exact ⟨fun _ => ⟨rfl, rt_rel (k + 5) hm hQ hO' (rt_K4x (rt_K4y hK))⟩, fun z => absurd z nb⟩
      · obtain ⟨eT, hO'⟩ := eAll g' hg RY' hRY
        rw [rt_OS hO, rt_OS hO'] at nb
        subst eT
        exact ⟨fun z => absurd nb z, fun _ => ⟨rfl, rt_relbad (k + 5) hm hQ hO hK⟩⟩
end
