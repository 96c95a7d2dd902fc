section
theorem pk_us {f : Nat → Int32} {k : Nat} {x : Int32} : upd f k x k = x := if_pos rfl
theorem pk_un {f : Nat → Int32} {k j : Nat} {x : Int32} (h : j ≠ k) : upd f k x j = f j := if_neg h
theorem pk_sub {a b : Nat} (h : b ≤ a) : nI a - nI b = nI (a - b) := by
  obtain ⟨c, rfl⟩ : ∃ c, a = c + b := ⟨a - b, by omega⟩
  rw [← nI_add, Int32.add_sub_cancel, Nat.add_sub_cancel]
theorem pk_m1 (n : Nat) : nI (n + 1) + (-1) = nI n := by
  rw [← nI_1, Int32.add_assoc, show (1 : Int32) + (-1) = 0 from rfl, Int32.add_zero]
theorem pk_mul (a b : Nat) : nI a * nI b = nI (a * b) := (Int32.ofNat_mul a b).symm
theorem pk_div {a d : Nat} (ha : a < 2 ^ 31) (h0 : 0 < d) (hd : d < 2 ^ 31) : nI a / nI d = nI (a / d) := by
  apply Int32.toInt_inj.mp
  rw [lg_idiv_nonneg (by rw [nI_toInt ha]; omega) (by rw [nI_toInt hd]; omega), nI_toInt ha, nI_toInt hd, nI_toInt (Nat.lt_of_le_of_lt (Nat.div_le_self a d) ha)]
  first | rfl | exact (Int.natCast_ediv _ _).symm
theorem pk_rem {a d : Nat} (ha : a < 2 ^ 31) (h0 : 0 < d) (hd : d < 2 ^ 31) : nI a - nI a / nI d * nI d = nI (a % d) := by
  rw [pk_div ha h0 hd, pk_mul, pk_sub (Nat.div_mul_le_self a d)]
  exact congrArg nI (by have := Nat.div_add_mod' a d; omega)
theorem pk_ix (x : Int32) {n : Nat} (hn : n < 2 ^ 31) : x < 0 ∨ nI n ≤ x ∨ ∃ j : Nat, j < n ∧ x = nI j := by
  by_cases h : x < 0
  · exact Or.inl h
  · obtain ⟨j, hj, rfl⟩ := nI_of h
    by_cases h2 : j < n
    · exact Or.inr (Or.inr ⟨j, h2, rfl⟩)
    · exact Or.inr (Or.inl (nI_le (by omega) hj))
theorem pk_le {x y : Int32} {A B : Prop} (a b : Nat) (f : a ≤ b → A) (g : b < a → B) (hx : x = nI a := by rfl) (hy : y = nI b := by rfl) (ha : a < 2 ^ 31 := by omega) (hb : b < 2 ^ 31 := by omega) : (x ≤ y → A) ∧ (¬ x ≤ y → B) := by
  subst hx hy
  rw [nI_leI ha hb]
  exact ⟨f, fun z => g (by omega)⟩
theorem pk_lt {x y : Int32} {A B : Prop} (a b : Nat) (f : a < b → A) (g : b ≤ a → B) (hx : x = nI a := by rfl) (hy : y = nI b := by rfl) (ha : a < 2 ^ 31 := by omega) (hb : b < 2 ^ 31 := by omega) : (x < y → A) ∧ (¬ x < y → B) := by
  subst hx hy
  rw [nI_ltI ha hb]
  exact ⟨f, fun z => g (by omega)⟩
theorem pk_eq {x y : Int32} {A B : Prop} (a b : Nat) (f : a = b → A) (g : a ≠ b → B) (hx : x = nI a := by rfl) (hy : y = nI b := by rfl) (ha : a < 2 ^ 31 := by omega) (hb : b < 2 ^ 31 := by omega) : (x = y → A) ∧ (¬ x = y → B) := by
  subst hx hy
  rw [nI_eq ha hb]
  exact ⟨f, g⟩
theorem pk_in {x : Int32} (n N : Nat) (h : n < N) (hx : x = nI n := by rfl) (hN : N < 2 ^ 31 := by omega) : vp_in x N := by
  subst hx
  exact vp_in_nI h hN
theorem pk_cl {x : Int32} (n : Nat) (hx : x = nI n := by rfl) (h : n < 2 ^ 31 := by omega) : x.toNatClampNeg = n := by
  subst hx
  exact nI_clamp h
theorem pk_loop {σ : Type} (W : Nat → Nat → σ → Prop) (I : Nat → σ → Prop) (e i0 : Nat) (s : σ) (hi : i0 ≤ e) (h0 : I i0 s) (hx : ∀ n s, I e s → W (n + 1) e s)
    (hs : ∀ n i s, i < e → I i s → (∀ s', I (i + 1) s' → W n (i + 1) s') → W (n + 1) i s) : ∃ n, W n i0 s :=
  ⟨e + 1, loop_i W I e hx hs (e + 1) i0 s hi (by omega) h0⟩
def bt (x : Int32) (i : Nat) : Bool := x.toBitVec.getLsbD i
theorem b_ext {x y : Int32} (h : ∀ i, i < 32 → bt x i = bt y i) : x = y := Int32.toBitVec_inj.mp (BitVec.eq_of_getLsbD_eq (fun i hi => h i hi))
theorem b_or (x y : Int32) (i : Nat) : bt (x ||| y) i = (bt x i || bt y i) := by unfold bt; rw [Int32.toBitVec_or, BitVec.getLsbD_or]
theorem b_and (x y : Int32) (i : Nat) : bt (x &&& y) i = (bt x i && bt y i) := by unfold bt; rw [Int32.toBitVec_and, BitVec.getLsbD_and]
theorem b_xor (x y : Int32) (i : Nat) : bt (x ^^^ y) i = (bt x i ^^ bt y i) := by unfold bt; rw [Int32.toBitVec_xor, BitVec.getLsbD_xor]
theorem b_big {x : Int32} {i : Nat} (h : 32 ≤ i) : bt x i = false := BitVec.getLsbD_of_ge _ _ h
theorem b_m1 : ∀ i, i < 32 → bt (-1) i = true := by decide +kernel
theorem b_0 (i : Nat) : bt 0 i = false := BitVec.getLsbD_zero
theorem s_l : ∀ n, n < 32 → ((nI n &&& 31).toBitVec.smod 32).toNat = n := by decide +kernel
theorem b_shl (n : Nat) (hn : n < 32) (x : Int32) {i : Nat} (hi : i < 32) : bt (x <<< (nI n &&& 31)) i = (decide (n ≤ i) && bt x (i - n)) := by
  unfold bt
  rw [Int32.toBitVec_shiftLeft]
  show (x.toBitVec <<< ((nI n &&& 31).toBitVec.smod 32).toNat).getLsbD i = _
  rw [s_l n hn, BitVec.getLsbD_shiftLeft]
  rcases Nat.lt_or_ge i n with h | h
  · simp [h, Nat.not_le.mpr h]
  · simp [hi, h, Nat.not_lt.mpr h]
theorem b_sshr (n : Nat) (hn : n < 32) (x : Int32) {i : Nat} (hi : i < 32) : bt (x >>> (nI n &&& 31)) i = if n + i < 32 then bt x (n + i) else bt x 31 := by
  unfold bt
  rw [Int32.toBitVec_shiftRight]
  show (x.toBitVec.sshiftRight ((nI n &&& 31).toBitVec.smod 32).toNat).getLsbD i = _
  rw [s_l n hn, BitVec.getLsbD_sshiftRight, BitVec.msb_eq_getLsbD_last]
  simp [hi]
theorem ts_nf {x : Bool} (h : ¬ x = false) : x = true := by cases x <;> first | rfl | exact absurd rfl h
theorem ts_nt {x : Bool} (h : ¬ x = true) : x = false := by cases x <;> first | rfl | exact absurd rfl h
theorem ts_bit {w : Int64} {s : UInt64} {j : Nat} (hj : j < 64) (hs : s.toNat = j) : ((w.toUInt64 >>> s).toInt64 &&& 1) = 0 ↔ w.toBitVec.getLsbD j = false := by
  have e : (w.toUInt64 >>> s).toInt64.toBitVec = w.toBitVec >>> j := by
    apply BitVec.eq_of_toNat_eq
    show (w.toUInt64 >>> s).toNat = _
    rw [UInt64.toNat_shiftRight, hs, Nat.mod_eq_of_lt hj, BitVec.toNat_ushiftRight]
    rfl
  rw [← Int64.toBitVec_inj, Int64.toBitVec_and, e]
  show w.toBitVec >>> j &&& 1#64 = 0#64 ↔ _
  constructor
  · intro h
    have t := congrArg (fun x => x.getLsbD 0) h
    simpa using t
  · intro h
    apply BitVec.eq_of_getLsbD_eq
    intro i hi
    cases i with
    | zero => simp [h]
    | succ i => simp
theorem wb_c : ∀ k, k < 64 → ((nI k).toInt64 &&& 63) = lN k := by decide +kernel
theorem wb_cu : ∀ k, k < 64 → ((nI k).toInt64.toUInt64 &&& Int64.toUInt64 63) = UInt64.ofNat k := by decide +kernel
end
section
/-! pure picture: cells, targets, counts, sound bits -/
def rt_c (p : Nat) : Nat := p / 40 * 2 + p % 2
theorem rt_c6 {p : Nat} (h : p < 120) : rt_c p < 6 := by unfold rt_c; omega
def rt_tg (T R L Q : Nat → Int32) (p : Nat) : Option Nat :=
  if T (p / 2) = 0 ∨ Q (rt_c p) = -1 ∨ R p = -1 then none else some (20 * (L (rt_c p)).toNatClampNeg + (R p).toNatClampNeg)
def rt_dg (T R L Q : Nat → Int32) (p : Nat) : Bool := match rt_tg T R L Q p with
  | none => false
  | some t => decide (T t = 0)
def rt_cnt (f : Nat → Bool) : Nat → Nat
  | 0 => 0
  | n + 1 => rt_cnt f n + (if f n = true then 1 else 0)
theorem rt_cnt_le (f : Nat → Bool) : ∀ n, rt_cnt f n ≤ n
  | 0 => Nat.le_refl 0
  | n + 1 => by
    have := rt_cnt_le f n
    show rt_cnt f n + (if f n = true then 1 else 0) ≤ n + 1
    split <;> omega
theorem rt_cnt_t {f : Nat → Bool} {n : Nat} (h : f n = true) : rt_cnt f (n + 1) = rt_cnt f n + 1 := by
  show rt_cnt f n + (if f n = true then 1 else 0) = _
  rw [if_pos h]
theorem rt_cnt_f {f : Nat → Bool} {n : Nat} (h : ¬ f n = true) : rt_cnt f (n + 1) = rt_cnt f n := by
  show rt_cnt f n + (if f n = true then 1 else 0) = _
  rw [if_neg h, Nat.add_zero]
theorem rt_cnt_congr {f h : Nat → Bool} : ∀ n, (∀ i, i < n → f i = h i) → rt_cnt f n = rt_cnt h n
  | 0, _ => rfl
  | n + 1, e => by
    show rt_cnt f n + (if f n = true then 1 else 0) = rt_cnt h n + (if h n = true then 1 else 0)
    rw [rt_cnt_congr n (fun i hi => e i (by omega)), e n (by omega)]
theorem rt_cnt_mono {f h : Nat → Bool} : ∀ n, (∀ i, i < n → f i = true → h i = true) → rt_cnt f n ≤ rt_cnt h n
  | 0, _ => Nat.le_refl 0
  | n + 1, e => by
    have i1 := rt_cnt_mono n (fun i hi => e i (by omega))
    by_cases a : f n = true
    · rw [rt_cnt_t a, rt_cnt_t (e n (by omega) a)]; omega
    · rw [rt_cnt_f a]
      by_cases b : h n = true
      · rw [rt_cnt_t b]; omega
      · rw [rt_cnt_f b]; exact i1
theorem rt_cnt_lt {f h : Nat → Bool} : ∀ n, (∀ i, i < n → f i = true → h i = true) → (∃ i, i < n ∧ ¬ f i = true ∧ h i = true) → rt_cnt f n < rt_cnt h n
  | 0, _, ⟨i, hi, _⟩ => absurd hi (Nat.not_lt_zero i)
  | n + 1, e, ⟨i, hi, a, b⟩ => by
    by_cases c : i = n
    · subst c
      rw [rt_cnt_f a, rt_cnt_t b]
      have := rt_cnt_mono i (fun j hj => e j (by omega))
      omega
    · have i1 := rt_cnt_lt n (fun i hi => e i (by omega)) ⟨i, by omega, a, b⟩
      by_cases x : f n = true
      · rw [rt_cnt_t x, rt_cnt_t (e n (by omega) x)]; omega
      · rw [rt_cnt_f x]
        by_cases y : h n = true
        · rw [rt_cnt_t y]; omega
        · rw [rt_cnt_f y]; exact i1
/-- one place set: from false to true -/
theorem rt_cnt_set {f h : Nat → Bool} {a : Nat} (ha : ¬ f a = true) (hb : h a = true) : ∀ n, (∀ i, i < n → i ≠ a → h i = f i) → rt_cnt h n = rt_cnt f n + (if a < n then 1 else 0)
  | 0, _ => rfl
  | n + 1, e => by
    have i1 := rt_cnt_set ha hb n (fun i hi => e i (by omega))
    by_cases c : n = a
    · subst c
      rw [rt_cnt_t hb, rt_cnt_f ha, i1, if_neg (by omega), if_pos (by omega)]
    · have q := e n (by omega) c
      by_cases x : f n = true
      · rw [rt_cnt_t x, rt_cnt_t (q.trans x), i1]
        by_cases y : a < n
        · rw [if_pos y, if_pos (by omega)]
        · rw [if_neg y, if_neg (by omega)]
      · rw [rt_cnt_f x, rt_cnt_f (by rw [q]; exact x), i1]
        by_cases y : a < n
        · rw [if_pos y, if_pos (by omega)]
        · rw [if_neg y, if_neg (by omega)]
/-- what the relation asks of rules, links, rows and references -/
def rt_QL (L Q : Nat → Int32) : Prop := ∀ c, c < 6 → (Q c = -1 ∨ Q c = 0 ∨ Q c = 1 ∨ Q c = 2 ∨ Q c = 3) ∧ ∃ t, t < 3 ∧ L c = nI t
def rt_RR (T R : Nat → Int32) : Prop := ∀ p, p < 120 → ¬ T (p / 2) = 0 → R p = -1 ∨ ∃ r, r < 20 ∧ R p = nI r
def rt_TT (T : Nat → Int32) : Prop := ∀ s, s < 60 → T s = 0 ∨ T s = 1
def rt_b (T : Nat → Int32) (j : Nat) : Bool := decide (¬ T j = 0)
def rt_ct (T : Nat → Int32) (t : Nat) : Nat := rt_cnt (fun k => rt_b T (20 * t + k)) 20
def rt_OK (T RX RY : Nat → Int32) : Prop := rt_TT T ∧ (∀ p, p < 120 → ¬ T (p / 2) = 0 → RX p = RY p ∧ (RX p = -1 ∨ ∃ r, r < 20 ∧ RX p = nI r)) ∧ ∀ t, t < 3 → rt_ct T t ≤ 12
theorem rt_OKx {T RX RY : Nat → Int32} (h : rt_OK T RX RY) : rt_RR T RX := fun p hp ht => (h.2.1 p hp ht).2
theorem rt_OKy {T RX RY : Nat → Int32} (h : rt_OK T RX RY) : rt_RR T RY := fun p hp ht => (h.2.1 p hp ht).1 ▸ (h.2.1 p hp ht).2
theorem rt_OKc {T RX RY T' RX' RY' : Nat → Int32} (h : rt_OK T RX RY) (hT : ∀ s, s < 60 → T' s = T s) (hX : ∀ p, p < 120 → RX' p = RX p) (hY : ∀ p, p < 120 → RY' p = RY p) : rt_OK T' RX' RY' := by
  refine ⟨fun s hs => by rw [hT s hs]; exact h.1 s hs, fun p hp ht => ?_, fun t ht => ?_⟩
  · rw [hT _ (by omega)] at ht
    rw [hX p hp, hY p hp]; exact h.2.1 p hp ht
  · have : rt_ct T' t = rt_ct T t := rt_cnt_congr 20 (fun i hi => by unfold rt_b; rw [hT _ (by omega)])
    rw [this]; exact h.2.2 t ht
theorem rt_b_t {T : Nat → Int32} {j : Nat} : rt_b T j = true ↔ ¬ T j = 0 := decide_eq_true_iff
theorem rt_Q0 {L Q : Nat → Int32} (h : rt_QL L Q) {c : Nat} (hc : c < 6) : Q c < 0 ↔ Q c = -1 := by
  rcases (h c hc).1 with e | e | e | e | e <;> rw [e] <;> decide
theorem rt_Q0' {L Q : Nat → Int32} (h : rt_QL L Q) {c : Nat} (hc : c < 6) : 0 ≤ Q c ↔ ¬ Q c = -1 := by
  rcases (h c hc).1 with e | e | e | e | e <;> rw [e] <;> decide
theorem rt_Q3 {L Q : Nat → Int32} (h : rt_QL L Q) {c : Nat} (hc : c < 6) : Q c < 3 ↔ ¬ Q c = 3 := by
  rcases (h c hc).1 with e | e | e | e | e <;> rw [e] <;> decide
theorem rt_nI_m1 {r : Nat} (h : r < 2 ^ 31) : ¬ nI r = -1 := by
  intro e
  have := nI_toInt h
  rw [e, show ((-1 : Int32)).toInt = -1 from by decide] at this
  omega
theorem rt_R0 {x : Int32} (h : x = -1 ∨ ∃ r, r < 20 ∧ x = nI r) : x < 0 ↔ x = -1 := by
  rcases h with e | ⟨r, hr, e⟩
  · rw [e]; decide
  · rw [e]; exact ⟨fun z => absurd z (nI_pos (by omega)), fun z => absurd z (rt_nI_m1 (by omega))⟩
theorem rt_R0' {x : Int32} (h : x = -1 ∨ ∃ r, r < 20 ∧ x = nI r) : 0 ≤ x ↔ ¬ x = -1 := by
  rcases h with e | ⟨r, hr, e⟩
  · rw [e]; decide
  · rw [e]; exact ⟨fun _ => rt_nI_m1 (by omega), fun _ => nI_pos' (by omega)⟩
theorem rt_tgc {T R R' L Q : Nat → Int32} {p : Nat} (h : ¬ T (p / 2) = 0 → R p = R' p) : rt_tg T R L Q p = rt_tg T R' L Q p := by
  unfold rt_tg
  by_cases t : T (p / 2) = 0
  · rw [if_pos (Or.inl t), if_pos (Or.inl t)]
  · rw [h t]
theorem rt_tgE {T R L Q : Nat → Int32} (hQ : rt_QL L Q) (hR : rt_RR T R) {p : Nat} (hp : p < 120) (hT : ¬ T (p / 2) = 0) (hq : ¬ Q (rt_c p) = -1) (hr : ¬ R p = -1) :
    ∃ l r, l < 3 ∧ r < 20 ∧ L (rt_c p) = nI l ∧ R p = nI r ∧ rt_tg T R L Q p = some (20 * l + r) := by
  obtain ⟨l, hl, el⟩ := (hQ _ (rt_c6 hp)).2
  rcases hR p hp hT with e | ⟨r, h20, er⟩
  · exact absurd e hr
  · refine ⟨l, r, hl, h20, el, er, ?_⟩
    unfold rt_tg
    rw [if_neg (by rintro (a | a | a) <;> contradiction), el, er, nI_clamp (by omega), nI_clamp (by omega)]
theorem rt_tgN {T R L Q : Nat → Int32} {p : Nat} (h : T (p / 2) = 0 ∨ Q (rt_c p) = -1 ∨ R p = -1) : rt_tg T R L Q p = none := by
  unfold rt_tg; rw [if_pos h]
theorem rt_tgS {T R L Q : Nat → Int32} {p t : Nat} (h : rt_tg T R L Q p = some t) : ¬ T (p / 2) = 0 ∧ ¬ Q (rt_c p) = -1 ∧ ¬ R p = -1 := by
  refine ⟨fun z => ?_, fun z => ?_, fun z => ?_⟩
  · rw [rt_tgN (Or.inl z)] at h; cases h
  · rw [rt_tgN (Or.inr (Or.inl z))] at h; cases h
  · rw [rt_tgN (Or.inr (Or.inr z))] at h; cases h
theorem rt_tg60 {T R L Q : Nat → Int32} (hQ : rt_QL L Q) (hR : rt_RR T R) {p t : Nat} (hp : p < 120) (h : rt_tg T R L Q p = some t) : t < 60 := by
  obtain ⟨a, b, c⟩ := rt_tgS h
  obtain ⟨l, r, hl, hr, _, _, e⟩ := rt_tgE hQ hR hp a b c
  rw [h] at e; cases e; omega
theorem rt_dgc {T R R' L Q : Nat → Int32} {p : Nat} (h : ¬ T (p / 2) = 0 → R p = R' p) : rt_dg T R L Q p = rt_dg T R' L Q p := by
  unfold rt_dg; rw [rt_tgc h]
theorem rt_dgT {T R L Q : Nat → Int32} {p : Nat} : rt_dg T R L Q p = true ↔ ∃ t, rt_tg T R L Q p = some t ∧ T t = 0 := by
  unfold rt_dg
  cases e : rt_tg T R L Q p with
  | none => exact ⟨fun z => (nomatch z), fun ⟨t, a, _⟩ => (nomatch a)⟩
  | some t => exact ⟨fun z => ⟨t, rfl, decide_eq_true_iff.mp z⟩, fun ⟨t', a, b⟩ => by cases a; exact decide_eq_true_iff.mpr b⟩
/-! numbers as the walks print them -/
theorem rt_n2 {p : Nat} (hp : p < 2 ^ 31) : nI p / 2 = nI (p / 2) := pk_div (d := 2) hp (by decide) (by decide)
theorem rt_lk {p : Nat} (hp : p < 2 ^ 31) : nI p / 40 * 2 + (nI p - nI p / 2 * 2) = nI (rt_c p) := by
  have e1 : nI p / 40 = nI (p / 40) := pk_div (d := 40) hp (by decide) (by decide)
  have e2 : nI p - nI p / 2 * 2 = nI (p % 2) := pk_rem (d := 2) hp (by decide) (by decide)
  rw [e1, e2, show nI (p / 40) * 2 = nI (p / 40 * 2) from pk_mul _ 2, nI_add]; rfl
theorem rt_20a (t k : Nat) : nI t * 20 + nI k = nI (20 * t + k) := by
  rw [show nI t * 20 = nI (t * 20) from pk_mul _ 20, nI_add, Nat.mul_comm]
theorem rt_20b (t k : Nat) : 20 * nI t + nI k = nI (20 * t + k) := by
  rw [show 20 * nI t = nI (20 * t) from pk_mul 20 _, nI_add]
theorem rt_2a (s c : Nat) : nI s * 2 + nI c = nI (2 * s + c) := by
  rw [show nI s * 2 = nI (s * 2) from pk_mul _ 2, nI_add, Nat.mul_comm]
theorem rt_2b (s c : Nat) : 2 * nI s + nI c = nI (2 * s + c) := by
  rw [show 2 * nI s = nI (2 * s) from pk_mul 2 _, nI_add]
theorem rt_40 (t k c : Nat) : 40 * nI t + 2 * nI k + nI c = nI (2 * (20 * t + k) + c) := by
  rw [show 40 * nI t = nI (40 * t) from pk_mul 40 _, show 2 * nI k = nI (2 * k) from pk_mul 2 _, nI_add, nI_add]
  exact congrArg nI (by omega)
theorem rt_60a (t k : Nat) : nI t * 60 + nI k = nI (60 * t + k) := by
  rw [show nI t * 60 = nI (t * 60) from pk_mul _ 60, nI_add, Nat.mul_comm]
theorem rt_60b (t k : Nat) : 60 * nI t + nI k = nI (60 * t + k) := by
  rw [show 60 * nI t = nI (60 * t) from pk_mul 60 _, nI_add]
theorem rt_120a (t k : Nat) : nI t * 120 + nI k = nI (120 * t + k) := by
  rw [show nI t * 120 = nI (t * 120) from pk_mul _ 120, nI_add, Nat.mul_comm]
theorem rt_120b (t k : Nat) : 120 * nI t + nI k = nI (120 * t + k) := by
  rw [show 120 * nI t = nI (120 * t) from pk_mul 120 _, nI_add]
theorem rt_e20 (t : Nat) : (nI t + 1) * 20 = nI (20 * t + 20) := by
  rw [nI_1, show nI (t + 1) * 20 = nI ((t + 1) * 20) from pk_mul _ 20]; exact congrArg nI (by omega)
theorem rt_nar0 : vp_nar .boolean 0 = 0 := by decide
theorem rt_nar1 : vp_nar .boolean 1 = 1 := by decide
theorem rt_nar {x : Int32} (h : x = 0 ∨ x = 1) : vp_nar .boolean x = x := by
  rcases h with e | e <;> rw [e] <;> decide
end
section
/-! the small walks -/
section
variable {op mk sb sbs : Int32} {T V R L Q kT kV kR g RX RY kTX kTY kVX kVY kRX kRY : Nat → Int32}
theorem rt_ge {x : Int32} {n : Nat} (hn : n + 1 < 2 ^ 31) (h : nI (n + 1) ≤ x) : ¬ x < 0 ∧ nI n < x ∧ ¬ x ≤ nI n := by
  rw [Int32.le_iff_toInt_le, nI_toInt hn] at h
  have h0 : (0 : Int32).toInt = 0 := by decide
  refine ⟨fun z => ?_, ?_, fun z => ?_⟩
  · rw [Int32.lt_iff_toInt_lt, h0] at z; omega
  · rw [Int32.lt_iff_toInt_lt, nI_toInt (by omega)]; omega
  · rw [Int32.le_iff_toInt_le, nI_toInt (by omega)] at z; omega
theorem rt_table (x : Int32) : ((∀ post : Int32 → Prop, post 0 → wpX_isTable post x) ∧ ∀ post : Int32 → Prop, post 0 → wpY_isTable post (op, mk, sb, L, Q, T, RY, V, kTY, kRY, kVY, g) x) ∨ ∃ t, t < 3 ∧ x = nI t ∧ (∀ post : Int32 → Prop, post 1 → wpX_isTable post x) ∧ ∀ post : Int32 → Prop, post 1 → wpY_isTable post (op, mk, sb, L, Q, T, RY, V, kTY, kRY, kVY, g) x := by
  rcases pk_ix x (n := 3) (by decide) with h | h | ⟨t, ht, rfl⟩
  · exact Or.inl ⟨fun post p => br_t h p, fun post p => br_t h p⟩
  · obtain ⟨n0, n1, _⟩ := rt_ge (n := 2) (by decide) h
    exact Or.inl ⟨fun post p => br_f n0 (br_t h p), fun post p => br_f n0 (br_t n1 p)⟩
  · exact Or.inr ⟨t, ht, rfl, fun post p => br_f (nI_pos (by omega)) (br_f (nI_ge (b := 3) ht (by decide)) p), fun post p => br_f (nI_pos (by omega)) (br_f (nI_nlt (a := 2) (by omega) (by decide)) p)⟩
theorem rt_key (x : Int32) : ((∀ post : Int32 → Prop, post 0 → wpX_isKey post x) ∧ ∀ post : Int32 → Prop, post 0 → wpY_isKey post (op, mk, sb, L, Q, T, RY, V, kTY, kRY, kVY, g) x) ∨ ∃ t, t < 20 ∧ x = nI t ∧ (∀ post : Int32 → Prop, post 1 → wpX_isKey post x) ∧ ∀ post : Int32 → Prop, post 1 → wpY_isKey post (op, mk, sb, L, Q, T, RY, V, kTY, kRY, kVY, g) x := by
  rcases pk_ix x (n := 20) (by decide) with h | h | ⟨t, ht, rfl⟩
  · exact Or.inl ⟨fun post p => br_t h p, fun post p => br_t h p⟩
  · obtain ⟨n0, n1, _⟩ := rt_ge (n := 19) (by decide) h
    exact Or.inl ⟨fun post p => br_f n0 (br_t h p), fun post p => br_f n0 (br_t n1 p)⟩
  · exact Or.inr ⟨t, ht, rfl, fun post p => br_f (nI_pos (by omega)) (br_f (nI_ge (b := 20) ht (by decide)) p), fun post p => br_f (nI_pos (by omega)) (br_f (nI_nlt (a := 19) (by omega) (by decide)) p)⟩
theorem rt_col (x : Int32) : ((∀ post : Int32 → Prop, post 0 → wpX_isColumn post x) ∧ ∀ P A : Prop, P → ((x < 0 → P) ∧ (¬ x < 0 → ((x ≤ 1 → A) ∧ (¬ x ≤ 1 → P))))) ∨ ∃ t, t < 2 ∧ x = nI t ∧ (∀ post : Int32 → Prop, post 1 → wpX_isColumn post x) ∧ ∀ P A : Prop, A → ((x < 0 → P) ∧ (¬ x < 0 → ((x ≤ 1 → A) ∧ (¬ x ≤ 1 → P)))) := by
  rcases pk_ix x (n := 2) (by decide) with h | h | ⟨t, ht, rfl⟩
  · exact Or.inl ⟨fun post p => br_t h p, fun P A p => br_t h p⟩
  · obtain ⟨n0, _, n1⟩ := rt_ge (n := 1) (by decide) h
    exact Or.inl ⟨fun post p => br_f n0 (br_t h p), fun P A p => br_f n0 (br_f n1 p)⟩
  · exact Or.inr ⟨t, ht, rfl, fun post p => br_f (nI_pos (by omega)) (br_f (nI_ge (b := 2) ht (by decide)) p), fun P A p => br_f (nI_pos (by omega)) (br_t (nI_le (b := 1) (by omega) (by decide)) p)⟩
theorem rt_xrow {t k : Nat} (ht : t < 3) (hk : k < 20) {post : Int32 → Prop} (h0 : T (20 * t + k) = 0 → post 0) (h1 : ¬ T (20 * t + k) = 0 → post 1) : wpX_hasRow post (op, mk, sb, sbs, T, V, R, L, Q, kT, kV, kR) (nI t) (nI k) := by
  unfold wpX_hasRow; dsimp only
  refine br_f (nI_pos (by omega)) (br_f (nI_ge (b := 20) hk (by decide)) (br_f (by decide) ?_))
  rw [rt_20a, nI_clamp (n := 20 * t + k) (by omega)]
  exact ⟨vp_in_nI (by omega) (by decide), br_c h0 h1⟩
theorem rt_yrow {t k : Nat} (ht : t < 3) (hk : k < 20) {post : Int32 → Prop} (h0 : T (20 * t + k) = 0 → post 0) (h1 : ¬ T (20 * t + k) = 0 → post 1) : wpY_isRow post (op, mk, sb, L, Q, T, R, V, kT, kR, kV, g) (nI t) (nI k) := by
  unfold wpY_isRow; dsimp only
  refine br_f (nI_pos (by omega)) (br_f (nI_nlt (a := 19) (by omega) (by decide)) (br_f (by decide) ?_))
  rw [rt_20b, nI_clamp (n := 20 * t + k) (by omega)]
  exact ⟨vp_in_nI (by omega) (by decide), br_c h0 h1⟩
/-- a row or none, both sides -/
theorem rt_row {t : Nat} (ht : t < 3) (x : Int32) : ((∀ post : Int32 → Prop, post 0 → wpX_hasRow post (op, mk, sb, sbs, T, V, RX, L, Q, kTX, kVX, kRX) (nI t) x) ∧ ∀ post : Int32 → Prop, post 0 → wpY_isRow post (op, mk, sb, L, Q, T, RY, V, kTY, kRY, kVY, g) (nI t) x) ∨ ∃ k, k < 20 ∧ x = nI k ∧ ¬ T (20 * t + k) = 0 ∧ (∀ post : Int32 → Prop, post 1 → wpX_hasRow post (op, mk, sb, sbs, T, V, RX, L, Q, kTX, kVX, kRX) (nI t) x) ∧ ∀ post : Int32 → Prop, post 1 → wpY_isRow post (op, mk, sb, L, Q, T, RY, V, kTY, kRY, kVY, g) (nI t) x := by
  rcases rt_key (op := op) (mk := mk) (sb := sb) (T := T) (V := V) (L := L) (Q := Q) (g := g) (RY := RY) (kTY := kTY) (kVY := kVY) (kRY := kRY) x with ⟨a, b⟩ | ⟨k, hk, rfl, a, b⟩
  · left
    constructor
    · intro post p; unfold wpX_hasRow; dsimp only; exact a _ (br_t rfl p)
    · intro post p; unfold wpY_isRow; dsimp only; exact b _ (br_t rfl p)
  · by_cases z : T (20 * t + k) = 0
    · exact Or.inl ⟨fun post p => rt_xrow ht hk (fun _ => p) (fun n => absurd z n), fun post p => rt_yrow ht hk (fun _ => p) (fun n => absurd z n)⟩
    · exact Or.inr ⟨k, hk, rfl, z, fun post p => rt_xrow ht hk (fun n => absurd n z) (fun _ => p), fun post p => rt_yrow ht hk (fun n => absurd n z) (fun _ => p)⟩
theorem rt_xlk {post : Int32 → Prop} {p : Nat} (hp : p < 120) (h : post (nI (rt_c p))) : wpX_linkOf post (nI p) := by
  refine ⟨by decide, fun y ey => ⟨by decide, ?_⟩⟩
  rw [ey, rt_lk (p := p) (by omega)]
  exact h
theorem rt_xrule {post : Int32 → Prop} {p : Nat} (hp : p < 120) (h : post (Q (rt_c p))) : wpX_ruleOf post (op, mk, sb, sbs, T, V, R, L, Q, kT, kV, kR) (nI p) := by
  have c6 := rt_c6 hp
  unfold wpX_ruleOf; dsimp only
  refine rt_xlk hp ⟨vp_in_nI c6 (by decide), ?_⟩
  rw [nI_clamp (n := rt_c p) (by omega)]
  exact h
theorem rt_yrule {post : Int32 → Prop} {p : Nat} (hp : p < 120) (h : post (Q (rt_c p))) : wpY_ruleOf post (op, mk, sb, L, Q, T, R, V, kT, kR, kV, g) (nI p) := by
  have c6 := rt_c6 hp
  unfold wpY_ruleOf; dsimp only
  rw [rt_lk (p := p) (by omega), nI_clamp (n := rt_c p) (by omega)]
  exact ⟨by decide, by decide, vp_in_nI c6 (by decide), h⟩
theorem rt_xtg (hQ : rt_QL L Q) (hR : rt_RR T R) {p : Nat} (hp : p < 120) {post : Int32 → Prop} (h0 : rt_tg T R L Q p = none → post (-1)) (h1 : ∀ t, t < 60 → rt_tg T R L Q p = some t → post (nI t)) : wpX_targetOf post (op, mk, sb, sbs, T, V, R, L, Q, kT, kV, kR) (nI p) := by
  have c6 := rt_c6 hp
  unfold wpX_targetOf; dsimp only
  refine rt_xlk hp ?_
  rw [rt_n2 (p := p) (by omega), nI_clamp (n := p / 2) (by omega), nI_clamp (n := rt_c p) (by omega), nI_clamp (n := p) (by omega)]
  refine ⟨by decide, vp_in_nI (by omega) (by decide), br_c (fun a => h0 (rt_tgN (Or.inl a))) (fun a => ⟨vp_in_nI c6 (by decide), br_c (fun b => h0 (rt_tgN (Or.inr (Or.inl b)))) (fun b => ⟨vp_in_nI hp (by decide), br_c (fun c => h0 (rt_tgN (Or.inr (Or.inr c)))) (fun c => ⟨vp_in_nI c6 (by decide), vp_in_nI hp (by decide), ?_⟩)⟩)⟩)⟩
  obtain ⟨l, r, hl, hr, el, er, e⟩ := rt_tgE hQ hR hp a b c
  rw [el, er, rt_20a]; exact h1 _ (by omega) e
theorem rt_ytg (hQ : rt_QL L Q) (hR : rt_RR T R) {p : Nat} (hp : p < 120) {post : Int32 → Prop} (h0 : (rt_tg T R L Q p = none ∨ ∃ t, rt_tg T R L Q p = some t ∧ T t = 0) → post (-1)) (h1 : ∀ t, t < 60 → rt_tg T R L Q p = some t → ¬ T t = 0 → post (nI t)) : wpY_target post (op, mk, sb, L, Q, T, R, V, kT, kR, kV, g) (nI p) := by
  have c6 := rt_c6 hp
  unfold wpY_target; dsimp only
  refine ⟨by decide, by decide, fun y ey => ?_⟩
  rw [rt_lk (p := p) (by omega)] at ey
  subst ey
  rw [rt_n2 (p := p) (by omega), nI_clamp (n := p / 2) (by omega), nI_clamp (n := rt_c p) (by omega), nI_clamp (n := p) (by omega)]
  refine ⟨by decide, vp_in_nI (by omega) (by decide), br_c (fun a => h0 (Or.inl (rt_tgN (Or.inl a)))) (fun a => ⟨vp_in_nI c6 (by decide), br_c (fun b => h0 (Or.inl (rt_tgN (Or.inr (Or.inl ((rt_Q0 hQ c6).mp b)))))) (fun b => ⟨vp_in_nI hp (by decide), br_c (fun c => ⟨vp_in_nI c6 (by decide), vp_in_nI hp (by decide), fun y ey => ?_⟩) (fun c => h0 (Or.inl (rt_tgN (Or.inr (Or.inr (Classical.not_not.mp (fun z => c ((rt_R0' (hR p hp a)).mpr z))))))))⟩)⟩)⟩
  obtain ⟨l, r, hl, hr, el, er, e⟩ := rt_tgE hQ hR hp a (fun z => b ((rt_Q0 hQ c6).mpr z)) ((rt_R0' (hR p hp a)).mp c)
  rw [el, er, rt_20b] at ey
  subst ey
  rw [nI_clamp (n := 20 * l + r) (by omega)]
  exact ⟨vp_in_nI (by omega) (by decide), br_c (fun d => h0 (Or.inr ⟨_, e, d⟩)) (fun d => h1 _ (by omega) e d)⟩
theorem rt_xdg (hQ : rt_QL L Q) (hR : rt_RR T R) {p : Nat} (hp : p < 120) {post : Int32 → Prop} (h0 : ¬ rt_dg T R L Q p = true → post 0) (h1 : rt_dg T R L Q p = true → post 1) : wpX_isDangling post (op, mk, sb, sbs, T, V, R, L, Q, kT, kV, kR) (nI p) := by
  unfold wpX_isDangling; dsimp only
  refine rt_xtg hQ hR hp (fun e => br_t rfl (h0 ?_)) (fun t ht e => br_f (rt_nI_m1 (by omega)) ⟨vp_in_nI ht (by decide), ?_⟩)
  · intro z
    obtain ⟨t, a, _⟩ := rt_dgT.mp z
    rw [e] at a; cases a
  · rw [nI_clamp (n := t) (by omega)]
    refine br_c (fun a => h1 (rt_dgT.mpr ⟨t, e, a⟩)) (fun a => h0 (fun z => ?_))
    obtain ⟨t', b, c⟩ := rt_dgT.mp z
    rw [e] at b; cases b; exact a c
theorem rt_ydg (hQ : rt_QL L Q) (hR : rt_RR T R) {p : Nat} (hp : p < 120) {post : Int32 → Prop} (h0 : ¬ rt_dg T R L Q p = true → post 0) (h1 : rt_dg T R L Q p = true → post 1) : wpY_dangles post (op, mk, sb, L, Q, T, R, V, kT, kR, kV, g) (nI p) := by
  have c6 := rt_c6 hp
  have hn : rt_tg T R L Q p = none → post 0 := fun e => h0 (fun z => by
    obtain ⟨t, a, _⟩ := rt_dgT.mp z
    rw [e] at a; cases a)
  unfold wpY_dangles; dsimp only
  rw [rt_n2 (p := p) (by omega), nI_clamp (n := p / 2) (by omega), nI_clamp (n := p) (by omega)]
  refine ⟨by decide, vp_in_nI (by omega) (by decide), br_c (fun a => hn (rt_tgN (Or.inl a))) (fun a => rt_yrule hp (br_c (fun b => hn (rt_tgN (Or.inr (Or.inl ((rt_Q0 hQ c6).mp b))))) (fun b => ⟨vp_in_nI hp (by decide), br_c (fun c => hn (rt_tgN (Or.inr (Or.inr ((rt_R0 (hR p hp a)).mp c))))) (fun c => ?_)⟩)))⟩
  obtain ⟨l, r, hl, hr, el, er, e⟩ := rt_tgE hQ hR hp a (fun z => b ((rt_Q0 hQ c6).mpr z)) (fun z => c ((rt_R0 (hR p hp a)).mpr z))
  refine rt_ytg hQ hR hp (fun d => br_f (by decide) (h1 (rt_dgT.mpr ?_))) (fun t ht e1 d => br_t (nI_pos' (by omega)) (h0 (fun z => ?_)))
  · rcases d with d | d
    · rw [d] at e; cases e
    · exact d
  · obtain ⟨t', x, y⟩ := rt_dgT.mp z
    rw [e1] at x; cases x; exact d y
def rt_bit (w : Int64) (j : Nat) : Bool := w.toBitVec.getLsbD j
theorem rt_xin {post : Int32 → Prop} {w : Int64} {s : Nat} (hs : s < 64) (h0 : ¬ rt_bit w s = true → post 0) (h1 : rt_bit w s = true → post 1) : wpX_isIn post w (nI s) := by
  have e := ts_bit (w := w) (s := ((nI s).toInt64.toUInt64 &&& Int64.toUInt64 63)) hs (by rw [wb_cu s hs]; exact Nat.mod_eq_of_lt (by omega))
  exact br_f (nI_pos (by omega)) (br_c (fun a => h0 (fun z => by have := e.mp a; unfold rt_bit at z; rw [this] at z; cases z)) (fun a => h1 (ts_nf (fun z => a (e.mpr z)))))
theorem rt_xinN {post : Int32 → Prop} {w : Int64} (h0 : post 0) : wpX_isIn post w (-1) := br_t (by decide) h0
end
end
