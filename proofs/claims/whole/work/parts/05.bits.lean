/-! bits of the sound sets -/
theorem rt_b1 : ∀ j, j < 32 → bt 1 j = decide (j = 0) := by decide +kernel
theorem rt_b63 : ∀ j, j < 32 → bt 63 j = decide (j < 6) := by decide +kernel
theorem rt_sh1 {i c : Nat} (hi : i < 32) (hc : c < 32) : bt ((1 : Int32) <<< (nI i &&& 31)) c = decide (i = c) := by
  rw [b_shl i hi 1 hc, rt_b1 _ (by omega), ← Bool.decide_and]
  exact decide_eq_decide.mpr (by omega)
theorem rt_a1 (y : Int32) : (y &&& 1 = 1 ↔ bt y 0 = true) ∧ (y &&& 1 = 0 ↔ bt y 0 = false) := by
  have e : ∀ j, j < 32 → bt (y &&& 1) j = (bt y j && decide (j = 0)) := fun j hj => by rw [b_and, rt_b1 j hj]
  cases h : bt y 0
  · have q : y &&& 1 = 0 := b_ext (fun j hj => by
      rw [e j hj, b_0]
      by_cases q : j = 0
      · subst q; rw [h]; rfl
      · rw [decide_eq_false q, Bool.and_false])
    rw [q]; decide
  · have q : y &&& 1 = 1 := b_ext (fun j hj => by
      rw [e j hj, rt_b1 j hj]
      by_cases q : j = 0
      · subst q; rw [h]; rfl
      · rw [decide_eq_false q, Bool.and_false])
    rw [q]; decide
theorem rt_sr {x : Int32} {c : Nat} (hc : c < 6) : (((x >>> (nI c &&& 31)) &&& 1) = 1 ↔ bt x c = true) ∧ (((x >>> (nI c &&& 31)) &&& 1) = 0 ↔ bt x c = false) := by
  have e : bt (x >>> (nI c &&& 31)) 0 = bt x c := by rw [b_sshr c (by omega) x (by omega), if_pos (by omega), Nat.add_zero]
  have := rt_a1 (x >>> (nI c &&& 31))
  rw [e] at this
  exact this
theorem rt_sdb (f : Nat → Bool) : ∀ n, n ≤ 120 → ∀ c, c < 32 → (bt (rt_sd f n) c = true ↔ c < 6 ∧ ∀ p, p < n → f p = true → ¬ rt_c p = c)
  | 0, _, c, hc => by
    show bt 63 c = true ↔ _
    rw [rt_b63 c hc, decide_eq_true_iff]
    exact ⟨fun h => ⟨h, fun p hp => absurd hp (Nat.not_lt_zero p)⟩, fun h => h.1⟩
  | n + 1, hn, c, hc => by
    have ih := rt_sdb f n (by omega) c hc
    have c6 := rt_c6 (p := n) (by omega)
    by_cases a : f n = true
    · rw [rt_sd_t a, b_and, b_xor, rt_sh1 (by omega) hc, b_m1 c hc, Bool.and_eq_true, ih]
      constructor
      · intro ⟨⟨h1, h2⟩, h3⟩
        refine ⟨h1, fun p hp hf => ?_⟩
        by_cases q : p = n
        · subst q
          intro z
          rw [decide_eq_true z] at h3
          cases h3
        · exact h2 p (by omega) hf
      · intro ⟨h1, h2⟩
        refine ⟨⟨h1, fun p hp => h2 p (by omega)⟩, ?_⟩
        rw [decide_eq_false (h2 n (by omega) a)]; rfl
    · rw [rt_sd_f a, ih]
      refine ⟨fun ⟨h1, h2⟩ => ⟨h1, fun p hp hf => ?_⟩, fun ⟨h1, h2⟩ => ⟨h1, fun p hp => h2 p (by omega)⟩⟩
      by_cases q : p = n
      · subst q; exact absurd hf a
      · exact h2 p (by omega) hf
theorem rt_leb (Q : Nat → Int32) : ∀ n, n ≤ 6 → ∀ c, c < 32 → (bt (rt_le Q n) c = true ↔ c < n ∧ Q c = 3)
  | 0, _, c, hc => by
    show bt 0 c = true ↔ _
    rw [b_0]
    exact ⟨fun h => (nomatch h), fun h => absurd h.1 (Nat.not_lt_zero c)⟩
  | n + 1, hn, c, hc => by
    have ih := rt_leb Q n (by omega) c hc
    by_cases a : Q n = 3
    · rw [show rt_le Q (n + 1) = rt_le Q n ||| ((1 : Int32) <<< (nI n &&& 31)) from if_pos a, b_or, rt_sh1 (by omega) hc, Bool.or_eq_true, ih, decide_eq_true_iff]
      constructor
      · rintro (⟨h1, h2⟩ | h)
        · exact ⟨by omega, h2⟩
        · subst h; exact ⟨by omega, a⟩
      · intro ⟨h1, h2⟩
        by_cases q : n = c
        · exact Or.inr q
        · exact Or.inl ⟨by omega, h2⟩
    · rw [show rt_le Q (n + 1) = rt_le Q n from if_neg a, ih]
      refine ⟨fun ⟨h1, h2⟩ => ⟨by omega, h2⟩, fun ⟨h1, h2⟩ => ⟨?_, h2⟩⟩
      by_cases q : c = n
      · subst q; exact absurd h2 a
      · omega
theorem rt_z (x : Int32) : x = 0 ↔ ∀ c, c < 32 → ¬ bt x c = true :=
  ⟨fun h c _ => by rw [h, b_0]; exact Bool.false_ne_true, fun h => b_ext (fun c hc => by rw [b_0]; exact ts_nt (h c hc))⟩
theorem rt_an {x y : Int32} {c : Nat} (hc : c < 32) : bt (x &&& (y ^^^ (-1))) c = true ↔ bt x c = true ∧ bt y c = false := by
  rw [b_and, b_xor, b_m1 c hc]
  cases bt x c <;> cases bt y c <;> decide
def rt_bad (op : Int32) (Q : Nat → Int32) (s now : Int32) : Prop := ∃ c, c < 6 ∧ ¬ Q c < 0 ∧ (Q c < 3 ∨ op = 0) ∧ bt s c = true ∧ bt now c = false
def rt_badC (Q : Nat → Int32) (s now : Int32) : Prop := ∃ c, c < 6 ∧ Q c = 3 ∧ bt s c = true ∧ bt now c = false
/-- sound links of a state -/
def rt_S (T R L Q : Nat → Int32) : Int32 := rt_sd (rt_dg T R L Q) 120
theorem rt_S6 {T R L Q : Nat → Int32} {c : Nat} (hc : c < 32) (h : bt (rt_S T R L Q) c = true) : c < 6 := ((rt_sdb _ 120 (by decide) c hc).mp h).1
theorem rt_Sm {T R L Q : Nat → Int32} {c : Nat} (hc : c < 6) (h : Q c = -1) : bt (rt_S T R L Q) c = true := by
  refine (rt_sdb _ 120 (by decide) c (by omega)).mpr ⟨hc, fun p hp hf z => ?_⟩
  obtain ⟨t, e, _⟩ := rt_dgT.mp hf
  exact (rt_tgS e).2.1 (by rw [z]; exact h)
theorem rt_Sc {T R R' L Q : Nat → Int32} (h : ∀ p, p < 120 → ¬ T (p / 2) = 0 → R p = R' p) : rt_S T R L Q = rt_S T R' L Q :=
  rt_sd_congr 120 (fun p hp => rt_dgc (h p hp))
/-- nothing new dangles: nothing is bad -/
theorem rt_Sle {op : Int32} {T R T' R' L Q : Nat → Int32} (h : ∀ p, p < 120 → rt_dg T' R' L Q p = true → rt_dg T R L Q p = true) : ¬ rt_bad op Q (rt_S T R L Q) (rt_S T' R' L Q) := by
  intro ⟨c, hc, _, _, a, b⟩
  have a := (rt_sdb _ 120 (by decide) c (by omega)).mp a
  have b2 : bt (rt_S T' R' L Q) c = true := (rt_sdb _ 120 (by decide) c (by omega)).mpr ⟨hc, fun p hp hf => a.2 p hp (h p hp hf)⟩
  rw [b2] at b; cases b
theorem rt_badX0 {op s now : Int32} {L Q : Nat → Int32} (hQ : rt_QL L Q) (hs : ∀ c, c < 32 → bt s c = true → c < 6) (hn : ∀ c, c < 6 → Q c = -1 → bt now c = true) (ho : op = 0) : (s &&& (now ^^^ (-1))) = 0 ↔ ¬ rt_bad op Q s now := by
  rw [rt_z]
  constructor
  · intro h ⟨c, hc, _, _, a, b⟩
    exact h c (by omega) ((rt_an (by omega)).mpr ⟨a, b⟩)
  · intro h c hc z
    obtain ⟨a, b⟩ := (rt_an hc).mp z
    have c6 := hs c hc a
    refine h ⟨c, c6, fun q => ?_, Or.inr ho, a, b⟩
    rw [hn c c6 ((rt_Q0 hQ c6).mp q)] at b; cases b
theorem rt_badX1 {op s now : Int32} {L Q : Nat → Int32} (hQ : rt_QL L Q) (hs : ∀ c, c < 32 → bt s c = true → c < 6) (hn : ∀ c, c < 6 → Q c = -1 → bt now c = true) (ho : ¬ op = 0) : ((s &&& (now ^^^ (-1))) &&& (rt_le Q 6 ^^^ (-1))) = 0 ↔ ¬ rt_bad op Q s now := by
  rw [rt_z]
  constructor
  · intro h ⟨c, hc, _, d, a, b⟩
    refine h c (by omega) ((rt_an (by omega)).mpr ⟨(rt_an (by omega)).mpr ⟨a, b⟩, ts_nt (fun z => ?_)⟩)
    have z := ((rt_leb Q 6 (by decide) c (by omega)).mp z).2
    rcases d with d | d
    · exact (rt_Q3 hQ hc).mp d z
    · exact ho d
  · intro h c hc z
    obtain ⟨z1, z2⟩ := (rt_an hc).mp z
    obtain ⟨a, b⟩ := (rt_an hc).mp z1
    have c6 := hs c hc a
    refine h ⟨c, c6, fun q => ?_, Or.inl ((rt_Q3 hQ c6).mpr (fun q => ?_)), a, b⟩
    · rw [hn c c6 ((rt_Q0 hQ c6).mp q)] at b; cases b
    · rw [(rt_leb Q 6 (by decide) c hc).mpr ⟨c6, q⟩] at z2; cases z2
theorem rt_badXC {s now : Int32} {Q : Nat → Int32} : ((s &&& (now ^^^ (-1))) &&& rt_le Q 6) = 0 ↔ ¬ rt_badC Q s now := by
  rw [rt_z]
  constructor
  · intro h ⟨c, hc, d, a, b⟩
    refine h c (by omega) ?_
    rw [b_and, (rt_an (by omega)).mpr ⟨a, b⟩, (rt_leb Q 6 (by decide) c (by omega)).mpr ⟨hc, d⟩]; rfl
  · intro h c hc z
    rw [b_and, Bool.and_eq_true] at z
    obtain ⟨a, b⟩ := (rt_an hc).mp z.1
    obtain ⟨c6, d⟩ := (rt_leb Q 6 (by decide) c hc).mp z.2
    exact h ⟨c, c6, d, a, b⟩
