/-! ints as sets of bits -/
def qb (x : Int32) (i : Nat) : Bool := x.toBitVec.getLsbD i
theorem qb_or (x y : Int32) (i : Nat) : qb (x ||| y) i = (qb x i || qb y i) := by unfold qb; rw [Int32.toBitVec_or, BitVec.getLsbD_or]
theorem qb_and (x y : Int32) (i : Nat) : qb (x &&& y) i = (qb x i && qb y i) := by unfold qb; rw [Int32.toBitVec_and, BitVec.getLsbD_and]
theorem qb_xor (x y : Int32) (i : Nat) : qb (x ^^^ y) i = (qb x i ^^ qb y i) := by unfold qb; rw [Int32.toBitVec_xor, BitVec.getLsbD_xor]
theorem qb_0 (i : Nat) : qb 0 i = false := BitVec.getLsbD_zero
theorem qb_ge {x : Int32} {i : Nat} (h : 32 ≤ i) : qb x i = false := BitVec.getLsbD_of_ge _ _ h
theorem qb_ext {x y : Int32} (h : ∀ i, i < 32 → qb x i = qb y i) : x = y := Int32.toBitVec_inj.mp (BitVec.eq_of_getLsbD_eq (fun i hi => h i hi))
theorem qb_m1 : ∀ i, i < 32 → qb (-1) i = true := by decide +kernel
theorem qb_1 : ∀ d, d < 32 → ∀ i, i < 32 → qb (bit1 (nI d)) i = decide (d = i) := by decide +kernel
theorem qb_bit1 {d : Nat} (hd : d < 32) (i : Nat) : qb (bit1 (nI d)) i = decide (d = i) := by
  rcases Nat.lt_or_ge i 32 with h | h
  · exact qb_1 d hd i h
  · rw [qb_ge h, decide_eq_false (by omega)]
theorem qb_lo1 : ∀ i, i < 32 → qb 1 i = decide (i = 0) := by decide +kernel
theorem qb_su : ∀ n, n < 32 → (((nI n).toUInt32 &&& Int32.toUInt32 31).toBitVec % 32).toNat = n := by decide +kernel
theorem qb_ushr {n : Nat} (hn : n < 32) (x : Int32) (i : Nat) : qb ((x.toUInt32 >>> ((nI n).toUInt32 &&& Int32.toUInt32 31)).toInt32) i = qb x (n + i) := by
  show (x.toUInt32 >>> ((nI n).toUInt32 &&& Int32.toUInt32 31)).toBitVec.getLsbD i = x.toUInt32.toBitVec.getLsbD (n + i)
  rw [UInt32.toBitVec_shiftRight]
  show (x.toUInt32.toBitVec >>> (((nI n).toUInt32 &&& Int32.toUInt32 31).toBitVec % 32).toNat).getLsbD i = _
  rw [qb_su n hn, BitVec.getLsbD_ushiftRight]
theorem qb_eq0 {x : Int32} : x = 0 ↔ ∀ i, i < 32 → qb x i = false := by
  constructor
  · rintro rfl i _
    exact qb_0 i
  · intro h
    exact qb_ext (fun i hi => by rw [h i hi, qb_0])
theorem bitAt_eq {x : Int32} {d : Nat} (hd : d < 32) : bitAt x (nI d) = 0 ↔ qb x d = false := by
  unfold bitAt
  rw [qb_eq0]
  constructor
  · intro h
    have := h 0 (by omega)
    rw [qb_and, qb_ushr hd, qb_lo1 0 (by omega)] at this
    simpa using this
  · intro h i hi
    rw [qb_and, qb_ushr hd, qb_lo1 i hi]
    by_cases q : i = 0
    · subst q; simpa using h
    · simp [q]
theorem bitAt_ne {x : Int32} {d : Nat} (hd : d < 32) : ¬ bitAt x (nI d) = 0 ↔ qb x d = true := by
  rw [bitAt_eq hd]; simp
theorem and_ne {x y : Int32} : ¬ x &&& y = 0 ↔ ∃ i, i < 32 ∧ qb x i = true ∧ qb y i = true := by
  rw [qb_eq0]
  constructor
  · intro h
    apply Classical.byContradiction
    intro q
    apply h
    intro i hi
    rw [qb_and]
    cases h1 : qb x i <;> cases h2 : qb y i <;> first | rfl | exact absurd ⟨i, hi, h1, h2⟩ q
  · rintro ⟨i, hi, h1, h2⟩ h
    have := h i hi
    rw [qb_and, h1, h2] at this
    cases this
/-- rows of bits that steps add to -/
theorem lp_bits {F : Nat → (Nat → Int32) → Nat → Int32} {P : Nat → Nat → Nat → Prop} : ∀ {n : Nat}, (∀ k, k < n → ∀ g i j, (qb (F k g i) j = true ↔ qb (g i) j = true ∨ P k i j)) → ∀ g i j, qb (lp F n g i) j = true ↔ qb (g i) j = true ∨ ∃ k, k < n ∧ P k i j
  | 0, _, g, i, j => ⟨Or.inl, fun h => h.elim id (fun ⟨k, hk, _⟩ => absurd hk (Nat.not_lt_zero k))⟩
  | n + 1, h, g, i, j => by
    show qb (F n (lp F n g) i) j = true ↔ _
    rw [h n (by omega), lp_bits (fun k hk => h k (by omega)) g i j]
    constructor
    · rintro ((h1 | ⟨k, hk, h1⟩) | h1)
      · exact Or.inl h1
      · exact Or.inr ⟨k, by omega, h1⟩
      · exact Or.inr ⟨n, by omega, h1⟩
    · rintro (h1 | ⟨k, hk, h1⟩)
      · exact Or.inl (Or.inl h1)
      · by_cases q : k = n
        · subst q; exact Or.inr h1
        · exact Or.inl (Or.inr ⟨k, by omega, h1⟩)
/-- an int of bits that steps add to -/
theorem lp_bit {F : Nat → Int32 → Int32} {P : Nat → Nat → Prop} : ∀ {n : Nat}, (∀ k, k < n → ∀ g j, (qb (F k g) j = true ↔ qb g j = true ∨ P k j)) → ∀ g j, qb (lp F n g) j = true ↔ qb g j = true ∨ ∃ k, k < n ∧ P k j
  | 0, _, g, j => ⟨Or.inl, fun h => h.elim id (fun ⟨k, hk, _⟩ => absurd hk (Nat.not_lt_zero k))⟩
  | n + 1, h, g, j => by
    show qb (F n (lp F n g)) j = true ↔ _
    rw [h n (by omega), lp_bit (fun k hk => h k (by omega)) g j]
    constructor
    · rintro ((h1 | ⟨k, hk, h1⟩) | h1)
      · exact Or.inl h1
      · exact Or.inr ⟨k, by omega, h1⟩
      · exact Or.inr ⟨n, by omega, h1⟩
    · rintro (h1 | ⟨k, hk, h1⟩)
      · exact Or.inl (Or.inl h1)
      · by_cases q : k = n
        · subst q; exact Or.inr h1
        · exact Or.inl (Or.inr ⟨k, by omega, h1⟩)
