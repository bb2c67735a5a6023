/-! fractions in least terms, and numbers of set bits -/
theorem eucl_ok : ∀ (k n A B : Nat), B < 2 ^ k → 2 * k ≤ n → k ≤ 31 → A < 2 ^ 31 → eucl n (nI A) (nI B) = nI (Nat.gcd A B)
  | 0, n, A, B, h, _, _, _ => by
    rw [show B = 0 by omega, nI_0, eucl_0, Nat.gcd_zero_right]
  | k + 1, n, A, B, h, hn, hk, hA => by
    have h31 : 2 ^ (k + 1) ≤ 2 ^ 31 := Nat.pow_le_pow_right (by omega) hk
    rcases Nat.eq_zero_or_pos B with e | e
    · rw [e, nI_0, eucl_0, Nat.gcd_zero_right]
    · obtain ⟨n', rfl⟩ : ∃ n', n = n' + 2 := ⟨n - 2, by omega⟩
      have hR : A % B < B := Nat.mod_lt _ e
      unfold eucl
      rw [if_neg (nI_ne0 e (by omega)), pk_rem hA e (by omega)]
      rcases Nat.eq_zero_or_pos (A % B) with r | r
      · rw [r, nI_0, eucl_0]
        rw [Nat.gcd_comm, Nat.gcd_rec, r, Nat.gcd_zero_left]
      · unfold eucl
        rw [if_neg (nI_ne0 r (by omega)), pk_rem (by omega) r (by omega)]
        have hR2 : B % (A % B) < A % B := Nat.mod_lt _ r
        have hR3 : B % (A % B) + A % B ≤ B := by
          have h1 := Nat.div_add_mod B (A % B)
          have h2 : 1 ≤ B / (A % B) := Nat.div_pos (by omega) r
          have h3 : A % B * 1 ≤ A % B * (B / (A % B)) := Nat.mul_le_mul_left _ h2
          omega
        have hp : 2 ^ (k + 1) = 2 * 2 ^ k := by rw [Nat.pow_succ, Nat.mul_comm]
        rw [eucl_ok k n' (A % B) (B % (A % B)) (by omega) (by omega) (by omega) (by omega)]
        congr 1
        rw [Nat.gcd_comm A B, Nat.gcd_rec B A, Nat.gcd_comm (A % B) (B % (A % B)), ← Nat.gcd_rec (A % B) B]
/-- an asked part of a fraction in its least terms -/
def frR (a b : Nat) (p : Int32) : Int32 := if p = 0 then nI (a / Nat.gcd a b) else nI (b / Nat.gcd a b)
theorem fLess_ok {A B : Nat} (hA : A < 2 ^ 31) (hB : B < 2 ^ 31) (p : Int32) : fLess (nI A) (nI B) p = frR A B p := by
  unfold fLess frR
  rw [eucl_ok 31 64 A B hB (by omega) (Nat.le_refl _) hA]
  rcases Nat.eq_zero_or_pos (Nat.gcd A B) with e | e
  · rw [e, nI_0, if_pos rfl, Nat.div_zero, Nat.div_zero]
    rw [Nat.eq_zero_of_gcd_eq_zero_left e, Nat.eq_zero_of_gcd_eq_zero_right e]
  · have hg : Nat.gcd A B < 2 ^ 31 := by
      rcases Nat.eq_zero_or_pos A with q | q
      · rw [q, Nat.gcd_zero_left]; exact hB
      · exact Nat.lt_of_le_of_lt (Nat.gcd_le_left B q) hA
    rw [if_neg (nI_ne0 e hg)]
    by_cases q : p = 0
    · rw [if_pos q, if_pos q, pk_div hA e hg]
    · rw [if_neg q, if_neg q, pk_div hB e hg]
theorem fLess_01 (p : Int32) : fLess 0 1 p = frR 0 1 p := fLess_ok (A := 0) (B := 1) (by omega) (by omega) p
/-! how many -/
def cnP (p : Nat → Bool) (n : Nat) : Nat := lp (fun k a => if p k = true then a + 1 else a) n 0
theorem cnP_s (p : Nat → Bool) (n : Nat) : cnP p (n + 1) = if p n = true then cnP p n + 1 else cnP p n := rfl
theorem cnP_le (p : Nat → Bool) : ∀ n, cnP p n ≤ n
  | 0 => Nat.le_refl _
  | n + 1 => by
    have := cnP_le p n
    rw [cnP_s]
    split <;> omega
theorem cnP_same {p q : Nat → Bool} : ∀ {n : Nat}, (∀ k, k < n → p k = q k) → cnP p n = cnP q n
  | 0, _ => rfl
  | n + 1, h => by rw [cnP_s, cnP_s, cnP_same (fun k hk => h k (by omega)), h n (by omega)]
theorem cnP_imp {p q : Nat → Bool} : ∀ {n : Nat}, (∀ k, k < n → p k = true → q k = true) → cnP p n ≤ cnP q n
  | 0, _ => Nat.le_refl _
  | n + 1, h => by
    have ih := cnP_imp (p := p) (q := q) (n := n) (fun k hk => h k (by omega))
    have a := h n (by omega)
    rw [cnP_s, cnP_s]
    by_cases c : p n = true
    · rw [if_pos c, if_pos (a c)]; omega
    · rw [if_neg c]; split <;> omega
/-- an int that counts -/
theorem cnP_int {f : Nat → Int32 → Int32} {p : Nat → Bool} : ∀ {n : Nat}, (∀ k a, k < n → f k a = if p k = true then a + 1 else a) → lp f n 0 = nI (cnP p n)
  | 0, _ => nI_0.symm
  | n + 1, h => by
    show f n (lp f n 0) = _
    rw [h n _ (by omega), cnP_int (fun k a hk => h k a (by omega)), cnP_s]
    split
    · rw [nI_1]
    · rfl
/-! set bits: bytes -/
theorem nI_and (a b : Nat) : nI a &&& nI b = nI (a &&& b) := by
  apply Int32.toBitVec_inj.1
  show BitVec.ofNat 32 a &&& BitVec.ofNat 32 b = BitVec.ofNat 32 (a &&& b)
  apply BitVec.eq_of_getLsbD_eq
  intro i hi
  simp [hi]
theorem and_byte {a m : Nat} (ha : a < 256) (hm : m < 256) (x M : Nat) : (a + 256 * x) &&& (m + 256 * M) = (a &&& m) + 256 * (x &&& M) := by
  have e : ∀ u v : Nat, u < 256 → u + 256 * v = 2 ^ 8 * v ||| u := fun u v hu => by
    rw [Nat.two_pow_add_eq_or_of_lt (i := 8) hu v |>.symm]; omega
  have hlt : a &&& m < 256 := Nat.lt_of_le_of_lt Nat.and_le_left ha
  rw [e a x ha, e m M hm, e _ _ hlt]
  apply Nat.eq_of_testBit_eq
  intro i
  rw [Nat.testBit_and, Nat.testBit_or, Nat.testBit_or, Nat.testBit_or, Nat.testBit_two_pow_mul, Nat.testBit_two_pow_mul, Nat.testBit_two_pow_mul, Nat.testBit_and, Nat.testBit_and]
  by_cases q : 8 ≤ i
  · have h8 : 256 ≤ 2 ^ i := Nat.pow_le_pow_right (n := 2) (i := 8) (by omega) q
    have z1 : a.testBit i = false := Nat.testBit_lt_two_pow (Nat.lt_of_lt_of_le ha h8)
    have z2 : m.testBit i = false := Nat.testBit_lt_two_pow (Nat.lt_of_lt_of_le hm h8)
    simp [q, z1, z2]
  · simp [q]
/-- four bytes -/
def by4 (a b c d : Nat) : Nat := a + 256 * (b + 256 * (c + 256 * d))
theorem by4_of {X : Nat} (h : X < 2 ^ 32) : ∃ a b c d, a < 256 ∧ b < 256 ∧ c < 256 ∧ d < 256 ∧ X = by4 a b c d := by
  refine ⟨X % 256, X / 256 % 256, X / 65536 % 256, X / 16777216, by omega, by omega, by omega, by omega, ?_⟩
  unfold by4
  omega
theorem by4_and {a b c d m1 m2 m3 m4 : Nat} (ha : a < 256) (hb : b < 256) (hc : c < 256) (h1 : m1 < 256) (h2 : m2 < 256) (h3 : m3 < 256) : by4 a b c d &&& by4 m1 m2 m3 m4 = by4 (a &&& m1) (b &&& m2) (c &&& m3) (d &&& m4) := by
  unfold by4
  rw [and_byte ha h1, and_byte hb h2, and_byte hc h3]
/-- what the four bytes become -/
theorem pc_1 : ∀ a, a < 256 → ∀ e, e < 2 → (a / 2 + 128 * e) &&& 85 = (a / 2) &&& 85 := by decide +kernel
theorem pc_1l : ∀ a, a < 256 → (a / 2) &&& 85 ≤ a := by decide +kernel
theorem pc_2 : ∀ a, a < 256 → ∀ e, e < 4 → (a / 4 + 64 * e) &&& 51 = (a / 4) &&& 51 := by decide +kernel
def pc1 (a : Nat) : Nat := a - ((a / 2) &&& 85)
def pc2 (a : Nat) : Nat := (a &&& 51) + ((a / 4) &&& 51)
theorem pc1_lt : ∀ a, a < 256 → pc1 a < 256 := by decide +kernel
theorem pc2_nib : ∀ a, a < 256 → pc2 (pc1 a) % 16 ≤ 4 ∧ pc2 (pc1 a) / 16 ≤ 4 := by decide +kernel
theorem and_15 : ∀ a, a < 256 → a &&& 15 = a % 16 := by decide +kernel
theorem and_63 : ∀ a, a < 256 → a &&& 63 = a % 64 := by decide +kernel
/-- the set bits of a byte -/
def pcB (a : Nat) : Nat := pc2 (pc1 a) % 16 + pc2 (pc1 a) / 16
theorem pcB_cn : ∀ a, a < 256 → pcB a = cnP (fun i => a.testBit i) 8 := by decide +kernel
theorem ush_nI {X n : Nat} (hX : X < 2 ^ 32) (hn : n < 32) : ush (nI X) (nI n) = nI (X / 2 ^ n) := pk_ushrN hX (nI n) n (qb_su n hn)
theorem by4_lt {a b c d : Nat} (ha : a < 256) (hb : b < 256) (hc : c < 256) (hd : d < 256) : by4 a b c d < 2 ^ 32 := by
  unfold by4; omega
theorem fBC_1 {a b c d : Nat} (ha : a < 256) (hb : b < 256) (hc : c < 256) (hd : d < 256) : bc1 (nI (by4 a b c d)) = nI (by4 (pc1 a) (pc1 b) (pc1 c) (pc1 d)) := by
  unfold bc1
  rw [show (1 : Int32) = nI 1 from rfl, ush_nI (by4_lt ha hb hc hd) (by omega), show (1431655765 : Int32) = nI (by4 85 85 85 85) from rfl, nI_and]
  have e : by4 a b c d / 2 ^ 1 = by4 (a / 2 + 128 * (b % 2)) (b / 2 + 128 * (c % 2)) (c / 2 + 128 * (d % 2)) (d / 2 + 128 * 0) := by
    unfold by4; omega
  rw [e, by4_and (by omega) (by omega) (by omega) (by omega) (by omega) (by omega), pc_1 a ha _ (by omega), pc_1 b hb _ (by omega), pc_1 c hc _ (by omega), pc_1 d hd 0 (by omega)]
  have l1 := pc_1l a ha
  have l2 := pc_1l b hb
  have l3 := pc_1l c hc
  have l4 := pc_1l d hd
  rw [pk_sub (by unfold by4; omega)]
  congr 1
  unfold by4 pc1
  omega
theorem fBC_2 {a b c d : Nat} (ha : a < 256) (hb : b < 256) (hc : c < 256) (hd : d < 256) : bc2 (nI (by4 a b c d)) = nI (by4 (pc2 a) (pc2 b) (pc2 c) (pc2 d)) := by
  unfold bc2
  rw [show (2 : Int32) = nI 2 from rfl, ush_nI (by4_lt ha hb hc hd) (by omega), show (858993459 : Int32) = nI (by4 51 51 51 51) from rfl, nI_and, nI_and]
  have e : by4 a b c d / 2 ^ 2 = by4 (a / 4 + 64 * (b % 4)) (b / 4 + 64 * (c % 4)) (c / 4 + 64 * (d % 4)) (d / 4 + 64 * 0) := by
    unfold by4; omega
  rw [e, by4_and (by omega) (by omega) (by omega) (by omega) (by omega) (by omega), by4_and (by omega) (by omega) (by omega) (by omega) (by omega) (by omega), pc_2 a ha _ (by omega), pc_2 b hb _ (by omega), pc_2 c hc _ (by omega), pc_2 d hd 0 (by omega), nI_add]
  congr 1
  unfold by4 pc2
  omega
theorem md16 {u : Nat} (v : Nat) (h : u < 16) : (u + 16 * v) % 16 = u := by omega
theorem nib_lt {a : Nat} (h : a % 16 ≤ 4 ∧ a / 16 ≤ 4) : a ≤ 68 := by omega
theorem fBC_3 {a b c d : Nat} (ha : a % 16 ≤ 4 ∧ a / 16 ≤ 4) (hb : b % 16 ≤ 4 ∧ b / 16 ≤ 4) (hc : c % 16 ≤ 4 ∧ c / 16 ≤ 4) (hd : d % 16 ≤ 4 ∧ d / 16 ≤ 4) : bc3 (nI (by4 a b c d)) = nI (by4 (a % 16 + a / 16) (b % 16 + b / 16) (c % 16 + c / 16) (d % 16 + d / 16)) := by
  unfold bc3
  rw [show (4 : Int32) = nI 4 from rfl, ush_nI (by4_lt (by omega) (by omega) (by omega) (by omega)) (by omega), nI_add, show (252645135 : Int32) = nI (by4 15 15 15 15) from rfl, nI_and]
  have e : by4 a b c d + by4 a b c d / 2 ^ 4 = by4 ((a % 16 + a / 16) + 16 * (a / 16 + b % 16)) ((b % 16 + b / 16) + 16 * (b / 16 + c % 16)) ((c % 16 + c / 16) + 16 * (c / 16 + d % 16)) ((d % 16 + d / 16) + 16 * (d / 16)) := by
    unfold by4; omega
  rw [e, by4_and (by omega) (by omega) (by omega) (by omega) (by omega) (by omega), and_15 _ (by omega), and_15 _ (by omega), and_15 _ (by omega), and_15 _ (by omega), md16 _ (by omega), md16 _ (by omega), md16 _ (by omega), md16 _ (by omega)]
theorem fBC_4 {a b c d : Nat} (ha : a ≤ 8) (hb : b ≤ 8) (hc : c ≤ 8) (hd : d ≤ 8) : bc5 (bc4 (nI (by4 a b c d))) &&& 63 = nI (a + b + c + d) := by
  have e4 : bc4 (nI (by4 a b c d)) = nI (by4 (a + b) (b + c) (c + d) d) := by
    unfold bc4
    rw [show (8 : Int32) = nI 8 from rfl, ush_nI (by4_lt (by omega) (by omega) (by omega) (by omega)) (by omega), nI_add]
    congr 1
    unfold by4; omega
  have e5 : bc5 (nI (by4 (a + b) (b + c) (c + d) d)) = nI (by4 (a + b + (c + d)) (b + c + d) (c + d) d) := by
    unfold bc5
    rw [show (16 : Int32) = nI 16 from rfl, ush_nI (by4_lt (by omega) (by omega) (by omega) (by omega)) (by omega), nI_add]
    congr 1
    unfold by4; omega
  rw [e4, e5, show (63 : Int32) = nI (by4 63 0 0 0) from rfl, nI_and, by4_and (by omega) (by omega) (by omega) (by omega) (by omega) (by omega), and_63 _ (by omega)]
  congr 1
  unfold by4
  rw [Nat.and_zero, Nat.and_zero, Nat.and_zero]
  omega
theorem pcB_le : ∀ a, a < 256 → pcB a ≤ 8 := by decide +kernel
theorem fBC_by {a b c d : Nat} (ha : a < 256) (hb : b < 256) (hc : c < 256) (hd : d < 256) : fBC (nI (by4 a b c d)) = nI (pcB a + pcB b + pcB c + pcB d) := by
  unfold fBC
  rw [fBC_1 ha hb hc hd, fBC_2 (pc1_lt a ha) (pc1_lt b hb) (pc1_lt c hc) (pc1_lt d hd), fBC_3 (pc2_nib a ha) (pc2_nib b hb) (pc2_nib c hc) (pc2_nib d hd)]
  exact fBC_4 (pcB_le a ha) (pcB_le b hb) (pcB_le c hc) (pcB_le d hd)
theorem cnP_add (p : Nat → Bool) (m : Nat) : ∀ n, cnP p (m + n) = cnP p m + cnP (fun k => p (m + k)) n
  | 0 => rfl
  | n + 1 => by
    rw [show m + (n + 1) = (m + n) + 1 by omega, cnP_s, cnP_s, cnP_add p m n]
    by_cases c : p (m + n) = true
    · rw [if_pos c, if_pos c]; omega
    · rw [if_neg c, if_neg c]
theorem bit_by {a : Nat} (ha : a < 256) (x i : Nat) : (a + 256 * x).testBit i = if i < 8 then a.testBit i else x.testBit (i - 8) := by
  rw [show a + 256 * x = 2 ^ 8 * x ||| a by rw [Nat.two_pow_add_eq_or_of_lt (i := 8) ha x |>.symm]; omega, Nat.testBit_or, Nat.testBit_two_pow_mul]
  by_cases q : 8 ≤ i
  · have h8 : 256 ≤ 2 ^ i := Nat.pow_le_pow_right (n := 2) (i := 8) (by omega) q
    have z1 : a.testBit i = false := Nat.testBit_lt_two_pow (Nat.lt_of_lt_of_le ha h8)
    rw [z1, if_neg (by omega)]
    simp [q]
  · rw [if_pos (by omega)]
    simp [q]
theorem cn_by {a b c d : Nat} (ha : a < 256) (hb : b < 256) (hc : c < 256) (hd : d < 256) : cnP (fun i => (by4 a b c d).testBit i) 32 = pcB a + pcB b + pcB c + pcB d := by
  rw [show 32 = 8 + (8 + (8 + 8)) from rfl, cnP_add, cnP_add, cnP_add, pcB_cn a ha, pcB_cn b hb, pcB_cn c hc, pcB_cn d hd]
  unfold by4
  have f1 : cnP (fun i => (a + 256 * (b + 256 * (c + 256 * d))).testBit i) 8 = cnP (fun i => a.testBit i) 8 := cnP_same (fun k hk => by show Nat.testBit _ k = _; rw [bit_by ha, if_pos hk])
  have f2 : cnP (fun k => (a + 256 * (b + 256 * (c + 256 * d))).testBit (8 + k)) 8 = cnP (fun i => b.testBit i) 8 := cnP_same (fun k hk => by
    show Nat.testBit _ (8 + k) = _
    rw [bit_by ha, if_neg (by omega), show 8 + k - 8 = k by omega, bit_by hb, if_pos hk])
  have f3 : cnP (fun k => (a + 256 * (b + 256 * (c + 256 * d))).testBit (8 + (8 + k))) 8 = cnP (fun i => c.testBit i) 8 := cnP_same (fun k hk => by
    show Nat.testBit _ (8 + (8 + k)) = _
    rw [bit_by ha, if_neg (by omega), show 8 + (8 + k) - 8 = 8 + k by omega, bit_by hb, if_neg (by omega), show 8 + k - 8 = k by omega, bit_by hc, if_pos hk])
  have f4 : cnP (fun k => (a + 256 * (b + 256 * (c + 256 * d))).testBit (8 + (8 + (8 + k)))) 8 = cnP (fun i => d.testBit i) 8 := cnP_same (fun k hk => by
    show Nat.testBit _ (8 + (8 + (8 + k))) = _
    rw [bit_by ha, if_neg (by omega), show 8 + (8 + (8 + k)) - 8 = 8 + (8 + k) by omega, bit_by hb, if_neg (by omega), show 8 + (8 + k) - 8 = 8 + k by omega, bit_by hc, if_neg (by omega), show 8 + k - 8 = k by omega])
  rw [f1, f2, f3, f4]
  omega
/-- bitCount counts the set bits -/
theorem fBC_ok (x : Int32) : fBC x = nI (cnP (qb x) 32) := by
  have hX : x.toBitVec.toNat < 2 ^ 32 := x.toBitVec.isLt
  have ex : x = nI x.toBitVec.toNat := by
    apply Int32.toBitVec_inj.1
    show x.toBitVec = BitVec.ofNat 32 x.toBitVec.toNat
    simp
  have eb : ∀ i, qb x i = x.toBitVec.toNat.testBit i := fun i => rfl
  have ec : cnP (qb x) 32 = cnP (fun i => x.toBitVec.toNat.testBit i) 32 := cnP_same (fun k _ => eb k)
  rw [ec]
  obtain ⟨a, b, c, d, ha, hb, hc, hd, e⟩ := by4_of hX
  rw [e] at ex ⊢
  rw [ex, fBC_by ha hb hc hd]
  rw [cn_by ha hb hc hd]
