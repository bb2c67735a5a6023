/-! the ring that is told: class and reference -/
/-- n is the least size of a ring with t -/
def isRl (S : Nat → Nat → Bool) (t n : Nat) : Prop := 1 ≤ n ∧ wk S n t t = true ∧ ∀ j, 1 ≤ j → j < n → wk S j t t = false
theorem isRl_u {S : Nat → Nat → Bool} {t n m : Nat} (h : isRl S t n) (h2 : isRl S t m) : n = m := by
  rcases Nat.lt_trichotomy n m with q | q | q
  · have := h2.2.2 n h.1 q
    rw [h.2.1] at this; cases this
  · exact q
  · have := h.2.2 m h2.1 q
    rw [h2.2.1] at this; cases this
theorem rz_le (S : Nat → Nat → Bool) (t : Nat) : ∀ n, (∀ d, d < n → S t d = true → lp (bRz S t) n 99 ≤ dst S t d + 1) ∧ (lp (bRz S t) n 99 = 99 ∨ ∃ d, d < n ∧ S t d = true ∧ lp (bRz S t) n 99 = dst S t d + 1)
  | 0 => ⟨fun d hd => absurd hd (Nat.not_lt_zero d), Or.inl rfl⟩
  | n + 1 => by
    obtain ⟨a, b⟩ := rz_le S t n
    show (∀ d, d < n + 1 → S t d = true → bRz S t n (lp (bRz S t) n 99) ≤ _) ∧ (bRz S t n (lp (bRz S t) n 99) = 99 ∨ ∃ d, d < n + 1 ∧ S t d = true ∧ bRz S t n (lp (bRz S t) n 99) = _)
    generalize lp (bRz S t) n 99 = r at a b
    unfold bRz
    by_cases q : S t n = true
    · rw [if_pos q]
      by_cases p : r ≤ dst S t n + 1
      · rw [if_pos p]
        refine ⟨fun d hd h => ?_, ?_⟩
        · by_cases e : d = n
          · rw [e]; exact p
          · exact a d (by omega) h
        · rcases b with b | ⟨d, hd, b1, b2⟩
          · exact Or.inl b
          · exact Or.inr ⟨d, by omega, b1, b2⟩
      · rw [if_neg p]
        refine ⟨fun d hd h => ?_, Or.inr ⟨n, by omega, q, rfl⟩⟩
        by_cases e : d = n
        · rw [e]; exact Nat.le_refl _
        · have := a d (by omega) h
          omega
    · rw [if_neg q]
      refine ⟨fun d hd h => ?_, ?_⟩
      · by_cases e : d = n
        · rw [e] at h; exact absurd h q
        · exact a d (by omega) h
      · rcases b with b | ⟨d, hd, b1, b2⟩
        · exact Or.inl b
        · exact Or.inr ⟨d, by omega, b1, b2⟩
theorem rsz_ring {S : Nat → Nat → Bool} {t n : Nat} (ht : t < 32) (h : wk S (n + 1) t t = true) : isRl S t (rsz S t) ∧ rsz S t ≤ 32 ∧ rsz S t ≤ n + 1 := by
  obtain ⟨a, b⟩ := rz_le S t 32
  have a : ∀ d, d < 32 → S t d = true → rsz S t ≤ dst S t d + 1 := a
  have b : rsz S t = 99 ∨ ∃ d, d < 32 ∧ S t d = true ∧ rsz S t = dst S t d + 1 := b
  have up : ∀ k, wk S (k + 1) t t = true → rsz S t ≤ k + 1 ∧ rsz S t ≤ 32 := by
    intro k hk
    obtain ⟨m, hm, e, h3⟩ := wk_s.mp hk
    have := dst_31 hm h3
    have := a m hm e
    omega
  have h32 := (up n h).2
  rcases b with b | ⟨d, hd, e, b⟩
  · omega
  · refine ⟨⟨by omega, ?_, ?_⟩, h32, (up n h).1⟩
    · rw [b]
      exact wk_s.mpr ⟨d, hd, e, dst_wk (by omega)⟩
    · intro j hj hj2
      cases q : wk S j t t
      · rfl
      · have := (up (j - 1) (by rw [show j - 1 + 1 = j by omega]; exact q)).1
        omega
theorem rsz_none {S : Nat → Nat → Bool} {t : Nat} (h : ∀ n, wk S (n + 1) t t = false) : rsz S t = 99 := by
  obtain ⟨a, b⟩ := rz_le S t 32
  rcases b with b | ⟨d, hd, e, b⟩
  · exact b
  · have hle := rz_99 S t 32
    have := h (dst S t d)
    rw [wk_s.mpr ⟨d, hd, e, dst_wk (by omega)⟩] at this
    cases this
/-! the class's search -/
theorem qb_before {f : Nat → Int32} {set : Int32} {i : Nat} (hi : i < 32) : qb (fBefore f set) i = true ↔ ∃ m, m < 32 ∧ qb (f i) m = true ∧ qb set m = true := by
  unfold fBefore
  rw [lp_bit (P := fun k j => j = k ∧ ∃ m, m < 32 ∧ qb (f k) m = true ∧ qb set m = true)]
  · rw [qb_0]
    constructor
    · rintro (h | ⟨k, hk, rfl, h⟩)
      · cases h
      · exact h
    · intro h
      exact Or.inr ⟨i, hi, rfl, h⟩
  · intro k hk g j
    unfold bBefore
    by_cases q : f k &&& set = 0
    · rw [if_pos q]
      constructor
      · exact Or.inl
      · rintro (h | ⟨_, h⟩)
        · exact h
        · exact absurd q (and_ne.mpr h)
    · rw [if_neg q, qb_or, qb_bit1 hk, Bool.or_eq_true, decide_eq_true_iff]
      constructor
      · rintro (h | h)
        · exact Or.inl h
        · exact Or.inr ⟨h.symm, and_ne.mp q⟩
      · rintro (h | ⟨h, _⟩)
        · exact Or.inl h
        · exact Or.inr h.symm
/-- the steps that rows of bits tell -/
def qS (f : Nat → Int32) (i j : Nat) : Bool := qb (f i) j
def twOk (f : Nat → Int32) (t s : Nat) (g : Nat → Int32) : Prop := ∀ k, k < s → ∀ i, i < 32 → qb (g k) i = wk (qS f) k i t
theorem tw_next {f g : Nat → Int32} {t s : Nat} (hs : 1 ≤ s) (h : twOk f t s g) : twOk f t (s + 1) (upd g s (fBefore f (g (s - 1)))) := by
  intro k hk i hi
  by_cases e : k = s
  · subst e
    rw [pk_us]
    obtain ⟨k', rfl⟩ : ∃ k', k = k' + 1 := ⟨k - 1, by omega⟩
    rw [Bool.eq_iff_iff, qb_before hi, wk_s]
    rw [show k' + 1 - 1 = k' by omega]
    constructor
    · rintro ⟨m, hm, a, b⟩
      rw [h k' (by omega) m hm] at b
      exact ⟨m, hm, a, b⟩
    · rintro ⟨m, hm, a, b⟩
      exact ⟨m, hm, a, by rw [h k' (by omega) m hm]; exact b⟩
  · rw [pk_un e]
    exact h k (by omega) i hi
theorem fShF_ok {f : Nat → Int32} {t : Nat} (ht : t < 32) : ∀ (n s : Nat) (g : Nat → Int32), 1 ≤ s → s + n = 33 → twOk f t s g → (∀ j, 1 ≤ j → j < s → wk (qS f) j t t = false) →
    (∃ r, 1 ≤ r ∧ r ≤ 32 ∧ (fShF f (nI t) n s g).1 = nI r ∧ isRl (qS f) t r ∧ twOk f t (r + 1) (fShF f (nI t) n s g).2) ∨ ((fShF f (nI t) n s g).1 = 33 ∧ ∀ j, 1 ≤ j → j ≤ 32 → wk (qS f) j t t = false)
  | 0, s, g, hs, e, h, hl => Or.inr ⟨rfl, fun j h1 h2 => hl j h1 (by omega)⟩
  | n + 1, s, g, hs, e, h, hl => by
    have hn := tw_next hs h
    unfold fShF
    by_cases q : bitAt (upd g s (fBefore f (g (s - 1))) s) (nI t) = 0
    · rw [if_pos q]
      refine fShF_ok ht n (s + 1) _ (by omega) (by omega) hn ?_
      intro j h1 h2
      by_cases e2 : j = s
      · subst e2
        rw [bitAt_eq ht, hn j (by omega) t ht] at q
        exact q
      · exact hl j h1 (by omega)
    · rw [if_neg q]
      rw [bitAt_ne ht, hn s (by omega) t ht] at q
      exact Or.inl ⟨s, hs, by omega, rfl, ⟨hs, q, hl⟩, hn⟩
theorem tw_0 {f g : Nat → Int32} {t : Nat} (ht : t < 32) : twOk f t 1 (upd g 0 (bit1 (nI t))) := by
  intro k hk i hi
  rw [show k = 0 by omega, pk_us, qb_bit1 ht]
  show decide (t = i) = decide (i = t)
  by_cases q : t = i
  · rw [decide_eq_true q, decide_eq_true q.symm]
  · rw [decide_eq_false q, decide_eq_false (fun e => q e.symm)]
/-- what the class knows when its rows are closed -/
def clOk (f l : Nat → Int32) : Prop := ∀ i j, i < 32 → j < 32 → qb (l i) j = wq (qS f) 32 i j
theorem fSh_ok {hp : mm_Hp} {t : Nat} (ht : t < 32) (hc : clOk (hp.1 16) (hp.1 17)) :
    (∃ r, 1 ≤ r ∧ r ≤ 32 ∧ (fSh (nI t) hp).1 = nI r ∧ isRl (qS (hp.1 16)) t r ∧ twOk (hp.1 16) t (r + 1) (fSh (nI t) hp).2 ∧ rsz (qS (hp.1 16)) t = r) ∨ ((fSh (nI t) hp).1 = 33 ∧ (∀ n, wk (qS (hp.1 16)) (n + 1) t t = false) ∧ rsz (qS (hp.1 16)) t = 99) := by
  unfold fSh
  have ec : (nI t).toNatClampNeg = t := nI_clamp (by omega)
  rw [ec]
  by_cases q : bitAt (hp.1 17 t) (nI t) = 0
  · rw [if_pos q]
    rw [bitAt_eq ht, hc t t ht ht] at q
    have hn : ∀ n, wk (qS (hp.1 16)) (n + 1) t t = false := by
      intro n
      cases e : wk (qS (hp.1 16)) (n + 1) t t
      · rfl
      · rw [wk_wq ht e] at q; cases q
    exact Or.inr ⟨rfl, hn, rsz_none hn⟩
  · rw [if_neg q]
    rw [bitAt_ne ht, hc t t ht ht] at q
    obtain ⟨n, hn⟩ := wq_wk (Nat.le_refl _) ht q
    have hr := rsz_ring ht hn
    rcases fShF_ok (f := hp.1 16) ht 32 1 _ (Nat.le_refl _) rfl (tw_0 (g := hp.1 18) ht) (fun j h1 h2 => by omega) with ⟨r, h1, h2, h3, h4, h5⟩ | ⟨h1, h2⟩
    · exact Or.inl ⟨r, h1, h2, h3, h4, h5, isRl_u hr.1 h4⟩
    · have := h2 _ hr.1.1 hr.2.1
      rw [hr.1.2.1] at this
      cases this
/-! choosing the lowest -/
theorem fLowF_eq (set : Int32) (p : Nat → Bool) : ∀ (n k : Nat), k + n = 32 → (∀ d, d < 32 → p d = qb set d) → fLowF set n k = if fnd p n k = 32 then -1 else nI (fnd p n k)
  | 0, k, e, h => by
    rw [show k = 32 by omega]
    rfl
  | n + 1, k, e, h => by
    unfold fLowF fnd
    by_cases q : bitAt set (nI k) = 0
    · rw [if_pos q]
      rw [bitAt_eq (by omega), ← h k (by omega)] at q
      have hq : ¬ p k = true := by rw [q]; exact Bool.false_ne_true
      rw [if_neg hq]
      exact fLowF_eq set p n (k + 1) (by omega) h
    · rw [if_neg q]
      rw [bitAt_ne (by omega), ← h k (by omega)] at q
      rw [if_pos q, if_neg (by omega)]
theorem fnd_same {p r : Nat → Bool} : ∀ {n k : Nat}, (∀ d, k ≤ d → d < k + n → p d = r d) → fnd p n k = fnd r n k
  | 0, k, h => rfl
  | n + 1, k, h => by
    unfold fnd
    rw [h k (by omega) (by omega), fnd_same (fun d h1 h2 => h d (by omega) (by omega))]
/-- the ring's places: in reach from the first and home in time -/
theorem rg_ok {S : Nat → Nat → Bool} {b t : Nat} (ht : t < 32) (h : isRl S t b) (hb : b ≤ 32) : ∀ k, k < b → rgM S b t k < 32 ∧ wk S k t (rgM S b t k) = true ∧ wk S (b - k) (rgM S b t k) t = true ∧ (∀ d, d < 32 → (S (rgM S b t k) d && decide (dst S t d = b - (k + 1))) = (S (rgM S b t k) d && wk S (b - (k + 1)) d t))
  | 0, hk => by
    have a : wk S 0 t (rgM S b t 0) = true := wk_0.mpr rfl
    have c : wk S (b - 0) (rgM S b t 0) t = true := h.2.1
    exact ⟨ht, a, c, rg_same ht h hb ht hk a⟩
  | k + 1, hk => by
    obtain ⟨i1, i2, i3, i4⟩ := rg_ok ht h hb k (by omega)
    rw [show b - k = (b - (k + 1)) + 1 by omega] at i3
    obtain ⟨m, hm, e, h3⟩ := wk_s.mp i3
    have hp : (S (rgM S b t k) m && decide (dst S t m = b - (k + 1))) = true := by
      rw [i4 m hm, e, h3]; rfl
    have hlt : rgM S b t (k + 1) < 32 := by
      show fnd _ 32 0 < 32
      rcases fnd_le (p := fun d => S (rgM S b t k) d && decide (dst S t d = b - (k + 1))) (n := 32) (i := 0) (k := m) (by omega) hp with q | q
      · omega
      · exfalso
        have := fnd_no (p := fun d => S (rgM S b t k) d && decide (dst S t d = b - (k + 1))) (n := 32) (i := 0) q m (by omega) (by omega)
        rw [hp] at this
        cases this
    have hat : (S (rgM S b t k) (rgM S b t (k + 1)) && decide (dst S t (rgM S b t (k + 1)) = b - (k + 1))) = true := fnd_at (p := fun d => S (rgM S b t k) d && decide (dst S t d = b - (k + 1))) (n := 32) (i := 0) (by show rgM S b t (k + 1) < 0 + 32; omega)
    rw [i4 _ hlt, Bool.and_eq_true] at hat
    have a : wk S (k + 1) t (rgM S b t (k + 1)) = true := wk_end i2 i1 hat.1 hlt
    exact ⟨hlt, a, hat.2, rg_same ht h hb hlt hk a⟩
where
  rg_same {S : Nat → Nat → Bool} {b t k c : Nat} (ht : t < 32) (h : isRl S t b) (hb : b ≤ 32) (hc : c < 32) (hk : k < b) (a : wk S k t c = true) : ∀ d, d < 32 → (S c d && decide (dst S t d = b - (k + 1))) = (S c d && wk S (b - (k + 1)) d t) := by
    intro d hd
    cases e : S c d
    · rfl
    · rw [Bool.true_and, Bool.true_and, Bool.eq_iff_iff, decide_eq_true_iff]
      constructor
      · intro q
        rw [← q]
        exact dst_wk (by omega)
      · intro q
        have := dst_31 hd q
        rcases Nat.lt_or_ge (dst S t d) (b - (k + 1)) with r | r
        · have w := wk_add (wk_end a hc e hd) (dst_wk (St := S) (t := t) (d := d) (by omega))
          have := h.2.2 (k + 1 + dst S t d) (by omega) (by omega)
          rw [w] at this
          cases this
        · omega
  fnd_no {p : Nat → Bool} : ∀ {n i : Nat}, fnd p n i = i + n → ∀ d, i ≤ d → d < i + n → p d = false
  | 0, i, _, d, h1, h2 => by omega
  | n + 1, i, h, d, h1, h2 => by
    unfold fnd at h
    by_cases q : p i = true
    · rw [if_pos q] at h; omega
    · rw [if_neg q] at h
      by_cases e : d = i
      · rw [e]; exact eq_false_of_ne_true q
      · exact fnd_no (n := n) (i := i + 1) (by omega) d (by omega) (by omega)
theorem fTell_ok {f tw : Nat → Int32} {b t : Nat} (ht : t < 32) (h : isRl (qS f) t b) (hb : b ≤ 32) (htw : twOk f t (b + 1) tw) : ∀ (n k : Nat) (d : Int32) (g : Nat → Int32), n + k = b → (0 < n → d = nI (rgM (qS f) b t k)) → (∀ j, j < k → g j = nI (rgM (qS f) b t j)) → (fTell f tw n d k g).1 = b ∧ ∀ j, j < b → (fTell f tw n d k g).2 j = nI (rgM (qS f) b t j)
  | 0, k, d, g, e, hd, hg => by
    refine ⟨?_, fun j hj => hg j (by omega)⟩
    show k = b
    omega
  | n + 1, k, d, g, e, hd, hg => by
    have hd := hd (by omega)
    obtain ⟨i1, i2, i3, i4⟩ := rg_ok ht h hb k (by omega)
    unfold fTell
    have hne : ¬ d = -1 := by
      rw [hd]
      intro q
      have := congrArg Int32.toInt q
      rw [nI_toInt (by omega)] at this
      have e2 : Int32.toInt (-1) = -1 := by decide
      omega
    rw [if_neg hne]
    have ec : d.toNatClampNeg = rgM (qS f) b t k := by rw [hd]; exact nI_clamp (by omega)
    rw [ec]
    refine fTell_ok ht h hb htw n (k + 1) _ _ (by omega) ?_ ?_
    · intro hn
      have hlt := (rg_ok ht h hb (k + 1) (by omega)).1
      unfold fLow
      rw [fLowF_eq _ (fun d => qS f (rgM (qS f) b t k) d && decide (dst (qS f) t d = b - (k + 1))) 32 0 rfl]
      · show (if rgM (qS f) b t (k + 1) = 32 then (-1 : Int32) else nI (rgM (qS f) b t (k + 1))) = _
        rw [if_neg (by omega)]
      · intro d hd
        show (qS f (rgM (qS f) b t k) d && decide (dst (qS f) t d = b - (k + 1))) = _
        rw [i4 d hd, qb_and, htw n (by omega) d hd, show b - (k + 1) = n by omega]
        rfl
    · intro j hj
      by_cases e2 : j = k
      · rw [e2, pk_us, hd]
      · rw [pk_un e2]
        exact hg j (by omega)
