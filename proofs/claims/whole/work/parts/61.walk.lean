/-! walks, the closure by middles, and that a short closed walk is enough -/
theorem wk_add {St : Nat → Nat → Bool} : ∀ {a b i m j : Nat}, wk St a i m = true → wk St b m j = true → wk St (a + b) i j = true
  | 0, b, i, m, j, h1, h2 => by rw [wk_0.mp h1, Nat.zero_add]; exact h2
  | a + 1, b, i, m, j, h1, h2 => by
    obtain ⟨k, hk, e, h3⟩ := wk_s.mp h1
    rw [show a + 1 + b = (a + b) + 1 by omega]
    exact wk_s.mpr ⟨k, hk, e, wk_add h3 h2⟩
theorem wk_end {St : Nat → Nat → Bool} : ∀ {a i m j : Nat}, wk St a i m = true → m < 32 → St m j = true → j < 32 → wk St (a + 1) i j = true := by
  intro a i m j h1 hm h2 hj
  exact wk_add h1 (wk_s.mpr ⟨j, hj, h2, wk_0.mpr rfl⟩)
def wq (S : Nat → Nat → Bool) : Nat → Nat → Nat → Bool
  | 0, i, j => S i j
  | z + 1, i, j => wq S z i j || (wq S z i z && wq S z z j)
theorem wq_s {S : Nat → Nat → Bool} {z i j : Nat} : wq S (z + 1) i j = true ↔ wq S z i j = true ∨ (wq S z i z = true ∧ wq S z z j = true) := by
  show (wq S z i j || (wq S z i z && wq S z z j)) = true ↔ _
  rw [Bool.or_eq_true, Bool.and_eq_true]
theorem wq_tr {S : Nat → Nat → Bool} : ∀ {z i m j : Nat}, m < z → wq S z i m = true → wq S z m j = true → wq S z i j = true
  | 0, i, m, j, h, _, _ => absurd h (Nat.not_lt_zero m)
  | z + 1, i, m, j, h, h1, h2 => by
    rw [wq_s] at h1 h2 ⊢
    by_cases q : m = z
    · subst q
      have a : wq S m i m = true := h1.elim id (fun h => h.1)
      have b : wq S m m j = true := h2.elim id (fun h => h.2)
      exact Or.inr ⟨a, b⟩
    · have hm : m < z := by omega
      rcases h1 with h1 | ⟨h1, h3⟩ <;> rcases h2 with h2 | ⟨h2, h4⟩
      · exact Or.inl (wq_tr hm h1 h2)
      · exact Or.inr ⟨wq_tr hm h1 h2, h4⟩
      · exact Or.inr ⟨h1, wq_tr hm h3 h2⟩
      · exact Or.inr ⟨h1, h4⟩
theorem wq_up {S : Nat → Nat → Bool} {i j : Nat} (h : S i j = true) : ∀ z, wq S z i j = true
  | 0 => h
  | z + 1 => wq_s.mpr (Or.inl (wq_up h z))
theorem wq_wk {S : Nat → Nat → Bool} : ∀ {z i j : Nat}, z ≤ 32 → j < 32 → wq S z i j = true → ∃ n, wk S (n + 1) i j = true
  | 0, i, j, _, hj, h => ⟨0, wk_s.mpr ⟨j, hj, h, wk_0.mpr rfl⟩⟩
  | z + 1, i, j, hz, hj, h => by
    rcases wq_s.mp h with h1 | ⟨h1, h2⟩
    · exact wq_wk (by omega) hj h1
    · obtain ⟨a, ha⟩ := wq_wk (by omega) (by omega) h1
      obtain ⟨b, hb⟩ := wq_wk (by omega) hj h2
      refine ⟨a + b + 1, ?_⟩
      rw [show a + b + 1 + 1 = (a + 1) + (b + 1) by omega]
      exact wk_add ha hb
theorem wk_wq {S : Nat → Nat → Bool} : ∀ {n i j : Nat}, j < 32 → wk S (n + 1) i j = true → wq S 32 i j = true
  | 0, i, j, hj, h => by
    obtain ⟨m, hm, e, h0⟩ := wk_s.mp h
    rw [wk_0.mp h0] at e
    exact wq_up e 32
  | n + 1, i, j, hj, h => by
    obtain ⟨m, hm, e, h0⟩ := wk_s.mp h
    exact wq_tr hm (wq_up e 32) (wk_wq hj h0)
/-- so many different numbers below m are at most m -/
theorem pig : ∀ {m n : Nat} {f : Nat → Nat}, (∀ i, i < n → f i < m) → (∀ i j, i < n → j < n → f i = f j → i = j) → n ≤ m
  | 0, n, f, h1, _ => by
    rcases Nat.eq_zero_or_pos n with h | h
    · omega
    · exact absurd (h1 0 h) (Nat.not_lt_zero _)
  | m + 1, 0, f, h1, h2 => Nat.zero_le _
  | m + 1, n + 1, f, h1, h2 => by
    by_cases q : ∃ k, k < n + 1 ∧ f k = m
    · obtain ⟨k, hk, e⟩ := q
      -- put the last in k's place
      have := pig (m := m) (n := n) (f := fun i => if i = k then f n else f i) (by
        intro i hi
        have a := h1 i (by omega)
        have b := h1 n (by omega)
        show (if i = k then f n else f i) < m
        split
        · rename_i c
          have : f n ≠ m := fun e2 => by
            have := h2 n k (by omega) hk (by rw [e2, e])
            omega
          omega
        · rename_i c
          have : f i ≠ m := fun e2 => c (h2 i k (by omega) hk (by rw [e2, e]))
          omega) (by
        intro i j hi hj
        show (if i = k then f n else f i) = (if j = k then f n else f j) → i = j
        split <;> split <;> intro e2
        · omega
        · have := h2 n j (by omega) (by omega) e2
          omega
        · have := h2 i n (by omega) (by omega) e2
          omega
        · exact h2 i j (by omega) (by omega) e2)
      omega
    · have := pig (m := m) (n := n + 1) (f := f) (by
        intro i hi
        have a := h1 i hi
        have : f i ≠ m := fun e => q ⟨i, hi, e⟩
        omega) h2
      omega
/-- k steps to t, and not in fewer -/
def exd (S : Nat → Nat → Bool) (t k v : Nat) : Prop := v < 32 ∧ wk S k v t = true ∧ ∀ j, j < k → wk S j v t = false
theorem exd_s {S : Nat → Nat → Bool} {t k v : Nat} (h : exd S t (k + 1) v) : ∃ w, exd S t k w := by
  obtain ⟨hv, h1, h2⟩ := h
  obtain ⟨m, hm, e, h3⟩ := wk_s.mp h1
  refine ⟨m, hm, h3, fun j hj => ?_⟩
  cases q : wk S j m t
  · rfl
  · have := h2 (j + 1) (by omega)
    rw [wk_s.mpr ⟨m, hm, e, q⟩] at this
    cases this
theorem exd_dn {S : Nat → Nat → Bool} {t : Nat} : ∀ {k v : Nat}, exd S t k v → ∀ j, j ≤ k → ∃ w, exd S t j w
  | 0, v, h, j, hj => ⟨v, by rw [show j = 0 by omega]; exact h⟩
  | k + 1, v, h, j, hj => by
    by_cases q : j = k + 1
    · exact ⟨v, by rw [q]; exact h⟩
    · obtain ⟨w, hw⟩ := exd_s h
      exact exd_dn hw j (by omega)
theorem exd_31 {S : Nat → Nat → Bool} {t k v : Nat} (h : exd S t k v) : k ≤ 31 := by
  have hf : ∀ j, ∃ w, j ≤ k → exd S t j w := by
    intro j
    by_cases q : j ≤ k
    · obtain ⟨w, hw⟩ := exd_dn h j q
      exact ⟨w, fun _ => hw⟩
    · exact ⟨0, fun h => absurd h q⟩
  have := pig (m := 32) (n := k + 1) (f := fun j => Classical.choose (hf j)) (by
    intro i hi
    exact (Classical.choose_spec (hf i) (by omega)).1) (by
    intro i j hi hj e
    have a := Classical.choose_spec (hf i) (by omega)
    have b := Classical.choose_spec (hf j) (by omega)
    have e : Classical.choose (hf i) = Classical.choose (hf j) := e
    rw [e] at a
    rcases Nat.lt_trichotomy i j with h1 | h1 | h1
    · have := b.2.2 i h1
      rw [a.2.1] at this; cases this
    · exact h1
    · have := a.2.2 j h1
      rw [b.2.1] at this; cases this)
  omega
theorem least {p : Nat → Bool} : ∀ {n : Nat}, p n = true → ∃ k, k ≤ n ∧ p k = true ∧ ∀ j, j < k → p j = false
  | 0, h => ⟨0, Nat.le_refl _, h, fun j hj => absurd hj (Nat.not_lt_zero j)⟩
  | n + 1, h => by
    cases q : (List.range (n + 1)).any p
    · refine ⟨n + 1, Nat.le_refl _, h, fun j hj => ?_⟩
      cases r : p j
      · rfl
      · have := List.any_eq_true.mpr ⟨j, List.mem_range.mpr hj, r⟩
        rw [q] at this; cases this
    · obtain ⟨j, hj, r⟩ := List.any_eq_true.mp q
      have hj := List.mem_range.mp hj
      obtain ⟨k, hk, h1, h2⟩ := leastB r (by omega : j ≤ n)
      exact ⟨k, by omega, h1, h2⟩
where leastB {p : Nat → Bool} : ∀ {n j : Nat}, p j = true → j ≤ n → ∃ k, k ≤ n ∧ p k = true ∧ ∀ j, j < k → p j = false
  | 0, j, h, hj => ⟨0, Nat.le_refl _, by rw [show j = 0 by omega] at h; exact h, fun j hj => absurd hj (Nat.not_lt_zero j)⟩
  | n + 1, j, h, hj => by
    by_cases e : j ≤ n
    · obtain ⟨k, hk, h1⟩ := leastB h e
      exact ⟨k, by omega, h1⟩
    · by_cases q : ∃ i, i ≤ n ∧ p i = true
      · obtain ⟨i, hi, r⟩ := q
        obtain ⟨k, hk, h1⟩ := leastB r hi
        exact ⟨k, by omega, h1⟩
      · refine ⟨j, by omega, h, fun i hi => ?_⟩
        cases r : p i
        · rfl
        · exact absurd ⟨i, by omega, r⟩ q
/-- a walk: one of at most 31 steps that is shortest -/
theorem wk_31 {S : Nat → Nat → Bool} {n v t : Nat} (hv : v < 32) (h : wk S n v t = true) : ∃ k, k ≤ n ∧ k ≤ 31 ∧ exd S t k v := by
  obtain ⟨k, hk, h1, h2⟩ := least (p := fun n => wk S n v t) h
  exact ⟨k, hk, exd_31 ⟨hv, h1, h2⟩, hv, h1, h2⟩
theorem dst_exd {S : Nat → Nat → Bool} {t k v : Nat} (h : exd S t k v) : dst S t v = k := by
  have a := exd_31 h
  have b := dst_le h.2.1 (by omega)
  rcases Nat.lt_or_ge (dst S t v) k with q | q
  · have := h.2.2 _ q
    rw [dst_wk (by omega)] at this
    cases this
  · omega
theorem dst_31 {S : Nat → Nat → Bool} {t v n : Nat} (hv : v < 32) (h : wk S n v t = true) : dst S t v ≤ 31 ∧ dst S t v ≤ n := by
  obtain ⟨k, hk, h1, h2⟩ := wk_31 hv h
  rw [dst_exd h2]
  exact ⟨h1, hk⟩
