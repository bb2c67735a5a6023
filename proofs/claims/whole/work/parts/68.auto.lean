/-! a rule's text: the reference reads it by states, the class by descent -/
abbrev isSt (s : Int32) : Prop := s = 111 ∨ s = 114 ∨ s = 60 ∨ s = 62
/-- from state and number of digits, by a sign; none: the sign is wrong -/
def auS (q : Nat × Nat) (s : Int32) : Option (Nat × Nat) :=
  if q.1 < 2 then (if isSt s then some (2, q.2) else if s = 120 then some (4, q.2) else if s = 58 ∧ q.1 = 0 then some (5, q.2) else none)
  else if q.1 = 2 ∨ q.1 = 5 then (if fDig s = 0 then none else some (q.1 + 1, 1))
  else if ¬ fDig s = 0 ∧ ¬ q.1 = 4 then (if q.2 + 1 < 8 then some (q.1, q.2 + 1) else none)
  else if q.1 < 6 ∧ (s = 44 ∨ s = 58) then some (if s = 44 then 1 else 5, q.2) else none
def auF (g : Nat → Int32) : Nat → Nat → Nat × Nat → Int32
  | 0, i, q => if q.1 = 6 then -1 else nI i
  | n + 1, i, q => match auS q (g i) with
    | none => nI i
    | some q' => auF g n (i + 1) q'
theorem auF_n {g : Nat → Int32} {t p : Nat} {q : Nat × Nat} (h : p < t) (e : auS q (g p) = none) : auF g (t - p) p q = nI p := by
  rw [show t - p = (t - p - 1) + 1 by omega]
  unfold auF
  rw [e]
theorem auF_s {g : Nat → Int32} {t p : Nat} {q q' : Nat × Nat} (h : p < t) (e : auS q (g p) = some q') : auF g (t - p) p q = auF g (t - (p + 1)) (p + 1) q' := by
  rw [show t - p = (t - (p + 1)) + 1 by omega]
  show (match auS q (g p) with | none => nI p | some q' => auF g (t - (p + 1)) (p + 1) q') = _
  rw [e]
theorem auF_e {g : Nat → Int32} {t : Nat} {q : Nat × Nat} (e : ¬ q.1 = 6) : auF g (t - t) t q = nI t := by
  rw [Nat.sub_self]
  exact if_neg e
theorem auF_6 {g : Nat → Int32} {t : Nat} {q : Nat × Nat} (e : q.1 = 6) : auF g (t - t) t q = -1 := by
  rw [Nat.sub_self]
  exact if_pos e
theorem sgn_lt {g : Nat → Int32} {t p : Nat} (h : p < t) : sgn g t p = g p := if_neg (by omega)
theorem sgn_ge {g : Nat → Int32} {t p : Nat} (h : t ≤ p) : sgn g t p = -1 := if_pos h
theorem dig_m1 : fDig (-1) = 0 := by decide
/-- signs that are digits are none of the others -/
theorem dig_not {s : Int32} (h : ¬ fDig s = 0) : ¬ s = 44 ∧ ¬ s = 58 ∧ ¬ s = 120 ∧ ¬ isSt s := by
  refine ⟨?_, ?_, ?_, ?_⟩
  · rintro rfl; exact h (by decide)
  · rintro rfl; exact h (by decide)
  · rintro rfl; exact h (by decide)
  · rintro (rfl | rfl | rfl | rfl) <;> exact h (by decide)
/-- digits more, from the first on -/
theorem num_go {g : Nat → Int32} {t s : Nat} (hs : s = 3 ∨ s = 6) : ∀ (n p k : Nat) (a : Int32), n + k = 7 → 1 ≤ k → p ≤ t → p ≤ (fNumF g t n p a).1 ∧ (fNumF g t n p a).1 ≤ t ∧ (∃ k', k' = k + ((fNumF g t n p a).1 - p) ∧ k' ≤ 7 ∧ auF g (t - p) p (s, k) = auF g (t - (fNumF g t n p a).1) (fNumF g t n p a).1 (s, k') ∧ (k' = 7 ∨ fDig (sgn g t (fNumF g t n p a).1) = 0))
  | 0, p, k, a, e, hk, hp => ⟨Nat.le_refl _, hp, k, by show k = k + (p - p); omega, by omega, rfl, Or.inl (by omega)⟩
  | n + 1, p, k, a, e, hk, hp => by
    unfold fNumF
    by_cases q : fDig (sgn g t p) = 0
    · rw [if_pos q]
      exact ⟨Nat.le_refl _, hp, k, by show k = k + (p - p); omega, by omega, rfl, Or.inr q⟩
    · rw [if_neg q]
      have hlt := sgn_dig q
      obtain ⟨h1, h2, k', h3, h4, h5, h6⟩ := num_go (g := g) (t := t) hs n (p + 1) (k + 1) (a * 10 + sgn g t p - 48) (by omega) (by omega) (by omega)
      generalize fNumF g t n (p + 1) (a * 10 + sgn g t p - 48) = r at h1 h2 h3 h5 h6
      refine ⟨by omega, h2, k', by omega, h4, ?_, h6⟩
      rw [← h5]
      apply auF_s hlt
      rw [sgn_lt hlt] at q
      unfold auS
      rw [if_neg (by show ¬ s < 2; omega), if_neg (by show ¬ (s = 2 ∨ s = 5); omega), if_pos ⟨q, by show ¬ s = 4; omega⟩, if_pos (by show k + 1 < 8; omega)]
/-- a number where one must stand: s is 2 (in a condition) or 5 (a type) -/
theorem num_ok {g : Nat → Int32} {t s p : Nat} (hs : s = 2 ∨ s = 5) (hp : p ≤ t) (k : Nat) : p ≤ (fNum g t p).1 ∧ (fNum g t p).1 ≤ t ∧ (((fNum g t p).1 = p ∧ auF g (t - p) p (s, k) = nI p) ∨ (p < (fNum g t p).1 ∧ ∃ k', k' ≤ 7 ∧ auF g (t - p) p (s, k) = auF g (t - (fNum g t p).1) (fNum g t p).1 (s + 1, k') ∧ (k' = 7 ∨ fDig (sgn g t (fNum g t p).1) = 0))) := by
  unfold fNum fNumF
  by_cases q : fDig (sgn g t p) = 0
  · rw [if_pos q]
    refine ⟨Nat.le_refl _, hp, Or.inl ⟨rfl, ?_⟩⟩
    rcases Nat.lt_or_ge p t with h | h
    · apply auF_n h
      rw [sgn_lt h] at q
      unfold auS
      rw [if_neg (by show ¬ s < 2; omega), if_pos (by show s = 2 ∨ s = 5; omega), if_pos q]
    · rw [show p = t by omega]
      exact auF_e (by show ¬ s = 6; omega)
  · rw [if_neg q]
    have hlt := sgn_dig q
    obtain ⟨h1, h2, k', h3, h4, h5, h6⟩ := num_go (g := g) (t := t) (s := s + 1) (by omega) 6 (p + 1) 1 (0 * 10 + sgn g t p - 48) (by omega) (by omega) (by omega)
    generalize fNumF g t 6 (p + 1) (0 * 10 + sgn g t p - 48) = r at h1 h2 h3 h5 h6
    refine ⟨by omega, h2, Or.inr ⟨by omega, k', h4, ?_, h6⟩⟩
    rw [← h5]
    apply auF_s hlt
    rw [sgn_lt hlt] at q
    unfold auS
    rw [if_neg (by show ¬ s < 2; omega), if_pos (by show s = 2 ∨ s = 5; omega), if_neg q]
/-- behind a condition -/
theorem aft_ok {g : Nat → Int32} {t s k p : Nat} (hs : s = 4 ∨ (s = 3 ∧ (k = 7 ∨ fDig (sgn g t p) = 0))) (hp : p ≤ t) : (sgn g t p = 44 ∧ p < t ∧ auF g (t - p) p (s, k) = auF g (t - (p + 1)) (p + 1) (1, k)) ∨ (sgn g t p = 58 ∧ p < t ∧ auF g (t - p) p (s, k) = auF g (t - (p + 1)) (p + 1) (5, k)) ∨ (¬ sgn g t p = 44 ∧ ¬ sgn g t p = 58 ∧ auF g (t - p) p (s, k) = nI p) := by
  rcases Nat.lt_or_ge p t with h | h
  · rw [sgn_lt h] at hs ⊢
    have step : auS (s, k) (g p) = if g p = 44 ∨ g p = 58 then some (if g p = 44 then 1 else 5, k) else none := by
      unfold auS
      rw [if_neg (by show ¬ s < 2; omega), if_neg (by show ¬ (s = 2 ∨ s = 5); omega)]
      by_cases c : ¬ fDig (g p) = 0 ∧ ¬ s = 4
      · rw [if_pos c]
        obtain ⟨d1, d2, _, _⟩ := dig_not c.1
        rw [if_neg (show ¬ (g p = 44 ∨ g p = 58) from fun q => q.elim d1 d2)]
        rcases hs with e | ⟨_, e | e⟩
        · exact absurd e c.2
        · rw [if_neg (by show ¬ k + 1 < 8; omega)]
        · exact absurd e c.1
      · rw [if_neg c]
        by_cases r : g p = 44 ∨ g p = 58
        · rw [if_pos ⟨by show s < 6; omega, r⟩, if_pos r]
        · rw [if_neg (fun q => r q.2), if_neg r]
    by_cases c1 : g p = 44
    · refine Or.inl ⟨c1, h, auF_s h ?_⟩
      rw [step, if_pos (Or.inl c1), if_pos c1]
    · by_cases c2 : g p = 58
      · refine Or.inr (Or.inl ⟨c2, h, auF_s h ?_⟩)
        rw [step, if_pos (Or.inr c2), if_neg c1]
      · refine Or.inr (Or.inr ⟨c1, c2, auF_n h ?_⟩)
        rw [step, if_neg (fun q => q.elim c1 c2)]
  · rw [sgn_ge h]
    refine Or.inr (Or.inr ⟨by decide, by decide, ?_⟩)
    rw [show p = t by omega]
    exact auF_e (by show ¬ s = 6; omega)
/-- behind the type -/
theorem end_ok {g : Nat → Int32} {t k p : Nat} (hk : k = 7 ∨ fDig (sgn g t p) = 0) (hp : p ≤ t) : auF g (t - p) p (6, k) = if p = t then -1 else nI p := by
  rcases Nat.lt_or_ge p t with h | h
  · rw [if_neg (by omega)]
    rw [sgn_lt h] at hk
    apply auF_n h
    unfold auS
    rw [if_neg (by show ¬ 6 < 2; omega), if_neg (by show ¬ (6 = 2 ∨ 6 = 5); omega)]
    by_cases c : fDig (g p) = 0
    · rw [if_neg (fun q => q.1 c), if_neg (fun q => absurd q.1 (by show ¬ 6 < 6; omega))]
    · rw [if_pos ⟨c, by show ¬ 6 = 4; omega⟩]
      rcases hk with e | e
      · rw [if_neg (by show ¬ k + 1 < 8; omega)]
      · exact absurd e c
  · rw [if_pos (by omega), show p = t by omega]
    exact auF_6 rfl
/-- where a condition must stand -/
theorem beg_ok {g : Nat → Int32} {t s k p : Nat} (hs : s = 1 ∨ (s = 0 ∧ ¬ sgn g t p = 58)) (hp : p ≤ t) : (fKind (sgn g t p) = 0 ∧ auF g (t - p) p (s, k) = nI p) ∨ (¬ fKind (sgn g t p) = 0 ∧ p < t ∧ ((sgn g t p = 120 ∧ auF g (t - p) p (s, k) = auF g (t - (p + 1)) (p + 1) (4, k)) ∨ (¬ sgn g t p = 120 ∧ auF g (t - p) p (s, k) = auF g (t - (p + 1)) (p + 1) (2, k)))) := by
  rcases Nat.lt_or_ge p t with h | h
  · rw [sgn_lt h] at hs ⊢
    by_cases c1 : isSt (g p)
    · refine Or.inr ⟨?_, h, Or.inr ⟨?_, auF_s h ?_⟩⟩
      · rcases c1 with e | e | e | e <;> rw [e] <;> decide
      · rcases c1 with e | e | e | e <;> rw [e] <;> decide
      · unfold auS
        rw [if_pos (by show s < 2; omega), if_pos c1]
    · by_cases c2 : g p = 120
      · refine Or.inr ⟨by rw [c2]; decide, h, Or.inl ⟨c2, auF_s h ?_⟩⟩
        unfold auS
        rw [if_pos (by show s < 2; omega), if_neg c1, if_pos c2]
      · refine Or.inl ⟨?_, auF_n h ?_⟩
        · unfold fKind
          rw [if_neg]
          rintro (e | e | e | e | e)
          · exact c1 (Or.inl e)
          · exact c1 (Or.inr (Or.inl e))
          · exact c1 (Or.inr (Or.inr (Or.inl e)))
          · exact c1 (Or.inr (Or.inr (Or.inr e)))
          · exact c2 e
        · unfold auS
          rw [if_pos (by show s < 2; omega), if_neg c1, if_neg c2, if_neg]
          rintro ⟨e1, e2⟩
          have e2 : s = 0 := e2
          rcases hs with e | ⟨_, e⟩
          · omega
          · exact e e1
  · rw [sgn_ge h]
    refine Or.inl ⟨fKind_m1, ?_⟩
    rw [show p = t by omega]
    exact auF_e (by show ¬ s = 6; omega)
/-! what the reference makes of a rule's signs -/
/-- all that holds so far, the kind that was read, the number -/
def evS (h : Int32 → Int32 → Int32) (s : Int32) (q : Int32 × Int32 × Int32) : Int32 × Int32 × Int32 :=
  if s = 44 ∨ s = 58 then (if q.1 = 0 then 0 else if q.2.1 = 0 then 1 else h q.2.1 q.2.2, 0, 0)
  else if fDig s = 0 then (q.1, s, q.2.2) else (q.1, q.2.1, 10 * q.2.2 + s - 48)
def evF (h : Int32 → Int32 → Int32) (g : Nat → Int32) (n : Nat) : Int32 × Int32 × Int32 := lp (fun i q => evS h (g i) q) n (1, 0, 0)
theorem evF_s (h : Int32 → Int32 → Int32) (g : Nat → Int32) (n : Nat) : evF h g (n + 1) = evS h (g n) (evF h g n) := rfl
theorem ev_num {h : Int32 → Int32 → Int32} {g : Nat → Int32} {t : Nat} : ∀ (n p : Nat) (a A K : Int32), p ≤ t → evF h g p = (A, K, a) → evF h g (fNumF g t n p a).1 = (A, K, (fNumF g t n p a).2)
  | 0, p, a, A, K, _, e => e
  | n + 1, p, a, A, K, hp, e => by
    unfold fNumF
    by_cases q : fDig (sgn g t p) = 0
    · rw [if_pos q]; exact e
    · rw [if_neg q]
      have hlt := sgn_dig q
      rw [sgn_lt hlt] at q ⊢
      refine ev_num n (p + 1) _ A K (by omega) ?_
      obtain ⟨d1, d2, _, _⟩ := dig_not q
      rw [evF_s, e]
      unfold evS
      rw [if_neg (fun r => r.elim d1 d2), if_neg q]
      show (A, K, 10 * a + g p - 48) = _
      rw [Int32.mul_comm]
theorem evF_same {h : Int32 → Int32 → Int32} {f g : Nat → Int32} {n : Nat} (e : ∀ i, i < n → f i = g i) : evF h f n = evF h g n := by
  unfold evF
  exact lp_same (fun k b hk => by rw [e k hk])
/-- the conditions in a row of slots, all -/
def anC (h : Int32 → Int32 → Int32) (K V : Nat → Int32) (b : Nat) : Nat → Int32
  | 0 => 1
  | c + 1 => if anC h K V b c = 0 then 0 else h (K (b + c)) (V (b + c))
theorem anC_same {h : Int32 → Int32 → Int32} {K V K' V' : Nat → Int32} {b : Nat} : ∀ {c : Nat}, (∀ i, b ≤ i → i < b + c → K i = K' i ∧ V i = V' i) → anC h K V b c = anC h K' V' b c
  | 0, _ => rfl
  | c + 1, e => by
    unfold anC
    rw [anC_same (fun i h1 h2 => e i h1 (by omega)), (e (b + c) (by omega) (by omega)).1, (e (b + c) (by omega) (by omega)).2]
