/-! the class's descent, beside the states -/
/-- text g of t signs, at place p, c conditions of rule r written -/
def vw (h : mm_Hp) (g : Nat → Int32) (t p r c : Nat) : Prop := h.1 20 = g ∧ h.1 4 2 = nI t ∧ t ≤ 40 ∧ h.1 4 3 = nI p ∧ p ≤ t ∧ h.1 4 8 = nI r ∧ r < 12 ∧ h.1 23 r = nI c
/-- what reading a rule leaves alone -/
def kpR (h h0 : mm_Hp) (r : Nat) : Prop := (∀ k, k ≠ 4 → k ≠ 21 → k ≠ 22 → k ≠ 23 → k ≠ 24 → h.1 k = h0.1 k) ∧ h.2 = h0.2 ∧ (∀ s, s < r * 20 → h.1 21 s = h0.1 21 s ∧ h.1 22 s = h0.1 22 s) ∧ ∀ s, s < r → h.1 23 s = h0.1 23 s ∧ h.1 24 s = h0.1 24 s
theorem kpR.refl (h : mm_Hp) (r : Nat) : kpR h h r := ⟨fun _ _ _ _ _ _ => rfl, rfl, fun _ _ => ⟨rfl, rfl⟩, fun _ _ => ⟨rfl, rfl⟩⟩
theorem kpR.trans {a b c : mm_Hp} {r : Nat} (h1 : kpR a b r) (h2 : kpR b c r) : kpR a c r := by
  refine ⟨fun k a1 a2 a3 a4 a5 => (h1.1 k a1 a2 a3 a4 a5).trans (h2.1 k a1 a2 a3 a4 a5), h1.2.1.trans h2.2.1, fun s hs => ⟨(h1.2.2.1 s hs).1.trans (h2.2.2.1 s hs).1, (h1.2.2.1 s hs).2.trans (h2.2.2.1 s hs).2⟩, fun s hs => ⟨(h1.2.2.2 s hs).1.trans (h2.2.2.2 s hs).1, (h1.2.2.2 s hs).2.trans (h2.2.2.2 s hs).2⟩⟩
theorem kpR_of {h h0 : mm_Hp} {r : Nat} (e : ∀ k, k ≠ 4 → h.1 k = h0.1 k) (e2 : h.2 = h0.2) : kpR h h0 r := ⟨fun k h1 _ _ _ _ => e k h1, e2, fun s _ => ⟨by rw [e 21 (by omega)], by rw [e 22 (by omega)]⟩, fun s _ => ⟨by rw [e 23 (by omega)], by rw [e 24 (by omega)]⟩⟩
theorem vw.sign {h : mm_Hp} {g : Nat → Int32} {t p r c : Nat} (v : vw h g t p r c) : fSign h = sgn g t p := by
  obtain ⟨e1, e2, h1, e3, h2, _⟩ := v
  unfold fSign sgn
  rw [e1, e2, e3, nIc (by omega)]
  by_cases q : t ≤ p
  · rw [if_pos q, if_pos ((nI_leI (by omega) (by omega)).mpr q)]
  · rw [if_neg q, if_neg (fun r => q ((nI_leI (by omega) (by omega)).mp r))]
theorem vw.up {h : mm_Hp} {g : Nat → Int32} {t p r c : Nat} (v : vw h g t p r c) (hp : p < t) : vw (upPl h) g t (p + 1) r c := by
  obtain ⟨e1, e2, h1, e3, h2, e4, h3, e5⟩ := v
  refine ⟨(upPl_ne (by omega)).trans e1, (upPl_2 h).trans e2, h1, ?_, hp, (upPl_8 h).trans e4, h3, (congrFun (upPl_ne (by omega)) r).trans e5⟩
  show (mm_up h.1 4 3 (h.1 4 3 + 1)) 4 3 = _
  rw [mm_up_s, pk_us, e3, nI_1]
theorem vw.pl {h : mm_Hp} {g : Nat → Int32} {t p r c : Nat} (v : vw h g t p r c) {p' : Nat} (hp : p' ≤ t) : vw (plH h p') g t p' r c := by
  obtain ⟨e1, e2, h1, e3, h2, e4, h3, e5⟩ := v
  exact ⟨(plH_ne (by omega)).trans e1, (plH_2 h p').trans e2, h1, plH_3 h p', hp, (plH_8 h p').trans e4, h3, (congrFun (plH_ne (by omega)) r).trans e5⟩
theorem vw.num {h : mm_Hp} {g : Nat → Int32} {t p r c : Nat} (v : vw h g t p r c) : rNum h = (if (fNum g t p).1 = p then -1 else (fNum g t p).2) ∧ hNum h = plH h (fNum g t p).1 := by
  obtain ⟨e1, e2, h1, e3, h2, e4, h3, e5⟩ := v
  have a : txN h = t := by unfold txN; rw [e2, nIc (by omega)]
  have b : plN h = p := by unfold plN; rw [e3, nIc (by omega)]
  unfold rNum hNum
  rw [e1, a, b]
  exact ⟨rfl, rfl⟩
theorem dig_val {s : Int32} (h : ¬ fDig s = 0) : ∃ d, d < 10 ∧ s = nI (48 + d) := by
  unfold fDig at h
  have h : ¬ (s < 48 ∨ 57 < s) := fun q => h (if_pos q)
  have h1 : ¬ s < 48 := fun q => h (Or.inl q)
  have h2 : ¬ 57 < s := fun q => h (Or.inr q)
  have h0 : ¬ s < 0 := fun q => h1 (Int32.lt_trans q (by decide))
  obtain ⟨j, hj, e⟩ := nI_of h0
  rw [e] at h1 h2
  have h1 : ¬ nI j < nI 48 := h1
  have h2 : ¬ nI 57 < nI j := h2
  rw [nI_ltI hj (by omega)] at h1
  rw [nI_ltI (by omega) hj] at h2
  exact ⟨j - 48, by omega, by rw [e]; congr 1; omega⟩
/-- numbers of at most seven digits -/
theorem num_val {g : Nat → Int32} {t : Nat} : ∀ (n p A : Nat), A * 10 ^ n + 10 ^ n ≤ 10000000 → n ≤ 7 → ∃ V, V < 10000000 ∧ (fNumF g t n p (nI A)).2 = nI V
  | 0, p, A, h, _ => ⟨A, by omega, rfl⟩
  | n + 1, p, A, h, hn => by
    unfold fNumF
    have hp : 10 ^ (n + 1) = 10 * 10 ^ n := by rw [Nat.pow_succ, Nat.mul_comm]
    have hpos : 1 ≤ 10 ^ n := Nat.one_le_pow _ _ (by omega)
    by_cases q : fDig (sgn g t p) = 0
    · rw [if_pos q]
      refine ⟨A, ?_, rfl⟩
      have : A * 1 ≤ A * 10 ^ (n + 1) := Nat.mul_le_mul_left _ (by omega)
      omega
    · rw [if_neg q]
      obtain ⟨d, hd, e⟩ := dig_val q
      rw [e, show (10 : Int32) = nI 10 from rfl, pk_mul, nI_add, show (48 : Int32) = nI 48 from rfl, pk_sub (by omega), show A * 10 + (48 + d) - 48 = A * 10 + d by omega]
      refine num_val n (p + 1) (A * 10 + d) ?_ (by omega)
      rw [hp] at h
      have e1 : (A * 10 + d) * 10 ^ n = A * (10 * 10 ^ n) + d * 10 ^ n := by rw [Nat.add_mul, Nat.mul_assoc]
      have e2 : d * 10 ^ n + 10 ^ n ≤ 10 * 10 ^ n := by
        have : (d + 1) * 10 ^ n ≤ 10 * 10 ^ n := Nat.mul_le_mul_right _ (by omega)
        rw [Nat.add_mul] at this
        omega
      omega
theorem num_ne (g : Nat → Int32) (t p : Nat) : ¬ (fNum g t p).2 = -1 := by
  obtain ⟨V, hV, e⟩ := num_val (g := g) (t := t) 7 p 0 (by decide) (Nat.le_refl _)
  have e : (fNum g t p).2 = nI V := e
  rw [e]
  intro q
  have := congrArg Int32.toInt q
  rw [nI_toInt (by omega)] at this
  have e2 : Int32.toInt (-1) = -1 := by decide
  omega
theorem addH_at {h : mm_Hp} {r c : Nat} (hr : r < 12) (hc : c < 20) (e1 : h.1 4 8 = nI r) (e2 : h.1 23 r = nI c) (k v : Int32) : (addH h k v).1 21 = upd (h.1 21) (r * 20 + c) k ∧ (addH h k v).1 22 = upd (h.1 22) (r * 20 + c) v ∧ (addH h k v).1 23 = upd (h.1 23) r (nI (c + 1)) ∧ (addH h k v).2 = h.2 := by
  have es : slotN h = r * 20 + c := by
    unfold slotN
    rw [e1, nIc (by omega), e2, show (20 : Int32) = nI 20 from rfl, pk_mul, nI_add, nIc (by omega)]
  have er : rlN h = r := by unfold rlN; rw [e1, nIc (by omega)]
  unfold addH
  rw [es, er, e2, nI_1]
  refine ⟨?_, ?_, ?_, rfl⟩
  · show (mm_up (mm_up (mm_up h.1 21 (r * 20 + c) k) 22 (r * 20 + c) v) 23 r (nI (c + 1))) 21 = _
    rw [mm_up_n (by omega), mm_up_n (by omega), mm_up_s]
  · show (mm_up (mm_up (mm_up h.1 21 (r * 20 + c) k) 22 (r * 20 + c) v) 23 r (nI (c + 1))) 22 = _
    rw [mm_up_n (by omega), mm_up_s, mm_up_n (by omega)]
  · show (mm_up (mm_up (mm_up h.1 21 (r * 20 + c) k) 22 (r * 20 + c) v) 23 r (nI (c + 1))) 23 = _
    rw [mm_up_s, mm_up_n (by omega), mm_up_n (by omega)]
/-- a condition put behind c others -/
theorem vw.add {h : mm_Hp} {g : Nat → Int32} {t p r c : Nat} (v : vw h g t p r c) (hc : c < 20) (k x : Int32) : vw (addH h k x) g t p r (c + 1) ∧ kpR (addH h k x) h r ∧ (∀ s, s < r * 20 + c → (addH h k x).1 21 s = h.1 21 s ∧ (addH h k x).1 22 s = h.1 22 s) ∧ (addH h k x).1 21 (r * 20 + c) = k ∧ (addH h k x).1 22 (r * 20 + c) = x := by
  obtain ⟨e1, e2, h1, e3, h2, e4, h3, e5⟩ := v
  obtain ⟨a1, a2, a3, a4⟩ := addH_at h3 hc e4 e5 k x
  have n4 : (addH h k x).1 4 = h.1 4 := addH_ne (by omega) (by omega) (by omega)
  refine ⟨⟨(addH_ne (by omega) (by omega) (by omega)).trans e1, by rw [n4]; exact e2, h1, by rw [n4]; exact e3, h2, by rw [n4]; exact e4, h3, by rw [a3, pk_us]⟩, ⟨fun k' q1 q2 q3 q4 q5 => addH_ne q2 q3 q4, a4, fun s hs => ?_, fun s hs => ?_⟩, fun s hs => ?_, by rw [a1, pk_us], by rw [a2, pk_us]⟩
  · rw [a1, a2, pk_un (by omega), pk_un (by omega)]
    exact ⟨rfl, rfl⟩
  · rw [a3, pk_un (by omega), addH_ne (by omega) (by omega) (by omega)]
    exact ⟨rfl, rfl⟩
  · rw [a1, a2, pk_un (by omega), pk_un (by omega)]
    exact ⟨rfl, rfl⟩
theorem kp_up (h : mm_Hp) (r : Nat) : kpR (upPl h) h r := kpR_of (fun k hk => upPl_ne hk) rfl
theorem kp_pl (h : mm_Hp) (p r : Nat) : kpR (plH h p) h r := kpR_of (fun k hk => plH_ne hk) rfl
theorem kind_ev {s : Int32} (h : ¬ fKind s = 0) : ¬ (s = 44 ∨ s = 58) ∧ fDig s = 0 ∧ ¬ s = 0 := by
  have hk : s = 111 ∨ s = 114 ∨ s = 60 ∨ s = 62 ∨ s = 120 := by
    apply Classical.byContradiction
    intro q
    exact h (if_neg q)
  rcases hk with rfl | rfl | rfl | rfl | rfl <;> decide
/-- one condition -/
theorem cd_sim {h : mm_Hp} {g : Nat → Int32} {t p r c s k : Nat} (v : vw h g t p r c) (hc : c < 20) (hs : s = 1 ∨ (s = 0 ∧ ¬ sgn g t p = 58)) :
    (rCd h = 0 ∧ ∃ p', (hCd h).1 4 3 = nI p' ∧ (hCd h).1 4 8 = nI r ∧ auF g (t - p) p (s, k) = nI p' ∧ p' ≤ t ∧ kpR (hCd h) h r) ∨
    (rCd h = 1 ∧ ∃ p' s' k', p < p' ∧ vw (hCd h) g t p' r (c + 1) ∧ kpR (hCd h) h r ∧ (∀ i, i < r * 20 + c → (hCd h).1 21 i = h.1 21 i ∧ (hCd h).1 22 i = h.1 22 i) ∧ (s' = 4 ∨ (s' = 3 ∧ (k' = 7 ∨ fDig (sgn g t p') = 0))) ∧ auF g (t - p) p (s, k) = auF g (t - p') p' (s', k') ∧ ¬ (hCd h).1 21 (r * 20 + c) = 0 ∧ ∀ hh A, evF hh g p = (A, 0, 0) → evF hh g p' = (A, (hCd h).1 21 (r * 20 + c), (hCd h).1 22 (r * 20 + c))) := by
  have hsg := v.sign
  have hpt := v.2.2.2.2.1
  unfold rCd hCd
  rcases beg_ok (k := k) hs hpt with ⟨q1, q2⟩ | ⟨q1, hlt, q2⟩
  · rw [hsg, if_pos q1, if_pos q1]
    exact Or.inl ⟨rfl, p, v.2.2.2.1, v.2.2.2.2.2.1, q2, hpt, kpR.refl h r⟩
  · rw [hsg, if_neg q1, if_neg q1]
    have v1 := v.up hlt
    obtain ⟨n1, n2, n3⟩ := kind_ev q1
    have ev1 : ∀ hh A, evF hh g p = (A, 0, 0) → evF hh g (p + 1) = (A, sgn g t p, 0) := by
      intro hh A e
      rw [evF_s, e]
      rw [sgn_lt hlt] at n1 n2 ⊢
      unfold evS
      rw [if_neg n1, if_pos n2]
    rcases q2 with ⟨q3, q4⟩ | ⟨q3, q4⟩
    · rw [if_pos q3, if_pos q3]
      obtain ⟨w1, w2, w3, w4, w5⟩ := v1.add hc (sgn g t p) 0
      refine Or.inr ⟨rfl, p + 1, 4, k, by omega, w1, w2.trans (kp_up h r), fun i hi => ?_, Or.inl rfl, q4, by rw [w4]; exact n3, fun hh A e => ?_⟩
      · rw [(w3 i hi).1, (w3 i hi).2, upPl_ne (by omega), upPl_ne (by omega)]
        exact ⟨rfl, rfl⟩
      · rw [w4, w5]
        exact ev1 hh A e
    · rw [if_neg q3, if_neg q3]
      obtain ⟨m1, m2⟩ := v1.num
      obtain ⟨l1, l2, l3⟩ := num_ok (g := g) (t := t) (s := 2) (p := p + 1) (Or.inl rfl) (by omega) k
      rw [m1]
      rcases l3 with ⟨l3, l4⟩ | ⟨l3, k', l4, l5, l6⟩
      · rw [if_pos l3, if_pos rfl, if_pos rfl, m2]
        refine Or.inl ⟨rfl, p + 1, ?_, ?_, by rw [q4, l4], by omega, (kp_pl _ _ r).trans (kp_up h r)⟩
        · rw [l3]; exact plH_3 _ _
        · rw [plH_8]; exact v1.2.2.2.2.2.1
      · have hne : ¬ (fNum g t (p + 1)).1 = p + 1 := by omega
        rw [if_neg hne, if_neg (num_ne g t (p + 1)), if_neg (num_ne g t (p + 1)), m2]
        have v2 := v1.pl l2
        obtain ⟨w1, w2, w3, w4, w5⟩ := v2.add hc (sgn g t p) (fNum g t (p + 1)).2
        refine Or.inr ⟨rfl, (fNum g t (p + 1)).1, 3, k', by omega, w1, w2.trans ((kp_pl _ _ r).trans (kp_up h r)), fun i hi => ?_, Or.inr ⟨rfl, l6⟩, by rw [q4, l5], by rw [w4]; exact n3, fun hh A e => ?_⟩
        · rw [(w3 i hi).1, (w3 i hi).2, plH_ne (by omega), plH_ne (by omega), upPl_ne (by omega), upPl_ne (by omega)]
          exact ⟨rfl, rfl⟩
        · rw [w4, w5]
          exact ev_num 7 (p + 1) 0 A _ (by omega) (ev1 hh A e)
/-- conditions, with n more allowed -/
theorem cds_sim {g : Nat → Int32} {t r : Nat} : ∀ (n : Nat) (h : mm_Hp) (p c s k : Nat), vw h g t p r c → n + c = 20 → 2 * c ≤ p → (s = 1 ∨ (s = 0 ∧ ¬ sgn g t p = 58)) →
    ((fCdsF n h).1 = 0 ∧ ∃ p', (fCdsF n h).2.1 4 3 = nI p' ∧ (fCdsF n h).2.1 4 8 = nI r ∧ auF g (t - p) p (s, k) = nI p' ∧ p' ≤ t ∧ kpR (fCdsF n h).2 h r) ∨
    ((fCdsF n h).1 = 1 ∧ ∃ p' c' s' k', c' < 20 ∧ vw (fCdsF n h).2 g t p' r (c' + 1) ∧ kpR (fCdsF n h).2 h r ∧ ¬ sgn g t p' = 44 ∧ (s' = 4 ∨ (s' = 3 ∧ (k' = 7 ∨ fDig (sgn g t p') = 0))) ∧ auF g (t - p) p (s, k) = auF g (t - p') p' (s', k') ∧ ¬ (fCdsF n h).2.1 21 (r * 20 + c') = 0 ∧ ∀ hh, evF hh g p = (anC hh (h.1 21) (h.1 22) (r * 20) c, 0, 0) → evF hh g p' = (anC hh ((fCdsF n h).2.1 21) ((fCdsF n h).2.1 22) (r * 20) c', (fCdsF n h).2.1 21 (r * 20 + c'), (fCdsF n h).2.1 22 (r * 20 + c')))
  | 0, h, p, c, s, k, v, hn, hc, hs => by
    refine Or.inl ⟨rfl, p, v.2.2.2.1, v.2.2.2.2.2.1, ?_, v.2.2.2.2.1, kpR.refl h r⟩
    have : p = t := by have := v.2.2.1; have := v.2.2.2.2.1; omega
    rw [this]
    exact auF_e (by show ¬ s = 6; omega)
  | n + 1, h, p, c, s, k, v, hn, hc, hs => by
    unfold fCdsF
    rcases cd_sim (k := k) v (by omega) hs with ⟨q1, p', q2, q3, q4, q5, q6⟩ | ⟨q1, p', s', k', q2, q3, q4, q5, q6, q7, q8, q9⟩
    · rw [if_pos q1]
      exact Or.inl ⟨rfl, p', q2, q3, q4, q5, q6⟩
    · rw [if_neg (by rw [q1]; decide), q3.sign]
      have hp' := q3.2.2.2.2.1
      have han : ∀ hh, anC hh ((hCd h).1 21) ((hCd h).1 22) (r * 20) c = anC hh (h.1 21) (h.1 22) (r * 20) c := fun hh => anC_same (fun i h1 h2 => q5 i h2)
      rcases aft_ok q6 hp' with ⟨a1, a2, a3⟩ | ⟨a1, a2, a3⟩ | ⟨a1, a2, a3⟩
      · rw [if_pos a1]
        have v2 := q3.up a2
        have e21 : (upPl (hCd h)).1 21 = (hCd h).1 21 := upPl_ne (by omega)
        have e22 : (upPl (hCd h)).1 22 = (hCd h).1 22 := upPl_ne (by omega)
        have ih := cds_sim n (upPl (hCd h)) (p' + 1) (c + 1) 1 k' v2 (by omega) (by omega) (Or.inl rfl)
        have kk : kpR (upPl (hCd h)) h r := (kp_up _ r).trans q4
        generalize fCdsF n (upPl (hCd h)) = R at ih
        rcases ih with ⟨i1, p2, i2, i3, i4, i5, i6⟩ | ⟨i1, p2, c2, s2, k2, i2, i3, i4, i5, i6, i7, i8, i9⟩
        · exact Or.inl ⟨i1, p2, i2, i3, by rw [q7, a3, i4], i5, i6.trans kk⟩
        · refine Or.inr ⟨i1, p2, c2, s2, k2, i2, i3, i4.trans kk, i5, i6, by rw [q7, a3, i7], i8, fun hh e => i9 hh ?_⟩
          rw [evF_s, q9 hh _ e]
          rw [sgn_lt a2] at a1
          unfold evS
          rw [if_pos (Or.inl a1), e21, e22]
          show (if anC hh (h.1 21) (h.1 22) (r * 20) c = 0 then 0 else if (hCd h).1 21 (r * 20 + c) = 0 then 1 else hh ((hCd h).1 21 (r * 20 + c)) ((hCd h).1 22 (r * 20 + c)), 0, 0) = (if anC hh ((hCd h).1 21) ((hCd h).1 22) (r * 20) c = 0 then 0 else hh ((hCd h).1 21 (r * 20 + c)) ((hCd h).1 22 (r * 20 + c)), 0, 0)
          rw [if_neg q8, han hh]
      · have hne : ¬ sgn g t p' = 44 := by rw [a1]; decide
        rw [if_neg hne]
        exact Or.inr ⟨rfl, p', c, s', k', by omega, q3, q4, hne, q6, q7, q8, fun hh e => by rw [han hh]; exact q9 hh _ e⟩
      · rw [if_neg a1]
        exact Or.inr ⟨rfl, p', c, s', k', by omega, q3, q4, a1, q6, q7, q8, fun hh e => by rw [han hh]; exact q9 hh _ e⟩
theorem tyH_ne (h : mm_Hp) {c : Nat} (hc : c ≠ 24) : (tyH h).1 c = (hNum h).1 c := mm_up_n hc
theorem tyH_24 (h : mm_Hp) : (tyH h).1 24 = upd ((hNum h).1 24) (rlN h) (rNum h) := mm_up_s (f := (hNum h).1) (k := 24) (j := rlN h) (x := rNum h)
theorem p0H_ne (h : mm_Hp) {c : Nat} (hc : c ≠ 4) : (p0H h).1 c = h.1 c := mm_up_n hc
theorem p0H_4 (h : mm_Hp) : (p0H h).1 4 = upd (h.1 4) 3 0 := mm_up_s (f := h.1) (k := 4) (j := 3) (x := 0)
theorem hCd0_ne (h : mm_Hp) {c : Nat} (hc : c ≠ 23) : (hCd0 h).1 c = h.1 c := mm_up_n hc
theorem hCd0_23 (h : mm_Hp) : (hCd0 h).1 23 = upd (h.1 23) (rlN h) 0 := mm_up_s (f := h.1) (k := 23) (j := rlN h) (x := 0)
/-- the type, where its colon stands -/
theorem ty_sim {h : mm_Hp} {g : Nat → Int32} {t p r c k : Nat} (v : vw h g t p r c) (hlt : p < t) (e58 : sgn g t p = 58) :
    (rTy h = 0 ∧ ∃ p', (hTy h).1 4 3 = nI p' ∧ (hTy h).1 4 8 = nI r ∧ auF g (t - (p + 1)) (p + 1) (5, k) = nI p' ∧ kpR (hTy h) h r) ∨
    (rTy h = 1 ∧ ∃ p', p' ≤ t ∧ (hTy h).1 4 3 = nI p' ∧ (hTy h).1 4 2 = nI t ∧ (hTy h).1 4 8 = nI r ∧ auF g (t - (p + 1)) (p + 1) (5, k) = (if p' = t then -1 else nI p') ∧ kpR (hTy h) h r ∧ (hTy h).1 21 = h.1 21 ∧ (hTy h).1 22 = h.1 22 ∧ (hTy h).1 23 = h.1 23 ∧ ∀ hh A, evF hh g (p + 1) = (A, 0, 0) → evF hh g p' = (A, 0, (hTy h).1 24 r)) := by
  have v1 := v.up hlt
  obtain ⟨m1, m2⟩ := v1.num
  obtain ⟨l1, l2, l3⟩ := num_ok (g := g) (t := t) (s := 5) (p := p + 1) (Or.inr rfl) (by omega) k
  have v2 := v1.pl l2
  have er : rlN (upPl h) = r := by unfold rlN; rw [v1.2.2.2.2.2.1, nIc (by have := v.2.2.2.2.2.2.1; omega)]
  have n4 : (tyH (upPl h)).1 4 = (plH (upPl h) (fNum g t (p + 1)).1).1 4 := by
    rw [tyH_ne _ (by omega), m2]
  have nk : ∀ q, q ≠ 4 → q ≠ 24 → (tyH (upPl h)).1 q = h.1 q := by
    intro q h1 h2
    rw [tyH_ne _ h2, m2, plH_ne h1, upPl_ne h1]
  have n24 : (tyH (upPl h)).1 24 = upd (h.1 24) r (rNum (upPl h)) := by
    rw [tyH_24, er, m2, plH_ne (by omega), upPl_ne (by omega)]
  have kk : kpR (tyH (upPl h)) h r := by
    refine ⟨fun q h1 h2 h3 h4 h5 => nk q h1 h5, by unfold tyH; rw [m2]; rfl, fun s hs => ⟨by rw [nk 21 (by omega) (by omega)], by rw [nk 22 (by omega) (by omega)]⟩, fun s hs => ⟨by rw [nk 23 (by omega) (by omega)], ?_⟩⟩
    rw [n24, pk_un (by omega)]
  unfold rTy hTy
  rw [v.sign, if_pos e58, if_pos e58]
  rcases l3 with ⟨l3, l4⟩ | ⟨l3, k', l4, l5, l6⟩
  · rw [m1, if_pos l3, if_pos rfl]
    refine Or.inl ⟨rfl, p + 1, ?_, ?_, l4, kk⟩
    · rw [n4, l3]; exact plH_3 _ _
    · rw [n4]; exact v2.2.2.2.2.2.1
  · have hne : ¬ (fNum g t (p + 1)).1 = p + 1 := by omega
    rw [m1, if_neg hne, if_neg (num_ne g t (p + 1))]
    refine Or.inr ⟨rfl, (fNum g t (p + 1)).1, l2, ?_, ?_, ?_, ?_, kk, nk 21 (by omega) (by omega), nk 22 (by omega) (by omega), nk 23 (by omega) (by omega), fun hh A e => ?_⟩
    · rw [n4]; exact plH_3 _ _
    · rw [n4]; exact v2.2.1
    · rw [n4]; exact v2.2.2.2.2.2.1
    · rw [l5]
      exact end_ok l6 l2
    · rw [n24, pk_us, m1, if_neg hne]
      exact ev_num 7 (p + 1) 0 A 0 (by omega) e
theorem ty_no {h : mm_Hp} {g : Nat → Int32} {t p r c : Nat} (v : vw h g t p r c) (e58 : ¬ sgn g t p = 58) : rTy h = 0 ∧ hTy h = h := by
  unfold rTy hTy
  rw [v.sign, if_neg e58, if_neg e58]
  exact ⟨rfl, rfl⟩
theorem kpR.mid {h h0 : mm_Hp} {r : Nat} (e : kpR h h0 r) (f : Nat → Int32) : kpR (sR h 4 f) h0 r := by
  refine ⟨fun k h1 h2 h3 h4 h5 => (sR_ne h1).trans (e.1 k h1 h2 h3 h4 h5), e.2.1, fun s hs => ?_, fun s hs => ?_⟩
  · rw [sR_ne (by omega), sR_ne (by omega)]; exact e.2.2.1 s hs
  · rw [sR_ne (by omega), sR_ne (by omega)]; exact e.2.2.2 s hs
theorem ty_place {h : mm_Hp} {g : Nat → Int32} {t p r c : Nat} (v : vw h g t p r c) (hlt : p < t) (e58 : sgn g t p = 58) (q : rTy h = 0) : (hTy h).1 4 3 = nI (p + 1) := by
  have v1 := v.up hlt
  obtain ⟨m1, m2⟩ := v1.num
  unfold rTy at q
  unfold hTy
  rw [v.sign, if_pos e58] at q
  rw [v.sign, if_pos e58]
  have hn : (fNum g t (p + 1)).1 = p + 1 := by
    apply Classical.byContradiction
    intro n
    rw [m1, if_neg n, if_neg (num_ne g t (p + 1))] at q
    exact absurd q (by decide)
  rw [tyH_ne _ (by omega), m2, hn]
  exact plH_3 _ _
/-- what the class makes of a text, and what the states say of it -/
def rdR (q : Int32 × mm_Hp) (h0 : mm_Hp) (g : Nat → Int32) (t r : Nat) : Prop :=
  (∃ p, auF g t 0 (0, 0) = nI p ∧ p ≤ 40 ∧ q.1 = -1 - nI p ∧ kpR q.2 h0 r ∧ q.2.1 4 2 = 0 ∧ q.2.1 4 8 = nI r) ∨
  (auF g t 0 (0, 0) = -1 ∧ q.1 = nI r ∧ kpR q.2 h0 r ∧ q.2.1 4 2 = 0 ∧ q.2.1 4 8 = nI (r + 1) ∧ ∃ c, c ≤ 20 ∧ q.2.1 23 r = nI c ∧ ∀ hh, evF hh g t = (anC hh (q.2.1 21) (q.2.1 22) (r * 20) c, 0, q.2.1 24 r))
theorem endF_ok {h h0 : mm_Hp} {g : Nat → Int32} {t r p : Nat} (e1 : h.1 4 3 = nI p) (e2 : h.1 4 8 = nI r) (e3 : auF g t 0 (0, 0) = nI p) (hp : p ≤ 40) (k : kpR h h0 r) : rdR (endF h) h0 g t r := by
  refine Or.inl ⟨p, e3, hp, ?_, ?_, ?_, ?_⟩
  · show -1 - h.1 4 3 = _
    rw [e1]
  · show kpR (mm_up h.1 4 2 0, h.2) h0 r
    rw [up_as]
    exact k.mid _
  · show (mm_up h.1 4 2 0) 4 2 = 0
    rw [mm_up_s, pk_us]
  · show (mm_up h.1 4 2 0) 4 8 = _
    rw [mm_up_s, pk_un (by omega), e2]
theorem rt_sim {h0 : mm_Hp} {t r : Nat} (ht : t ≤ 40) (et : h0.1 4 2 = nI t) (hr : r < 12) (er : h0.1 4 8 = nI r) : rdR (fRT h0) h0 (h0.1 20) t r := by
  have p3 : (p0H h0).1 4 = upd (h0.1 4) 3 0 := p0H_4 h0
  have pne : ∀ k, k ≠ 4 → (p0H h0).1 k = h0.1 k := fun k hk => p0H_ne h0 hk
  have erl : rlN (p0H h0) = r := by unfold rlN; rw [p3, pk_un (by omega), er, nIc (by omega)]
  have c23 : (hCd0 (p0H h0)).1 23 = upd (h0.1 23) r 0 := by
    rw [hCd0_23, erl, pne 23 (by omega)]
  have cne : ∀ k, k ≠ 4 → k ≠ 23 → (hCd0 (p0H h0)).1 k = h0.1 k := fun k h1 h2 => by
    rw [hCd0_ne _ h2, pne k h1]
  have c4 : (hCd0 (p0H h0)).1 4 = upd (h0.1 4) 3 0 := by
    rw [hCd0_ne _ (by omega), p3]
  have v : vw (hCd0 (p0H h0)) (h0.1 20) t 0 r 0 := ⟨cne 20 (by omega) (by omega), by rw [c4, pk_un (by omega)]; exact et, ht, by rw [c4, pk_us]; exact nI_0.symm, Nat.zero_le _, by rw [c4, pk_un (by omega)]; exact er, hr, by rw [c23, pk_us]; exact nI_0.symm⟩
  have k0 : kpR (hCd0 (p0H h0)) h0 r := ⟨fun k h1 h2 h3 h4 h5 => cne k h1 h4, rfl, fun s hs => ⟨by rw [cne 21 (by omega) (by omega)], by rw [cne 22 (by omega) (by omega)]⟩, fun s hs => ⟨by rw [c23, pk_un (by omega)], by rw [cne 24 (by omega) (by omega)]⟩⟩
  have ev0 : ∀ hh, evF hh (h0.1 20) 0 = (anC hh ((hCd0 (p0H h0)).1 21) ((hCd0 (p0H h0)).1 22) (r * 20) 0, 0, 0) := fun hh => rfl
  -- behind the conditions
  have fin : ∀ (h : mm_Hp) (p c k : Nat), c ≤ 20 → vw h (h0.1 20) t p r c → kpR h h0 r → sgn (h0.1 20) t p = 58 → auF (h0.1 20) t 0 (0, 0) = auF (h0.1 20) (t - (p + 1)) (p + 1) (5, k) → (∀ hh, evF hh (h0.1 20) (p + 1) = (anC hh (h.1 21) (h.1 22) (r * 20) c, 0, 0)) → rdR (if rTy h = 0 then endF (hTy h) else if (hTy h).1 4 3 = (hTy h).1 4 2 then endT (hTy h) else endF (hTy h)) h0 (h0.1 20) t r := by
    intro h p c k hc v kk e58 ea ev
    have hlt : p < t := by
      rcases Nat.lt_or_ge p t with q | q
      · exact q
      · rw [sgn_ge q] at e58; exact absurd e58 (by decide)
    rcases ty_sim (k := k) v hlt e58 with ⟨q1, p', q2, q3, q4, q5⟩ | ⟨q1, p', q2, q3, q4, q5, q6, q7, q8, q9, q10, q11⟩
    · rw [if_pos q1]
      have hp' : p' ≤ 40 ∨ 40 < p' := by omega
      obtain ⟨l1, l2, l3⟩ := num_ok (g := h0.1 20) (t := t) (s := 5) (p := p + 1) (Or.inr rfl) (by omega) k
      refine endF_ok (p := p + 1) ?_ q3 ?_ (by omega) (q5.trans kk)
      · -- the place is p + 1
        have : rTy h = 0 := q1
        exact ty_place v hlt e58 q1
      · rw [ea, q4, ← q2]
        exact ty_place v hlt e58 q1
    · rw [if_neg (by rw [q1]; decide), q3, q4]
      by_cases e : p' = t
      · rw [if_pos (by rw [e])]
        rw [if_pos e] at q6
        refine Or.inr ⟨by rw [ea, q6], ?_, ?_, ?_, ?_, c, hc, ?_, fun hh => ?_⟩
        · show (hTy h).1 4 8 + 1 - 1 = _
          rw [q5, nI_1, nI_pred]
        · show kpR (mm_up (mm_up (hTy h).1 4 2 0) 4 8 ((hTy h).1 4 8 + 1), (hTy h).2) h0 r
          have e2 : (mm_up (mm_up (hTy h).1 4 2 0) 4 8 ((hTy h).1 4 8 + 1), (hTy h).2) = sR (hTy h) 4 (upd (upd ((hTy h).1 4) 2 0) 8 ((hTy h).1 4 8 + 1)) := by
            have := up_sR (hTy h) 4 8 (upd ((hTy h).1 4) 2 0) ((hTy h).1 4 8 + 1)
            rw [← this, ← up_as]
          rw [e2]
          exact (q7.trans kk).mid _
        · show (mm_up (mm_up (hTy h).1 4 2 0) 4 8 ((hTy h).1 4 8 + 1)) 4 2 = 0
          rw [mm_up_s, pk_un (by omega), mm_up_s, pk_us]
        · show (mm_up (mm_up (hTy h).1 4 2 0) 4 8 ((hTy h).1 4 8 + 1)) 4 8 = _
          rw [mm_up_s, pk_us, q5, nI_1]
        · show (mm_up (mm_up (hTy h).1 4 2 0) 4 8 ((hTy h).1 4 8 + 1)) 23 r = _
          rw [mm_up_n (by omega), mm_up_n (by omega), q10]
          exact v.2.2.2.2.2.2.2
        · show evF hh (h0.1 20) t = (anC hh ((mm_up (mm_up (hTy h).1 4 2 0) 4 8 ((hTy h).1 4 8 + 1)) 21) ((mm_up (mm_up (hTy h).1 4 2 0) 4 8 ((hTy h).1 4 8 + 1)) 22) (r * 20) c, 0, (mm_up (mm_up (hTy h).1 4 2 0) 4 8 ((hTy h).1 4 8 + 1)) 24 r)
          rw [mm_up_n (by omega), mm_up_n (by omega), mm_up_n (by omega), mm_up_n (by omega), mm_up_n (by omega), mm_up_n (by omega), q8, q9, ← e]
          exact q11 hh _ (ev hh)
      · rw [if_neg (fun q => e ((nI_eq (by omega) (by omega)).mp q))]
        rw [if_neg e] at q6
        exact endF_ok q3 q5 (by rw [ea, q6]) (by omega) (q7.trans kk)
  unfold fRT fCds
  rw [v.sign]
  by_cases e58 : sgn (h0.1 20) t 0 = 58
  · rw [if_pos e58]
    rw [if_neg (show ¬ (1 : Int32) = 0 by decide)]
    have hlt : 0 < t := by
      rcases Nat.lt_or_ge 0 t with q | q
      · exact q
      · rw [sgn_ge q] at e58; exact absurd e58 (by decide)
    have eg : h0.1 20 0 = 58 := by rw [sgn_lt hlt] at e58; exact e58
    refine fin _ 0 0 0 (by omega) v k0 e58 ?_ (fun hh => ?_)
    · have := auF_s (g := h0.1 20) (t := t) (p := 0) (q := (0, 0)) (q' := (5, 0)) hlt (by rw [eg]; rfl)
      rw [Nat.sub_zero] at this
      exact this
    · rw [evF_s, eg]
      rfl
  · rw [if_neg e58]
    have S := cds_sim 20 (hCd0 (p0H h0)) 0 0 0 0 v (by omega) (by omega) (Or.inr ⟨rfl, e58⟩)
    generalize fCdsF 20 (hCd0 (p0H h0)) = R at S
    rw [Nat.sub_zero] at S
    rcases S with ⟨i1, p', i2, i3, i4, i5, i6⟩ | ⟨i1, p', c', s', k', i2, i3, i4, i5, i6, i7, i8, i9⟩
    · rw [if_pos i1]
      exact endF_ok i2 i3 i4 (by omega) (i6.trans k0)
    · rw [if_neg (by rw [i1]; decide)]
      rcases aft_ok i6 i3.2.2.2.2.1 with ⟨a1, _, _⟩ | ⟨a1, a2, a3⟩ | ⟨a1, a2, a3⟩
      · exact absurd a1 i5
      · refine fin R.2 p' (c' + 1) k' (by omega) i3 (i4.trans k0) a1 (by rw [i7, a3]) (fun hh => ?_)
        rw [evF_s, i9 hh (ev0 hh)]
        rw [sgn_lt a2] at a1
        unfold evS
        rw [if_pos (Or.inr a1)]
        show (if anC hh (R.2.1 21) (R.2.1 22) (r * 20) c' = 0 then 0 else if R.2.1 21 (r * 20 + c') = 0 then 1 else hh (R.2.1 21 (r * 20 + c')) (R.2.1 22 (r * 20 + c')), 0, 0) = (if anC hh (R.2.1 21) (R.2.1 22) (r * 20) c' = 0 then 0 else hh (R.2.1 21 (r * 20 + c')) (R.2.1 22 (r * 20 + c')), 0, 0)
        rw [if_neg i8]
      · obtain ⟨n1, n2⟩ := ty_no i3 a2
        rw [if_pos n1, n2]
        exact endF_ok i3.2.2.2.1 i3.2.2.2.2.2.1 (by rw [i7, a3]) (by have := i3.2.2.2.2.1; omega) (i4.trans k0)
