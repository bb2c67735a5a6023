/-! the whole relation, and what keeps it -/
def Rel4 (hc hm : mm_Hp) : Prop := (∃ n, n ≤ 8 ∧ hc.1 0 4 = nI n ∧ hm.1 25 17 = nI n) ∧ ∀ c h, c < 80 → h < 8 → isB (hm.1 39 (80 * h + c)) ∧ nz (hm.1 39 (80 * h + c)) = qb (hc.1 10 c) h
def Rel5 (hc hm : mm_Hp) : Prop := ∃ t, t ≤ 40 ∧ hc.1 4 2 = nI t ∧ hm.1 25 19 = nI t ∧ ∀ k, k < t → hm.1 40 k = hc.1 20 k
def Rel6 (hc hm : mm_Hp) : Prop := ∃ n, n ≤ 12 ∧ hc.1 4 8 = nI n ∧ hm.1 25 21 = nI n ∧ ∀ r, r < n → ∃ c l, c ≤ 20 ∧ l ≤ 40 ∧ hc.1 23 r = nI c ∧ hm.1 41 r = nI l ∧ ∀ hh, evF hh (fun i => hm.1 42 (40 * r + i)) l = (anC hh (hc.1 21) (hc.1 22) (r * 20) c, 0, hc.1 24 r)
def Rel (hc hm : mm_Hp) : Prop := Rel1 hc hm ∧ Rel2 hc hm ∧ Rel3 hc hm ∧ Rel4 hc hm ∧ Rel5 hc hm ∧ Rel6 hc hm
theorem Rel1.cg {hc hm hc' hm' : mm_Hp} (h : Rel1 hc hm) (e1 : hc'.1 1 7 = hc.1 1 7) (e5 : hc'.1 5 = hc.1 5) (e6 : hc'.1 6 = hc.1 6) (e7 : hc'.1 7 = hc.1 7) (e8 : hc'.1 8 = hc.1 8) (e9 : hc'.1 9 = hc.1 9) (e11 : hc'.1 11 = hc.1 11) (m1 : hm'.1 25 1 = hm.1 25 1) (m26 : hm'.1 26 = hm.1 26) (m27 : hm'.1 27 = hm.1 27) (m28 : hm'.1 28 = hm.1 28) (m29 : hm'.1 29 = hm.1 29) (m30 : hm'.1 30 = hm.1 30) : Rel1 hc' hm' := by
  unfold Rel1 at h ⊢
  rw [e1, e5, e6, e7, e8, e9, e11, m1, m26, m27, m28, m29, m30]
  exact h
theorem Rel2.cg {hc hm hc' hm' : mm_Hp} (h : Rel2 hc hm) (e1 : hc'.1 3 3 = hc.1 3 3) (e2 : hc'.1 13 = hc.1 13) (e3 : hc'.1 14 = hc.1 14) (m1 : hm'.1 25 7 = hm.1 25 7) (m2 : hm'.1 31 = hm.1 31) (m3 : hm'.1 32 = hm.1 32) : Rel2 hc' hm' := by
  unfold Rel2 at h ⊢
  rw [e1, e2, e3, m1, m2, m3]
  exact h
theorem Rel3.cg {hc hm hc' hm' : mm_Hp} (h : Rel3 hc hm) (e1 : hc'.1 3 9 = hc.1 3 9) (e2 : hc'.1 19 = hc.1 19) (m1 : hm'.1 25 13 = hm.1 25 13) (m2 : hm'.1 36 = hm.1 36) : Rel3 hc' hm' := by
  unfold Rel3 at h ⊢
  rw [e1, e2, m1, m2]
  exact h
theorem Rel4.cg {hc hm hc' hm' : mm_Hp} (h : Rel4 hc hm) (e1 : hc'.1 0 4 = hc.1 0 4) (e2 : hc'.1 10 = hc.1 10) (m1 : hm'.1 25 17 = hm.1 25 17) (m2 : hm'.1 39 = hm.1 39) : Rel4 hc' hm' := by
  unfold Rel4 at h ⊢
  rw [e1, e2, m1, m2]
  exact h
theorem Rel5.cg {hc hm hc' hm' : mm_Hp} (h : Rel5 hc hm) (e1 : hc'.1 4 2 = hc.1 4 2) (e2 : hc'.1 20 = hc.1 20) (m1 : hm'.1 25 19 = hm.1 25 19) (m2 : hm'.1 40 = hm.1 40) : Rel5 hc' hm' := by
  unfold Rel5 at h ⊢
  rw [e1, e2, m1, m2]
  exact h
theorem Rel6.cg {hc hm hc' hm' : mm_Hp} (h : Rel6 hc hm) (e1 : hc'.1 4 8 = hc.1 4 8) (e2 : hc'.1 21 = hc.1 21) (e3 : hc'.1 22 = hc.1 22) (e4 : hc'.1 23 = hc.1 23) (e5 : hc'.1 24 = hc.1 24) (m1 : hm'.1 25 21 = hm.1 25 21) (m2 : hm'.1 41 = hm.1 41) (m3 : hm'.1 42 = hm.1 42) : Rel6 hc' hm' := by
  unfold Rel6 at h ⊢
  rw [e1, e2, e3, e4, e5, m1, m2, m3]
  exact h
/-- all but the coins -/
theorem setT_25 (v : Int32) (hp : mm_Hp) {j : Nat} (h : j ≠ 0) : (setT v hp).1 25 j = hp.1 25 j := by
  show (mm_up hp.1 25 0 v) 25 j = _
  rw [mm_up_s, pk_un h]
theorem setT_0 (v : Int32) (hp : mm_Hp) : (setT v hp).1 25 0 = v := by
  show (mm_up hp.1 25 0 v) 25 0 = _
  rw [mm_up_s, pk_us]
theorem setT_ne (v : Int32) (hp : mm_Hp) {c : Nat} (h : c ≠ 25) : (setT v hp).1 c = hp.1 c := mm_up_n h
theorem Rel.thr {hc hm : mm_Hp} (h : Rel hc hm) (v : Int32) : Rel hc (setT v hm) := by
  obtain ⟨h1, h2, h3, h4, h5, h6⟩ := h
  have n : ∀ {c : Nat}, c ≠ 25 → (setT v hm).1 c = hm.1 c := fun h => setT_ne v hm h
  have z : ∀ {j : Nat}, j ≠ 0 → (setT v hm).1 25 j = hm.1 25 j := fun h => setT_25 v hm h
  exact ⟨h1.cg rfl rfl rfl rfl rfl rfl rfl (z (by omega)) (n (by omega)) (n (by omega)) (n (by omega)) (n (by omega)) (n (by omega)), h2.cg rfl rfl rfl (z (by omega)) (n (by omega)) (n (by omega)), h3.cg rfl rfl (z (by omega)) (n (by omega)), h4.cg rfl rfl (z (by omega)) (n (by omega)), h5.cg rfl rfl (z (by omega)) (n (by omega)), h6.cg rfl rfl rfl rfl rfl (z (by omega)) (n (by omega)) (n (by omega))⟩
/-! reading a fresh heap of cells: only cells below 25 of the class, only the others of the reference -/
theorem Rel.hc {hc hm hc' : mm_Hp} (h : Rel hc hm) (e : ∀ c, c < 25 → hc'.1 c = hc.1 c) : Rel hc' hm := by
  obtain ⟨h1, h2, h3, h4, h5, h6⟩ := h
  have z : ∀ {c j : Nat}, c < 25 → hc'.1 c j = hc.1 c j := fun {c j} q => congrFun (e c q) j
  exact ⟨h1.cg (z (by omega)) (e _ (by omega)) (e _ (by omega)) (e _ (by omega)) (e _ (by omega)) (e _ (by omega)) (e _ (by omega)) rfl rfl rfl rfl rfl rfl, h2.cg (z (by omega)) (e _ (by omega)) (e _ (by omega)) rfl rfl rfl, h3.cg (z (by omega)) (e _ (by omega)) rfl rfl, h4.cg (z (by omega)) (e _ (by omega)) rfl rfl, h5.cg (z (by omega)) (e _ (by omega)) rfl rfl, h6.cg (z (by omega)) (e _ (by omega)) (e _ (by omega)) (e _ (by omega)) (e _ (by omega)) rfl rfl rfl⟩
theorem Rel.hm {hc hm hm' : mm_Hp} (h : Rel hc hm) (e : ∀ c, 25 ≤ c → hm'.1 c = hm.1 c) : Rel hc hm' := by
  obtain ⟨h1, h2, h3, h4, h5, h6⟩ := h
  have z : ∀ {c j : Nat}, 25 ≤ c → hm'.1 c j = hm.1 c j := fun {c j} q => congrFun (e c q) j
  exact ⟨h1.cg rfl rfl rfl rfl rfl rfl rfl (z (by omega)) (e _ (by omega)) (e _ (by omega)) (e _ (by omega)) (e _ (by omega)) (e _ (by omega)), h2.cg rfl rfl rfl (z (by omega)) (e _ (by omega)) (e _ (by omega)), h3.cg rfl rfl (z (by omega)) (e _ (by omega)), h4.cg rfl rfl (z (by omega)) (e _ (by omega)), h5.cg rfl rfl (z (by omega)) (e _ (by omega)), h6.cg rfl rfl rfl rfl rfl (z (by omega)) (e _ (by omega)) (e _ (by omega))⟩
/-! what the reference throws, as a number -/
theorem i_lt {x y : Int32} : x < y ↔ x.toInt < y.toInt := Int32.lt_iff_toInt_lt
theorem i_le {x y : Int32} : x ≤ y ↔ x.toInt ≤ y.toInt := Int32.le_iff_toInt_le
theorem wi_0 (v l h : Int32) : fWi v l h = 0 ↔ (v < l ∨ h < v) := by
  unfold fWi
  by_cases q : v < l ∨ h < v
  · rw [if_pos q]; exact ⟨fun _ => q, fun _ => rfl⟩
  · rw [if_neg q]; exact ⟨fun h => absurd h (by decide), fun h => absurd h q⟩
theorem lt_le1 {a b : Int32} (h : a.toInt + 1 = b.toInt) (f : Int32) : a < f ↔ b ≤ f := by rw [i_lt, i_le]; omega
theorem wi_die (f : Int32) : fWi f 0 15 = 0 ↔ (f < 0 ∨ 16 ≤ f) := by rw [wi_0, lt_le1 (a := 15) (b := 16) (by decide)]
theorem wi_back (f : Int32) : fWi f 16 31 = 0 ↔ (f < 16 ∨ 32 ≤ f) := by rw [wi_0, lt_le1 (a := 31) (b := 32) (by decide)]
theorem wi_gram (f : Int32) : fWi f 1 1000000 = 0 ↔ (f < 1 ∨ 1000000 < f) := wi_0 f 1 1000000
theorem wi_stage (f : Int32) : fWi f (-1) 9 = 0 ↔ (f < -1 ∨ 10 ≤ f) := by rw [wi_0, lt_le1 (a := 9) (b := 10) (by decide)]
theorem nI_in2 {x : Int32} {n : Nat} (hn : n ≤ 4000) (h1 : ¬ x < 0) (h2 : ¬ nI n ≤ x) : ∃ j, j < n ∧ x = nI j := by
  rcases pk_ix x (n := n) (by omega) with h | h | h
  · exact absurd h h1
  · exact absurd h h2
  · exact h
def if01 (b : Bool) : Int32 := if b = true then 1 else 0
theorem fGo_0 {a b c : Int32} : fGo a b c = 0 ↔ (¬ a = 0 ∧ ¬ b = 0 ∧ ¬ c = 0) := by
  unfold fGo
  by_cases h1 : a = 0
  · rw [if_pos h1]; exact ⟨fun h => absurd h (by decide), fun h => absurd h1 h.1⟩
  · rw [if_neg h1]
    by_cases h2 : b = 0
    · rw [if_pos h2]; exact ⟨fun h => absurd h (by decide), fun h => absurd h2 h.2.1⟩
    · rw [if_neg h2]
      by_cases h3 : c = 0
      · rw [if_pos h3]; exact ⟨fun h => absurd h (by decide), fun h => absurd h3 h.2.2⟩
      · rw [if_neg h3]; exact ⟨fun _ => ⟨h1, h2, h3⟩, fun _ => rfl⟩
