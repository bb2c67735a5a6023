/-! chains: labels of the dies -/
/-- so far as n coins tell: a label is no higher than its die, one with the coins' other die, and of the die's own chain -/
def LabI (du fr bk : Nat → Int32) (n : Nat) (g : Nat → Int32) : Prop := (∀ d, d < 32 → ∃ v, v ≤ d ∧ g d = nI v) ∧ ∀ q : Nat → Int32, (∀ k, k < n → du k = 0 → q (cN (fr k)) = q (cN (bk k))) → ∀ d, d < 32 → q (cN (g d)) = q d
def LabE (du fr bk : Nat → Int32) (n : Nat) (g : Nat → Int32) : Prop := ∀ k, k < n → du k = 0 → g (cN (fr k)) = g (cN (bk k))
def dsOk (fr bk : Nat → Int32) (n : Nat) : Prop := ∀ k, k < n → (∃ f, f < 32 ∧ fr k = nI f) ∧ ∃ b, b < 32 ∧ bk k = nI b
theorem join_lp (mn mx : Int32) (g : Nat → Int32) : ∀ (n d : Nat), lp (bJoin mn mx) n g d = if d < n ∧ g d = mx then mn else g d
  | 0, d => by rw [if_neg (fun h => absurd h.1 (Nat.not_lt_zero d))]; rfl
  | n + 1, d => by
    have ih := join_lp mn mx g n
    show bJoin mn mx n (lp (bJoin mn mx) n g) d = _
    generalize lp (bJoin mn mx) n g = h at ih
    have hn : h n = g n := by rw [ih n, if_neg (fun q => Nat.lt_irrefl n q.1)]
    unfold bJoin
    rw [hn]
    by_cases e : d = n
    · rw [e]
      by_cases q : g n = mx
      · rw [if_pos q, pk_us, if_pos ⟨Nat.lt_succ_self n, q⟩]
      · rw [if_neg q, if_neg (fun r => q r.2)]
        exact hn
    · have r : (if g n = mx then upd h n mn else h) d = h d := by
        split
        · exact pk_un e
        · rfl
      rw [r, ih d]
      by_cases q : d < n ∧ g d = mx
      · rw [if_pos q, if_pos ⟨by omega, q.2⟩]
      · rw [if_neg q, if_neg (fun r => q ⟨by omega, r.2⟩)]
/-- joining a and b: which label becomes which -/
def jnV (a b x : Int32) : Int32 := if a = b then x else if x = (if a < b then b else a) then (if b < a then b else a) else x
theorem fJoin_at (g : Nat → Int32) (a b : Int32) {d : Nat} (hd : d < 32) : fJoin g a b d = jnV a b (g d) := by
  unfold fJoin jnV
  by_cases e : a = b
  · rw [if_pos e, if_pos e]
  · rw [if_neg e, if_neg e, join_lp]
    by_cases q : g d = (if a < b then b else a)
    · rw [if_pos ⟨hd, q⟩, if_pos q]
    · rw [if_neg (fun r => q r.2), if_neg q]
theorem fJoin_ge (g : Nat → Int32) (a b : Int32) {d : Nat} (hd : 32 ≤ d) : fJoin g a b d = g d := by
  unfold fJoin
  by_cases e : a = b
  · rw [if_pos e]
  · rw [if_neg e, join_lp, if_neg (fun r => by omega)]
/-- labels as numbers -/
theorem jnV_nI {a b : Nat} (ha : a < 32) (hb : b < 32) : (jnV (nI a) (nI b) (nI a) = nI (min a b) ∧ jnV (nI a) (nI b) (nI b) = nI (min a b)) ∧ ∀ x, jnV (nI a) (nI b) x = x ∨ (x = nI (max a b) ∧ jnV (nI a) (nI b) x = nI (min a b)) := by
  have e1 : nI a < nI b ↔ a < b := nI_ltI (by omega) (by omega)
  have e2 : nI b < nI a ↔ b < a := nI_ltI (by omega) (by omega)
  have e3 : nI a = nI b ↔ a = b := nI_eq (by omega) (by omega)
  have emx : (if nI a < nI b then nI b else nI a) = nI (max a b) := by
    by_cases q : a < b
    · rw [if_pos (e1.mpr q), Nat.max_eq_right (by omega)]
    · rw [if_neg (fun h => q (e1.mp h)), Nat.max_eq_left (by omega)]
  have emn : (if nI b < nI a then nI b else nI a) = nI (min a b) := by
    by_cases q : b < a
    · rw [if_pos (e2.mpr q), Nat.min_eq_right (by omega)]
    · rw [if_neg (fun h => q (e2.mp h)), Nat.min_eq_left (by omega)]
  unfold jnV
  rw [emx, emn]
  by_cases e : a = b
  · subst e
    simp
  · have ne : ¬ nI a = nI b := fun h => e (e3.mp h)
    refine ⟨⟨?_, ?_⟩, fun x => ?_⟩
    · rw [if_neg ne]
      by_cases q : a < b
      · rw [Nat.max_eq_right (by omega), Nat.min_eq_left (by omega), if_neg ne]
      · rw [Nat.max_eq_left (by omega), if_pos rfl]
    · rw [if_neg ne]
      by_cases q : a < b
      · rw [Nat.max_eq_right (by omega), if_pos rfl]
      · rw [Nat.max_eq_left (by omega), Nat.min_eq_right (by omega), if_neg (fun h => ne h.symm)]
    · rw [if_neg ne]
      by_cases q : x = nI (max a b)
      · rw [if_pos q]
        exact Or.inr ⟨q, rfl⟩
      · rw [if_neg q]
        exact Or.inl rfl
def bLab (du fr bk : Nat → Int32) (k : Nat) (g : Nat → Int32) : Nat → Int32 := if du k = 0 then fJoin g (g (cN (fr k))) (g (cN (bk k))) else g
def labF (du fr bk : Nat → Int32) (n : Nat) (g : Nat → Int32) : Nat → Int32 := lp (bLab du fr bk) n (idRow g)
theorem idRow_at (g : Nat → Int32) (d : Nat) : idRow g d = if d < 32 then nI d else g d := by
  have aux : ∀ n, lp (fun k g => upd g k (nI k)) n g d = if d < n then nI d else g d := by
    intro n
    induction n with
    | zero => rw [if_neg (Nat.not_lt_zero d)]; rfl
    | succ n ih =>
      show upd (lp (fun k g => upd g k (nI k)) n g) n (nI n) d = _
      by_cases e : d = n
      · rw [e, pk_us, if_pos (Nat.lt_succ_self n)]
      · rw [pk_un e, ih]
        by_cases q : d < n
        · rw [if_pos q, if_pos (by omega)]
        · rw [if_neg q, if_neg (by omega)]
  exact aux 32
theorem LabI_id (du fr bk g : Nat → Int32) : LabI du fr bk 0 (idRow g) := by
  refine ⟨fun d hd => ⟨d, Nat.le_refl _, by rw [idRow_at, if_pos hd]⟩, fun q _ d hd => ?_⟩
  rw [idRow_at, if_pos hd, cN_nI (by omega)]
theorem lab_step {du fr bk g : Nat → Int32} {n k : Nat} (hk : k < n) (hd : dsOk fr bk n) (h : LabI du fr bk k g) (h2 : LabE du fr bk k g) : LabI du fr bk (k + 1) (bLab du fr bk k g) ∧ LabE du fr bk (k + 1) (bLab du fr bk k g) := by
  unfold bLab
  by_cases e : du k = 0
  · rw [if_pos e]
    obtain ⟨⟨f, hf, ef⟩, b, hb, eb⟩ := hd k hk
    rw [ef, eb, cN_nI (by omega), cN_nI (by omega)]
    obtain ⟨vf, hvf, evf⟩ := h.1 f hf
    obtain ⟨vb, hvb, evb⟩ := h.1 b hb
    rw [evf, evb]
    have J := jnV_nI (a := vf) (b := vb) (by omega) (by omega)
    refine ⟨⟨fun d hd => ?_, fun q hq d hd => ?_⟩, fun j hj ej => ?_⟩
    · rw [fJoin_at _ _ _ hd]
      obtain ⟨v, hv, ev⟩ := h.1 d hd
      rcases J.2 (g d) with r | ⟨r1, r2⟩
      · exact ⟨v, hv, by rw [r, ev]⟩
      · refine ⟨min vf vb, ?_, r2⟩
        rw [ev, nI_eq (by omega) (by omega)] at r1
        omega
    · have ih := h.2 q (fun j hj ej => hq j (by omega) ej)
      rw [fJoin_at _ _ _ hd]
      rcases J.2 (g d) with r | ⟨r1, r2⟩
      · rw [r]; exact ih d hd
      · rw [r2, ← ih d hd, r1, cN_nI (by omega), cN_nI (by omega)]
        have qf := ih f hf
        have qb := ih b hb
        have qe := hq k (by omega) e
        rw [evf, cN_nI (by omega)] at qf
        rw [evb, cN_nI (by omega)] at qb
        rw [ef, eb, cN_nI (by omega), cN_nI (by omega)] at qe
        by_cases c : vf ≤ vb
        · rw [Nat.min_eq_left c, Nat.max_eq_right c, qf, qb, qe]
        · rw [Nat.min_eq_right (by omega), Nat.max_eq_left (by omega), qf, qb, qe]
    · obtain ⟨⟨f', hf', ef'⟩, b', hb', eb'⟩ := hd j (by omega)
      rw [ef', eb', cN_nI (by omega), cN_nI (by omega), fJoin_at _ _ _ hf', fJoin_at _ _ _ hb']
      by_cases c : j = k
      · subst c
        have e1 : f' = f := by rw [ef, nI_eq (by omega) (by omega)] at ef'; exact ef'.symm
        have e2 : b' = b := by rw [eb, nI_eq (by omega) (by omega)] at eb'; exact eb'.symm
        rw [e1, e2, evf, evb, J.1.1, J.1.2]
      · have := h2 j (by omega) ej
        rw [ef', eb', cN_nI (by omega), cN_nI (by omega)] at this
        rw [this]
  · rw [if_neg e]
    refine ⟨⟨h.1, fun q hq => h.2 q (fun j hj ej => hq j (by omega) ej)⟩, fun j hj ej => ?_⟩
    by_cases c : j = k
    · rw [c] at ej; exact absurd ej e
    · exact h2 j (by omega) ej
theorem labF_ok {du fr bk : Nat → Int32} {n : Nat} (hd : dsOk fr bk n) (g : Nat → Int32) : ∀ k, k ≤ n → LabI du fr bk k (labF du fr bk k g) ∧ LabE du fr bk k (labF du fr bk k g)
  | 0, _ => ⟨LabI_id du fr bk g, fun k hk => absurd hk (Nat.not_lt_zero k)⟩
  | k + 1, hk => by
    have ih := labF_ok (du := du) hd g k (by omega)
    exact lab_step (by omega) hd ih.1 ih.2
theorem labF_ge (du fr bk g : Nat → Int32) {d : Nat} (hd : 32 ≤ d) : ∀ n, labF du fr bk n g d = g d
  | 0 => by show idRow g d = _; rw [idRow_at, if_neg (by omega)]
  | n + 1 => by
    show bLab du fr bk n (labF du fr bk n g) d = _
    unfold bLab
    split
    · rw [fJoin_ge _ _ _ hd]; exact labF_ge du fr bk g hd n
    · exact labF_ge du fr bk g hd n
theorem lab_u {du fr bk g h : Nat → Int32} {n : Nat} (g1 : LabI du fr bk n g) (g2 : LabE du fr bk n g) (h1 : LabI du fr bk n h) (h2 : LabE du fr bk n h) : ∀ d, d < 32 → g d = h d := by
  intro d hd
  obtain ⟨v, hv, ev⟩ := g1.1 d hd
  obtain ⟨w, hw, ew⟩ := h1.1 d hd
  have a := g1.2 h h2 d hd
  have b := h1.2 g g2 d hd
  rw [ev, cN_nI (by omega), ew] at a
  rw [ew, cN_nI (by omega), ev] at b
  obtain ⟨w', hw', ew'⟩ := h1.1 v (by omega)
  obtain ⟨v', hv', ev'⟩ := g1.1 w (by omega)
  rw [ew', nI_eq (by omega) (by omega)] at a
  rw [ev', nI_eq (by omega) (by omega)] at b
  rw [ev, ew, show v = w by omega]
theorem lab_is {du fr bk g f : Nat → Int32} {n : Nat} (hd : dsOk fr bk n) (g1 : LabI du fr bk n f) (g2 : LabE du fr bk n f) (g3 : ∀ d, 32 ≤ d → f d = g d) : f = labF du fr bk n g := by
  funext d
  have L := labF_ok (du := du) hd g n (Nat.le_refl _)
  rcases Nat.lt_or_ge d 32 with h | h
  · exact lab_u g1 g2 L.1 L.2 d h
  · rw [g3 d h, labF_ge _ _ _ _ h]
/-- a pass's step: both dies get the lower label -/
theorem link_step {du fr bk g : Nat → Int32} {n k f b a c : Nat} (hk : k < n) (h : LabI du fr bk n g) (e : du k = 0) (ef : fr k = nI f) (eb : bk k = nI b) (hf : f < 32) (hb : b < 32) (ha : a ≤ f) (hc : c ≤ b) (ea : g f = nI a) (ec : g b = nI c) : LabI du fr bk n (upd (upd g f (nI (min a c))) b (nI (min a c))) := by
  have la : ∀ q : Nat → Int32, (∀ k, k < n → du k = 0 → q (cN (fr k)) = q (cN (bk k))) → q (min a c) = q f ∧ q (min a c) = q b := by
    intro q hq
    have qf := h.2 q hq f hf
    have qb := h.2 q hq b hb
    have qe := hq k hk e
    rw [ea, cN_nI (by omega)] at qf
    rw [ec, cN_nI (by omega)] at qb
    rw [ef, eb, cN_nI (by omega), cN_nI (by omega)] at qe
    by_cases r : a ≤ c
    · rw [Nat.min_eq_left r, qf]
      exact ⟨rfl, qe⟩
    · rw [Nat.min_eq_right (by omega), qb]
      exact ⟨qe.symm, rfl⟩
  refine ⟨fun d hd => ?_, fun q hq d hd => ?_⟩
  · by_cases e1 : d = b
    · rw [e1, pk_us]
      exact ⟨_, by omega, rfl⟩
    · rw [pk_un e1]
      by_cases e2 : d = f
      · rw [e2, pk_us]
        exact ⟨_, by omega, rfl⟩
      · rw [pk_un e2]
        exact h.1 d hd
  · by_cases e1 : d = b
    · rw [e1, pk_us, cN_nI (by omega)]
      exact (la q hq).2
    · rw [pk_un e1]
      by_cases e2 : d = f
      · rw [e2, pk_us, cN_nI (by omega)]
        exact (la q hq).1
      · rw [pk_un e2]
        exact h.2 q hq d hd
/-! class and reference -/
theorem build_lab (hp : mm_Hp) : (fBuild hp).2 = labF (hp.1 11) (hp.1 5) (hp.1 6) (szN hp) (hp.1 12) := by
  have aux : ∀ n, (lp (bBuild hp) n (0, idRow (hp.1 12))).2 = lp (bLab (hp.1 11) (hp.1 5) (hp.1 6)) n (idRow (hp.1 12)) := by
    intro n
    induction n with
    | zero => rfl
    | succ n ih =>
      show (bBuild hp n (lp (bBuild hp) n (0, idRow (hp.1 12)))).2 = bLab (hp.1 11) (hp.1 5) (hp.1 6) n (lp (bLab (hp.1 11) (hp.1 5) (hp.1 6)) n (idRow (hp.1 12)))
      rw [← ih]
      generalize lp (bBuild hp) n (0, idRow (hp.1 12)) = q
      unfold bBuild bLab
      by_cases e : hp.1 11 n = 0
      · rw [if_pos e, if_pos e]
        rfl
      · rw [if_neg e, if_neg e]
  exact aux (szN hp)
theorem struck_bits {hp : mm_Hp} (h : cnOk hp) {d : Nat} : qb (fBuild hp).1 d = true ↔ ∃ k, k < szN hp ∧ hp.1 11 k = 0 ∧ (cN (hp.1 5 k) = d ∨ cN (hp.1 6 k) = d) := by
  have aux : ∀ n, n ≤ szN hp → (qb (lp (bBuild hp) n (0, idRow (hp.1 12))).1 d = true ↔ ∃ k, k < n ∧ hp.1 11 k = 0 ∧ (cN (hp.1 5 k) = d ∨ cN (hp.1 6 k) = d)) := by
    intro n
    induction n with
    | zero =>
      intro _
      show qb 0 d = true ↔ _
      rw [qb_0]
      constructor
      · intro h; cases h
      · rintro ⟨k, hk, _⟩
        exact absurd hk (Nat.not_lt_zero k)
    | succ n ih =>
      intro hn
      have ih := ih (by omega)
      show qb (bBuild hp n (lp (bBuild hp) n (0, idRow (hp.1 12)))).1 d = true ↔ _
      generalize lp (bBuild hp) n (0, idRow (hp.1 12)) = q at ih
      obtain ⟨_, ⟨f, hf, ef⟩, b, hb1, hb2, eb⟩ := h.2 n (by omega)
      unfold bBuild
      by_cases e : hp.1 11 n = 0
      · rw [if_pos e]
        show qb (q.1 ||| (bit1 (hp.1 5 n) ||| bit1 (hp.1 6 n))) d = true ↔ _
        rw [qb_or, qb_or, ef, eb, qb_bit1 (by omega), qb_bit1 hb2, Bool.or_eq_true, Bool.or_eq_true, ih, decide_eq_true_iff, decide_eq_true_iff]
        constructor
        · rintro (⟨k, hk, r⟩ | r)
          · exact ⟨k, by omega, r⟩
          · refine ⟨n, by omega, e, ?_⟩
            rw [ef, eb, cN_nI (by omega), cN_nI (by omega)]
            exact r
        · rintro ⟨k, hk, r1, r2⟩
          by_cases c : k = n
          · subst c
            rw [ef, eb, cN_nI (by omega), cN_nI (by omega)] at r2
            exact Or.inr r2
          · exact Or.inl ⟨k, by omega, r1, r2⟩
      · rw [if_neg e, ih]
        constructor
        · rintro ⟨k, hk, r⟩
          exact ⟨k, by omega, r⟩
        · rintro ⟨k, hk, r1, r2⟩
          by_cases c : k = n
          · subst c; exact absurd r1 e
          · exact ⟨k, by omega, r1, r2⟩
  exact aux (szN hp) (Nat.le_refl _)
theorem cn_ds {hp : mm_Hp} (h : cnOk hp) : dsOk (hp.1 5) (hp.1 6) (szN hp) := fun k hk => by
  obtain ⟨_, ⟨f, hf, ef⟩, b, hb1, hb2, eb⟩ := h.2 k hk
  exact ⟨⟨f, by omega, ef⟩, b, hb2, eb⟩
theorem md_ds {hp : mm_Hp} (h : mdOk hp) : dsOk (hp.1 26) (hp.1 27) (mszN hp) := fun k hk => by
  obtain ⟨_, ⟨f, hf, ef⟩, b, hb1, hb2, eb⟩ := h.2 k hk
  exact ⟨⟨f, by omega, ef⟩, b, hb2, eb⟩
theorem lab_same {hc hm : mm_Hp} (h : Rel1 hc hm) (g : Nat → Int32) {d : Nat} (hd : d < 32) : labF (hm.1 29) (hm.1 26) (hm.1 27) (mszN hm) g d = (fBuild hc).2 d := by
  have n := h.n
  rw [build_lab, n.2.1]
  have L := labF_ok (du := hc.1 11) (cn_ds h.cn) (hc.1 12) (szN hc) (Nat.le_refl _)
  have M := labF_ok (du := hm.1 29) (md_ds h.md) g (szN hc) (by rw [n.2.1]; exact Nat.le_refl _)
  have e : ∀ k, k < szN hc → hm.1 29 k = hc.1 11 k ∧ hm.1 26 k = hc.1 5 k ∧ hm.1 27 k = hc.1 6 k := fun k hk => ⟨h.dbt hk, h.front hk, h.back hk⟩
  refine lab_u (du := hc.1 11) (fr := hc.1 5) (bk := hc.1 6) (n := szN hc) ⟨M.1.1, fun q hq => M.1.2 q (fun k hk ek => ?_)⟩ (fun k hk ek => ?_) L.1 L.2 d hd
  · obtain ⟨e1, e2, e3⟩ := e k hk
    rw [e2, e3]
    exact hq k hk (by rw [← e1]; exact ek)
  · obtain ⟨e1, e2, e3⟩ := e k hk
    have := M.2 k hk (by rw [e1]; exact ek)
    rw [e2, e3] at this
    exact this
/-- a chain's label is a die of it that a sure coin has, just where one of the chain's coins is sure -/
theorem chain_has {hp : mm_Hp} (h : cnOk hp) {d : Nat} (hd : d < 32) : ((fBuild hp).2 d = nI d ∧ qb (fBuild hp).1 d = true) ↔ ∃ k, k < szN hp ∧ hp.1 11 k = 0 ∧ (fBuild hp).2 (cN (hp.1 5 k)) = nI d := by
  rw [struck_bits h, build_lab]
  have L := labF_ok (du := hp.1 11) (cn_ds h) (hp.1 12) (szN hp) (Nat.le_refl _)
  generalize labF (hp.1 11) (hp.1 5) (hp.1 6) (szN hp) (hp.1 12) = g at L
  constructor
  · rintro ⟨e1, k, hk, e2, e3⟩
    refine ⟨k, hk, e2, ?_⟩
    rcases e3 with e3 | e3
    · rw [e3]; exact e1
    · rw [L.2 k hk e2, e3]; exact e1
  · rintro ⟨k, hk, e2, e3⟩
    obtain ⟨_, ⟨f, hf, ef⟩, b, hb1, hb2, eb⟩ := h.2 k hk
    rw [ef, cN_nI (by omega)] at e3
    have a := L.1.2 g L.2 f (by omega)
    rw [e3, cN_nI (by omega)] at a
    refine ⟨a, ?_⟩
    have hq := L.1.2 (fun x => (if ∃ k, k < szN hp ∧ hp.1 11 k = 0 ∧ (cN (hp.1 5 k) = x ∨ cN (hp.1 6 k) = x) then (1 : Int32) else 0)) (by
      intro j hj ej
      show ite _ _ _ = ite _ _ _
      rw [if_pos ⟨j, hj, ej, Or.inl rfl⟩, if_pos ⟨j, hj, ej, Or.inr rfl⟩]) f (by omega)
    rw [e3, cN_nI (by omega)] at hq
    apply Classical.byContradiction
    intro no
    have hq : (if ∃ k, k < szN hp ∧ hp.1 11 k = 0 ∧ (cN (hp.1 5 k) = d ∨ cN (hp.1 6 k) = d) then (1 : Int32) else 0) = (if ∃ k, k < szN hp ∧ hp.1 11 k = 0 ∧ (cN (hp.1 5 k) = f ∨ cN (hp.1 6 k) = f) then (1 : Int32) else 0) := hq
    rw [if_neg no, if_pos ⟨k, hk, e2, Or.inl (by rw [ef, cN_nI (by omega)])⟩] at hq
    exact absurd hq (by decide)
