/-! coin, hoard, into, ring: the reference's functions, and that class and reference answer alike -/
def gCn (f b m : Int32) (hp : mm_Hp) : Int32 := fGo (if fWi f 0 15 = 0 then 0 else if fWi b 16 31 = 0 then 0 else 1) (fWi m 1 1000000) (if 80 ≤ hp.1 25 1 then 0 else 1)
def mCn (f b m : Int32) (hp : mm_Hp) : mm_Hp := sR (sR (sR (sR (sR hp 26 (upd (hp.1 26) (mszN hp) f)) 27 (upd (hp.1 27) (mszN hp) b)) 28 (upd (hp.1 28) (mszN hp) m)) 30 (upd (upd (hp.1 30) (2 * mszN hp) (-1)) (2 * mszN hp + 1) (-1))) 25 (upd (hp.1 25) 1 (hp.1 25 1 + 1))
def rCnM (f b m : Int32) (hp : mm_Hp) : Int32 := if gCn f b m hp = 0 then hp.1 25 1 + 1 - 1 else 0
def hCnM (f b m : Int32) (hp : mm_Hp) : mm_Hp := if gCn f b m hp = 0 then mCn f b m (setT 0 hp) else setT (gCn f b m hp) hp
theorem n_of {k : Nat} {x : Int32} (h : x = nI k) (hk : k ≤ 4000) (m : Nat) (hm : m ≤ 4000) : nI m ≤ x ↔ m ≤ k := by rw [h]; exact nI_leI (by omega) (by omega)
theorem gCn_x {hc hm : mm_Hp} (h : Rel1 hc hm) (f b m : Int32) : gCn f b m hm = nI (xCn f b m hc) := by
  have n := h.n
  unfold gCn xCn fGo
  rw [n.2.2.1, n.2.2.2]
  by_cases c1 : f < 0 ∨ 16 ≤ f
  · rw [if_pos c1, if_pos ((wi_die f).mpr c1), if_pos rfl]
    rfl
  · rw [if_neg c1, if_neg (fun q => c1 ((wi_die f).mp q))]
    by_cases c2 : b < 16 ∨ 32 ≤ b
    · rw [if_pos c2, if_pos ((wi_back b).mpr c2), if_pos rfl]
      rfl
    · rw [if_neg c2, if_neg (fun q => c2 ((wi_back b).mp q)), if_neg (by decide)]
      by_cases c3 : m < 1 ∨ 1000000 < m
      · rw [if_pos c3, if_pos ((wi_gram m).mpr c3)]
        rfl
      · rw [if_neg c3, if_neg (fun q => c3 ((wi_gram m).mp q))]
        by_cases c4 : 80 ≤ nI (szN hc)
        · rw [if_pos c4, if_pos c4, if_pos rfl]
          rfl
        · rw [if_neg c4, if_neg c4, if_neg (by decide)]
          rfl
theorem mCn_25 (f b m : Int32) (hp : mm_Hp) {j : Nat} (h : j ≠ 1) : (mCn f b m hp).1 25 j = hp.1 25 j := by
  unfold mCn
  rw [sR_at, pk_un h]
theorem mCn_n (f b m : Int32) (hp : mm_Hp) : (mCn f b m hp).1 25 1 = hp.1 25 1 + 1 := by
  unfold mCn
  rw [sR_at, pk_us]
theorem mCn_26 (f b m : Int32) (hp : mm_Hp) : (mCn f b m hp).1 26 = upd (hp.1 26) (mszN hp) f := by
  unfold mCn
  rw [sR_ne (by omega), sR_ne (by omega), sR_ne (by omega), sR_ne (by omega), sR_at]
theorem mCn_27 (f b m : Int32) (hp : mm_Hp) : (mCn f b m hp).1 27 = upd (hp.1 27) (mszN hp) b := by
  unfold mCn
  rw [sR_ne (by omega), sR_ne (by omega), sR_ne (by omega), sR_at]
theorem mCn_28 (f b m : Int32) (hp : mm_Hp) : (mCn f b m hp).1 28 = upd (hp.1 28) (mszN hp) m := by
  unfold mCn
  rw [sR_ne (by omega), sR_ne (by omega), sR_at]
theorem mCn_30 (f b m : Int32) (hp : mm_Hp) : (mCn f b m hp).1 30 = upd (upd (hp.1 30) (2 * mszN hp) (-1)) (2 * mszN hp + 1) (-1) := by
  unfold mCn
  rw [sR_ne (by omega), sR_at]
theorem mCn_ne (f b m : Int32) (hp : mm_Hp) {c : Nat} (h1 : c ≠ 25) (h2 : c ≠ 26) (h3 : c ≠ 27) (h4 : c ≠ 28) (h5 : c ≠ 30) : (mCn f b m hp).1 c = hp.1 c := by
  unfold mCn
  rw [sR_ne h1, sR_ne h5, sR_ne h4, sR_ne h3, sR_ne h2]
theorem fadd_ne (f b m : Int32) (hp : mm_Hp) {c : Nat} (h1 : c ≠ 1) (h2 : c ≠ 5) (h3 : c ≠ 6) (h4 : c ≠ 7) (h5 : c ≠ 8) (h6 : c ≠ 9) : (fC_add f b m hp).1 c = hp.1 c := by
  show (mm_up (mm_up (mm_up (mm_up (mm_up (mm_up hp.1 5 (szN hp) f) 6 (szN hp) b) 7 (szN hp) m) 8 (szN hp) (-1)) 9 (szN hp) (-1)) 1 7 (hp.1 1 7 + 1)) c = _
  rw [mm_up_n h1, mm_up_n h6, mm_up_n h5, mm_up_n h4, mm_up_n h3, mm_up_n h2]
theorem fadd_at (f b m : Int32) (hp : mm_Hp) : (fC_add f b m hp).1 1 7 = hp.1 1 7 + 1 ∧ (fC_add f b m hp).1 5 = upd (hp.1 5) (szN hp) f ∧ (fC_add f b m hp).1 6 = upd (hp.1 6) (szN hp) b ∧ (fC_add f b m hp).1 7 = upd (hp.1 7) (szN hp) m ∧ (fC_add f b m hp).1 8 = upd (hp.1 8) (szN hp) (-1) ∧ (fC_add f b m hp).1 9 = upd (hp.1 9) (szN hp) (-1) := by
  unfold fC_add
  refine ⟨?_, ?_, ?_, ?_, ?_, ?_⟩
  · dsimp only; rw [mm_up_s, pk_us]
  · dsimp only; rw [mm_up_n (by omega), mm_up_n (by omega), mm_up_n (by omega), mm_up_n (by omega), mm_up_n (by omega), mm_up_s]
  · dsimp only; rw [mm_up_n (by omega), mm_up_n (by omega), mm_up_n (by omega), mm_up_n (by omega), mm_up_s, mm_up_n (by omega)]
  · dsimp only; rw [mm_up_n (by omega), mm_up_n (by omega), mm_up_n (by omega), mm_up_s, mm_up_n (by omega), mm_up_n (by omega)]
  · dsimp only; rw [mm_up_n (by omega), mm_up_n (by omega), mm_up_s, mm_up_n (by omega), mm_up_n (by omega), mm_up_n (by omega)]
  · dsimp only; rw [mm_up_n (by omega), mm_up_s, mm_up_n (by omega), mm_up_n (by omega), mm_up_n (by omega), mm_up_n (by omega)]
theorem Rel1.cg0 {hc hm : mm_Hp} (h : Rel1 hc hm) (v : Int32) : Rel1 hc (setT v hm) := h.cg rfl rfl rfl rfl rfl rfl rfl (setT_25 v hm (by omega)) (setT_ne v hm (by omega)) (setT_ne v hm (by omega)) (setT_ne v hm (by omega)) (setT_ne v hm (by omega)) (setT_ne v hm (by omega))
theorem coin_rel1 {hc hm : mm_Hp} (h : Rel1 hc hm) {f b m : Int32} (hx : xCn f b m hc = 0) : Rel1 (fC_add f b m hc) (mCn f b m hm) := by
  have n := h.n
  unfold xCn at hx
  have c1 : ¬ (f < 0 ∨ 16 ≤ f) := fun q => by rw [if_pos q] at hx; cases hx
  rw [if_neg c1] at hx
  have c2 : ¬ (b < 16 ∨ 32 ≤ b) := fun q => by rw [if_pos q] at hx; cases hx
  rw [if_neg c2] at hx
  have c3 : ¬ (m < 1 ∨ 1000000 < m) := fun q => by rw [if_pos q] at hx; cases hx
  rw [if_neg c3] at hx
  have c4 : ¬ 80 ≤ hc.1 1 7 := fun q => by rw [if_pos q] at hx; cases hx
  have hlt : szN hc < 80 := by
    rw [n.2.2.1] at c4
    have c4 : ¬ nI 80 ≤ nI (szN hc) := c4
    rw [nI_leI (by omega) (by omega)] at c4
    omega
  obtain ⟨f', hf, ef⟩ := nI_in2 (n := 16) (by omega) (fun q => c1 (Or.inl q)) (fun q => c1 (Or.inr q))
  have hb0 : ¬ b < 0 := fun q => c2 (Or.inl (Int32.lt_trans q (by decide)))
  obtain ⟨b', hb, eb⟩ := nI_in2 (n := 32) (by omega) hb0 (fun q => c2 (Or.inr q))
  have hb2 : 16 ≤ b' := by
    have : ¬ nI b' < nI 16 := by rw [← eb]; exact fun q => c2 (Or.inl q)
    rw [nI_ltI (by omega) (by omega)] at this
    omega
  have hm0 : ¬ m < 0 := fun q => c3 (Or.inl (Int32.lt_trans q (by decide)))
  obtain ⟨w, hw, ew⟩ := nI_of hm0
  have hw1 : 1 ≤ w := by
    have : ¬ nI w < nI 1 := by rw [← ew]; exact fun q => c3 (Or.inl q)
    rw [nI_ltI hw (by omega)] at this
    omega
  have hw2 : w ≤ 1000000 := by
    have : ¬ nI 1000000 < nI w := by rw [← ew]; exact fun q => c3 (Or.inr q)
    rw [nI_ltI (by omega) hw] at this
    omega
  obtain ⟨a1, a5, a6, a7, a8, a9⟩ := fadd_at f b m hc
  have a11 : (fC_add f b m hc).1 11 = hc.1 11 := fadd_ne f b m hc (by omega) (by omega) (by omega) (by omega) (by omega) (by omega)
  have m29 : (mCn f b m hm).1 29 = hm.1 29 := mCn_ne f b m hm (by omega) (by omega) (by omega) (by omega) (by omega)
  refine ⟨⟨szN hc + 1, by omega, by rw [a1, n.2.2.1, nI_1], by rw [mCn_n, n.2.2.2, nI_1], fun k hk => ?_⟩, fun k hk => by rw [a11, m29]; exact h.2 k hk⟩
  rw [a5, a6, a7, a8, a9, mCn_26, mCn_27, mCn_28, mCn_30, n.2.1]
  by_cases e : k = szN hc
  · rw [e, pk_us, pk_us, pk_us, pk_us, pk_us, pk_us, pk_us, pk_us, pk_us]
    refine ⟨⟨f', hf, ef, ef⟩, ⟨b', hb2, hb, eb, eb⟩, ⟨w, hw1, hw2, ew, ew⟩, Or.inl rfl, Or.inl rfl, ?_, rfl⟩
    rw [pk_un (by omega), pk_us]
  · rw [pk_un e, pk_un e, pk_un e, pk_un e, pk_un e, pk_un e, pk_un e, pk_un e, pk_un (by omega), pk_un (by omega), pk_un (by omega), pk_un (by omega)]
    exact h.k (by omega)
theorem coin_same {hc hm : mm_Hp} (R : Rel hc hm) (f b m : Int32) : (hCnM f b m hm).1 25 0 = nI (xCn f b m hc) ∧ (xCn f b m hc = 0 → rCnM f b m hm = hc.1 1 7) ∧ Rel (hCn f b m hc) (hCnM f b m hm) := by
  have g := gCn_x R.1 f b m
  unfold hCnM rCnM hCn
  rw [g]
  by_cases c : xCn f b m hc = 0
  · rw [c, if_pos nI_0, if_pos nI_0, if_pos rfl]
    have R0 := R.thr 0
    obtain ⟨h1, h2, h3, h4, h5, h6⟩ := R0
    have n := R.1.n
    refine ⟨by rw [mCn_25 f b m _ (by omega), setT_0, nI_0], fun _ => by rw [n.2.2.2, n.2.2.1, nI_1, nI_pred], coin_rel1 h1 c, ?_, ?_, ?_, ?_, ?_⟩
    · exact h2.cg (by rw [fadd_ne f b m hc (by omega) (by omega) (by omega) (by omega) (by omega) (by omega)]) (fadd_ne f b m hc (by omega) (by omega) (by omega) (by omega) (by omega) (by omega)) (fadd_ne f b m hc (by omega) (by omega) (by omega) (by omega) (by omega) (by omega)) (mCn_25 f b m _ (by omega)) (mCn_ne f b m _ (by omega) (by omega) (by omega) (by omega) (by omega)) (mCn_ne f b m _ (by omega) (by omega) (by omega) (by omega) (by omega))
    · exact h3.cg (by rw [fadd_ne f b m hc (by omega) (by omega) (by omega) (by omega) (by omega) (by omega)]) (fadd_ne f b m hc (by omega) (by omega) (by omega) (by omega) (by omega) (by omega)) (mCn_25 f b m _ (by omega)) (mCn_ne f b m _ (by omega) (by omega) (by omega) (by omega) (by omega))
    · exact h4.cg (by rw [fadd_ne f b m hc (by omega) (by omega) (by omega) (by omega) (by omega) (by omega)]) (fadd_ne f b m hc (by omega) (by omega) (by omega) (by omega) (by omega) (by omega)) (mCn_25 f b m _ (by omega)) (mCn_ne f b m _ (by omega) (by omega) (by omega) (by omega) (by omega))
    · exact h5.cg (by rw [fadd_ne f b m hc (by omega) (by omega) (by omega) (by omega) (by omega) (by omega)]) (fadd_ne f b m hc (by omega) (by omega) (by omega) (by omega) (by omega) (by omega)) (mCn_25 f b m _ (by omega)) (mCn_ne f b m _ (by omega) (by omega) (by omega) (by omega) (by omega))
    · exact h6.cg (by rw [fadd_ne f b m hc (by omega) (by omega) (by omega) (by omega) (by omega) (by omega)]) (fadd_ne f b m hc (by omega) (by omega) (by omega) (by omega) (by omega) (by omega)) (fadd_ne f b m hc (by omega) (by omega) (by omega) (by omega) (by omega) (by omega)) (fadd_ne f b m hc (by omega) (by omega) (by omega) (by omega) (by omega) (by omega)) (fadd_ne f b m hc (by omega) (by omega) (by omega) (by omega) (by omega) (by omega)) (mCn_25 f b m _ (by omega)) (mCn_ne f b m _ (by omega) (by omega) (by omega) (by omega) (by omega)) (mCn_ne f b m _ (by omega) (by omega) (by omega) (by omega) (by omega))
  · have hx : xCn f b m hc ≤ 3 := by
      unfold xCn
      split
      · omega
      · split
        · omega
        · split
          · omega
          · split <;> omega
    rw [if_neg (nI_ne0 (by omega) (by omega)), if_neg (nI_ne0 (by omega) (by omega)), if_neg c]
    exact ⟨setT_0 _ _, fun q => absurd q c, R.thr _⟩
