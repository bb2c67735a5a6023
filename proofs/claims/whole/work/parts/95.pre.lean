/-! ===== what the relation gives to the calls ===== -/
section PRE
variable {hc hm : mm_Hp}
theorem Rel.pCn (R : Rel hc hm) : cnOk hc := R.1.cn
theorem Rel.pSz (R : Rel hc hm) : szOk hc := R.1.cn.1
theorem Rel.pPr (R : Rel hc hm) : prOk hc := ⟨R.1.pc, R.2.1.rw⟩
theorem Rel.pTl (R : Rel hc hm) : tlOk hc := by
  obtain ⟨t, h1, h2, -⟩ := R.2.2.1
  exact ⟨t, h1, h2⟩
theorem Rel.pTx (R : Rel hc hm) : txOk hc := by
  obtain ⟨t, h1, h2, -⟩ := R.2.2.2.2.1
  exact ⟨t, h1, h2⟩
theorem Rel.pRl (R : Rel hc hm) : rlOk hc := by
  obtain ⟨n, h1, h2, -, h4⟩ := R.2.2.2.2.2
  have e : rlN hc = n := by unfold rlN; rw [h2]; exact nIc (by omega)
  refine ⟨⟨n, h1, h2⟩, fun r hr => ?_⟩
  obtain ⟨c, l, c1, -, c3, -⟩ := h4 r (by omega)
  exact ⟨c, c1, c3⟩
theorem Rel.pMd (R : Rel hc hm) : mdOk hm := R.1.md
theorem Rel.pMs (R : Rel hc hm) : msOk hm := ⟨R.1.md, R.2.1.mr⟩
theorem Rel.pMn (R : Rel hc hm) : ∃ n, n ≤ 80 ∧ hm.1 25 1 = nI n := R.1.md.1
theorem Rel.pGr (R : Rel hc hm) : grOk hm := by
  intro k hk
  rw [R.1.n.2.1] at hk
  obtain ⟨-, -, ⟨w, -, h1, -, h2⟩, -⟩ := R.1.k hk
  exact ⟨w, h1, h2⟩
theorem Rel.pHn (R : Rel hc hm) : ∃ n, n ≤ 8 ∧ hm.1 25 17 = nI n := by
  obtain ⟨⟨n, h1, -, h3⟩, -⟩ := R.2.2.2.1
  exact ⟨n, h1, h3⟩
theorem Rel.pHv (R : Rel hc hm) : hvOk hm := by
  refine ⟨R.pMn, R.pHn, fun k hk => ?_⟩
  have h := (R.2.2.2.1.2 (k % 80) (k / 80) (by omega) (by omega)).1
  rw [Nat.div_add_mod k 80] at h
  exact h
theorem Rel.pMt (R : Rel hc hm) : mtxOk hm := by
  obtain ⟨t, h1, -, h3, -⟩ := R.2.2.2.2.1
  exact ⟨t, h1, h3⟩
theorem Rel.pRp (R : Rel hc hm) : rlP hm := by
  obtain ⟨n, h1, -, h3, -⟩ := R.2.2.2.2.2
  exact ⟨R.pMt, n, h1, h3⟩
theorem Rel.pTy (R : Rel hc hm) : tyP hm := by
  obtain ⟨n, h1, -, h3, h4⟩ := R.2.2.2.2.2
  refine ⟨R.1.md, n, h1, h3, fun r hr => ?_⟩
  obtain ⟨c, l, -, l1, -, l2, -⟩ := h4 r hr
  exact ⟨l, l1, l2⟩
theorem Rel.pTm (R : Rel hc hm) : ∃ t, t ≤ 32 ∧ hm.1 25 13 = nI t := by
  obtain ⟨t, h1, -, h3, -⟩ := R.2.2.1
  exact ⟨t, h1, h3⟩
end PRE
/-- one round: the class's call, the law's own cell, the reference's call -/
theorem outH_fr {wv : Int32 → Int64} {x : Nat} {v : Int32} {h h' : mm_Hp} (hf : FrC h h') : FrC h (outH wv x v h') := by
  unfold outH
  split
  · exact hf
  · exact hf
theorem outH_1 (wv : Int32 → Int64) (x : Nat) (v : Int32) (h : mm_Hp) : (outH wv x v h).1 = h.1 := by
  unfold outH
  split <;> rfl
theorem outH_43 {wv : Int32 → Int64} {x : Nat} {v : Int32} {h : mm_Hp} (hx : x = 0) : (outH wv x v h).2 43 0 = wv v := by
  unfold outH
  rw [if_pos hx]
  show mm_upL h.2 43 0 (wv v) 43 0 = _
  rw [mm_upL_s]
  simp [vp_updL]
theorem rel_round {hp hc' h1 hm' : mm_Hp} (R : Rel hp hp) (e1 : h1.1 = hc'.1) (fc : FrC hp hc') (fm : FrM h1 hm') (k : Rel hp h1 → Rel hc' hm') : Rel hm' hm' := by
  have R1 : Rel hp h1 := R.hm (fun c hc => by rw [e1]; exact fc c hc)
  exact (k R1).hc (fun c hc => by rw [fm.1 c hc, e1])
theorem rel_h1 {hp hc' h1 : mm_Hp} (R : Rel hp hp) (e1 : h1.1 = hc'.1) (fc : FrC hp hc') : Rel hp h1 := R.hm (fun c hc => by rw [e1]; exact fc c hc)
