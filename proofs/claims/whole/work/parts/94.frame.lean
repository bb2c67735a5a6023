/-! ===== which cells the calls leave alone ===== -/
def FrC (h h' : mm_Hp) : Prop := ∀ c, 25 ≤ c → h'.1 c = h.1 c
def FrM (h h' : mm_Hp) : Prop := (∀ c, c < 25 → h'.1 c = h.1 c) ∧ h'.2 = h.2
theorem FrC.rf {h : mm_Hp} : FrC h h := fun _ _ => rfl
theorem FrM.rf {h : mm_Hp} : FrM h h := ⟨fun _ _ => rfl, rfl⟩
theorem FrC.tr {a b c : mm_Hp} (h1 : FrC a b) (h2 : FrC b c) : FrC a c := fun k hk => (h2 k hk).trans (h1 k hk)
theorem FrM.tr {a b c : mm_Hp} (h1 : FrM a b) (h2 : FrM b c) : FrM a c := ⟨fun k hk => (h2.1 k hk).trans (h1.1 k hk), h2.2.trans h1.2⟩
theorem FrC.sR {h : mm_Hp} {c : Nat} {g : Nat → Int32} (hc : c < 25) : FrC h (sR h c g) := fun k hk => sR_ne (by omega)
theorem FrM.sR {h : mm_Hp} {c : Nat} {g : Nat → Int32} (hc : 25 ≤ c) : FrM h (sR h c g) := ⟨fun k hk => sR_ne (by omega), rfl⟩
theorem FrC.up {h h' : mm_Hp} {c j : Nat} {v : Int32} {x : Nat → Nat → Int64} (hc : c < 25) (hh : FrC h h') : FrC h (mm_up h'.1 c j v, x) := fun k hk => (mm_up_n (by omega)).trans (hh k hk)
theorem FrM.setA {h : mm_Hp} {c i : Nat} {v : Int32} (hc : 25 ≤ c) : FrM h (setA h c i v) := ⟨fun k hk => mm_up_n (by omega), rfl⟩
theorem FrM.setT {h : mm_Hp} {v : Int32} : FrM h (setT v h) := ⟨fun k hk => mm_up_n (by omega), rfl⟩
theorem FrM.setF {h : mm_Hp} {j : Nat} {v : Int32} : FrM h (setF j v h) := FrM.sR (by omega)
theorem FrC.ite {P : Prop} [Decidable P] {h a b : mm_Hp} (h1 : FrC h a) (h2 : FrC h b) : FrC h (if P then a else b) := by
  split
  · exact h1
  · exact h2
theorem FrM.ite {P : Prop} [Decidable P] {h a b : mm_Hp} (h1 : FrM h a) (h2 : FrM h b) : FrM h (if P then a else b) := by
  split
  · exact h1
  · exact h2
theorem FrC.ite2 {P : Prop} [Decidable P] {h : mm_Hp} {a b : Int32 × mm_Hp} (h1 : FrC h a.2) (h2 : FrC h b.2) : FrC h (if P then a else b).2 := by
  split
  · exact h1
  · exact h2
theorem FrM.ite2 {P : Prop} [Decidable P] {h : mm_Hp} {a b : Int32 × mm_Hp} (h1 : FrM h a.2) (h2 : FrM h b.2) : FrM h (if P then a else b).2 := by
  split
  · exact h1
  · exact h2
theorem hCn_fr (f b m : Int32) (hp : mm_Hp) : FrC hp (hCn f b m hp) := FrC.ite (fun c hc => fadd_ne f b m hp (by omega) (by omega) (by omega) (by omega) (by omega) (by omega)) FrC.rf
theorem hTR_fr (hp : mm_Hp) : FrC hp (hTR hp) := fun c hc => hTR_ne hp (by omega) (by omega) (by omega) (by omega) (by omega) (by omega)
theorem setD_fr (c b : Int32) (hp : mm_Hp) : FrC hp (setD c b hp) := fun k hk => mm_up_n (by omega)
theorem fDbG_fr {rT : mm_Hp → Int32} {hT : mm_Hp → mm_Hp} (hh : ∀ h, FrC h (hT h)) (c b : Int32) (hp : mm_Hp) : FrC hp (fDbG rT hT c b hp).2 := by
  unfold fDbG
  exact FrC.ite2 FrC.rf (FrC.ite2 (FrC.ite2 ((setD_fr _ _ _).tr (hh _)) (((setD_fr _ _ _).tr (hh _)).tr (setD_fr _ _ _))) (setD_fr _ _ _))
theorem fDb_fr (c b : Int32) (hp : mm_Hp) : FrC hp (fDb c b hp).2 := fDbG_fr hTR_fr c b hp
theorem setS_fr (c s x : Int32) (hp : mm_Hp) : FrC hp (setS c s x hp) := FrC.ite (FrC.up (by omega) FrC.rf) (FrC.up (by omega) FrC.rf)
theorem fWrG_fr {rT : mm_Hp → Int32} {hT : mm_Hp → mm_Hp} (hh : ∀ h, FrC h (hT h)) (c s t : Int32) (hp : mm_Hp) : FrC hp (fWrG rT hT c s t hp).2 := by
  unfold fWrG
  exact FrC.ite2 ((setS_fr _ _ _ _).tr (hh _)) (((setS_fr _ _ _ _).tr (hh _)).tr (setS_fr _ _ _ _))
theorem fWr_fr (c s t : Int32) (hp : mm_Hp) : FrC hp (fWr c s t hp).2 := fWrG_fr hTR_fr c s t hp
theorem fDrop_fr (h : mm_Hp) : FrC h (fDropRow h) := FrC.ite FrC.rf (FrC.up (by omega) FrC.rf)
theorem fRwG_fr {rT : mm_Hp → Int32} {hT : mm_Hp → mm_Hp} (hh : ∀ h, FrC h (hT h)) (a b : Int32) (hp : mm_Hp) : FrC hp (fRwG rT hT a b hp).2 := by
  have h1 : FrC hp (fAddRow a b hp) := fun c hc => fAdd_ne a b hp (by omega) (by omega) (by omega)
  unfold fRwG
  exact FrC.ite2 (h1.tr (hh _)) ((h1.tr (hh _)).tr (fDrop_fr _))
theorem fRw_fr (a b : Int32) (hp : mm_Hp) : FrC hp (fRw a b hp).2 := fRwG_fr hTR_fr a b hp
theorem fOrder_fr (hp : mm_Hp) : FrC hp (fOrder hp) := fun c hc => fOrder_ne hp (by omega) (by omega) (by omega)
theorem hBuild_fr (hp : mm_Hp) : FrC hp (hBuild hp) := fun c hc => hBuild_ne hp c (by omega) (by omega)
theorem hHrd_fr (hp : mm_Hp) : FrC hp (hHrd hp) := FrC.ite (FrC.up (by omega) FrC.rf) FrC.rf
theorem hInt_fr (h c : Int32) (hp : mm_Hp) : FrC hp (hInt h c hp) := FrC.ite (FrC.ite (FrC.up (by omega) FrC.rf) FrC.rf) FrC.rf
theorem hApp_fr (w : Int32) (hp : mm_Hp) : FrC hp (hApp w hp) := (FrC.sR (by omega)).tr (FrC.sR (by omega))
theorem hUn_fr (a b c d : Int32) (hp : mm_Hp) : FrC hp (hUn a b c d hp) := (((hApp_fr _ _).tr (hApp_fr _ _)).tr (hApp_fr _ _)).tr (hApp_fr _ _)
theorem upPl_fr (hp : mm_Hp) : FrC hp (upPl hp) := FrC.up (by omega) FrC.rf
theorem hNum_fr (hp : mm_Hp) : FrC hp (hNum hp) := FrC.sR (by omega)
theorem addH_fr (k v : Int32) (hp : mm_Hp) : FrC hp (addH hp k v) := fun c hc => addH_ne (by omega) (by omega) (by omega)
theorem hCd_fr (hp : mm_Hp) : FrC hp (hCd hp) := by
  unfold hCd
  exact FrC.ite FrC.rf (FrC.ite ((upPl_fr _).tr (addH_fr _ _ _)) (FrC.ite ((upPl_fr _).tr (hNum_fr _)) (((upPl_fr _).tr (hNum_fr _)).tr (addH_fr _ _ _))))
theorem fCdsF_fr : ∀ (n : Nat) (h : mm_Hp), FrC h (fCdsF n h).2
  | 0, _ => FrC.rf
  | n + 1, h => by
    unfold fCdsF
    exact FrC.ite2 (hCd_fr _) (FrC.ite2 (((hCd_fr _).tr (upPl_fr _)).tr (fCdsF_fr n _)) (hCd_fr _))
theorem fCds_fr (hp : mm_Hp) : FrC hp (fCds hp).2 := by
  have h1 : FrC hp (hCd0 hp) := FrC.up (by omega) FrC.rf
  unfold fCds
  exact FrC.ite2 h1 (h1.tr (fCdsF_fr _ _))
theorem endF_fr (h : mm_Hp) : FrC h (endF h).2 := FrC.up (by omega) FrC.rf
theorem endT_fr (h : mm_Hp) : FrC h (endT h).2 := fun k hk => (mm_up_n (by omega)).trans (mm_up_n (by omega))
theorem hTy_fr (h : mm_Hp) : FrC h (hTy h) := by
  unfold hTy
  exact FrC.ite ((upPl_fr _).tr (fun k hk => (tyH_ne _ (by omega)).trans (hNum_fr _ k hk))) FrC.rf
theorem fRT_fr (hp : mm_Hp) : FrC hp (fRT hp).2 := by
  have h1 : FrC hp (p0H hp) := FrC.up (by omega) FrC.rf
  have h2 := h1.tr (fCds_fr (p0H hp))
  have h3 := h2.tr (hTy_fr _)
  unfold fRT
  exact FrC.ite2 (h2.tr (endF_fr _)) (FrC.ite2 (h3.tr (endF_fr _)) (FrC.ite2 (h3.tr (endT_fr _)) (h3.tr (endF_fr _))))
theorem hTl_fr (hp : mm_Hp) : FrM hp (hTl hp) := ((FrM.sR (by omega)).tr (FrM.sR (by omega))).tr (FrM.sR (by omega))
theorem hSe_fr (hp : mm_Hp) : FrM hp (hSe hp) := (FrM.sR (by omega)).tr (FrM.sR (by omega))
theorem hMay_fr (hp : mm_Hp) : FrM hp (hMay hp) := FrM.ite ((hSe_fr _).tr (hTl_fr _)) (hSe_fr _)
theorem mCn_fr (f b m : Int32) (hp : mm_Hp) : FrM hp (mCn f b m hp) := ((((FrM.sR (by omega)).tr (FrM.sR (by omega))).tr (FrM.sR (by omega))).tr (FrM.sR (by omega))).tr (FrM.sR (by omega))
theorem hCnM_fr (f b m : Int32) (hp : mm_Hp) : FrM hp (hCnM f b m hp) := FrM.ite (FrM.setT.tr (mCn_fr _ _ _ _)) FrM.setT
theorem fDbM_fr {rs : mm_Hp → Int32} {hm : mm_Hp → mm_Hp} (hh : ∀ h, FrM h (hm h)) (c b : Int32) (hp : mm_Hp) : FrM hp (fDbM rs hm c b hp).2 := by
  have h1 : ∀ v, FrM hp (setA (setT 0 hp) 29 (cN c) v) := fun v => FrM.setT.tr (FrM.setA (by omega))
  unfold fDbM
  exact FrM.ite2 (h1 _) (FrM.ite2 (FrM.ite2 (((h1 _).tr (hh _)).tr (FrM.setA (by omega))) ((h1 _).tr (hh _))) (h1 _))
theorem hDbM_fr (c b : Int32) (hp : mm_Hp) : FrM hp (hDbM c b hp) := by
  unfold hDbM
  exact FrM.ite (fDbM_fr hMay_fr c b hp) FrM.setT
theorem fWrM_fr {rs : mm_Hp → Int32} {hm : mm_Hp → mm_Hp} (hh : ∀ h, FrM h (hm h)) (c s t : Int32) (hp : mm_Hp) : FrM hp (fWrM rs hm c s t hp).2 := by
  have h1 : ∀ i v, FrM hp (setA (setT 0 hp) 30 i v) := fun i v => FrM.setT.tr (FrM.setA (by omega))
  unfold fWrM
  exact FrM.ite2 (((h1 _ _).tr (hh _)).tr (FrM.setA (by omega))) ((h1 _ _).tr (hh _))
theorem hWrM_fr (c s t : Int32) (hp : mm_Hp) : FrM hp (hWrM c s t hp) := by
  unfold hWrM
  exact FrM.ite (fWrM_fr hMay_fr c s t hp) FrM.setT
theorem fRwM_fr {rs : mm_Hp → Int32} {hm : mm_Hp → mm_Hp} (hh : ∀ h, FrM h (hm h)) (a b : Int32) (hp : mm_Hp) : FrM hp (fRwM rs hm a b hp).2 := by
  have h1 : FrM hp (addM a b (setT 0 hp)) := ((FrM.setT.tr (FrM.setA (by omega))).tr (FrM.setA (by omega))).tr (FrM.setA (by omega))
  unfold fRwM
  exact FrM.ite2 ((h1.tr (hh _)).tr (FrM.setA (by omega))) ((h1.tr (hh _)).tr (FrM.setA (by omega)))
theorem hRwM_fr (a b : Int32) (hp : mm_Hp) : FrM hp (hRwM a b hp) := by
  unfold hRwM
  exact FrM.ite (fRwM_fr hMay_fr a b hp) FrM.setT
theorem hRgM_fr (k : Int32) (hp : mm_Hp) : FrM hp (hRgM k hp) := FrM.setT
theorem hOrM_fr (a b : Int32) (hp : mm_Hp) : FrM hp (hOrM a b hp) := FrM.ite (FrM.setT.tr (hSe_fr _)) FrM.setT
theorem hLi_fr (hp : mm_Hp) : FrM hp (hLi hp) := FrM.sR (by omega)
theorem hChM_fr (d : Int32) (hp : mm_Hp) : FrM hp (hChM d hp) := FrM.ite (FrM.setT.tr (hLi_fr _)) FrM.setT
theorem hCsM_fr (hp : mm_Hp) : FrM hp (hCsM hp) := FrM.setT.tr (hLi_fr _)
theorem lsN_fr (a b : Int32) (hp : mm_Hp) : FrM hp (lsN a b hp) := ⟨fun k hk => (mm_up_n (by omega)).trans (mm_up_n (by omega)), rfl⟩
theorem hDsM_fr (s p : Int32) (hp : mm_Hp) : FrM hp (hDsM s p hp) := FrM.ite (((FrM.setT.tr (FrM.sR (by omega))).tr (FrM.setA (by omega))).tr (FrM.setA (by omega))) FrM.setT
theorem hMnM_fr (d p : Int32) (hp : mm_Hp) : FrM hp (hMnM d p hp) := FrM.ite ((FrM.setT.tr (hLi_fr _)).tr (lsN_fr _ _ _)) FrM.setT
theorem hHdM_fr (hp : mm_Hp) : FrM hp (hHdM hp) := FrM.ite (FrM.setT.tr FrM.setF) FrM.setT
theorem hInM_fr (h c : Int32) (hp : mm_Hp) : FrM hp (hInM h c hp) := FrM.ite (FrM.setT.tr (FrM.sR (by omega))) FrM.setT
theorem hOvM_fr (a b p : Int32) (hp : mm_Hp) : FrM hp (hOvM a b p hp) := FrM.ite (FrM.setT.tr (lsN_fr _ _ _)) FrM.setT
theorem hLkM_fr (c k : Int32) (hp : mm_Hp) : FrM hp (hLkM c k hp) := FrM.setT
theorem hTk_fr (w : Int32) (hp : mm_Hp) : FrM hp (hTk w hp) := (FrM.sR (by omega)).tr (FrM.sR (by omega))
theorem hUnM_fr (a b c d : Int32) (hp : mm_Hp) : FrM hp (hUnM a b c d hp) := FrM.ite ((((FrM.setT.tr (hTk_fr _ _)).tr (hTk_fr _ _)).tr (hTk_fr _ _)).tr (hTk_fr _ _)) FrM.setT
theorem fRlM_fr (hp : mm_Hp) : FrM hp (fRlM hp).2 := by
  have h1 : FrM hp (mRl0 hp) := FrM.setT.tr (FrM.setA (by omega))
  have h2 : ∀ r t, FrM hp (mRl1 hp r t) := fun r t => (((FrM.setT.tr (FrM.sR (by omega))).tr (FrM.setA (by omega))).tr (FrM.setA (by omega))).tr (FrM.setA (by omega))
  exact FrM.ite2 FrM.setT (FrM.ite2 (h2 _ _) h1)
theorem hTyM_fr (c : Int32) (hp : mm_Hp) : FrM hp (hTyM c hp) := FrM.setT
theorem hCtM_fr (w : Int32) (hp : mm_Hp) : FrM hp (hCtM w hp) := FrM.setT
