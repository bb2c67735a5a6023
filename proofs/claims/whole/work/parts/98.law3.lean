/-! ===== each round keeps the relation (by wip/whole/gen98.py) ===== -/
theorem cmp_0 (x : Int64) : lg_cmp x x = 0 := by
  unfold lg_cmp
  rw [if_neg (fun h => absurd h (by rw [gt_iff_lt, Int64.lt_iff_toInt_lt]; omega)), if_pos rfl]
theorem cdI_0 {x : Nat} (hx : x ≤ 3) (h : cdI x = 0) : x = 0 := by
  rcases (by omega : x = 0 ∨ x = 1 ∨ x = 2 ∨ x = 3) with rfl | rfl | rfl | rfl
  · rfl
  · exact absurd h (by decide +kernel)
  · exact absurd h (by decide +kernel)
  · exact absurd h (by decide +kernel)
theorem cd1_0 {x : Nat} (h : cd1 x = 0) : x = 0 := by
  unfold cd1 at h
  split at h
  · assumption
  · exact absurd h (by decide +kernel)
theorem fin_I {tx : Nat} {v v' : Int32} {h2 hc : mm_Hp} (fm : FrM (outH wvI tx v hc) h2) (hx : tx = 0) (e : v' = v) : lg_cmp (h2.2 43 0) v'.toInt64 = 0 := by
  rw [fm.2, outH_43 hx, e]
  exact cmp_0 _
theorem fin_B {tx : Nat} {v v' : Int32} {h2 hc : mm_Hp} (fm : FrM (outH wvB tx v hc) h2) (hx : tx = 0) (e : v' = v) : (v' = 0 → lg_cmp (h2.2 43 0) (Int64.ofNat 0) = 0) ∧ (¬ v' = 0 → lg_cmp (h2.2 43 0) (Int64.ofNat 1) = 0) := by
  rw [fm.2, outH_43 hx, e]
  unfold wvB
  refine ⟨fun h => ?_, fun h => ?_⟩
  · rw [if_pos h]; decide +kernel
  · rw [if_neg h]; decide +kernel
def aW_coin : List (Nat × mm_Ct) := [(157, sL_coin), (166, sM_coin), (168, sM_thrown)]
theorem V_coin {Ln : Nat} {xs : Nat → Int32} {x : Int32} {o5 o6 : Option Value} {hp : mm_Hp} (g1 : vp_in (x + 1) Ln) (g2 : vp_in (x + 2) Ln) (g3 : vp_in (x + 3) Ln) (R : Rel hp hp) :
    mm_wp (xxW (Ln, xs) tW_coin aW_coin) (bW 201 x (fun h => Rel h h)) 80 tW_coin (LL x o5 o6) [] hp 0 := by
  have fc : FrC hp (hCn (xs (x + 1).toNatClampNeg) (xs (x + 2).toNatClampNeg) (xs (x + 3).toNatClampNeg) hp) := hCn_fr _ _ _ _
  obtain ⟨h1, e1⟩ : ∃ h, h = (outH wvI (xCn (xs (x + 1).toNatClampNeg) (xs (x + 2).toNatClampNeg) (xs (x + 3).toNatClampNeg) hp) (hp.1 1 7) (hCn (xs (x + 1).toNatClampNeg) (xs (x + 2).toNatClampNeg) (xs (x + 3).toNatClampNeg) hp)) := ⟨_, rfl⟩
  have z1 : h1.1 = (hCn (xs (x + 1).toNatClampNeg) (xs (x + 2).toNatClampNeg) (xs (x + 3).toNatClampNeg) hp).1 := by rw [e1]; exact outH_1 _ _ _ _
  have R1 : Rel hp h1 := rel_h1 (hc' := hCn (xs (x + 1).toNatClampNeg) (xs (x + 2).toNatClampNeg) (xs (x + 3).toNatClampNeg) hp) R z1 fc
  have fm : FrM h1 (hCnM (xs (x + 1).toNatClampNeg) (xs (x + 2).toNatClampNeg) (xs (x + 3).toNatClampNeg) h1) := hCnM_fr _ _ _ _
  obtain ⟨t1, t2, t3⟩ := coin_same R1 (xs (x + 1).toNatClampNeg) (xs (x + 2).toNatClampNeg) (xs (x + 3).toNatClampNeg)
  have hI : Rel (hCnM (xs (x + 1).toNatClampNeg) (xs (x + 2).toNatClampNeg) (xs (x + 3).toNatClampNeg) h1) (hCnM (xs (x + 1).toNatClampNeg) (xs (x + 2).toNatClampNeg) (xs (x + 3).toNatClampNeg) h1) := rel_round (hc' := hCn (xs (x + 1).toNatClampNeg) (xs (x + 2).toNatClampNeg) (xs (x + 3).toNatClampNeg) hp) R z1 fc fm (fun _ => t3)
  have hv : cdI (xCn (xs (x + 1).toNatClampNeg) (xs (x + 2).toNatClampNeg) (xs (x + 3).toNatClampNeg) hp) = 0 → lg_cmp ((hCnM (xs (x + 1).toNatClampNeg) (xs (x + 2).toNatClampNeg) (xs (x + 3).toNatClampNeg) h1).2 43 0) (rCnM (xs (x + 1).toNatClampNeg) (xs (x + 2).toNatClampNeg) (xs (x + 3).toNatClampNeg) h1).toInt64 = 0 := by
    intro hz
    have z := cdI_0 (Nat.le_trans (xCn_3 _ _ _ _) (by omega)) hz
    rw [e1] at fm t2 ⊢
    exact fin_I fm z (t2 z)
  subst e1
  exact W_coin _ _ cdI wvI _ _ _ rCnM hCnM g1 g2 g3 R.pSz R1.pMn t1 hv hI
def aW_doubt : List (Nat × mm_Ct) := [(175, sL_doubt), (180, sM_doubt), (168, sM_thrown)]
theorem V_doubt {Ln : Nat} {xs : Nat → Int32} {x : Int32} {o5 o6 : Option Value} {hp : mm_Hp} {y : Int32} (hy0 : xs (x + 2).toNatClampNeg = 0 → y = Int32.ofInt 0) (hy1 : ¬ xs (x + 2).toNatClampNeg = 0 → y = Int32.ofInt 1) (hB : isB y) (g1 : vp_in (x + 1) Ln) (g2 : vp_in (x + 2) Ln) (R : Rel hp hp) :
    mm_wp (xxW (Ln, xs) tW_doubt aW_doubt) (bW 292 x (fun h => Rel h h)) 80 tW_doubt (LL x o5 o6) [] hp 0 := by
  have fc : FrC hp (if xCoin (xs (x + 1).toNatClampNeg) hp = 0 then (fDb (xs (x + 1).toNatClampNeg) y hp).2 else hp) := FrC.ite (fDb_fr _ _ _) FrC.rf
  obtain ⟨h1, e1⟩ : ∃ h, h = (outH wvB (xCoin (xs (x + 1).toNatClampNeg) hp) ((fDb (xs (x + 1).toNatClampNeg) y hp).1) (if xCoin (xs (x + 1).toNatClampNeg) hp = 0 then (fDb (xs (x + 1).toNatClampNeg) y hp).2 else hp)) := ⟨_, rfl⟩
  have z1 : h1.1 = (if xCoin (xs (x + 1).toNatClampNeg) hp = 0 then (fDb (xs (x + 1).toNatClampNeg) y hp).2 else hp).1 := by rw [e1]; exact outH_1 _ _ _ _
  have R1 : Rel hp h1 := rel_h1 (hc' := if xCoin (xs (x + 1).toNatClampNeg) hp = 0 then (fDb (xs (x + 1).toNatClampNeg) y hp).2 else hp) R z1 fc
  have fm : FrM h1 (hDbM (xs (x + 1).toNatClampNeg) y h1) := hDbM_fr _ _ _
  obtain ⟨t1, t2, t3⟩ := doubt_same R1 (xs (x + 1).toNatClampNeg) y hB
  have hI : Rel (hDbM (xs (x + 1).toNatClampNeg) y h1) (hDbM (xs (x + 1).toNatClampNeg) y h1) := rel_round (hc' := if xCoin (xs (x + 1).toNatClampNeg) hp = 0 then (fDb (xs (x + 1).toNatClampNeg) y hp).2 else hp) R z1 fc fm (fun _ => t3)
  have hv : cdI (xCoin (xs (x + 1).toNatClampNeg) hp) = 0 → (rDbM (xs (x + 1).toNatClampNeg) y h1 = 0 → lg_cmp ((hDbM (xs (x + 1).toNatClampNeg) y h1).2 43 0) (Int64.ofNat 0) = 0) ∧ (¬ rDbM (xs (x + 1).toNatClampNeg) y h1 = 0 → lg_cmp ((hDbM (xs (x + 1).toNatClampNeg) y h1).2 43 0) (Int64.ofNat 1) = 0) := by
    intro hz
    have z := cdI_0 (Nat.le_trans (xCoin_1 _ _) (by omega)) hz
    rw [e1] at fm t2 ⊢
    exact fin_B fm z (t2 z)
  subst e1
  exact W_doubt _ _ cdI wvB _ _ _ rDbM hDbM hy0 hy1 g1 g2 ⟨R.pPr, hB⟩ ⟨R1.pMs, hB⟩ t1 hv hI
def aW_wear : List (Nat × mm_Ct) := [(183, sL_wear), (186, sM_wear), (168, sM_thrown)]
theorem V_wear {Ln : Nat} {xs : Nat → Int32} {x : Int32} {o5 o6 : Option Value} {hp : mm_Hp} (g1 : vp_in (x + 1) Ln) (g2 : vp_in (x + 2) Ln) (g3 : vp_in (x + 3) Ln) (R : Rel hp hp) :
    mm_wp (xxW (Ln, xs) tW_wear aW_wear) (bW 379 x (fun h => Rel h h)) 80 tW_wear (LL x o5 o6) [] hp 0 := by
  have fc : FrC hp (if xWr (xs (x + 1).toNatClampNeg) (xs (x + 2).toNatClampNeg) (xs (x + 3).toNatClampNeg) hp = 0 then (fWr (xs (x + 1).toNatClampNeg) (xs (x + 2).toNatClampNeg) (xs (x + 3).toNatClampNeg) hp).2 else hp) := FrC.ite (fWr_fr _ _ _ _) FrC.rf
  obtain ⟨h1, e1⟩ : ∃ h, h = (outH wvB (xWr (xs (x + 1).toNatClampNeg) (xs (x + 2).toNatClampNeg) (xs (x + 3).toNatClampNeg) hp) ((fWr (xs (x + 1).toNatClampNeg) (xs (x + 2).toNatClampNeg) (xs (x + 3).toNatClampNeg) hp).1) (if xWr (xs (x + 1).toNatClampNeg) (xs (x + 2).toNatClampNeg) (xs (x + 3).toNatClampNeg) hp = 0 then (fWr (xs (x + 1).toNatClampNeg) (xs (x + 2).toNatClampNeg) (xs (x + 3).toNatClampNeg) hp).2 else hp)) := ⟨_, rfl⟩
  have z1 : h1.1 = (if xWr (xs (x + 1).toNatClampNeg) (xs (x + 2).toNatClampNeg) (xs (x + 3).toNatClampNeg) hp = 0 then (fWr (xs (x + 1).toNatClampNeg) (xs (x + 2).toNatClampNeg) (xs (x + 3).toNatClampNeg) hp).2 else hp).1 := by rw [e1]; exact outH_1 _ _ _ _
  have R1 : Rel hp h1 := rel_h1 (hc' := if xWr (xs (x + 1).toNatClampNeg) (xs (x + 2).toNatClampNeg) (xs (x + 3).toNatClampNeg) hp = 0 then (fWr (xs (x + 1).toNatClampNeg) (xs (x + 2).toNatClampNeg) (xs (x + 3).toNatClampNeg) hp).2 else hp) R z1 fc
  have fm : FrM h1 (hWrM (xs (x + 1).toNatClampNeg) (xs (x + 2).toNatClampNeg) (xs (x + 3).toNatClampNeg) h1) := hWrM_fr _ _ _ _
  obtain ⟨t1, t2, t3⟩ := wear_same R1 (xs (x + 1).toNatClampNeg) (xs (x + 2).toNatClampNeg) (xs (x + 3).toNatClampNeg)
  have hI : Rel (hWrM (xs (x + 1).toNatClampNeg) (xs (x + 2).toNatClampNeg) (xs (x + 3).toNatClampNeg) h1) (hWrM (xs (x + 1).toNatClampNeg) (xs (x + 2).toNatClampNeg) (xs (x + 3).toNatClampNeg) h1) := rel_round (hc' := if xWr (xs (x + 1).toNatClampNeg) (xs (x + 2).toNatClampNeg) (xs (x + 3).toNatClampNeg) hp = 0 then (fWr (xs (x + 1).toNatClampNeg) (xs (x + 2).toNatClampNeg) (xs (x + 3).toNatClampNeg) hp).2 else hp) R z1 fc fm (fun _ => t3)
  have hv : cdI (xWr (xs (x + 1).toNatClampNeg) (xs (x + 2).toNatClampNeg) (xs (x + 3).toNatClampNeg) hp) = 0 → (rWrM (xs (x + 1).toNatClampNeg) (xs (x + 2).toNatClampNeg) (xs (x + 3).toNatClampNeg) h1 = 0 → lg_cmp ((hWrM (xs (x + 1).toNatClampNeg) (xs (x + 2).toNatClampNeg) (xs (x + 3).toNatClampNeg) h1).2 43 0) (Int64.ofNat 0) = 0) ∧ (¬ rWrM (xs (x + 1).toNatClampNeg) (xs (x + 2).toNatClampNeg) (xs (x + 3).toNatClampNeg) h1 = 0 → lg_cmp ((hWrM (xs (x + 1).toNatClampNeg) (xs (x + 2).toNatClampNeg) (xs (x + 3).toNatClampNeg) h1).2 43 0) (Int64.ofNat 1) = 0) := by
    intro hz
    have z := cdI_0 (Nat.le_trans (xWr_2 _ _ _ _) (by omega)) hz
    rw [e1] at fm t2 ⊢
    exact fin_B fm z (t2 z)
  subst e1
  exact W_wear _ _ cdI wvB _ _ _ rWrM hWrM g1 g2 g3 R.pPr R1.pMs t1 hv hI
def aW_row : List (Nat × mm_Ct) := [(189, sL_row), (194, sM_row), (168, sM_thrown)]
theorem V_row {Ln : Nat} {xs : Nat → Int32} {x : Int32} {o5 o6 : Option Value} {hp : mm_Hp} (g1 : vp_in (x + 1) Ln) (g2 : vp_in (x + 2) Ln) (R : Rel hp hp) :
    mm_wp (xxW (Ln, xs) tW_row aW_row) (bW 454 x (fun h => Rel h h)) 80 tW_row (LL x o5 o6) [] hp 0 := by
  have fc : FrC hp (if xRw (xs (x + 1).toNatClampNeg) (xs (x + 2).toNatClampNeg) hp = 0 then (fRw (xs (x + 1).toNatClampNeg) (xs (x + 2).toNatClampNeg) hp).2 else hp) := FrC.ite (fRw_fr _ _ _) FrC.rf
  obtain ⟨h1, e1⟩ : ∃ h, h = (outH wvB (xRw (xs (x + 1).toNatClampNeg) (xs (x + 2).toNatClampNeg) hp) ((fRw (xs (x + 1).toNatClampNeg) (xs (x + 2).toNatClampNeg) hp).1) (if xRw (xs (x + 1).toNatClampNeg) (xs (x + 2).toNatClampNeg) hp = 0 then (fRw (xs (x + 1).toNatClampNeg) (xs (x + 2).toNatClampNeg) hp).2 else hp)) := ⟨_, rfl⟩
  have z1 : h1.1 = (if xRw (xs (x + 1).toNatClampNeg) (xs (x + 2).toNatClampNeg) hp = 0 then (fRw (xs (x + 1).toNatClampNeg) (xs (x + 2).toNatClampNeg) hp).2 else hp).1 := by rw [e1]; exact outH_1 _ _ _ _
  have R1 : Rel hp h1 := rel_h1 (hc' := if xRw (xs (x + 1).toNatClampNeg) (xs (x + 2).toNatClampNeg) hp = 0 then (fRw (xs (x + 1).toNatClampNeg) (xs (x + 2).toNatClampNeg) hp).2 else hp) R z1 fc
  have fm : FrM h1 (hRwM (xs (x + 1).toNatClampNeg) (xs (x + 2).toNatClampNeg) h1) := hRwM_fr _ _ _
  obtain ⟨t1, t2, t3⟩ := row_same R1 (xs (x + 1).toNatClampNeg) (xs (x + 2).toNatClampNeg)
  have hI : Rel (hRwM (xs (x + 1).toNatClampNeg) (xs (x + 2).toNatClampNeg) h1) (hRwM (xs (x + 1).toNatClampNeg) (xs (x + 2).toNatClampNeg) h1) := rel_round (hc' := if xRw (xs (x + 1).toNatClampNeg) (xs (x + 2).toNatClampNeg) hp = 0 then (fRw (xs (x + 1).toNatClampNeg) (xs (x + 2).toNatClampNeg) hp).2 else hp) R z1 fc fm (fun _ => t3)
  have hv : cdI (xRw (xs (x + 1).toNatClampNeg) (xs (x + 2).toNatClampNeg) hp) = 0 → (rRwM (xs (x + 1).toNatClampNeg) (xs (x + 2).toNatClampNeg) h1 = 0 → lg_cmp ((hRwM (xs (x + 1).toNatClampNeg) (xs (x + 2).toNatClampNeg) h1).2 43 0) (Int64.ofNat 0) = 0) ∧ (¬ rRwM (xs (x + 1).toNatClampNeg) (xs (x + 2).toNatClampNeg) h1 = 0 → lg_cmp ((hRwM (xs (x + 1).toNatClampNeg) (xs (x + 2).toNatClampNeg) h1).2 43 0) (Int64.ofNat 1) = 0) := by
    intro hz
    have z := cdI_0 (Nat.le_trans (xRw_3 _ _ _) (by omega)) hz
    rw [e1] at fm t2 ⊢
    exact fin_B fm z (t2 z)
  subst e1
  exact W_row _ _ cdI wvB _ _ _ rRwM hRwM g1 g2 R.pPr R1.pMs t1 hv hI
def aW_ring : List (Nat × mm_Ct) := [(197, sL_ring), (202, sM_ring), (168, sM_thrown)]
theorem V_ring {Ln : Nat} {xs : Nat → Int32} {x : Int32} {o5 o6 : Option Value} {hp : mm_Hp} (g1 : vp_in (x + 1) Ln) (R : Rel hp hp) :
    mm_wp (xxW (Ln, xs) tW_ring aW_ring) (bW 510 x (fun h => Rel h h)) 80 tW_ring (LL x o5 o6) [] hp 0 := by
  have fc : FrC hp (hp) := FrC.rf
  obtain ⟨h1, e1⟩ : ∃ h, h = (outH wvI (xPlace (xs (x + 1).toNatClampNeg)) (if hp.1 3 9 ≤ (xs (x + 1).toNatClampNeg) then -1 else hp.1 19 ((xs (x + 1).toNatClampNeg)).toNatClampNeg) (hp)) := ⟨_, rfl⟩
  have z1 : h1.1 = (hp).1 := by rw [e1]; exact outH_1 _ _ _ _
  have R1 : Rel hp h1 := rel_h1 (hc' := hp) R z1 fc
  have fm : FrM h1 (hRgM (xs (x + 1).toNatClampNeg) h1) := hRgM_fr _ _
  obtain ⟨t1, t2⟩ := ring1_same R1 (xs (x + 1).toNatClampNeg)
  have t3 : Rel hp (hRgM (xs (x + 1).toNatClampNeg) h1) := R1.thr _
  have t1 : (hRgM (xs (x + 1).toNatClampNeg) h1).1 25 0 = nI (xPlace (xs (x + 1).toNatClampNeg)) := (setT_0 _ _).trans t1
  have hI : Rel (hRgM (xs (x + 1).toNatClampNeg) h1) (hRgM (xs (x + 1).toNatClampNeg) h1) := rel_round (hc' := hp) R z1 fc fm (fun _ => t3)
  have hv : cdI (xPlace (xs (x + 1).toNatClampNeg)) = 0 → lg_cmp ((hRgM (xs (x + 1).toNatClampNeg) h1).2 43 0) (rRgM (xs (x + 1).toNatClampNeg) h1).toInt64 = 0 := by
    intro hz
    have z := cdI_0 (Nat.le_trans (xPlace_1 _) (by omega)) hz
    rw [e1] at fm t2 ⊢
    exact fin_I fm z (t2 z)
  subst e1
  exact W_ring _ _ cdI wvI _ _ _ rRgM hRgM g1 R.pTl R1.pTm t1 hv hI
def aW_order : List (Nat × mm_Ct) := [(205, sL_order), (208, sM_order), (168, sM_thrown)]
theorem V_order {Ln : Nat} {xs : Nat → Int32} {x : Int32} {o5 o6 : Option Value} {hp : mm_Hp} (g1 : vp_in (x + 1) Ln) (g2 : vp_in (x + 2) Ln) (R : Rel hp hp) :
    mm_wp (xxW (Ln, xs) tW_order aW_order) (bW 578 x (fun h => Rel h h)) 80 tW_order (LL x o5 o6) [] hp 0 := by
  have fc : FrC hp (if xOrd (xs (x + 1).toNatClampNeg) (xs (x + 2).toNatClampNeg) = 0 then fOrder hp else hp) := FrC.ite (fOrder_fr _) FrC.rf
  obtain ⟨h1, e1⟩ : ∃ h, h = (outH wvI (xOrd (xs (x + 1).toNatClampNeg) (xs (x + 2).toNatClampNeg)) (rOrd (xs (x + 1).toNatClampNeg) (xs (x + 2).toNatClampNeg) hp) (if xOrd (xs (x + 1).toNatClampNeg) (xs (x + 2).toNatClampNeg) = 0 then fOrder hp else hp)) := ⟨_, rfl⟩
  have z1 : h1.1 = (if xOrd (xs (x + 1).toNatClampNeg) (xs (x + 2).toNatClampNeg) = 0 then fOrder hp else hp).1 := by rw [e1]; exact outH_1 _ _ _ _
  have R1 : Rel hp h1 := rel_h1 (hc' := if xOrd (xs (x + 1).toNatClampNeg) (xs (x + 2).toNatClampNeg) = 0 then fOrder hp else hp) R z1 fc
  have fm : FrM h1 (hOrM (xs (x + 1).toNatClampNeg) (xs (x + 2).toNatClampNeg) h1) := hOrM_fr _ _ _
  obtain ⟨t1, t2, t3⟩ := order_same R1 (xs (x + 1).toNatClampNeg) (xs (x + 2).toNatClampNeg)
  have hI : Rel (hOrM (xs (x + 1).toNatClampNeg) (xs (x + 2).toNatClampNeg) h1) (hOrM (xs (x + 1).toNatClampNeg) (xs (x + 2).toNatClampNeg) h1) := rel_round (hc' := if xOrd (xs (x + 1).toNatClampNeg) (xs (x + 2).toNatClampNeg) = 0 then fOrder hp else hp) R z1 fc fm (fun _ => t3)
  have hv : cdI (xOrd (xs (x + 1).toNatClampNeg) (xs (x + 2).toNatClampNeg)) = 0 → lg_cmp ((hOrM (xs (x + 1).toNatClampNeg) (xs (x + 2).toNatClampNeg) h1).2 43 0) (rOrM (xs (x + 1).toNatClampNeg) (xs (x + 2).toNatClampNeg) h1).toInt64 = 0 := by
    intro hz
    have z := cdI_0 (Nat.le_trans (xOrd_2 _ _) (by omega)) hz
    rw [e1] at fm t2 ⊢
    exact fin_I fm z (t2 z)
  subst e1
  exact W_order _ _ cdI wvI _ _ _ rOrM hOrM g1 g2 R.pPr R1.pMs t1 hv hI
def aW_chain : List (Nat × mm_Ct) := [(211, sL_chain), (214, sM_chain), (168, sM_thrown)]
theorem V_chain {Ln : Nat} {xs : Nat → Int32} {x : Int32} {o5 o6 : Option Value} {hp : mm_Hp} (g1 : vp_in (x + 1) Ln) (R : Rel hp hp) :
    mm_wp (xxW (Ln, xs) tW_chain aW_chain) (bW 634 x (fun h => Rel h h)) 80 tW_chain (LL x o5 o6) [] hp 0 := by
  have fc : FrC hp (if xDie (xs (x + 1).toNatClampNeg) = 0 then hBuild hp else hp) := FrC.ite (hBuild_fr _) FrC.rf
  obtain ⟨h1, e1⟩ : ∃ h, h = (outH wvI (xDie (xs (x + 1).toNatClampNeg)) ((fBuild hp).2 ((xs (x + 1).toNatClampNeg)).toNatClampNeg) (if xDie (xs (x + 1).toNatClampNeg) = 0 then hBuild hp else hp)) := ⟨_, rfl⟩
  have z1 : h1.1 = (if xDie (xs (x + 1).toNatClampNeg) = 0 then hBuild hp else hp).1 := by rw [e1]; exact outH_1 _ _ _ _
  have R1 : Rel hp h1 := rel_h1 (hc' := if xDie (xs (x + 1).toNatClampNeg) = 0 then hBuild hp else hp) R z1 fc
  have fm : FrM h1 (hChM (xs (x + 1).toNatClampNeg) h1) := hChM_fr _ _
  obtain ⟨t1, t2, t3⟩ := chain_same R1 (xs (x + 1).toNatClampNeg)
  have hI : Rel (hChM (xs (x + 1).toNatClampNeg) h1) (hChM (xs (x + 1).toNatClampNeg) h1) := rel_round (hc' := if xDie (xs (x + 1).toNatClampNeg) = 0 then hBuild hp else hp) R z1 fc fm (fun _ => t3)
  have hv : cdI (xDie (xs (x + 1).toNatClampNeg)) = 0 → lg_cmp ((hChM (xs (x + 1).toNatClampNeg) h1).2 43 0) (rChM (xs (x + 1).toNatClampNeg) h1).toInt64 = 0 := by
    intro hz
    have z := cdI_0 (Nat.le_trans (xDie_1 _) (by omega)) hz
    rw [e1] at fm t2 ⊢
    exact fin_I fm z (t2 z)
  subst e1
  exact W_chain _ _ cdI wvI _ _ _ rChM hChM g1 R.pCn R1.pMd t1 hv hI
def aW_dies : List (Nat × mm_Ct) := [(225, sL_dies), (228, sM_dies), (168, sM_thrown)]
theorem V_dies {Ln : Nat} {xs : Nat → Int32} {x : Int32} {o5 o6 : Option Value} {hp : mm_Hp} (g1 : vp_in (x + 1) Ln) (g2 : vp_in (x + 2) Ln) (R : Rel hp hp) :
    mm_wp (xxW (Ln, xs) tW_dies aW_dies) (bW 715 x (fun h => Rel h h)) 80 tW_dies (LL x o5 o6) [] hp 0 := by
  have fc : FrC hp (hp) := FrC.rf
  obtain ⟨h1, e1⟩ : ∃ h, h = (outH wvI (xDs (xs (x + 1).toNatClampNeg) (xs (x + 2).toNatClampNeg)) (fDs (xs (x + 1).toNatClampNeg) (xs (x + 2).toNatClampNeg) hp) (hp)) := ⟨_, rfl⟩
  have z1 : h1.1 = (hp).1 := by rw [e1]; exact outH_1 _ _ _ _
  have R1 : Rel hp h1 := rel_h1 (hc' := hp) R z1 fc
  have fm : FrM h1 (hDsM (xs (x + 1).toNatClampNeg) (xs (x + 2).toNatClampNeg) h1) := hDsM_fr _ _ _
  obtain ⟨t1, t2, t3⟩ := dies_same R1 (xs (x + 1).toNatClampNeg) (xs (x + 2).toNatClampNeg)
  have hI : Rel (hDsM (xs (x + 1).toNatClampNeg) (xs (x + 2).toNatClampNeg) h1) (hDsM (xs (x + 1).toNatClampNeg) (xs (x + 2).toNatClampNeg) h1) := rel_round (hc' := hp) R z1 fc fm (fun _ => t3)
  have hv : cdI (xDs (xs (x + 1).toNatClampNeg) (xs (x + 2).toNatClampNeg)) = 0 → lg_cmp ((hDsM (xs (x + 1).toNatClampNeg) (xs (x + 2).toNatClampNeg) h1).2 43 0) (rDsM (xs (x + 1).toNatClampNeg) (xs (x + 2).toNatClampNeg) h1).toInt64 = 0 := by
    intro hz
    have z := cdI_0 (Nat.le_trans (xDs_1 _ _) (by omega)) hz
    rw [e1] at fm t2 ⊢
    exact fin_I fm z (t2 z)
  subst e1
  exact W_dies _ _ cdI wvI _ _ _ rDsM hDsM g1 g2 R.pSz R1.pMd t1 hv hI
def aW_mean : List (Nat × mm_Ct) := [(231, sL_mean), (234, sM_mean), (168, sM_thrown)]
theorem V_mean {Ln : Nat} {xs : Nat → Int32} {x : Int32} {o5 o6 : Option Value} {hp : mm_Hp} (g1 : vp_in (x + 1) Ln) (g2 : vp_in (x + 2) Ln) (R : Rel hp hp) :
    mm_wp (xxW (Ln, xs) tW_mean aW_mean) (bW 783 x (fun h => Rel h h)) 80 tW_mean (LL x o5 o6) [] hp 0 := by
  have fc : FrC hp (if xMn (xs (x + 1).toNatClampNeg) (xs (x + 2).toNatClampNeg) = 0 then hBuild hp else hp) := FrC.ite (hBuild_fr _) FrC.rf
  obtain ⟨h1, e1⟩ : ∃ h, h = (outH wvI (xMn (xs (x + 1).toNatClampNeg) (xs (x + 2).toNatClampNeg)) (fMn (xs (x + 1).toNatClampNeg) (xs (x + 2).toNatClampNeg) hp) (if xMn (xs (x + 1).toNatClampNeg) (xs (x + 2).toNatClampNeg) = 0 then hBuild hp else hp)) := ⟨_, rfl⟩
  have z1 : h1.1 = (if xMn (xs (x + 1).toNatClampNeg) (xs (x + 2).toNatClampNeg) = 0 then hBuild hp else hp).1 := by rw [e1]; exact outH_1 _ _ _ _
  have R1 : Rel hp h1 := rel_h1 (hc' := if xMn (xs (x + 1).toNatClampNeg) (xs (x + 2).toNatClampNeg) = 0 then hBuild hp else hp) R z1 fc
  have fm : FrM h1 (hMnM (xs (x + 1).toNatClampNeg) (xs (x + 2).toNatClampNeg) h1) := hMnM_fr _ _ _
  obtain ⟨t1, t2, t3⟩ := mean_same R1 (xs (x + 1).toNatClampNeg) (xs (x + 2).toNatClampNeg)
  have hI : Rel (hMnM (xs (x + 1).toNatClampNeg) (xs (x + 2).toNatClampNeg) h1) (hMnM (xs (x + 1).toNatClampNeg) (xs (x + 2).toNatClampNeg) h1) := rel_round (hc' := if xMn (xs (x + 1).toNatClampNeg) (xs (x + 2).toNatClampNeg) = 0 then hBuild hp else hp) R z1 fc fm (fun _ => t3)
  have hv : cdI (xMn (xs (x + 1).toNatClampNeg) (xs (x + 2).toNatClampNeg)) = 0 → lg_cmp ((hMnM (xs (x + 1).toNatClampNeg) (xs (x + 2).toNatClampNeg) h1).2 43 0) (rMnM (xs (x + 1).toNatClampNeg) (xs (x + 2).toNatClampNeg) h1).toInt64 = 0 := by
    intro hz
    have z := cdI_0 (Nat.le_trans (xMn_1 _ _) (by omega)) hz
    rw [e1] at fm t2 ⊢
    exact fin_I fm z (t2 z)
  subst e1
  exact W_mean _ _ cdI wvI _ _ _ rMnM hMnM g1 g2 R.pCn ⟨R1.pMd, R1.pGr⟩ t1 hv hI
def aW_hoard : List (Nat × mm_Ct) := [(237, sL_hoard), (242, sM_hoard), (168, sM_thrown)]
theorem V_hoard {Ln : Nat} {xs : Nat → Int32} {x : Int32} {o5 o6 : Option Value} {hp : mm_Hp}  (R : Rel hp hp) :
    mm_wp (xxW (Ln, xs) tW_hoard aW_hoard) (bW 827 x (fun h => Rel h h)) 80 tW_hoard (LL x o5 o6) [] hp 0 := by
  have fc : FrC hp (hHrd hp) := hHrd_fr _
  obtain ⟨h1, e1⟩ : ∃ h, h = (outH wvI (xHrd hp) (hp.1 0 4 + 1 - 1) (hHrd hp)) := ⟨_, rfl⟩
  have z1 : h1.1 = (hHrd hp).1 := by rw [e1]; exact outH_1 _ _ _ _
  have R1 : Rel hp h1 := rel_h1 (hc' := hHrd hp) R z1 fc
  have fm : FrM h1 (hHdM  h1) := hHdM_fr _
  obtain ⟨t1, t2, t3⟩ := hoard_same R1
  have hI : Rel (hHdM  h1) (hHdM  h1) := rel_round (hc' := hHrd hp) R z1 fc fm (fun _ => t3)
  have hv : cd1 (xHrd hp) = 0 → lg_cmp ((hHdM  h1).2 43 0) (rHdM  h1).toInt64 = 0 := by
    intro hz
    have z := cd1_0 hz
    rw [e1] at fm t2 ⊢
    exact fin_I fm z (t2 z)
  subst e1
  exact W_hoard _ _ cd1 wvI _ _ _ rHdM hHdM  trivial trivial t1 hv hI
def aW_into : List (Nat × mm_Ct) := [(245, sL_into), (248, sM_into), (168, sM_thrown)]
theorem V_into {Ln : Nat} {xs : Nat → Int32} {x : Int32} {o5 o6 : Option Value} {hp : mm_Hp} (g1 : vp_in (x + 1) Ln) (g2 : vp_in (x + 2) Ln) (R : Rel hp hp) :
    mm_wp (xxW (Ln, xs) tW_into aW_into) (bW 902 x (fun h => Rel h h)) 80 tW_into (LL x o5 o6) [] hp 0 := by
  have fc : FrC hp (hInt (xs (x + 1).toNatClampNeg) (xs (x + 2).toNatClampNeg) hp) := hInt_fr _ _ _
  obtain ⟨h1, e1⟩ : ∃ h, h = (outH wvB (xInt (xs (x + 1).toNatClampNeg) (xs (x + 2).toNatClampNeg) hp) (rInt (xs (x + 1).toNatClampNeg) (xs (x + 2).toNatClampNeg) hp) (hInt (xs (x + 1).toNatClampNeg) (xs (x + 2).toNatClampNeg) hp)) := ⟨_, rfl⟩
  have z1 : h1.1 = (hInt (xs (x + 1).toNatClampNeg) (xs (x + 2).toNatClampNeg) hp).1 := by rw [e1]; exact outH_1 _ _ _ _
  have R1 : Rel hp h1 := rel_h1 (hc' := hInt (xs (x + 1).toNatClampNeg) (xs (x + 2).toNatClampNeg) hp) R z1 fc
  have fm : FrM h1 (hInM (xs (x + 1).toNatClampNeg) (xs (x + 2).toNatClampNeg) h1) := hInM_fr _ _ _
  obtain ⟨t1, t2, t3⟩ := into_same R1 (xs (x + 1).toNatClampNeg) (xs (x + 2).toNatClampNeg)
  have hI : Rel (hInM (xs (x + 1).toNatClampNeg) (xs (x + 2).toNatClampNeg) h1) (hInM (xs (x + 1).toNatClampNeg) (xs (x + 2).toNatClampNeg) h1) := rel_round (hc' := hInt (xs (x + 1).toNatClampNeg) (xs (x + 2).toNatClampNeg) hp) R z1 fc fm (fun _ => t3)
  have hv : cdI (xInt (xs (x + 1).toNatClampNeg) (xs (x + 2).toNatClampNeg) hp) = 0 → (rInM (xs (x + 1).toNatClampNeg) (xs (x + 2).toNatClampNeg) h1 = 0 → lg_cmp ((hInM (xs (x + 1).toNatClampNeg) (xs (x + 2).toNatClampNeg) h1).2 43 0) (Int64.ofNat 0) = 0) ∧ (¬ rInM (xs (x + 1).toNatClampNeg) (xs (x + 2).toNatClampNeg) h1 = 0 → lg_cmp ((hInM (xs (x + 1).toNatClampNeg) (xs (x + 2).toNatClampNeg) h1).2 43 0) (Int64.ofNat 1) = 0) := by
    intro hz
    have z := cdI_0 (Nat.le_trans (xInt_1 _ _ _) (by omega)) hz
    rw [e1] at fm t2 ⊢
    exact fin_B fm z (t2 z)
  subst e1
  exact W_into _ _ cdI wvB _ _ _ rInM hInM g1 g2 R.pSz R1.pHv t1 hv hI
def aW_overlap : List (Nat × mm_Ct) := [(251, sL_overlap), (254, sM_overlap), (168, sM_thrown)]
theorem V_overlap {Ln : Nat} {xs : Nat → Int32} {x : Int32} {o5 o6 : Option Value} {hp : mm_Hp} (g1 : vp_in (x + 1) Ln) (g2 : vp_in (x + 2) Ln) (g3 : vp_in (x + 3) Ln) (R : Rel hp hp) :
    mm_wp (xxW (Ln, xs) tW_overlap aW_overlap) (bW 982 x (fun h => Rel h h)) 80 tW_overlap (LL x o5 o6) [] hp 0 := by
  have fc : FrC hp (hp) := FrC.rf
  obtain ⟨h1, e1⟩ : ∃ h, h = (outH wvI (xOv (xs (x + 1).toNatClampNeg) (xs (x + 2).toNatClampNeg) (xs (x + 3).toNatClampNeg) hp) (fOv (xs (x + 1).toNatClampNeg) (xs (x + 2).toNatClampNeg) (xs (x + 3).toNatClampNeg) hp) (hp)) := ⟨_, rfl⟩
  have z1 : h1.1 = (hp).1 := by rw [e1]; exact outH_1 _ _ _ _
  have R1 : Rel hp h1 := rel_h1 (hc' := hp) R z1 fc
  have fm : FrM h1 (hOvM (xs (x + 1).toNatClampNeg) (xs (x + 2).toNatClampNeg) (xs (x + 3).toNatClampNeg) h1) := hOvM_fr _ _ _ _
  obtain ⟨t1, t2, t3⟩ := overlap_same R1 (xs (x + 1).toNatClampNeg) (xs (x + 2).toNatClampNeg) (xs (x + 3).toNatClampNeg)
  have hI : Rel (hOvM (xs (x + 1).toNatClampNeg) (xs (x + 2).toNatClampNeg) (xs (x + 3).toNatClampNeg) h1) (hOvM (xs (x + 1).toNatClampNeg) (xs (x + 2).toNatClampNeg) (xs (x + 3).toNatClampNeg) h1) := rel_round (hc' := hp) R z1 fc fm (fun _ => t3)
  have hv : cdI (xOv (xs (x + 1).toNatClampNeg) (xs (x + 2).toNatClampNeg) (xs (x + 3).toNatClampNeg) hp) = 0 → lg_cmp ((hOvM (xs (x + 1).toNatClampNeg) (xs (x + 2).toNatClampNeg) (xs (x + 3).toNatClampNeg) h1).2 43 0) (rOvM (xs (x + 1).toNatClampNeg) (xs (x + 2).toNatClampNeg) (xs (x + 3).toNatClampNeg) h1).toInt64 = 0 := by
    intro hz
    have z := cdI_0 (Nat.le_trans (xOv_1 _ _ _ _) (by omega)) hz
    rw [e1] at fm t2 ⊢
    exact fin_I fm z (t2 z)
  subst e1
  exact W_overlap _ _ cdI wvI _ _ _ rOvM hOvM g1 g2 g3 R.pSz ⟨R1.pMd, R1.pHn⟩ t1 hv hI
def aW_linked : List (Nat × mm_Ct) := [(257, sL_linked), (260, sM_linked), (168, sM_thrown)]
theorem V_linked {Ln : Nat} {xs : Nat → Int32} {x : Int32} {o5 o6 : Option Value} {hp : mm_Hp} (g1 : vp_in (x + 1) Ln) (g2 : vp_in (x + 2) Ln) (R : Rel hp hp) :
    mm_wp (xxW (Ln, xs) tW_linked aW_linked) (bW 1050 x (fun h => Rel h h)) 80 tW_linked (LL x o5 o6) [] hp 0 := by
  have fc : FrC hp (hp) := FrC.rf
  obtain ⟨h1, e1⟩ : ∃ h, h = (outH wvI (xLk (xs (x + 1).toNatClampNeg) (xs (x + 2).toNatClampNeg) hp) (fLk (xs (x + 1).toNatClampNeg) (xs (x + 2).toNatClampNeg) hp) (hp)) := ⟨_, rfl⟩
  have z1 : h1.1 = (hp).1 := by rw [e1]; exact outH_1 _ _ _ _
  have R1 : Rel hp h1 := rel_h1 (hc' := hp) R z1 fc
  have fm : FrM h1 (hLkM (xs (x + 1).toNatClampNeg) (xs (x + 2).toNatClampNeg) h1) := hLkM_fr _ _ _
  obtain ⟨t1, t2, t3⟩ := linked_same R1 (xs (x + 1).toNatClampNeg) (xs (x + 2).toNatClampNeg)
  have hI : Rel (hLkM (xs (x + 1).toNatClampNeg) (xs (x + 2).toNatClampNeg) h1) (hLkM (xs (x + 1).toNatClampNeg) (xs (x + 2).toNatClampNeg) h1) := rel_round (hc' := hp) R z1 fc fm (fun _ => t3)
  have hv : cdI (xLk (xs (x + 1).toNatClampNeg) (xs (x + 2).toNatClampNeg) hp) = 0 → lg_cmp ((hLkM (xs (x + 1).toNatClampNeg) (xs (x + 2).toNatClampNeg) h1).2 43 0) (rLkM (xs (x + 1).toNatClampNeg) (xs (x + 2).toNatClampNeg) h1).toInt64 = 0 := by
    intro hz
    have z := cdI_0 (Nat.le_trans (xLk_1 _ _ _) (by omega)) hz
    rw [e1] at fm t2 ⊢
    exact fin_I fm z (t2 z)
  subst e1
  exact W_linked _ _ cdI wvI _ _ _ rLkM hLkM g1 g2 R.pSz R1.pMd t1 hv hI
def aW_unit : List (Nat × mm_Ct) := [(263, sL_unit), (268, sM_unit), (168, sM_thrown)]
theorem V_unit {Ln : Nat} {xs : Nat → Int32} {x : Int32} {o5 o6 : Option Value} {hp : mm_Hp} (g1 : vp_in (x + 1) Ln) (g2 : vp_in (x + 2) Ln) (g3 : vp_in (x + 3) Ln) (g4 : vp_in (x + 4) Ln) (R : Rel hp hp) :
    mm_wp (xxW (Ln, xs) tW_unit aW_unit) (bW 1142 x (fun h => Rel h h)) 80 tW_unit (LL x o5 o6) [] hp 0 := by
  have fc : FrC hp (if xUn (xs (x + 1).toNatClampNeg) (xs (x + 2).toNatClampNeg) (xs (x + 3).toNatClampNeg) (xs (x + 4).toNatClampNeg) hp = 0 then hUn (xs (x + 1).toNatClampNeg) (xs (x + 2).toNatClampNeg) (xs (x + 3).toNatClampNeg) (xs (x + 4).toNatClampNeg) hp else hp) := FrC.ite (hUn_fr _ _ _ _ _) FrC.rf
  obtain ⟨h1, e1⟩ : ∃ h, h = (outH wvI (xUn (xs (x + 1).toNatClampNeg) (xs (x + 2).toNatClampNeg) (xs (x + 3).toNatClampNeg) (xs (x + 4).toNatClampNeg) hp) ((hUn (xs (x + 1).toNatClampNeg) (xs (x + 2).toNatClampNeg) (xs (x + 3).toNatClampNeg) (xs (x + 4).toNatClampNeg) hp).1 4 2) (if xUn (xs (x + 1).toNatClampNeg) (xs (x + 2).toNatClampNeg) (xs (x + 3).toNatClampNeg) (xs (x + 4).toNatClampNeg) hp = 0 then hUn (xs (x + 1).toNatClampNeg) (xs (x + 2).toNatClampNeg) (xs (x + 3).toNatClampNeg) (xs (x + 4).toNatClampNeg) hp else hp)) := ⟨_, rfl⟩
  have z1 : h1.1 = (if xUn (xs (x + 1).toNatClampNeg) (xs (x + 2).toNatClampNeg) (xs (x + 3).toNatClampNeg) (xs (x + 4).toNatClampNeg) hp = 0 then hUn (xs (x + 1).toNatClampNeg) (xs (x + 2).toNatClampNeg) (xs (x + 3).toNatClampNeg) (xs (x + 4).toNatClampNeg) hp else hp).1 := by rw [e1]; exact outH_1 _ _ _ _
  have R1 : Rel hp h1 := rel_h1 (hc' := if xUn (xs (x + 1).toNatClampNeg) (xs (x + 2).toNatClampNeg) (xs (x + 3).toNatClampNeg) (xs (x + 4).toNatClampNeg) hp = 0 then hUn (xs (x + 1).toNatClampNeg) (xs (x + 2).toNatClampNeg) (xs (x + 3).toNatClampNeg) (xs (x + 4).toNatClampNeg) hp else hp) R z1 fc
  have fm : FrM h1 (hUnM (xs (x + 1).toNatClampNeg) (xs (x + 2).toNatClampNeg) (xs (x + 3).toNatClampNeg) (xs (x + 4).toNatClampNeg) h1) := hUnM_fr _ _ _ _ _
  obtain ⟨t1, t2, t3⟩ := unit_same R1 (xs (x + 1).toNatClampNeg) (xs (x + 2).toNatClampNeg) (xs (x + 3).toNatClampNeg) (xs (x + 4).toNatClampNeg)
  have hI : Rel (hUnM (xs (x + 1).toNatClampNeg) (xs (x + 2).toNatClampNeg) (xs (x + 3).toNatClampNeg) (xs (x + 4).toNatClampNeg) h1) (hUnM (xs (x + 1).toNatClampNeg) (xs (x + 2).toNatClampNeg) (xs (x + 3).toNatClampNeg) (xs (x + 4).toNatClampNeg) h1) := rel_round (hc' := if xUn (xs (x + 1).toNatClampNeg) (xs (x + 2).toNatClampNeg) (xs (x + 3).toNatClampNeg) (xs (x + 4).toNatClampNeg) hp = 0 then hUn (xs (x + 1).toNatClampNeg) (xs (x + 2).toNatClampNeg) (xs (x + 3).toNatClampNeg) (xs (x + 4).toNatClampNeg) hp else hp) R z1 fc fm (fun _ => t3)
  have hv : cd1 (xUn (xs (x + 1).toNatClampNeg) (xs (x + 2).toNatClampNeg) (xs (x + 3).toNatClampNeg) (xs (x + 4).toNatClampNeg) hp) = 0 → lg_cmp ((hUnM (xs (x + 1).toNatClampNeg) (xs (x + 2).toNatClampNeg) (xs (x + 3).toNatClampNeg) (xs (x + 4).toNatClampNeg) h1).2 43 0) (rUnM (xs (x + 1).toNatClampNeg) (xs (x + 2).toNatClampNeg) (xs (x + 3).toNatClampNeg) (xs (x + 4).toNatClampNeg) h1).toInt64 = 0 := by
    intro hz
    have z := cd1_0 hz
    rw [e1] at fm t2 ⊢
    exact fin_I fm z (t2 z)
  subst e1
  exact W_unit _ _ cd1 wvI _ _ _ rUnM hUnM g1 g2 g3 g4 R.pTx R1.pMt t1 hv hI
def aW_rule : List (Nat × mm_Ct) := [(271, sL_rule), (274, sM_rule), (168, sM_thrown)]
theorem V_rule {Ln : Nat} {xs : Nat → Int32} {x : Int32} {o5 o6 : Option Value} {hp : mm_Hp}  (R : Rel hp hp) :
    mm_wp (xxW (Ln, xs) tW_rule aW_rule) (bW 1186 x (fun h => Rel h h)) 80 tW_rule (LL x o5 o6) [] hp 0 := by
  have fc : FrC hp (if xRl hp = 0 then (fRT hp).2 else hp) := FrC.ite (fRT_fr _) FrC.rf
  obtain ⟨h1, e1⟩ : ∃ h, h = (outH wvI (xRl hp) ((fRT hp).1) (if xRl hp = 0 then (fRT hp).2 else hp)) := ⟨_, rfl⟩
  have z1 : h1.1 = (if xRl hp = 0 then (fRT hp).2 else hp).1 := by rw [e1]; exact outH_1 _ _ _ _
  have R1 : Rel hp h1 := rel_h1 (hc' := if xRl hp = 0 then (fRT hp).2 else hp) R z1 fc
  have fm : FrM h1 ((fun h => (fRlM h).2)  h1) := fRlM_fr _
  obtain ⟨t1, t2, t3⟩ := rule_same R1
  have hI : Rel ((fun h => (fRlM h).2)  h1) ((fun h => (fRlM h).2)  h1) := rel_round (hc' := if xRl hp = 0 then (fRT hp).2 else hp) R z1 fc fm (fun _ => t3)
  have hv : cd1 (xRl hp) = 0 → lg_cmp (((fun h => (fRlM h).2)  h1).2 43 0) ((fun h => (fRlM h).1)  h1).toInt64 = 0 := by
    intro hz
    have z := cd1_0 hz
    rw [e1] at fm t2 ⊢
    exact fin_I fm z (t2 z)
  subst e1
  exact W_rule _ _ cd1 wvI _ _ _ (fun h => (fRlM h).1) (fun h => (fRlM h).2)  ⟨R.pTx, R.pRl⟩ R1.pRp t1 hv hI
def aW_type : List (Nat × mm_Ct) := [(277, sL_type), (280, sM_type), (168, sM_thrown)]
theorem V_type {Ln : Nat} {xs : Nat → Int32} {x : Int32} {o5 o6 : Option Value} {hp : mm_Hp} (g1 : vp_in (x + 1) Ln) (R : Rel hp hp) :
    mm_wp (xxW (Ln, xs) tW_type aW_type) (bW 1242 x (fun h => Rel h h)) 80 tW_type (LL x o5 o6) [] hp 0 := by
  have fc : FrC hp (hp) := FrC.rf
  obtain ⟨h1, e1⟩ : ∃ h, h = (outH wvI (xCoin (xs (x + 1).toNatClampNeg) hp) (fType (xs (x + 1).toNatClampNeg) hp) (hp)) := ⟨_, rfl⟩
  have z1 : h1.1 = (hp).1 := by rw [e1]; exact outH_1 _ _ _ _
  have R1 : Rel hp h1 := rel_h1 (hc' := hp) R z1 fc
  have fm : FrM h1 (hTyM (xs (x + 1).toNatClampNeg) h1) := hTyM_fr _ _
  obtain ⟨t1, t2, t3⟩ := type_same R1 (xs (x + 1).toNatClampNeg)
  have hI : Rel (hTyM (xs (x + 1).toNatClampNeg) h1) (hTyM (xs (x + 1).toNatClampNeg) h1) := rel_round (hc' := hp) R z1 fc fm (fun _ => t3)
  have hv : cdI (xCoin (xs (x + 1).toNatClampNeg) hp) = 0 → lg_cmp ((hTyM (xs (x + 1).toNatClampNeg) h1).2 43 0) (rTyM (xs (x + 1).toNatClampNeg) h1).toInt64 = 0 := by
    intro hz
    have z := cdI_0 (Nat.le_trans (xCoin_1 _ _) (by omega)) hz
    rw [e1] at fm t2 ⊢
    exact fin_I fm z (t2 z)
  subst e1
  exact W_type _ _ cdI wvI _ _ _ rTyM hTyM g1 ⟨R.pCn, R.pRl⟩ R1.pTy t1 hv hI
def aW_count : List (Nat × mm_Ct) := [(283, sL_count), (286, sM_count), (168, sM_thrown)]
theorem V_count {Ln : Nat} {xs : Nat → Int32} {x : Int32} {o5 o6 : Option Value} {hp : mm_Hp} (g1 : vp_in (x + 1) Ln) (R : Rel hp hp) :
    mm_wp (xxW (Ln, xs) tW_count aW_count) (bW 1298 x (fun h => Rel h h)) 80 tW_count (LL x o5 o6) [] hp 0 := by
  have fc : FrC hp (hp) := FrC.rf
  obtain ⟨h1, e1⟩ : ∃ h, h = (outH wvI (xCt (xs (x + 1).toNatClampNeg)) (fCt (xs (x + 1).toNatClampNeg) hp) (hp)) := ⟨_, rfl⟩
  have z1 : h1.1 = (hp).1 := by rw [e1]; exact outH_1 _ _ _ _
  have R1 : Rel hp h1 := rel_h1 (hc' := hp) R z1 fc
  have fm : FrM h1 (hCtM (xs (x + 1).toNatClampNeg) h1) := hCtM_fr _ _
  obtain ⟨t1, t2, t3⟩ := count_same R1 (xs (x + 1).toNatClampNeg)
  have hI : Rel (hCtM (xs (x + 1).toNatClampNeg) h1) (hCtM (xs (x + 1).toNatClampNeg) h1) := rel_round (hc' := hp) R z1 fc fm (fun _ => t3)
  have hv : cdI (xCt (xs (x + 1).toNatClampNeg)) = 0 → lg_cmp ((hCtM (xs (x + 1).toNatClampNeg) h1).2 43 0) (rCtM (xs (x + 1).toNatClampNeg) h1).toInt64 = 0 := by
    intro hz
    have z := cdI_0 (Nat.le_trans (xCt_1 _) (by omega)) hz
    rw [e1] at fm t2 ⊢
    exact fin_I fm z (t2 z)
  subst e1
  exact W_count _ _ cdI wvI _ _ _ rCtM hCtM g1 R.pSz R1.pMd t1 hv hI
