section
-- ===== PART A: goes FIRST, ahead of the names: the tables' words, and 'selects' of the private methods out of them =====
/-- a private method of a class that the tables say can be made, by its rows of tables_1 -/
def lw_okq (q : MethodName × Nat) : Prop := (q.1.cls ≠ "java/lang/invoke/MethodHandle" ∧ q.1.cls ≠ "java/lang/invoke/VarHandle") ∧ Cond.instantiable q.1.cls q.2 ∈ tables_1 ∧ Cond.privateMethod q.1 ∈ tables_1 ∧ Cond.instanceMethod q.1 ∈ tables_1
theorem lw_p0 : lw_okq (⟨"DieGraphs$Chains", "join", "(II)V"⟩, 3) := ⟨⟨by decide +kernel, by decide +kernel⟩, List.mem_of_getElem? (i := 57) (by decide +kernel), List.mem_of_getElem? (i := 180) (by decide +kernel), List.mem_of_getElem? (i := 181) (by decide +kernel)⟩
theorem lw_p1 : lw_okq (⟨"java/lang/Throwable", "fillInStackTrace", "(I)Ljava/lang/Throwable;"⟩, 6) := ⟨⟨by decide +kernel, by decide +kernel⟩, List.mem_of_getElem? (i := 249) (by decide +kernel), List.mem_of_getElem? (i := 247) (by decide +kernel), List.mem_of_getElem? (i := 248) (by decide +kernel)⟩
theorem lw_p2 : lw_okq (⟨"DieGraphs", "requireCoin", "(I)V"⟩, 5) := ⟨⟨by decide +kernel, by decide +kernel⟩, List.mem_of_getElem? (i := 16) (by decide +kernel), List.mem_of_getElem? (i := 325) (by decide +kernel), List.mem_of_getElem? (i := 326) (by decide +kernel)⟩
theorem lw_p3 : lw_okq (⟨"DieGraphs$Precedence", "addRowsToNext", "()V"⟩, 10) := ⟨⟨by decide +kernel, by decide +kernel⟩, List.mem_of_getElem? (i := 73) (by decide +kernel), List.mem_of_getElem? (i := 343) (by decide +kernel), List.mem_of_getElem? (i := 344) (by decide +kernel)⟩
theorem lw_p4 : lw_okq (⟨"DieGraphs$Precedence", "gatherPartners", "()V"⟩, 10) := ⟨⟨by decide +kernel, by decide +kernel⟩, List.mem_of_getElem? (i := 73) (by decide +kernel), List.mem_of_getElem? (i := 347) (by decide +kernel), List.mem_of_getElem? (i := 348) (by decide +kernel)⟩
theorem lw_p5 : lw_okq (⟨"DieGraphs$Precedence", "gatherPartner", "(II)V"⟩, 10) := ⟨⟨by decide +kernel, by decide +kernel⟩, List.mem_of_getElem? (i := 73) (by decide +kernel), List.mem_of_getElem? (i := 353) (by decide +kernel), List.mem_of_getElem? (i := 354) (by decide +kernel)⟩
theorem lw_p6 : lw_okq (⟨"DieGraphs$Precedence", "addStagesToNext", "(I)V"⟩, 10) := ⟨⟨by decide +kernel, by decide +kernel⟩, List.mem_of_getElem? (i := 73) (by decide +kernel), List.mem_of_getElem? (i := 362) (by decide +kernel), List.mem_of_getElem? (i := 363) (by decide +kernel)⟩
theorem lw_p7 : lw_okq (⟨"DieGraphs$Precedence", "partnersBehind", "(II)I"⟩, 10) := ⟨⟨by decide +kernel, by decide +kernel⟩, List.mem_of_getElem? (i := 73) (by decide +kernel), List.mem_of_getElem? (i := 366) (by decide +kernel), List.mem_of_getElem? (i := 367) (by decide +kernel)⟩
theorem lw_p8 : lw_okq (⟨"DieGraphs$Precedence", "closeLater", "()V"⟩, 10) := ⟨⟨by decide +kernel, by decide +kernel⟩, List.mem_of_getElem? (i := 73) (by decide +kernel), List.mem_of_getElem? (i := 370) (by decide +kernel), List.mem_of_getElem? (i := 371) (by decide +kernel)⟩
theorem lw_p9 : lw_okq (⟨"DieGraphs$Precedence", "shortestRingWith", "(I)I"⟩, 10) := ⟨⟨by decide +kernel, by decide +kernel⟩, List.mem_of_getElem? (i := 73) (by decide +kernel), List.mem_of_getElem? (i := 375) (by decide +kernel), List.mem_of_getElem? (i := 376) (by decide +kernel)⟩
theorem lw_p10 : lw_okq (⟨"DieGraphs$Precedence", "diesDirectlyBefore", "(I)I"⟩, 10) := ⟨⟨by decide +kernel, by decide +kernel⟩, List.mem_of_getElem? (i := 73) (by decide +kernel), List.mem_of_getElem? (i := 379) (by decide +kernel), List.mem_of_getElem? (i := 380) (by decide +kernel)⟩
theorem lw_p11 : lw_okq (⟨"DieGraphs$Precedence", "tellRingFrom", "(I)V"⟩, 10) := ⟨⟨by decide +kernel, by decide +kernel⟩, List.mem_of_getElem? (i := 73) (by decide +kernel), List.mem_of_getElem? (i := 383) (by decide +kernel), List.mem_of_getElem? (i := 384) (by decide +kernel)⟩
theorem lw_p12 : lw_okq (⟨"DieGraphs", "requireHoard", "(I)V"⟩, 5) := ⟨⟨by decide +kernel, by decide +kernel⟩, List.mem_of_getElem? (i := 16) (by decide +kernel), List.mem_of_getElem? (i := 518) (by decide +kernel), List.mem_of_getElem? (i := 519) (by decide +kernel)⟩
theorem lw_p13 : lw_okq (⟨"DieGraphs$Rules", "readConditions", "()Z"⟩, 9) := ⟨⟨by decide +kernel, by decide +kernel⟩, List.mem_of_getElem? (i := 110) (by decide +kernel), List.mem_of_getElem? (i := 595) (by decide +kernel), List.mem_of_getElem? (i := 596) (by decide +kernel)⟩
theorem lw_p14 : lw_okq (⟨"DieGraphs$Rules", "sign", "()I"⟩, 9) := ⟨⟨by decide +kernel, by decide +kernel⟩, List.mem_of_getElem? (i := 110) (by decide +kernel), List.mem_of_getElem? (i := 599) (by decide +kernel), List.mem_of_getElem? (i := 600) (by decide +kernel)⟩
theorem lw_p15 : lw_okq (⟨"DieGraphs$Rules", "readCondition", "()Z"⟩, 9) := ⟨⟨by decide +kernel, by decide +kernel⟩, List.mem_of_getElem? (i := 110) (by decide +kernel), List.mem_of_getElem? (i := 603) (by decide +kernel), List.mem_of_getElem? (i := 604) (by decide +kernel)⟩
def lw_privs_1 : List (MethodName × Nat) := [(⟨"DieGraphs$Chains", "join", "(II)V"⟩, 3), (⟨"java/lang/Throwable", "fillInStackTrace", "(I)Ljava/lang/Throwable;"⟩, 6), (⟨"DieGraphs", "requireCoin", "(I)V"⟩, 5), (⟨"DieGraphs$Precedence", "addRowsToNext", "()V"⟩, 10), (⟨"DieGraphs$Precedence", "gatherPartners", "()V"⟩, 10), (⟨"DieGraphs$Precedence", "gatherPartner", "(II)V"⟩, 10), (⟨"DieGraphs$Precedence", "addStagesToNext", "(I)V"⟩, 10), (⟨"DieGraphs$Precedence", "partnersBehind", "(II)I"⟩, 10), (⟨"DieGraphs$Precedence", "closeLater", "()V"⟩, 10), (⟨"DieGraphs$Precedence", "shortestRingWith", "(I)I"⟩, 10), (⟨"DieGraphs$Precedence", "diesDirectlyBefore", "(I)I"⟩, 10), (⟨"DieGraphs$Precedence", "tellRingFrom", "(I)V"⟩, 10), (⟨"DieGraphs", "requireHoard", "(I)V"⟩, 5), (⟨"DieGraphs$Rules", "readConditions", "()Z"⟩, 9), (⟨"DieGraphs$Rules", "sign", "()I"⟩, 9), (⟨"DieGraphs$Rules", "readCondition", "()Z"⟩, 9)]
theorem lw_r1 : ∀ q ∈ lw_privs_1, lw_okq q := List.forall_mem_cons.mpr ⟨lw_p0, List.forall_mem_cons.mpr ⟨lw_p1, List.forall_mem_cons.mpr ⟨lw_p2, List.forall_mem_cons.mpr ⟨lw_p3, List.forall_mem_cons.mpr ⟨lw_p4, List.forall_mem_cons.mpr ⟨lw_p5, List.forall_mem_cons.mpr ⟨lw_p6, List.forall_mem_cons.mpr ⟨lw_p7, List.forall_mem_cons.mpr ⟨lw_p8, List.forall_mem_cons.mpr ⟨lw_p9, List.forall_mem_cons.mpr ⟨lw_p10, List.forall_mem_cons.mpr ⟨lw_p11, List.forall_mem_cons.mpr ⟨lw_p12, List.forall_mem_cons.mpr ⟨lw_p13, List.forall_mem_cons.mpr ⟨lw_p14, List.forall_mem_cons.mpr ⟨lw_p15, fun _ h => absurd h List.not_mem_nil⟩⟩⟩⟩⟩⟩⟩⟩⟩⟩⟩⟩⟩⟩⟩⟩
theorem lw_p16 : lw_okq (⟨"DieGraphs$Rules", "readNumber", "()I"⟩, 9) := ⟨⟨by decide +kernel, by decide +kernel⟩, List.mem_of_getElem? (i := 110) (by decide +kernel), List.mem_of_getElem? (i := 610) (by decide +kernel), List.mem_of_getElem? (i := 611) (by decide +kernel)⟩
theorem lw_p17 : lw_okq (⟨"DieGraphs$Rules", "take", "(I)Z"⟩, 9) := ⟨⟨by decide +kernel, by decide +kernel⟩, List.mem_of_getElem? (i := 110) (by decide +kernel), List.mem_of_getElem? (i := 617) (by decide +kernel), List.mem_of_getElem? (i := 618) (by decide +kernel)⟩
theorem lw_p18 : lw_okq (⟨"DieGraphs$Rules", "readType", "()Z"⟩, 9) := ⟨⟨by decide +kernel, by decide +kernel⟩, List.mem_of_getElem? (i := 110) (by decide +kernel), List.mem_of_getElem? (i := 621) (by decide +kernel), List.mem_of_getElem? (i := 622) (by decide +kernel)⟩
theorem lw_p19 : lw_okq (⟨"DieGraphs$Rules", "allHold", "(II)Z"⟩, 9) := ⟨⟨by decide +kernel, by decide +kernel⟩, List.mem_of_getElem? (i := 110) (by decide +kernel), List.mem_of_getElem? (i := 636) (by decide +kernel), List.mem_of_getElem? (i := 637) (by decide +kernel)⟩
theorem lw_p20 : lw_okq (⟨"DieGraphs$Rules", "holds", "(III)Z"⟩, 9) := ⟨⟨by decide +kernel, by decide +kernel⟩, List.mem_of_getElem? (i := 110) (by decide +kernel), List.mem_of_getElem? (i := 640) (by decide +kernel), List.mem_of_getElem? (i := 641) (by decide +kernel)⟩
theorem lw_p21 : lw_okq (⟨"DieGraphsModel", "goes", "(ZZZ)Z"⟩, 26) := ⟨⟨by decide +kernel, by decide +kernel⟩, List.mem_of_getElem? (i := 659) (by decide +kernel), List.mem_of_getElem? (i := 756) (by decide +kernel), List.mem_of_getElem? (i := 757) (by decide +kernel)⟩
theorem lw_p22 : lw_okq (⟨"DieGraphsModel", "isCoin", "(I)Z"⟩, 26) := ⟨⟨by decide +kernel, by decide +kernel⟩, List.mem_of_getElem? (i := 659) (by decide +kernel), List.mem_of_getElem? (i := 764) (by decide +kernel), List.mem_of_getElem? (i := 765) (by decide +kernel)⟩
theorem lw_p23 : lw_okq (⟨"DieGraphsModel", "may", "()Z"⟩, 26) := ⟨⟨by decide +kernel, by decide +kernel⟩, List.mem_of_getElem? (i := 659) (by decide +kernel), List.mem_of_getElem? (i := 768) (by decide +kernel), List.mem_of_getElem? (i := 769) (by decide +kernel)⟩
theorem lw_p24 : lw_okq (⟨"DieGraphsModel", "settle", "()Z"⟩, 26) := ⟨⟨by decide +kernel, by decide +kernel⟩, List.mem_of_getElem? (i := 659) (by decide +kernel), List.mem_of_getElem? (i := 772) (by decide +kernel), List.mem_of_getElem? (i := 773) (by decide +kernel)⟩
theorem lw_p25 : lw_okq (⟨"DieGraphsModel", "compare", "(III)V"⟩, 26) := ⟨⟨by decide +kernel, by decide +kernel⟩, List.mem_of_getElem? (i := 659) (by decide +kernel), List.mem_of_getElem? (i := 776) (by decide +kernel), List.mem_of_getElem? (i := 777) (by decide +kernel)⟩
theorem lw_p26 : lw_okq (⟨"DieGraphsModel", "dieOf", "(II)I"⟩, 26) := ⟨⟨by decide +kernel, by decide +kernel⟩, List.mem_of_getElem? (i := 659) (by decide +kernel), List.mem_of_getElem? (i := 780) (by decide +kernel), List.mem_of_getElem? (i := 781) (by decide +kernel)⟩
theorem lw_p27 : lw_okq (⟨"DieGraphsModel", "tellRing", "()V"⟩, 26) := ⟨⟨by decide +kernel, by decide +kernel⟩, List.mem_of_getElem? (i := 659) (by decide +kernel), List.mem_of_getElem? (i := 784) (by decide +kernel), List.mem_of_getElem? (i := 785) (by decide +kernel)⟩
theorem lw_p28 : lw_okq (⟨"DieGraphsModel", "ringOf", "(I)I"⟩, 26) := ⟨⟨by decide +kernel, by decide +kernel⟩, List.mem_of_getElem? (i := 659) (by decide +kernel), List.mem_of_getElem? (i := 788) (by decide +kernel), List.mem_of_getElem? (i := 789) (by decide +kernel)⟩
theorem lw_p29 : lw_okq (⟨"DieGraphsModel", "measure", "(I)V"⟩, 26) := ⟨⟨by decide +kernel, by decide +kernel⟩, List.mem_of_getElem? (i := 659) (by decide +kernel), List.mem_of_getElem? (i := 792) (by decide +kernel), List.mem_of_getElem? (i := 793) (by decide +kernel)⟩
theorem lw_p30 : lw_okq (⟨"DieGraphsModel", "link", "()V"⟩, 26) := ⟨⟨by decide +kernel, by decide +kernel⟩, List.mem_of_getElem? (i := 659) (by decide +kernel), List.mem_of_getElem? (i := 822) (by decide +kernel), List.mem_of_getElem? (i := 823) (by decide +kernel)⟩
theorem lw_p31 : lw_okq (⟨"DieGraphsModel", "lessen", "(II)V"⟩, 26) := ⟨⟨by decide +kernel, by decide +kernel⟩, List.mem_of_getElem? (i := 659) (by decide +kernel), List.mem_of_getElem? (i := 834) (by decide +kernel), List.mem_of_getElem? (i := 835) (by decide +kernel)⟩
def lw_privs_2 : List (MethodName × Nat) := [(⟨"DieGraphs$Rules", "readNumber", "()I"⟩, 9), (⟨"DieGraphs$Rules", "take", "(I)Z"⟩, 9), (⟨"DieGraphs$Rules", "readType", "()Z"⟩, 9), (⟨"DieGraphs$Rules", "allHold", "(II)Z"⟩, 9), (⟨"DieGraphs$Rules", "holds", "(III)Z"⟩, 9), (⟨"DieGraphsModel", "goes", "(ZZZ)Z"⟩, 26), (⟨"DieGraphsModel", "isCoin", "(I)Z"⟩, 26), (⟨"DieGraphsModel", "may", "()Z"⟩, 26), (⟨"DieGraphsModel", "settle", "()Z"⟩, 26), (⟨"DieGraphsModel", "compare", "(III)V"⟩, 26), (⟨"DieGraphsModel", "dieOf", "(II)I"⟩, 26), (⟨"DieGraphsModel", "tellRing", "()V"⟩, 26), (⟨"DieGraphsModel", "ringOf", "(I)I"⟩, 26), (⟨"DieGraphsModel", "measure", "(I)V"⟩, 26), (⟨"DieGraphsModel", "link", "()V"⟩, 26), (⟨"DieGraphsModel", "lessen", "(II)V"⟩, 26)]
theorem lw_r2 : ∀ q ∈ lw_privs_2, lw_okq q := List.forall_mem_cons.mpr ⟨lw_p16, List.forall_mem_cons.mpr ⟨lw_p17, List.forall_mem_cons.mpr ⟨lw_p18, List.forall_mem_cons.mpr ⟨lw_p19, List.forall_mem_cons.mpr ⟨lw_p20, List.forall_mem_cons.mpr ⟨lw_p21, List.forall_mem_cons.mpr ⟨lw_p22, List.forall_mem_cons.mpr ⟨lw_p23, List.forall_mem_cons.mpr ⟨lw_p24, List.forall_mem_cons.mpr ⟨lw_p25, List.forall_mem_cons.mpr ⟨lw_p26, List.forall_mem_cons.mpr ⟨lw_p27, List.forall_mem_cons.mpr ⟨lw_p28, List.forall_mem_cons.mpr ⟨lw_p29, List.forall_mem_cons.mpr ⟨lw_p30, List.forall_mem_cons.mpr ⟨lw_p31, fun _ h => absurd h List.not_mem_nil⟩⟩⟩⟩⟩⟩⟩⟩⟩⟩⟩⟩⟩⟩⟩⟩
theorem lw_p32 : lw_okq (⟨"DieGraphsModel", "told", "(I)I"⟩, 26) := ⟨⟨by decide +kernel, by decide +kernel⟩, List.mem_of_getElem? (i := 659) (by decide +kernel), List.mem_of_getElem? (i := 838) (by decide +kernel), List.mem_of_getElem? (i := 839) (by decide +kernel)⟩
theorem lw_p33 : lw_okq (⟨"DieGraphsModel", "isHoard", "(I)Z"⟩, 26) := ⟨⟨by decide +kernel, by decide +kernel⟩, List.mem_of_getElem? (i := 659) (by decide +kernel), List.mem_of_getElem? (i := 854) (by decide +kernel), List.mem_of_getElem? (i := 855) (by decide +kernel)⟩
theorem lw_p34 : lw_okq (⟨"DieGraphsModel", "hasDie", "(II)Z"⟩, 26) := ⟨⟨by decide +kernel, by decide +kernel⟩, List.mem_of_getElem? (i := 659) (by decide +kernel), List.mem_of_getElem? (i := 862) (by decide +kernel), List.mem_of_getElem? (i := 863) (by decide +kernel)⟩
theorem lw_p35 : lw_okq (⟨"DieGraphsModel", "take", "(I)V"⟩, 26) := ⟨⟨by decide +kernel, by decide +kernel⟩, List.mem_of_getElem? (i := 659) (by decide +kernel), List.mem_of_getElem? (i := 877) (by decide +kernel), List.mem_of_getElem? (i := 878) (by decide +kernel)⟩
theorem lw_p36 : lw_okq (⟨"DieGraphsModel", "fault", "()I"⟩, 26) := ⟨⟨by decide +kernel, by decide +kernel⟩, List.mem_of_getElem? (i := 659) (by decide +kernel), List.mem_of_getElem? (i := 885) (by decide +kernel), List.mem_of_getElem? (i := 886) (by decide +kernel)⟩
theorem lw_p37 : lw_okq (⟨"DieGraphsModel", "holds", "(III)Z"⟩, 26) := ⟨⟨by decide +kernel, by decide +kernel⟩, List.mem_of_getElem? (i := 659) (by decide +kernel), List.mem_of_getElem? (i := 893) (by decide +kernel), List.mem_of_getElem? (i := 894) (by decide +kernel)⟩
def lw_privs_3 : List (MethodName × Nat) := [(⟨"DieGraphsModel", "told", "(I)I"⟩, 26), (⟨"DieGraphsModel", "isHoard", "(I)Z"⟩, 26), (⟨"DieGraphsModel", "hasDie", "(II)Z"⟩, 26), (⟨"DieGraphsModel", "take", "(I)V"⟩, 26), (⟨"DieGraphsModel", "fault", "()I"⟩, 26), (⟨"DieGraphsModel", "holds", "(III)Z"⟩, 26)]
theorem lw_r3 : ∀ q ∈ lw_privs_3, lw_okq q := List.forall_mem_cons.mpr ⟨lw_p32, List.forall_mem_cons.mpr ⟨lw_p33, List.forall_mem_cons.mpr ⟨lw_p34, List.forall_mem_cons.mpr ⟨lw_p35, List.forall_mem_cons.mpr ⟨lw_p36, List.forall_mem_cons.mpr ⟨lw_p37, fun _ h => absurd h List.not_mem_nil⟩⟩⟩⟩⟩⟩
def lw_privs : List (MethodName × Nat) := lw_privs_1 ++ (lw_privs_2 ++ (lw_privs_3))
def lw_tbl : List Cond := k2_sels lw_privs ++ tables_1
theorem lw_privs_ok : ∀ q ∈ lw_privs, lw_okq q := by
  show ∀ q ∈ lw_privs_1 ++ (lw_privs_2 ++ (lw_privs_3)), lw_okq q
  exact List.forall_mem_append.mpr ⟨lw_r1, List.forall_mem_append.mpr ⟨lw_r2, lw_r3⟩⟩
end
section
/-! ===== BEGIN words of one list among another's, by their places ===== -/
theorem goodIn_r {big : List Cond} (ws : List Cond) (ps : List Nat) (hp : ws = ps.filterMap (fun i => big[i]?)) (h : ws.all goodWord = true) : GoodIn big ws := by
  intro w hw
  have h1 := List.all_eq_true.mp h w hw
  rw [hp] at hw
  obtain ⟨i, -, hi⟩ := List.mem_filterMap.mp hw
  have hm : w ∈ big := by first | exact List.mem_of_getElem? hi | exact List.getElem?_mem hi
  exact ⟨hm, good_of_word h1⟩
theorem goodIn_app {big a b : List Cond} (ha : GoodIn big a) (hb : GoodIn big b) : GoodIn big (a ++ b) := fun w h => (List.mem_append.mp h).elim (ha w) (hb w)
theorem goodIn_ca {big a b : List Cond} {c : Cond} (ha : GoodIn big (c :: a)) (hb : GoodIn big b) : GoodIn big (c :: (a ++ b)) := fun w h => (List.mem_cons.mp h).elim (fun e => ha w (List.mem_cons.mpr (Or.inl e))) (fun h => (List.mem_append.mp h).elim (fun h => ha w (List.mem_cons.mpr (Or.inr h))) (hb w))
theorem goodIn_sub {big ws : List Cond} (hm : ∀ w ∈ ws, w ∈ big) (h : ws.all goodWord = true) : GoodIn big ws := fun w hw => ⟨hm w hw, good_of_word (List.all_eq_true.mp h w hw)⟩
/-! ===== END ===== -/

/-! ===== BEGIN exceptions that leave a method, and their catching by the caller (launches without stack traces) ===== -/
section VXA
/-! The laws vx_back, vx_callV, vx_callS, vx_callSW, vx_throw0, vx_throwS follow proofs of the library, with one case more: JvmDerived/Free/Laws.lean (Back.of_free), Shelf42/LK1.lean (callV, callS), Shelf/KitTraced.lean (throwNew0V, throwNewS). -/
/-- where a method has thrown q: the class by its name, the cell, what was written, the world -/
def vx_T (XC : String → State → State → Prop) (st : State) (q : Addr) (t : State) (mc ms : Nat) (free : Addr → Prop) : Prop :=
  ∃ (E : String) (ce : Cell) (L : List Loc), XC E st t ∧ t.heap[q]? = some ce ∧ ce.vm = .none ∧ st.vm.findClass E = some ce.cls ∧ st.WarmedH t.vm ∧ st.sameButNew ({ t with vm := st.vm } : State) L mc ms ∧ ∀ z ∈ L, free z.base
def vx_Q (Qc : Array Value → State → Outcome → State → Prop) (XC : String → State → State → Prop) (mc ms : Nat) (free : Addr → Prop) : Array Value → State → Outcome → State → Prop := fun a st o t =>
  (Qc a st o t ∧ ∃ L, FrameEnd st o t L mc ms ∧ ∀ q ∈ L, free q.base) ∨ ∃ q, o = .threw q ∧ vx_T XC st q t mc ms free
/-- a callee that returns or throws -/
def vx_Met (l : Launch) (y : MethodName) (ws : List Cond) (rm : Room) (Pc : Array Value → State → Prop) (Qc : Array Value → State → Outcome → State → Prop) (XC : String → State → State → Prop) (mc ms : Nat) (free : Addr → Prop) : Prop :=
  MetFree l y (headSpec ws rm) Pc (fun _ _ _ _ _ => True) (vx_Q Qc XC mc ms free)
def vx_Post (XC : String → State → State → Prop) (mc ms : Nat) (free : Addr → Prop) : Pt → Array Value → Addr → Pt → Prop := fun A a q B =>
  ∃ (g : JFrame) (mk : MethodId) (t : State) (L : List Loc) (E : String) (ce : Cell), B.U.heap = t.heap ∧ B.U.vm = t.vm ∧ XC E (A.U.calling g mk a) t ∧ t.heap[q]? = some ce ∧ ce.vm = .none ∧ A.U.vm.findClass E = some ce.cls ∧ B.locs = A.locs ++ L ∧ (∀ z ∈ L, free z.base) ∧ B.cells = A.cells + mc ∧ B.slots = A.slots + ms
def vx_Back (l : Launch) (R : Room) (p : Program) (e : Env) (below : List Frame) (s : State) (sargs : Array Value) (y : MethodName) (len W9 : Nat)
    (Pre : Pt → Array Value → Prop) (Post : Pt → Array Value → Option Value → Pt → Prop) (PostX : Pt → Array Value → Addr → Pt → Prop) : Prop :=
  ∀ (m : MethodId) (meth : Method) (c : Code) (A : Pt) (g : JFrame) (ig : Instr) (mk : MethodId) (a : Array Value),
    Stand p l e R s m sargs below meth c A.U A.locs A.cells A.slots → g.method = m → g.locals.size = c.maxLocals → decode c.code g.pc = .ok (ig, len) →
    2 * g.monitorRoom + (g.stack.map fun v => v.category).sum ≤ W9 → A.U.methodNamed? y = some mk → Pre A a →
    (∃ (v : Option Value) (B : Pt), Stand p l e R s m sargs below meth c B.U B.locs B.cells B.slots ∧ Post A a v B ∧
      Steps p.tables e below (doInvoke e (A.U.setTop g) [] mk a).1 (B.U.setTop { g with pc := g.pc + len, stack := v.toList ++ g.stack })) ∨
    (∃ (q : Addr) (B : Pt), Stand p l e R s m sargs below meth c B.U B.locs B.cells B.slots ∧ PostX A a q B ∧
      Steps p.tables e below (doInvoke e (A.U.setTop g) [] mk a).1 ((B.U.setTop g).pushFrame (.throwing q)))
section Payer
variable {l : Launch} {R : Room} {p : Program} {e : Env} {below : List Frame} {s : State} {sargs : Array Value} {y : MethodName} {len W9 : Nat}
theorem vx_back {ws : List Cond} {rm : Room} {Pc : Array Value → State → Prop} {Qc : Array Value → State → Outcome → State → Prop} {XC : String → State → State → Prop} {mc ms : Nat} {free : Addr → Prop} {bytes : ByteArray} {maxL : Nat} {ret : Option FieldType}
    (hM : vx_Met l y ws rm Pc Qc XC mc ms free) (hblind : FrameBlind Pc) (hrc : rm.cells = mc) (hrs : rm.slots = ms)
    (hframes : rm.frames + 1 ≤ R.frames) (hlocals : W9 + (maxL + 11) + rm.locals ≤ R.locals)
    (hws : ∀ w ∈ ws, ∀ a' U, s.WarmedH U.vm → w.before a' U = true) (hcode : Cond.code y bytes maxL ret ∈ ws) (hinit : ∀ a' U, s.WarmedH U.vm → (Cond.initialized y.cls).before a' U = true) :
    vx_Back l R p e below s sargs y len W9 (PreOf R mc ms Pc) (PostOf Qc mc ms free) (vx_Post XC mc ms free) := by
  intro m meth c A g ig mk a X hg hsize hdg hW hn hp
  have h1 : (headSpec ws rm).pre.before a A.U = true := atoms_intro fun w hw => hws w hw _ _ X.warmed
  have h2 : (Cond.code y bytes maxL ret).before a A.U = true := hws _ hcode _ _ X.warmed
  have h3 : (Cond.initialized y.cls).before a A.U = true := hinit _ _ X.warmed
  have h4 : A.cells + (headSpec ws rm).room.cells ≤ R.cells := by rw [show (headSpec ws rm).room.cells = mc from hrc]; exact hp.1
  have h5 : A.slots + (headSpec ws rm).room.slots ≤ R.slots := by rw [show (headSpec ws rm).room.slots = ms from hrs]; exact hp.2.1
  have hPc : Pc a (A.U.calling g mk a) := hblind _ _ _ _ hp.2.2
  obtain ⟨U, Ls, c0, s0⟩ := A
  dsimp only [Pt.U, Pt.locs, Pt.cells, Pt.slots] at h1 h2 h3 h4 h5 X hn hPc ⊢
  obtain ⟨methY, cY, hmY, hcY, -, hlY, -, -, -, -⟩ := Cond.code_spec hn h2
  obtain ⟨kY, hkY, -⟩ := className_of_methodNamed hn
  have hinitY : kY.init = .initialized := Cond.initialized_spec (findClass_of_methodNamed hn) hkY h3
  have h : At U g.method c below := by rw [hg]; exact X.here
  have hlocals9 : W9 + (maxL + 11) + (headSpec ws rm).room.locals ≤ R.locals := hlocals
  have happ : (headSpec ws rm).appliesLoose y e.platform (U.calling g mk a) = true :=
    Spec.appliesLoose_calling (g := g) h hdg hn hkY hinitY
      (X.room_calling (g := g) (R' := (headSpec ws rm).room) hsize hmY hcY hframes (by rw [hlY]; omega) h4 h5) h1
  obtain ⟨mid, hmid⟩ := h.above
  have hfr : (U.setTop g).frames = (.java g :: mid) ++ below := by rw [State.frames_setTop' g h.top, hmid]; rfl
  obtain ⟨o, s₂, hsteps, -, hend, hq⟩ := Steps.callFree hM p X.admits X.cas X.clock (acts := []) hfr happ hPc trivial
  have hq' : vx_Q Qc XC mc ms free a (U.calling g mk a) o s₂ := hq
  rw [State.frames_setTop' g h.top] at hend
  obtain ⟨g₀, hg0⟩ := Option.isSome_iff_exists.mp h.top
  obtain ⟨r, hr⟩ := State.topJava?_eq_some.mp hg0
  have hr' : (({ U with heap := s₂.heap, slotsUsed := s₂.slotsUsed } : State).setVm s₂.vm).frames = .java g₀ :: r := hr
  rcases hq' with ⟨hqc, L, hfe, hL⟩ | ⟨q, rfl, E, ce, L, hx, hce, hcv, hcl, hW₂, hsm, hL⟩
  · obtain ⟨⟨v, rfl⟩, hW₂, e2, q2, q3, q4, q5, q6⟩ := id hfe
    have e3 : s₂ = ({ (U.calling g mk a).setFrames s₂.frames with heap := s₂.heap, slotsUsed := s₂.slotsUsed } : State).setVm s₂.vm := by
      have : s₂ = ({ s₂ with vm := (U.calling g mk a).vm } : State).setVm s₂.vm := rfl
      rw [e2] at this
      exact this
    obtain ⟨c₂, i₂, len₂, hc₂, hd₂, hf₂⟩ := hend
    have hW' : U.WarmedH s₂.vm := hW₂
    have hcc : c₂ = c := by
      have h1 : s₂.code? g.method = U.code? g.method := by
        rw [State.code?_eq, State.code?_eq, hW'.alike.method?]
      exact Option.some.inj (hc₂.symm.trans (h1.trans h.code))
    subst hcc
    have hlen : len₂ = len := by rw [hdg] at hd₂; cases hd₂; rfl
    subst hlen
    have hs₂ : s₂ = (({ U with heap := s₂.heap, slotsUsed := s₂.slotsUsed } : State).setVm s₂.vm).setTop { g with pc := g.pc + len₂, stack := v.toList ++ g.stack } := by
      refine e3.trans ?_
      rw [hf₂, State.calling_eq h.top, State.setFrames_setFrames, State.setTop_of_frames _ hr', hr]
      rfl
    have hsame : U.sameButNew ({ U with heap := s₂.heap, slotsUsed := s₂.slotsUsed } : State) L mc ms := by
      refine ⟨?_, q2, q3, q4, q5, q6⟩
      obtain ⟨t, ht, -⟩ := State.frames_cons hr
      show ({ U with heap := s₂.heap, slotsUsed := s₂.slotsUsed } : State) = { U.setFrames U.frames with heap := s₂.heap, slotsUsed := s₂.slotsUsed }
      rw [State.setFrames_self ht]
    subst hg
    refine Or.inl ⟨v, ⟨(({ U with heap := s₂.heap, slotsUsed := s₂.slotsUsed } : State).setVm s₂.vm), Ls ++ L, c0 + mc, s0 + ms⟩,
      ⟨X.admits, X.cas, X.clock, X.frames, X.room, X.hears, X.method, X.code, (X.here.setHeapUsed s₂.heap s₂.slotsUsed).setVm hW'.alike, X.tail, State.WarmedH.trans X.warmed hW', X.limits, X.bytes, X.same.trans (hsame.setVm s.vm)⟩,
      ⟨g, mk, s₂, L, rfl, rfl, hqc, rfl, hL, rfl, rfl⟩, ?_⟩
    show Steps p.tables e below _ ((({ U with heap := s₂.heap, slotsUsed := s₂.slotsUsed } : State).setVm s₂.vm).setTop { g with pc := g.pc + len₂, stack := v.toList ++ g.stack })
    rw [← hs₂]
    exact hsteps
  · obtain ⟨e2, q2, q3, q4, q5, q6⟩ := id hsm
    have e3 : s₂ = ({ (U.calling g mk a).setFrames s₂.frames with heap := s₂.heap, slotsUsed := s₂.slotsUsed } : State).setVm s₂.vm := by
      have : s₂ = ({ s₂ with vm := (U.calling g mk a).vm } : State).setVm s₂.vm := rfl
      rw [e2] at this
      exact this
    have hf₂ : s₂.frames = .throwing q :: .java g :: U.frames.tail := hend
    have hW' : U.WarmedH s₂.vm := hW₂
    have hs₂ : s₂ = ((({ U with heap := s₂.heap, slotsUsed := s₂.slotsUsed } : State).setVm s₂.vm).setTop g).pushFrame (.throwing q) := by
      refine e3.trans ?_
      rw [hf₂, State.calling_eq h.top, State.setFrames_setFrames, State.pushFrame, State.frames_setTop _ hr', State.setTop_of_frames _ hr', State.setFrames_setFrames, hr]
      rfl
    have hsame : U.sameButNew ({ U with heap := s₂.heap, slotsUsed := s₂.slotsUsed } : State) L mc ms := by
      refine ⟨?_, q2, q3, q4, q5, q6⟩
      obtain ⟨t, ht, -⟩ := State.frames_cons hr
      show ({ U with heap := s₂.heap, slotsUsed := s₂.slotsUsed } : State) = { U.setFrames U.frames with heap := s₂.heap, slotsUsed := s₂.slotsUsed }
      rw [State.setFrames_self ht]
    subst hg
    refine Or.inr ⟨q, ⟨(({ U with heap := s₂.heap, slotsUsed := s₂.slotsUsed } : State).setVm s₂.vm), Ls ++ L, c0 + mc, s0 + ms⟩,
      ⟨X.admits, X.cas, X.clock, X.frames, X.room, X.hears, X.method, X.code, (X.here.setHeapUsed s₂.heap s₂.slotsUsed).setVm hW'.alike, X.tail, State.WarmedH.trans X.warmed hW', X.limits, X.bytes, X.same.trans (hsame.setVm s.vm)⟩,
      ⟨g, mk, s₂, L, E, ce, rfl, rfl, hx, hce, hcv, hcl, rfl, hL, rfl, rfl⟩, ?_⟩
    show Steps p.tables e below _ (((({ U with heap := s₂.heap, slotsUsed := s₂.slotsUsed } : State).setVm s₂.vm).setTop g).pushFrame (.throwing q))
    rw [← hs₂]
    exact hsteps
end Payer
section Calls
variable {p : Program} {l : Launch} {e : Env} {R : Room} {s : State} {m : MethodId} {args : Array Value} {below : List Frame} {meth : Method} {c : Code} {T : State} {locs : List Loc} {cells slots : Nat}
theorem vx_callV (X : Stand p l e R s m args below meth c T locs cells slots) (hexec : p.tables.exec = Jvm.exec) {own C : String} {index : Nat} {y : MethodName} {bytes : ByteArray} {maxL : Nat} {ret : Option FieldType}
    (hown : s.vm.findClass own = some m.cls) (hlink : (Cond.methodLink own index y).before args s = true) (hinst : (Cond.instanceMethod y).before args s = true) (hsel : (Cond.selects C y y).before args s = true)
    (hcode : (Cond.code y bytes maxL ret).before args s = true) (hy : y.cls ≠ "java/lang/invoke/MethodHandle" ∧ y.cls ≠ "java/lang/invoke/VarHandle")
    {W9 : Nat} {Pre : Pt → Array Value → Prop} {Post : Pt → Array Value → Option Value → Pt → Prop} {PostX : Pt → Array Value → Addr → Pt → Prop} (hK : vx_Back l R p e below s args y 3 W9 Pre Post PostX)
    {b : Addr} {cellB : Cell} (hcell : T.heap[b]? = some cellB) (hobj : cellB.vm.isStatics = false) (hcls : s.vm.findClass C = some cellB.cls)
    {g : JFrame} (hg : g.method = m) (hsize : g.locals.size = c.maxLocals) {argsL rest : List Value} (hlen : ∀ sig, parseMethodDescriptor y.desc = some sig → argsL.length = sig.parameters.length)
    (hstack : g.stack = argsL.reverse ++ .ref b :: rest) (hW : 2 * g.monitorRoom + (rest.map fun v => v.category).sum ≤ W9) (hdg : decode c.code g.pc = .ok (.invokevirtual index, 3))
    (hpre : ∀ vm₁, s.WarmedH vm₁ → Pre ⟨T.setVm vm₁, locs, cells, slots⟩ (Value.ref b :: argsL).toArray) :
    (∃ (v : Option Value) (vm₁ : Vm) (B : Pt), s.WarmedH vm₁ ∧ Stand p l e R s m args below meth c B.U B.locs B.cells B.slots ∧ Post ⟨T.setVm vm₁, locs, cells, slots⟩ (Value.ref b :: argsL).toArray v B ∧
      ∀ target, Steps p.tables e below (B.U.setTop { g with pc := g.pc + 3, stack := v.toList ++ rest }) target → Steps p.tables e below (T.setTop g) target) ∨
    (∃ (q : Addr) (vm₁ : Vm) (B : Pt), s.WarmedH vm₁ ∧ Stand p l e R s m args below meth c B.U B.locs B.cells B.slots ∧ PostX ⟨T.setVm vm₁, locs, cells, slots⟩ (Value.ref b :: argsL).toArray q B ∧
      Steps p.tables e below (T.setTop g) ((B.U.setTop { g with stack := rest }).pushFrame (.throwing q))) := by
  obtain ⟨mk, methM, hnamed, hmethM, hstM, habM⟩ := Cond.instanceMethod_spec hinst
  obtain ⟨methM', cM, hmethM', -, -, -, -, -, -, hsigM⟩ := Cond.code_spec hnamed hcode
  cases hmethM.symm.trans hmethM'
  obtain ⟨c2, r2, m2, q1, q2, q3, q4, kP, hkP, hkPi⟩ := Cond.selects_spec hsel
  cases hcls.symm.trans q1
  cases (State.methodFound?_of_named hnamed hy).symm.trans q2
  cases hnamed.symm.trans q3
  have hselP : selectMethod e.platform s.vm cellB.cls mk = .method mk := by rw [Launch.admits_selectMethod X.admits]; exact q4
  obtain ⟨vm₁, X₁, hstep₁⟩ := X.invokevirtual hexec hown hlink hnamed hmethM hstM hkP hkPi hy (a := b) (cell := cellB) hcell
    (fun z h => by rw [h] at hobj; cases hobj) hselP hmethM habM hkP hkPi (g := g) hg (argsL := argsL) (rest := rest) (hlen _ hsigM) hstack hdg
  rcases hK m meth c ⟨T.setVm vm₁, locs, cells, slots⟩ { g with stack := rest } (.invokevirtual index) mk (Value.ref b :: argsL).toArray X₁ hg hsize hdg hW (X₁.named hnamed) (hpre vm₁ X₁.warmed) with ⟨v, B, X', hpost, hsteps⟩ | ⟨q, B, X', hpost, hsteps⟩
  · exact Or.inl ⟨v, vm₁, B, X₁.warmed, X', hpost, fun target h => hstep₁ _ fun acts => by rw [doInvoke_state]; exact hsteps.trans h⟩
  · exact Or.inr ⟨q, vm₁, B, X₁.warmed, X', hpost, hstep₁ _ fun acts => by rw [doInvoke_state]; exact hsteps⟩
theorem vx_callS (X : Stand p l e R s m args below meth c T locs cells slots) (hexec : p.tables.exec = Jvm.exec) {own : String} {index : Nat} {y : MethodName} {bytes : ByteArray} {maxL : Nat} {ret : Option FieldType}
    (hown : s.vm.findClass own = some m.cls) (hlink : (Cond.methodLink own index y).before args s = true) (hstat : (Cond.static y).before args s = true) (hinit : (Cond.initialized y.cls).before args s = true)
    (hcode : (Cond.code y bytes maxL ret).before args s = true) (hy : y.cls ≠ "java/lang/invoke/MethodHandle" ∧ y.cls ≠ "java/lang/invoke/VarHandle")
    {W9 : Nat} {Pre : Pt → Array Value → Prop} {Post : Pt → Array Value → Option Value → Pt → Prop} {PostX : Pt → Array Value → Addr → Pt → Prop} (hK : vx_Back l R p e below s args y 3 W9 Pre Post PostX)
    {g : JFrame} (hg : g.method = m) (hsize : g.locals.size = c.maxLocals) {argsL rest : List Value} (hlen : ∀ sig, parseMethodDescriptor y.desc = some sig → argsL.length = sig.parameters.length)
    (hstack : g.stack = argsL.reverse ++ rest) (hW : 2 * g.monitorRoom + (rest.map fun v => v.category).sum ≤ W9) (hdg : decode c.code g.pc = .ok (.invokestatic index, 3))
    (hpre : ∀ vm₁, s.WarmedH vm₁ → Pre ⟨T.setVm vm₁, locs, cells, slots⟩ argsL.toArray) :
    (∃ (v : Option Value) (vm₁ : Vm) (B : Pt), s.WarmedH vm₁ ∧ Stand p l e R s m args below meth c B.U B.locs B.cells B.slots ∧ Post ⟨T.setVm vm₁, locs, cells, slots⟩ argsL.toArray v B ∧
      ∀ target, Steps p.tables e below (B.U.setTop { g with pc := g.pc + 3, stack := v.toList ++ rest }) target → Steps p.tables e below (T.setTop g) target) ∨
    (∃ (q : Addr) (vm₁ : Vm) (B : Pt), s.WarmedH vm₁ ∧ Stand p l e R s m args below meth c B.U B.locs B.cells B.slots ∧ PostX ⟨T.setVm vm₁, locs, cells, slots⟩ argsL.toArray q B ∧
      Steps p.tables e below (T.setTop g) ((B.U.setTop { g with stack := rest }).pushFrame (.throwing q))) := by
  obtain ⟨mk, hnamed⟩ := Cond.code_named hcode
  obtain ⟨methM, cM, hmethM, -, -, -, -, -, -, hsigM⟩ := Cond.code_spec hnamed hcode
  have hstatic : methM.isStatic = true := Cond.static_spec hnamed hmethM hstat
  obtain ⟨kP, hkP, -⟩ := className_of_methodNamed hnamed
  have hinitP : kP.init = .initialized := Cond.initialized_spec (findClass_of_methodNamed hnamed) hkP hinit
  obtain ⟨vm₁, X₁, hstep₁⟩ := X.invokestatic hexec hown hlink hnamed hmethM hstatic hkP hinitP hy (g := g) hg (argsL := argsL) (rest := rest) (hlen _ hsigM) hstack hdg
  rcases hK m meth c ⟨T.setVm vm₁, locs, cells, slots⟩ { g with stack := rest } (.invokestatic index) mk argsL.toArray X₁ hg hsize hdg hW (X₁.named hnamed) (hpre vm₁ X₁.warmed) with ⟨v, B, X', hpost, hsteps⟩ | ⟨q, B, X', hpost, hsteps⟩
  · exact Or.inl ⟨v, vm₁, B, X₁.warmed, X', hpost, fun target h => hstep₁ _ fun acts => by rw [doInvoke_state]; exact hsteps.trans h⟩
  · exact Or.inr ⟨q, vm₁, B, X₁.warmed, X', hpost, hstep₁ _ fun acts => by rw [doInvoke_state]; exact hsteps⟩
end Calls
theorem vx_cls {s : State} {T : State} {vm₁ : Vm} {E : String} {k : ClassId} (hW : s.WarmedH vm₁) (h : (T.setVm vm₁).vm.findClass E = some k) : s.vm.findClass E = some k := by
  have h1 : vm₁.findClass E = some k := h
  rw [hW.alike.findClass] at h1
  exact h1
/-- the method's frame g, with q thrown over it -/
def vx_W (p : Program) (l : Launch) (e : Env) (R : Room) (s : State) (m : MethodId) (args : Array Value) (below : List Frame) (meth : Method) (c : Code) (H : Heap) (locs : List Loc) (cells slots : Nat) (Q : State → Prop) (g : JFrame) (q : Addr) : Prop :=
  ∀ T : State, T.heap = H → Stand p l e R s m args below meth c T locs cells slots → ∃ t, Steps p.tables e below ((T.setTop g).pushFrame (.throwing q)) t ∧ Q t
def vx_Run (p : Program) (l : Launch) (e : Env) (R : Room) (s : State) (m : MethodId) (args : Array Value) (below : List Frame) (meth : Method) (c : Code) (H : Heap) (locs : List Loc) (cells slots mc ms : Nat) (g : JFrame) (rest : List Value) (Qa : State → Outcome → State → Prop) (XC : String → State → State → Prop) (free : Addr → Prop) : Prop :=
  ∀ T : State, T.heap = H → Stand p l e R s m args below meth c T locs cells slots →
    (∃ (v : Option Value) (st₀ t T' : State) (L : List Loc), st₀.heap = H ∧ Stand p l e R s m args below meth c T' (locs ++ L) (cells + mc) (slots + ms) ∧ (∀ q ∈ L, free q.base) ∧ T'.heap = t.heap ∧ T'.vm = t.vm ∧ Qa st₀ (.returned v) t ∧
      Goes p e below T g T' { g with pc := g.pc + 3, stack := v.toList ++ rest }) ∨
    (∃ (q : Addr) (st₀ t T' : State) (L : List Loc) (E : String) (ce : Cell), st₀.heap = H ∧ Stand p l e R s m args below meth c T' (locs ++ L) (cells + mc) (slots + ms) ∧ (∀ z ∈ L, free z.base) ∧ T'.heap = t.heap ∧ T'.vm = t.vm ∧ XC E st₀ t ∧ t.heap[q]? = some ce ∧ ce.vm = .none ∧ s.vm.findClass E = some ce.cls ∧
      Steps p.tables e below (T.setTop g) ((T'.setTop { g with stack := rest }).pushFrame (.throwing q)))
def vx_X {S : Type} (px : S → Prop) (B : String → S → State → Prop) (A : Nat → Prop) : String → State → State → Prop := fun E st t => ∃ u : S, px u ∧ B E u t ∧ va_F A st t
section Runs
variable {p : Program} {l : Launch} {e : Env} {R : Room} {s : State} {m : MethodId} {args : Array Value} {below : List Frame} {meth : Method} {c : Code} {H : Heap} {locs : List Loc} {cells slots : Nat}
variable {y : MethodName} {bytes cc : ByteArray} {maxL nL mc ms n index : Nat} {ret : Option FieldType} {ws : List Cond} {rm : Room} {Pc : Array Value → State → Prop} {Qc : Array Value → State → Outcome → State → Prop} {XC : String → State → State → Prop} {free : Addr → Prop} {Ts : List Cond} {own C : String} {b : Addr} {As rest : List Value} {g : JFrame}
theorem vx_callBack (cb : CallB R s args own index y bytes maxL ret ws rm mc ms n) (hM : vx_Met l y ws rm Pc Qc XC mc ms free) (hbl : FrameBlind Pc) : vx_Back l R p e below s args y 3 8 (PreOf R mc ms Pc) (PostOf Qc mc ms free) (vx_Post XC mc ms free) := by
  obtain ⟨hrc, hrs, hfr, hlo, hws, hcw, -, hini, -⟩ := cb
  exact vx_back (bytes := bytes) (maxL := maxL) (ret := ret) hM hbl hrc hrs hfr hlo hws hcw (fun a' U hW => word_at hW (Or.inl (by first | rfl | simp [Cond.onTables, Cond.keeps, Cond.steady])) hini)
theorem vx_runV (S : CallFix p m c cc nL s args Ts own) (hM : vx_Met l y ws rm Pc Qc XC mc ms free) (cw : CallW R s args own C index y bytes maxL ret ws rm mc ms n) (hp : PreV s H C b Pc As)
    (hg : g.method = m) (hn : As.length = n) (hsize : g.locals.size = nL) (hstack : g.stack = As.reverse ++ .ref b :: rest) (hW : 2 * g.monitorRoom + (rest.map fun v => v.category).sum ≤ 8) (hdg : decode cc g.pc = .ok (.invokevirtual index, 3)) (hf : cells + mc ≤ R.cells ∧ slots + ms ≤ R.slots) :
    vx_Run p l e R s m args below meth c H locs cells slots mc ms g rest (Qc (Value.ref b :: As).toArray) XC free := by
  have hK : vx_Back l R p e below s args y 3 8 (PreOf R mc ms Pc) (PostOf Qc mc ms free) (vx_Post XC mc ms free) := vx_callBack cw.1 hM hp.1
  obtain ⟨⟨-, -, -, -, -, -, hcode, -, hy, hlen, hl⟩, hin, hse⟩ := cw
  obtain ⟨hx, hb, hml, ho, -⟩ := S
  obtain ⟨-, ⟨cellB, hcB, hoB, hclB⟩, hPc⟩ := hp
  intro T hT X
  rcases vx_callV X hx (C := C) (bytes := bytes) (maxL := maxL) (ret := ret) ho hl hin hse hcode hy hK (by rw [hT]; exact hcB) hoB hclB hg (hsize.trans hml.symm) (argsL := As) (rest := rest) (fun sig h => hn.trans (hlen sig h)) hstack hW (by rw [hb]; exact hdg)
    (fun vm₁ hW₁ => ⟨hf.1, hf.2, hPc (T.setVm vm₁) hT hW₁⟩) with ⟨v, vm₁, ⟨U', l2, c2, s2⟩, hW₁, X', ⟨g', mk, t, L, e1, e2, hq, h1, hL, h2, h3⟩, st⟩ | ⟨q, vm₁, ⟨U', l2, c2, s2⟩, hW₁, X', ⟨g', mk, t, L, E, ce, e1, e2, hq, hce, hcv, hcl, h1, hL, h2, h3⟩, st⟩
  · dsimp only [Pt.U, Pt.locs, Pt.cells, Pt.slots] at X' e1 e2 h1 h2 h3 st
    subst h1; subst h2; subst h3
    exact Or.inl ⟨v, (T.setVm vm₁).calling g' mk (Value.ref b :: As).toArray, t, U', L, hT, X', hL, e1, e2, hq, st⟩
  · dsimp only [Pt.U, Pt.locs, Pt.cells, Pt.slots] at X' e1 e2 h1 h2 h3 st hcl
    subst h1; subst h2; subst h3
    exact Or.inr ⟨q, (T.setVm vm₁).calling g' mk (Value.ref b :: As).toArray, t, U', L, E, ce, hT, X', hL, e1, e2, hq, hce, hcv, vx_cls hW₁ hcl, st⟩
theorem vx_runS (S : CallFix p m c cc nL s args Ts own) (hM : vx_Met l y ws rm Pc Qc XC mc ms free) (cw : CallB R s args own index y bytes maxL ret ws rm mc ms n ∧ (Cond.static y).before args s = true) (hp : PreS s H Pc As)
    (hg : g.method = m) (hn : As.length = n) (hsize : g.locals.size = nL) (hstack : g.stack = As.reverse ++ rest) (hW : 2 * g.monitorRoom + (rest.map fun v => v.category).sum ≤ 8) (hdg : decode cc g.pc = .ok (.invokestatic index, 3)) (hf : cells + mc ≤ R.cells ∧ slots + ms ≤ R.slots) :
    vx_Run p l e R s m args below meth c H locs cells slots mc ms g rest (Qc As.toArray) XC free := by
  have hK : vx_Back l R p e below s args y 3 8 (PreOf R mc ms Pc) (PostOf Qc mc ms free) (vx_Post XC mc ms free) := vx_callBack cw.1 hM hp.1
  obtain ⟨⟨-, -, -, -, -, -, hcode, hini, hy, hlen, hl⟩, hstt⟩ := cw
  obtain ⟨hx, hb, hml, ho, -⟩ := S
  intro T hT X
  rcases vx_callS X hx (bytes := bytes) (maxL := maxL) (ret := ret) ho hl hstt hini hcode hy hK hg (hsize.trans hml.symm) (argsL := As) (rest := rest) (fun sig h => hn.trans (hlen sig h)) hstack hW (by rw [hb]; exact hdg)
    (fun vm₁ hW₁ => ⟨hf.1, hf.2, hp.2 (T.setVm vm₁) hT hW₁⟩) with ⟨v, vm₁, ⟨U', l2, c2, s2⟩, hW₁, X', ⟨g', mk, t, L, e1, e2, hq, h1, hL, h2, h3⟩, st⟩ | ⟨q, vm₁, ⟨U', l2, c2, s2⟩, hW₁, X', ⟨g', mk, t, L, E, ce, e1, e2, hq, hce, hcv, hcl, h1, hL, h2, h3⟩, st⟩
  · dsimp only [Pt.U, Pt.locs, Pt.cells, Pt.slots] at X' e1 e2 h1 h2 h3 st
    subst h1; subst h2; subst h3
    exact Or.inl ⟨v, (T.setVm vm₁).calling g' mk As.toArray, t, U', L, hT, X', hL, e1, e2, hq, st⟩
  · dsimp only [Pt.U, Pt.locs, Pt.cells, Pt.slots] at X' e1 e2 h1 h2 h3 st hcl
    subst h1; subst h2; subst h3
    exact Or.inr ⟨q, (T.setVm vm₁).calling g' mk As.toArray, t, U', L, E, ce, hT, X', hL, e1, e2, hq, hce, hcv, vx_cls hW₁ hcl, st⟩
end Runs
section Rows
variable {p : Program} {l : Launch} {e : Env} {R : Room} {s : State} {m : MethodId} {args : Array Value} {below : List Frame} {meth : Method} {c : Code} {H : Heap} {locs : List Loc} {cells slots : Nat} {Q : State → Prop}
variable {mc ms : Nat} {free : Addr → Prop} {A0 A1 : Nat → Prop} {H0 : Heap} {a : Array Value} {pc : Nat} {ls : Array Slot} {st0 rest : List Value}
theorem vx_keep {st₀ t T' : State} {L : List Loc} (h0 : st₀.heap = H) (e1 : T'.heap = t.heap) (hS : va_S A0 H0 H locs) (hA : ∀ q, q < H.size → A1 q → A0 q) (hf : ∀ q, free q → A0 q) (hL : ∀ q ∈ L, free q.base) (hF : va_F A1 st₀ t) :
    H.size ≤ T'.heap.size ∧ (∀ q : Nat, q < H.size → ¬ A1 q → T'.heap[q]? = H[q]?) ∧ va_S A0 H0 T'.heap (locs ++ L) := by
  obtain ⟨hz, hk⟩ := hF
  rw [h0] at hz hk
  exact ⟨by rw [e1]; exact hz, fun q h1 h2 => by rw [e1]; exact hk q h1 h2,
    ⟨Nat.le_trans hS.1 (by rw [e1]; exact hz), fun q h1 h2 => by rw [e1, hk q (Nat.lt_of_lt_of_le h1 hS.1) (fun z => h2 (hA q (Nat.lt_of_lt_of_le h1 hS.1) z))]; exact hS.2.1 q h1 h2, fun q hq => by
      rcases List.mem_append.mp hq with h | h
      · exact hS.2.2 q h
      · exact hf _ (hL q h)⟩⟩
theorem vx_calli {S SX : Type} {post : Int32 → S → Prop} {px : SX → Prop} {B : S → State → Prop} {BX : String → SX → State → Prop} {AX : Nat → Prop} (hr : vx_Run p l e R s m args below meth c H locs cells slots mc ms (F0 m pc ls st0) rest (va_Qi post B A1 a) (vx_X px BX AX) free) (hS : va_S A0 H0 H locs) (hA : ∀ q, q < H.size → A1 q → A0 q) (hf : ∀ q, free q → A0 q) (hAX : ∀ q, q < H.size → AX q → A0 q)
    (kx : ∀ (E : String) (ce : Cell) (q9 : Addr) (u : SX) (t : State) (H1 : Heap) (locs1 : List Loc), t.heap = H1 → s.vm.Alike t.vm → px u → BX E u t → H.size ≤ H1.size → (∀ q : Nat, q < H.size → ¬ AX q → H1[q]? = H[q]?) → va_S A0 H0 H1 locs1 → H1[q9]? = some ce → ce.vm = .none → s.vm.findClass E = some ce.cls → vx_W p l e R s m args below meth c H1 locs1 (cells + mc) (slots + ms) Q (F0 m pc ls rest) q9)
    (kk : ∀ (r : Int32) (u : S) (t : State) (H1 : Heap) (locs1 : List Loc), t.heap = H1 → s.vm.Alike t.vm → post r u → B u t → H.size ≤ H1.size → (∀ q : Nat, q < H.size → ¬ A1 q → H1[q]? = H[q]?) → va_S A0 H0 H1 locs1 → W p l e R s m args below meth c H1 locs1 (cells + mc) (slots + ms) Q (F0 m (pc + 3) ls (.int r :: rest))) : W p l e R s m args below meth c H locs cells slots Q (F0 m pc ls st0) := by
  intro T hT X
  rcases hr T hT X with ⟨v, st₀, t, T', L, h0, X', hL, e1, e2, ⟨⟨r, u, hv, hp, hb⟩, hF⟩, st⟩ | ⟨q, st₀, t, T', L, E, ce, h0, X', hL, e1, e2, ⟨u, hp, hb, hF⟩, hce, hcv, hcl, st⟩
  · cases hv
    obtain ⟨k1, k2, k3⟩ := vx_keep h0 e1 hS hA hf hL hF
    obtain ⟨t2, a1, b1⟩ := kk r u t T'.heap (locs ++ L) e1.symm (by rw [← e2]; exact X'.warmed.alike) hp hb k1 k2 k3 T' rfl X'
    exact ⟨t2, st t2 a1, b1⟩
  · obtain ⟨k1, k2, k3⟩ := vx_keep h0 e1 hS hAX hf hL hF
    obtain ⟨t2, a1, b1⟩ := kx E ce q u t T'.heap (locs ++ L) e1.symm (by rw [← e2]; exact X'.warmed.alike) hp hb k1 k2 k3 (by rw [e1]; exact hce) hcv hcl T' rfl X'
    exact ⟨t2, st.trans a1, b1⟩
theorem vx_calll {S SX : Type} {post : Int64 → S → Prop} {px : SX → Prop} {B : S → State → Prop} {BX : String → SX → State → Prop} {AX : Nat → Prop} (hr : vx_Run p l e R s m args below meth c H locs cells slots mc ms (F0 m pc ls st0) rest (va_Ql post B A1 a) (vx_X px BX AX) free) (hS : va_S A0 H0 H locs) (hA : ∀ q, q < H.size → A1 q → A0 q) (hf : ∀ q, free q → A0 q) (hAX : ∀ q, q < H.size → AX q → A0 q)
    (kx : ∀ (E : String) (ce : Cell) (q9 : Addr) (u : SX) (t : State) (H1 : Heap) (locs1 : List Loc), t.heap = H1 → s.vm.Alike t.vm → px u → BX E u t → H.size ≤ H1.size → (∀ q : Nat, q < H.size → ¬ AX q → H1[q]? = H[q]?) → va_S A0 H0 H1 locs1 → H1[q9]? = some ce → ce.vm = .none → s.vm.findClass E = some ce.cls → vx_W p l e R s m args below meth c H1 locs1 (cells + mc) (slots + ms) Q (F0 m pc ls rest) q9)
    (kk : ∀ (r : Int64) (u : S) (t : State) (H1 : Heap) (locs1 : List Loc), t.heap = H1 → s.vm.Alike t.vm → post r u → B u t → H.size ≤ H1.size → (∀ q : Nat, q < H.size → ¬ A1 q → H1[q]? = H[q]?) → va_S A0 H0 H1 locs1 → W p l e R s m args below meth c H1 locs1 (cells + mc) (slots + ms) Q (F0 m (pc + 3) ls (.long r :: rest))) : W p l e R s m args below meth c H locs cells slots Q (F0 m pc ls st0) := by
  intro T hT X
  rcases hr T hT X with ⟨v, st₀, t, T', L, h0, X', hL, e1, e2, ⟨⟨r, u, hv, hp, hb⟩, hF⟩, st⟩ | ⟨q, st₀, t, T', L, E, ce, h0, X', hL, e1, e2, ⟨u, hp, hb, hF⟩, hce, hcv, hcl, st⟩
  · cases hv
    obtain ⟨k1, k2, k3⟩ := vx_keep h0 e1 hS hA hf hL hF
    obtain ⟨t2, a1, b1⟩ := kk r u t T'.heap (locs ++ L) e1.symm (by rw [← e2]; exact X'.warmed.alike) hp hb k1 k2 k3 T' rfl X'
    exact ⟨t2, st t2 a1, b1⟩
  · obtain ⟨k1, k2, k3⟩ := vx_keep h0 e1 hS hAX hf hL hF
    obtain ⟨t2, a1, b1⟩ := kx E ce q u t T'.heap (locs ++ L) e1.symm (by rw [← e2]; exact X'.warmed.alike) hp hb k1 k2 k3 (by rw [e1]; exact hce) hcv hcl T' rfl X'
    exact ⟨t2, st.trans a1, b1⟩
theorem vx_callf {S SX : Type} {post : UInt32 → S → Prop} {px : SX → Prop} {B : S → State → Prop} {BX : String → SX → State → Prop} {AX : Nat → Prop} (hr : vx_Run p l e R s m args below meth c H locs cells slots mc ms (F0 m pc ls st0) rest (va_Qf post B A1 a) (vx_X px BX AX) free) (hS : va_S A0 H0 H locs) (hA : ∀ q, q < H.size → A1 q → A0 q) (hf : ∀ q, free q → A0 q) (hAX : ∀ q, q < H.size → AX q → A0 q)
    (kx : ∀ (E : String) (ce : Cell) (q9 : Addr) (u : SX) (t : State) (H1 : Heap) (locs1 : List Loc), t.heap = H1 → s.vm.Alike t.vm → px u → BX E u t → H.size ≤ H1.size → (∀ q : Nat, q < H.size → ¬ AX q → H1[q]? = H[q]?) → va_S A0 H0 H1 locs1 → H1[q9]? = some ce → ce.vm = .none → s.vm.findClass E = some ce.cls → vx_W p l e R s m args below meth c H1 locs1 (cells + mc) (slots + ms) Q (F0 m pc ls rest) q9)
    (kk : ∀ (r : UInt32) (u : S) (t : State) (H1 : Heap) (locs1 : List Loc), t.heap = H1 → s.vm.Alike t.vm → post r u → B u t → H.size ≤ H1.size → (∀ q : Nat, q < H.size → ¬ A1 q → H1[q]? = H[q]?) → va_S A0 H0 H1 locs1 → W p l e R s m args below meth c H1 locs1 (cells + mc) (slots + ms) Q (F0 m (pc + 3) ls (.float r :: rest))) : W p l e R s m args below meth c H locs cells slots Q (F0 m pc ls st0) := by
  intro T hT X
  rcases hr T hT X with ⟨v, st₀, t, T', L, h0, X', hL, e1, e2, ⟨⟨r, u, hv, hp, hb⟩, hF⟩, st⟩ | ⟨q, st₀, t, T', L, E, ce, h0, X', hL, e1, e2, ⟨u, hp, hb, hF⟩, hce, hcv, hcl, st⟩
  · cases hv
    obtain ⟨k1, k2, k3⟩ := vx_keep h0 e1 hS hA hf hL hF
    obtain ⟨t2, a1, b1⟩ := kk r u t T'.heap (locs ++ L) e1.symm (by rw [← e2]; exact X'.warmed.alike) hp hb k1 k2 k3 T' rfl X'
    exact ⟨t2, st t2 a1, b1⟩
  · obtain ⟨k1, k2, k3⟩ := vx_keep h0 e1 hS hAX hf hL hF
    obtain ⟨t2, a1, b1⟩ := kx E ce q u t T'.heap (locs ++ L) e1.symm (by rw [← e2]; exact X'.warmed.alike) hp hb k1 k2 k3 (by rw [e1]; exact hce) hcv hcl T' rfl X'
    exact ⟨t2, st.trans a1, b1⟩
theorem vx_calld {S SX : Type} {post : UInt64 → S → Prop} {px : SX → Prop} {B : S → State → Prop} {BX : String → SX → State → Prop} {AX : Nat → Prop} (hr : vx_Run p l e R s m args below meth c H locs cells slots mc ms (F0 m pc ls st0) rest (va_Qd post B A1 a) (vx_X px BX AX) free) (hS : va_S A0 H0 H locs) (hA : ∀ q, q < H.size → A1 q → A0 q) (hf : ∀ q, free q → A0 q) (hAX : ∀ q, q < H.size → AX q → A0 q)
    (kx : ∀ (E : String) (ce : Cell) (q9 : Addr) (u : SX) (t : State) (H1 : Heap) (locs1 : List Loc), t.heap = H1 → s.vm.Alike t.vm → px u → BX E u t → H.size ≤ H1.size → (∀ q : Nat, q < H.size → ¬ AX q → H1[q]? = H[q]?) → va_S A0 H0 H1 locs1 → H1[q9]? = some ce → ce.vm = .none → s.vm.findClass E = some ce.cls → vx_W p l e R s m args below meth c H1 locs1 (cells + mc) (slots + ms) Q (F0 m pc ls rest) q9)
    (kk : ∀ (r : UInt64) (u : S) (t : State) (H1 : Heap) (locs1 : List Loc), t.heap = H1 → s.vm.Alike t.vm → post r u → B u t → H.size ≤ H1.size → (∀ q : Nat, q < H.size → ¬ A1 q → H1[q]? = H[q]?) → va_S A0 H0 H1 locs1 → W p l e R s m args below meth c H1 locs1 (cells + mc) (slots + ms) Q (F0 m (pc + 3) ls (.double r :: rest))) : W p l e R s m args below meth c H locs cells slots Q (F0 m pc ls st0) := by
  intro T hT X
  rcases hr T hT X with ⟨v, st₀, t, T', L, h0, X', hL, e1, e2, ⟨⟨r, u, hv, hp, hb⟩, hF⟩, st⟩ | ⟨q, st₀, t, T', L, E, ce, h0, X', hL, e1, e2, ⟨u, hp, hb, hF⟩, hce, hcv, hcl, st⟩
  · cases hv
    obtain ⟨k1, k2, k3⟩ := vx_keep h0 e1 hS hA hf hL hF
    obtain ⟨t2, a1, b1⟩ := kk r u t T'.heap (locs ++ L) e1.symm (by rw [← e2]; exact X'.warmed.alike) hp hb k1 k2 k3 T' rfl X'
    exact ⟨t2, st t2 a1, b1⟩
  · obtain ⟨k1, k2, k3⟩ := vx_keep h0 e1 hS hAX hf hL hF
    obtain ⟨t2, a1, b1⟩ := kx E ce q u t T'.heap (locs ++ L) e1.symm (by rw [← e2]; exact X'.warmed.alike) hp hb k1 k2 k3 (by rw [e1]; exact hce) hcv hcl T' rfl X'
    exact ⟨t2, st.trans a1, b1⟩
theorem vx_callv {S SX : Type} {post : S → Prop} {px : SX → Prop} {B : S → State → Prop} {BX : String → SX → State → Prop} {AX : Nat → Prop} (hr : vx_Run p l e R s m args below meth c H locs cells slots mc ms (F0 m pc ls st0) rest (va_Qv post B A1 a) (vx_X px BX AX) free) (hS : va_S A0 H0 H locs) (hA : ∀ q, q < H.size → A1 q → A0 q) (hf : ∀ q, free q → A0 q) (hAX : ∀ q, q < H.size → AX q → A0 q)
    (kx : ∀ (E : String) (ce : Cell) (q9 : Addr) (u : SX) (t : State) (H1 : Heap) (locs1 : List Loc), t.heap = H1 → s.vm.Alike t.vm → px u → BX E u t → H.size ≤ H1.size → (∀ q : Nat, q < H.size → ¬ AX q → H1[q]? = H[q]?) → va_S A0 H0 H1 locs1 → H1[q9]? = some ce → ce.vm = .none → s.vm.findClass E = some ce.cls → vx_W p l e R s m args below meth c H1 locs1 (cells + mc) (slots + ms) Q (F0 m pc ls rest) q9)
    (kk : ∀ (u : S) (t : State) (H1 : Heap) (locs1 : List Loc), t.heap = H1 → s.vm.Alike t.vm → post u → B u t → H.size ≤ H1.size → (∀ q : Nat, q < H.size → ¬ A1 q → H1[q]? = H[q]?) → va_S A0 H0 H1 locs1 → W p l e R s m args below meth c H1 locs1 (cells + mc) (slots + ms) Q (F0 m (pc + 3) ls (rest))) : W p l e R s m args below meth c H locs cells slots Q (F0 m pc ls st0) := by
  intro T hT X
  rcases hr T hT X with ⟨v, st₀, t, T', L, h0, X', hL, e1, e2, ⟨⟨u, hv, hp, hb⟩, hF⟩, st⟩ | ⟨q, st₀, t, T', L, E, ce, h0, X', hL, e1, e2, ⟨u, hp, hb, hF⟩, hce, hcv, hcl, st⟩
  · cases hv
    obtain ⟨k1, k2, k3⟩ := vx_keep h0 e1 hS hA hf hL hF
    obtain ⟨t2, a1, b1⟩ := kk u t T'.heap (locs ++ L) e1.symm (by rw [← e2]; exact X'.warmed.alike) hp hb k1 k2 k3 T' rfl X'
    exact ⟨t2, st t2 a1, b1⟩
  · obtain ⟨k1, k2, k3⟩ := vx_keep h0 e1 hS hAX hf hL hF
    obtain ⟨t2, a1, b1⟩ := kx E ce q u t T'.heap (locs ++ L) e1.symm (by rw [← e2]; exact X'.warmed.alike) hp hb k1 k2 k3 (by rw [e1]; exact hce) hcv hcl T' rfl X'
    exact ⟨t2, st.trans a1, b1⟩
/-- caught by the row x of this method's table; the rows ahead don't take it -/
theorem vx_catch {own name : String} {E : String} {ce : Cell} {q : Addr} (hown : s.vm.findClass own = some m.cls) (pre : List ExceptionTableEntry) (x : ExceptionTableEntry) (suf : List ExceptionTableEntry) (hsplit : c.exceptionTable.toList = pre ++ x :: suf)
    (hpass : ∀ z ∈ pre, covers z pc = false ∨ (z.catchType ≠ 0 ∧ ∃ nm : String, (Cond.classLink own z.catchType nm).before args s = true ∧ va_Nc E nm s)) (hx : covers x pc = true) (h0 : x.catchType ≠ 0)
    (hlink : (Cond.classLink own x.catchType name).before args s = true) (hcast : (Cond.castable E name).before args s = true) (hcell : H[q]? = some ce) (hv : ce.vm = .none) (hcl : s.vm.findClass E = some ce.cls)
    (kk : W p l e R s m args below meth c H locs cells slots Q (F0 m x.handlerPc ls [.ref q])) : vx_W p l e R s m args below meth c H locs cells slots Q (F0 m pc ls rest) q := by
  intro T hT X
  have hpl : e.platform.magicAccessors = ({} : Platform).magicAccessors := by rw [X.admits.platform]
  obtain ⟨c3, c4, hc3, hc4, hasg⟩ := Cond.castable_spec hcast
  cases Option.some.inj (hc3.symm.trans hcl)
  obtain ⟨c5, hc5, hcl5⟩ := Cond.classLink_spec hown hlink e.platform hpl
  cases Option.some.inj (hc4.symm.trans hc5)
  obtain ⟨vm', X', st⟩ := X.thenCaughtThrough q (g := F0 m pc ls rest) rfl (Steps.refl _) (by rw [hT]; exact hcell) (by rw [hv]; rfl) (by obtain ⟨k9, h9, -⟩ := Vm.findClass_spec hcl; exact ⟨k9, h9⟩) pre x suf hsplit
    (fun z hz => by
      rcases hpass z hz with h | ⟨hz0, nm, hl1, hn1⟩
      · exact Or.inl h
      · obtain ⟨c6, hc6, hcl6⟩ := Cond.classLink_spec hown hl1 e.platform hpl
        obtain ⟨a8, b8, h1, h2, h3⟩ := hn1
        cases Option.some.inj (h1.symm.trans hcl)
        cases Option.some.inj (h2.symm.trans hc6)
        exact Or.inr ⟨hz0, _, hcl6, h3⟩) hx (Or.inr ⟨h0, c4, hcl5, hasg⟩)
  obtain ⟨t, a1, b1⟩ := kk (T.setVm vm') hT X'
  exact ⟨t, st.trans a1, b1⟩
end Rows
section Ends
variable {p : Program} {l : Launch} {e : Env} {R : Room} {s : State} {m : MethodId} {args : Array Value} {below : List Frame} {meth : Method} {c : Code} {H : Heap} {locs : List Loc} {cells slots : Nat} {Q : State → Prop}
variable {mc ms : Nat} {free : Addr → Prop} {A0 A1 : Nat → Prop} {H0 : Heap} {a : Array Value} {ls : Array Slot} {st0 rest : List Value}
variable {Qc : Array Value → State → Outcome → State → Prop} {XC : String → State → State → Prop}
/-- what a body that may throw owes at its end -/
def vx_MQ (below : List Frame) (Qc : Array Value → State → Outcome → State → Prop) (XC : String → State → State → Prop) (a : Array Value) (s : State) (mc ms : Nat) (free : Addr → Prop) : State → Prop := fun t =>
  ∃ o, t.status = .running ∧ Ended t below o ∧ vx_Q Qc XC mc ms free a s o t
theorem vx_ret {g : JFrame} {mc ms : Nat} (k : W p l e R s m args below meth c H locs cells slots (MQ below Qc args s mc ms free) g) : W p l e R s m args below meth c H locs cells slots (vx_MQ below Qc XC args s mc ms free) g := by
  intro T hT X
  obtain ⟨t, a1, o, b1, b2, b3, b4⟩ := k T hT X
  exact ⟨t, a1, o, b1, b2, Or.inl ⟨b3, b4⟩⟩
/-- not caught here: it goes on to the caller -/
theorem vx_widen {g : JFrame} {q : Addr} {k n : Nat} (h1 : cells ≤ k) (h2 : slots ≤ n) (kk : vx_W p l e R s m args below meth c H locs k n Q g q) : vx_W p l e R s m args below meth c H locs cells slots Q g q := fun T hT X => kk T hT (stand_widen X h1 h2)
theorem vx_out {pc : Nat} {E : String} {ce : Cell} {q : Addr} {mc ms : Nat} (hout : ∀ x ∈ c.exceptionTable.toList, covers x pc = false) (hlocks : meth.locks = false) (hcell : H[q]? = some ce) (hv : ce.vm = .none) (hcl : s.vm.findClass E = some ce.cls)
    (hx : ∀ t : State, t.heap = H → s.vm.Alike t.vm → XC E s t) (hf : ∀ z ∈ locs, free z.base) (hc : cells ≤ mc) (hs : slots ≤ ms) :
    vx_W p l e R s m args below meth c H locs cells slots (vx_MQ below Qc XC args s mc ms free) (F0 m pc ls rest) q := by
  intro T hT X
  obtain ⟨st1, hrun, hend, hW, hsm⟩ := X.leaveThrown q (g := F0 m pc ls rest) rfl rfl rfl hout hlocks
  have hcell9 : (T.setFrames (.throwing q :: below)).heap[q]? = some ce := by
    show T.heap[q]? = some ce
    rw [hT]; exact hcell
  exact ⟨_, st1, .threw q, hrun, hend, Or.inr ⟨q, rfl, E, ce, locs, hx _ hT hW.alike, hcell9, hv, hcl, hW, hsm.mono hc hs, hf⟩⟩
theorem vx_frame {U : State} {k n : Nat} (h : s.sameButNew ({ U with vm := s.vm } : State) locs k n) : s.heap.size ≤ U.heap.size ∧ ∀ q : Nat, q < s.heap.size → (∀ z ∈ locs, z.base ≠ q) → U.heap[q]? = s.heap[q]? := by
  obtain ⟨-, h2, -, -, -, h6⟩ := h
  refine ⟨h2, fun q hq hz => ?_⟩
  obtain ⟨c9, e1, e2, e3, e4⟩ := h6 q _ (Array.getElem?_eq_getElem hq)
  have hs : c9.slots = (s.heap[q]).slots := Array.ext_getElem? fun i => e4 i fun hm => hz _ hm rfl
  have h9 : c9 = s.heap[q] := by
    rw [hs] at e2
    exact e2
  have e5 : U.heap[q]? = some c9 := e1
  rw [e5, h9, Array.getElem?_eq_getElem hq]
/-- the words of a throw but the four that speak of the heap -/
def vx_no (w : Cond) : Bool := decide (w ≠ .isRef (.static Bundle.tN "UNASSIGNED_STACK" Bundle.steD)) && decide (w ≠ .isRef (.static Bundle.tN "SUPPRESSED_SENTINEL" Bundle.listD)) && decide (w ≠ .laysStatic Bundle.tN "UNASSIGNED_STACK" Bundle.steD) && decide (w ≠ .laysStatic Bundle.tN "SUPPRESSED_SENTINEL" Bundle.listD)
def vx_at0 (own : String) (ic : Nat) (X : String) (names : List String) : List Cond := (Bundle.ownAtoms0 own ic X names).filter vx_no
def vx_atS (own : String) (ic : Nat) (X : String) (names : List String) : List Cond := (Bundle.ownAtoms own ic X names).filter vx_no
/-- a word that the tables alone decide, or a good one -/
def vx_ot (w : Cond) : Bool := w.onTables || goodWord w
theorem vx_ot_at {args a' : Array Value} {s U : State} {w : Cond} (hW : s.WarmedH U.vm) (hvm : s.vm = U.vm) (hg : vx_ot w = true) (h : w.before args s = true) : w.before a' U = true := by
  simp only [vx_ot, Bool.or_eq_true] at hg
  rcases hg with hg | hg
  · exact va_tabs hg hvm h
  · exact word_at hW (good_of_word hg) h
/-- a list's words: the good ones out of the method's own list, the others by premises of their own -/
theorem vx_hat {args : Array Value} {s : State} {L B : List Cond} (h1 : ∀ w ∈ L.filter goodWord, w.before args s = true) (h2 : ∀ w ∈ L.filter (fun w => !goodWord w), w ∈ B) (h3 : ∀ w ∈ B, w.before args s = true) : ∀ w ∈ L, w.before args s = true := by
  intro w hw
  by_cases g : goodWord w = true
  · exact h1 w (List.mem_filter.mpr ⟨hw, g⟩)
  · refine h3 w (h2 w (List.mem_filter.mpr ⟨hw, ?_⟩))
    show (!goodWord w) = true
    cases hgw : goodWord w
    · rfl
    · exact absurd hgw g
theorem vx_c {args : Array Value} {s : State} {w : Cond} {B : List Cond} (h : w.before args s = true) (t : ∀ w ∈ B, w.before args s = true) : ∀ w' ∈ w :: B, w'.before args s = true := fun w' h' => (List.mem_cons.mp h').elim (fun e => by rw [e]; exact h) (t w')
theorem vx_n {args : Array Value} {s : State} : ∀ w ∈ ([] : List Cond), w.before args s = true := fun _ h => nomatch h
theorem vx_own {args : Array Value} {s : State} {L : List Cond} (h1 : ∀ w ∈ L.filter vx_no, w.before args s = true)
    (hU : (Cond.isRef (.static Bundle.tN "UNASSIGNED_STACK" Bundle.steD)).before args s = true) (hN : (Cond.isRef (.static Bundle.tN "SUPPRESSED_SENTINEL" Bundle.listD)).before args s = true)
    (lU : (Cond.laysStatic Bundle.tN "UNASSIGNED_STACK" Bundle.steD).before args s = true) (lN : (Cond.laysStatic Bundle.tN "SUPPRESSED_SENTINEL" Bundle.listD).before args s = true) : ∀ w ∈ L, w.before args s = true := by
  intro w hw
  by_cases e1 : w = .isRef (.static Bundle.tN "UNASSIGNED_STACK" Bundle.steD)
  · rw [e1]; exact hU
  · by_cases e2 : w = .isRef (.static Bundle.tN "SUPPRESSED_SENTINEL" Bundle.listD)
    · rw [e2]; exact hN
    · by_cases e3 : w = .laysStatic Bundle.tN "UNASSIGNED_STACK" Bundle.steD
      · rw [e3]; exact lU
      · by_cases e4 : w = .laysStatic Bundle.tN "SUPPRESSED_SENTINEL" Bundle.listD
        · rw [e4]; exact lN
        · exact h1 w (List.mem_filter.mpr ⟨hw, by unfold vx_no; rw [decide_eq_true e1, decide_eq_true e2, decide_eq_true e3, decide_eq_true e4]; rfl⟩)
/-- where a static field lies, its class's statics cell in H -/
def vx_L (C n d : String) (A : Nat → Prop) (U : State) (H : Heap) : Prop := ∃ (c : ClassId) (k : Class) (i : Nat) (f : Field) (a : Nat) (cell : Cell), U.vm.findClass C = some c ∧ U.fieldFound? C n d = some (c, k, i, f) ∧ f.isStatic = true ∧ k.statics = some a ∧ H[a]? = some cell ∧ cell.vm.isStatics = true ∧ cell.cls = c ∧ f.slot < cell.slots.size ∧ k.staticTypes[f.slot]? = some f.type ∧ ¬ A a
theorem vx_L.moved {C n d : String} {A : Nat → Prop} {u U : State} {H : Heap} (hvm : u.vm.Alike U.vm) (h : vx_L C n d A u H) : vx_L C n d A U H := by
  obtain ⟨c, k, i, f, a, cell, h1, h2, h3, h4, h5, h6, h7, h8, h9, h10⟩ := h
  obtain ⟨k', hi', he⟩ := State.fieldFound?_setVm hvm h2
  exact ⟨c, k', i, f, a, cell, by rw [hvm.findClass]; exact h1, hi', h3, by rw [he]; exact h4, h5, h6, h7, h8, by rw [he]; exact h9, h10⟩
theorem vx_L.kept {C n d : String} {A : Nat → Prop} {U : State} {H H1 : Heap} (h : vx_L C n d A U H) (hq : ∀ a : Nat, a < H.size → ¬ A a → H1[a]? = H[a]?) : vx_L C n d A U H1 := by
  obtain ⟨c, k, i, f, a, cell, h1, h2, h3, h4, h5, h6, h7, h8, h9, h10⟩ := h
  exact ⟨c, k, i, f, a, cell, h1, h2, h3, h4, by rw [hq a (Array.getElem?_eq_some_iff.mp h5).1 h10]; exact h5, h6, h7, h8, h9, h10⟩
theorem vx_L.narrow {C n d : String} {A B : Nat → Prop} {U : State} {H : Heap} (h : vx_L C n d A U H) (hAB : ∀ q, B q → A q) : vx_L C n d B U H := by
  obtain ⟨c, k, i, f, a, cell, h1, h2, h3, h4, h5, h6, h7, h8, h9, h10⟩ := h
  exact ⟨c, k, i, f, a, cell, h1, h2, h3, h4, h5, h6, h7, h8, h9, fun z => h10 (hAB _ z)⟩
theorem vx_L.word {C n d : String} {A : Nat → Prop} {s : State} {args : Array Value} (h : vx_L C n d A s s.heap) : (Cond.laysStatic C n d).before args s = true := by
  obtain ⟨c, k, i, f, a, cell, h1, h2, h3, h4, h5, h6, h7, h8, h9, -⟩ := h
  show (Cond.laysStatic C n d).holds args s none s [] = true
  exact Cond.laysStatic_of h1 h2 h3 h4 h5 h6 h7 h8 h9
/-- .. and what it holds: null or some reference -/
def vx_Zq (C n d : String) (A : Nat → Prop) (U : State) (H : Heap) : Prop := va_Zq C n d A U H ∧ vx_L C n d A U H
theorem vx_Zq.moved {C n d : String} {A : Nat → Prop} {u U : State} {H : Heap} (hvm : u.vm.Alike U.vm) (h : vx_Zq C n d A u H) : vx_Zq C n d A U H := ⟨va_Zq.moved hvm h.1, vx_L.moved hvm h.2⟩
theorem vx_Zq.kept {C n d : String} {A : Nat → Prop} {U : State} {H H1 : Heap} (h : vx_Zq C n d A U H) (hq : ∀ a : Nat, a < H.size → ¬ A a → H1[a]? = H[a]?) : vx_Zq C n d A U H1 := ⟨va_Zq.kept h.1 hq, vx_L.kept h.2 hq⟩
theorem vx_Zq.narrow {C n d : String} {A B : Nat → Prop} {U : State} {H : Heap} (h : vx_Zq C n d A U H) (hAB : ∀ q, B q → A q) : vx_Zq C n d B U H := ⟨va_Zq.narrow h.1 hAB, vx_L.narrow h.2 hAB⟩
theorem vx_Zqof {args : Array Value} {s : State} {C n d : String} {A : Nat → Prop} (hl : (Cond.laysStatic C n d).before args s = true) (hini : (Cond.initialized C).before args s = true) (h : (Cond.isRef (.static C n d)).before args s = true) (hA : ∀ a : Nat, a < s.heap.size → ¬ A a) : vx_Zq C n d A s s.heap := by
  refine ⟨va_Zqof hl hini h hA, ?_⟩
  obtain ⟨c, k, i, f, a, cell, h1, h2, h3, h4, h5, h6, h7, h8, h9⟩ := Cond.laysStatic_spec hl
  exact ⟨c, k, i, f, a, cell, h1, h2, h3, h4, h5, h6, h7, h8, h9, hA a (Array.getElem?_eq_some_iff.mp h5).1⟩
theorem vx_isRef {C n d : String} {v : Value} {A : Nat → Prop} {s : State} {args : Array Value} (h : va_Z C n d v A s s.heap) (hv : v.isRef = true) : (Cond.isRef (.static C n d)).before args s = true := by
  obtain ⟨cf, kf, fi, f, a, cell, h1, h2, h3, h4, h5, h6, h7, -⟩ := h
  have he : (Term.static C n d).eval args s none [] s = some v := by
    simp [Term.eval, State.fieldNamed?, h1, h2, h4, h5, h6, h7]
  simp only [Cond.before, Cond.holds, Cond.value, he]
  cases v <;> simp_all [Value.isRef]
theorem vx_isRefq {C n d : String} {A : Nat → Prop} {s : State} {args : Array Value} (h : va_Zq C n d A s s.heap) : (Cond.isRef (.static C n d)).before args s = true := by
  rcases h with h | ⟨t, h⟩
  · exact vx_isRef h rfl
  · exact vx_isRef h rfl
/-- the same frame, seen from here: as if the method were called anew in this heap -/
theorem vx_rebase {T : State} (X : Stand p l e R s m args below meth c T locs cells slots) {R' : Room} (hf : R'.frames ≤ R.frames) (hl : R'.locals ≤ R.locals) (hc : cells + R'.cells ≤ R.cells) (hs : slots + R'.slots ≤ R.slots) :
    Stand p l e R' ((T.setVm s.vm).setFrames (.invoking m args :: below)) m args below meth c T [] 0 0 := by
  have htop : (T.setVm s.vm).topJava?.isSome := X.here.top
  have hF : ((T.setVm s.vm).setFrames (.invoking m args :: below)).frames = .invoking m args :: below := State.frames_setFrames _ (State.cur_lt_of_top htop)
  obtain ⟨g₀, hg0⟩ := Option.isSome_iff_exists.mp htop
  obtain ⟨r, hr⟩ := State.topJava?_eq_some.mp hg0
  have hl9 : e.platform.stackLimits (T.setVm s.vm).me = e.platform.stackLimits s.me := X.limits
  have hb9 : (T.setVm s.vm).me.stackBytes = s.me.stackBytes := X.bytes
  refine ⟨X.admits, X.cas, X.clock, hF, ?_, X.hears, X.method, X.code, X.here, X.tail, X.warmed, ?_, ?_, ?_⟩
  · have h := X.room
    have hU : ((T.setVm s.vm).setFrames (.invoking m args :: below)).localsInUse = s.localsInUse := by
      rw [State.localsInUse_invoking hF (meth := meth) (c := c) X.method X.code, State.localsInUse_invoking X.frames X.method X.code]
    simp only [State.hasRoom, Bool.and_eq_true, decide_eq_true_eq] at h ⊢
    obtain ⟨⟨⟨⟨h1, h2, h3, h4, h5, h6⟩, h7⟩, h8⟩, h9⟩ := h
    rw [X.frames, List.length_cons] at h2 h3
    have q1 := X.heapSize
    have q2 := X.used
    simp only [hF, hU, List.length_cons, State.stackLimits_setFrames, State.stackBytes_setFrames, hl9, hb9]
    refine ⟨⟨⟨⟨by omega, by omega, by omega, by omega, by omega, h6⟩, ?_⟩, ?_⟩, X.book⟩
    · show T.heap.size + R'.cells ≤ e.platform.maxCells
      omega
    · show T.slotsUsed + R'.slots ≤ e.platform.maxSlots
      omega
  · rw [State.stackLimits_setFrames]; rfl
  · rw [State.stackBytes_setFrames]; rfl
  · refine ⟨?_, Nat.le_refl _, Nat.le_refl _, ?_, ?_, fun a c9 h9 => ⟨c9, h9, rfl, rfl, fun _ _ => rfl⟩⟩
    · obtain ⟨t, ht, -⟩ := State.frames_cons hr
      show T.setVm s.vm = { ((T.setVm s.vm).setFrames (.invoking m args :: below)).setFrames (T.setVm s.vm).frames with heap := T.heap, slotsUsed := T.slotsUsed }
      rw [State.setFrames_setFrames, State.setFrames_self ht]
      rfl
    · show T.slotsUsed = T.slotsUsed + ((T.heap.toList.drop T.heap.size).map (·.slots.size)).sum
      rw [List.drop_eq_nil_of_le (Nat.le_of_eq Array.length_toList)]
      rfl
    · show ((T.heap.toList.drop T.heap.size).map (·.slots.size)).sum ≤ 0
      rw [List.drop_eq_nil_of_le (Nat.le_of_eq Array.length_toList)]
      exact Nat.le_refl _
/-- 'throw new E()': new; dup; invokespecial; athrow -/
theorem vx_throw0 {cc : ByteArray} {pc : Nat} (hexec : p.tables.exec = Jvm.exec) (hb : c.code = cc) (hl : l.stackTraces = false) {own cls : String} {names : List String} {ik ic mc ms : Nat} {A : Nat → Prop}
    (hown : s.vm.findClass own = some m.cls) (hcls : Bundle.fit cls = true) (hnames : ∀ n ∈ names, Bundle.fit n = true)
    (hk : (Cond.classLink own ik cls).before args s = true) (hini : (Cond.initialized cls).before args s = true) (hat : ∀ w ∈ vx_at0 own ic cls names, w.before args s = true)
    (hgood : ∀ w ∈ Cond.classLink own ik cls :: Cond.initialized cls :: vx_at0 own ic cls names, vx_ot w = true)
    (hU : vx_Zq Bundle.tN "UNASSIGNED_STACK" Bundle.steD A s s.heap) (hN : vx_Zq Bundle.tN "SUPPRESSED_SENTINEL" Bundle.listD A s s.heap) (hS : va_S A s.heap H locs) (hsize : ls.size = c.maxLocals)
    (d0 : decode cc pc = .ok (.new ik, 3)) (d3 : decode cc (pc + 3) = .ok (.dup, 1)) (d4 : decode cc (pc + 4) = .ok (.invokespecial ic, 3)) (d7 : decode cc (pc + 7) = .ok (.athrow, 1))
    (hout : ∀ x ∈ c.exceptionTable.toList, covers x (pc + 7) = false)
    (hRframes : names.length + 3 < R.frames) (hRlocals : (rest.map fun v => v.category).sum + (13 * (names.length + 1) + 42) ≤ R.locals) (hRcells : cells + 1 ≤ R.cells) (hRslots : slots + 6 ≤ R.slots) (hlocks : meth.locks = false)
    (hx : ∀ t : State, s.vm.Alike t.vm → H.size ≤ t.heap.size → (∀ q : Nat, q < H.size → t.heap[q]? = H[q]?) → XC cls s t)
    (hf : ∀ z ∈ locs, free z.base) (hc : cells + 1 ≤ mc) (hs : slots + 6 ≤ ms) :
    W p l e R s m args below meth c H locs cells slots (vx_MQ below Qc XC args s mc ms free) (F0 m pc ls rest) := by
  intro T hT X
  have htr : e.platform.stackTraces = false := (show e.platform.stackTraces = l.stackTraces by rw [X.admits.platform]).trans hl
  have Y := vx_rebase X (R' := { frames := R.frames, locals := R.locals, cells := 1, slots := 6 }) (Nat.le_refl _) (Nat.le_refl _) hRcells hRslots
  obtain ⟨s', hA⟩ : ∃ z, z = (T.setVm s.vm).setFrames (.invoking m args :: below) := ⟨_, rfl⟩
  rw [← hA] at Y
  have hvm : s'.vm = s.vm := by rw [hA]; rfl
  have hhp : s'.heap = H := by rw [hA]; exact hT
  have hW0 : s.WarmedH s'.vm := by rw [hvm]; exact State.WarmedH.refl s
  have hat' : ∀ w ∈ vx_at0 own ic cls names, w.before args s' = true := fun w hw => vx_ot_at hW0 hvm.symm (hgood w (List.mem_cons_of_mem _ (List.mem_cons_of_mem _ hw))) (hat w hw)
  have hk' : (Cond.classLink own ik cls).before args s' = true := vx_ot_at hW0 hvm.symm (hgood _ List.mem_cons_self) hk
  have hini' : (Cond.initialized cls).before args s' = true := vx_ot_at hW0 hvm.symm (hgood _ (List.mem_cons_of_mem _ List.mem_cons_self)) hini
  have hU' : vx_Zq Bundle.tN "UNASSIGNED_STACK" Bundle.steD A s' s'.heap := by rw [hhp]; exact vx_Zq.moved hW0.alike (hU.kept hS.2.1)
  have hN' : vx_Zq Bundle.tN "SUPPRESSED_SENTINEL" Bundle.listD A s' s'.heap := by rw [hhp]; exact vx_Zq.moved hW0.alike (hN.kept hS.2.1)
  have h : ∀ w ∈ Bundle.ownAtoms0 own ic cls names, w.before args s' = true := vx_own hat' (vx_isRefq hU'.1) (vx_isRefq hN'.1) hU'.2.word hN'.2.word
  have hown' : s'.vm.findClass own = some m.cls := by rw [hvm]; exact hown
  have hins : (Cond.instantiable cls 6).before args s' = true := h _ (by simp [Bundle.ownAtoms0])
  obtain ⟨vm₁, cX, kX, hfX, hkX, -, -, X₁, st1⟩ := Y.newCold hexec (own := own) (C := cls) (index := ik) (n := 6) hown' hk' hins hini'
    (g := F0 m pc ls rest) rfl (by rw [hb]; exact d0) (Nat.le_refl _) (Nat.le_refl _)
  generalize hT1 : (T.setVm vm₁).pushCell { cls := cX, slots := kX.instanceTypes.map defaultValue, vm := .none } = T1 at X₁ st1
  have hcat : (Value.ref T.heap.size).category = 1 := rfl
  have hcellA : T1.heap[T.heap.size]? = some (freshCell cX kX) := by rw [← hT1]; exact State.heap_pushCell_size _ _
  have d3' : decode c.code (pc + 3) = .ok (.dup, 1) := by rw [hb]; exact d3
  obtain ⟨U, hsteps, hrun, hend, hW, hsame, ce, hce, hO⟩ := X₁.ctorThrow0 hexec htr (own := own) (cls := cls) (names := names) (ic := ic) hown' hcls hnames h (fun x hx => nomatch hx) hfX hkX hcellA (by rw [hhp, hT]; exact Nat.le_refl _)
    (g := { method := m, pc := pc + 4, locals := ls, stack := .ref T.heap.size :: .ref T.heap.size :: rest, locked := none }) rfl hsize rfl rfl (rest := rest) rfl
    (by rw [hb]; exact d4) (by rw [hb]; exact d7) hout hRframes (by simp only [List.map_cons, List.sum_cons, hcat]; omega) hlocks
  obtain ⟨f1, f2⟩ := vx_frame hsame
  rw [hhp] at f1 f2
  have hWs : s.WarmedH U.vm := State.WarmedH.trans hW0 hW
  have hcl : s.vm.findClass cls = some ce.cls := by
    have h9 := hO.cls
    rw [hvm] at h9
    exact h9
  have hall : s.sameButNew ({ U with vm := s.vm } : State) locs mc ms := by
    subst hA
    obtain ⟨e1, e2⟩ := hsame
    rw [State.setFrames_setFrames] at e1
    have h2 : (T.setVm s.vm).sameButNew ({ U with vm := s.vm } : State) [] (0 + 1) (0 + 6) := ⟨e1, e2⟩
    have h3 := X.same.trans h2
    rw [List.append_nil] at h3
    exact h3.mono hc hs
  refine ⟨U, ?_, .threw T.heap.size, hrun, hend, Or.inr ⟨T.heap.size, rfl, cls, ce, locs, hx U hWs.alike f1 (fun q hq => f2 q hq (fun z hz => nomatch hz)), hce, hO.vm, hcl, hWs, hall, hf⟩⟩
  refine st1 _ ?_
  show Steps p.tables e below (T1.setTop { method := m, pc := pc + 3, locals := ls, stack := .ref T.heap.size :: rest, locked := none }) _
  jvm_step X₁.here [X₁.here.top, hexec, d3', Value.category]
  exact hsteps
/-- 'throw new E("text")': new; dup; ldc; invokespecial; athrow -/
theorem vx_throwS {cc : ByteArray} {pc : Nat} (hexec : p.tables.exec = Jvm.exec) (hb : c.code = cc) (hl : l.stackTraces = false) {own cls text : String} {names : List String} {ik is ic mc ms sa : Nat} {A : Nat → Prop}
    (hown : s.vm.findClass own = some m.cls) (hcls : Bundle.fit cls = true) (hnames : ∀ n ∈ names, Bundle.fit n = true)
    (hk : (Cond.classLink own ik cls).before args s = true) (hini : (Cond.initialized cls).before args s = true) (hstr : vk_R own is text sa s) (hat : ∀ w ∈ vx_atS own ic cls names, w.before args s = true)
    (hgood : ∀ w ∈ Cond.classLink own ik cls :: Cond.initialized cls :: vx_atS own ic cls names, vx_ot w = true)
    (hU : vx_Zq Bundle.tN "UNASSIGNED_STACK" Bundle.steD A s s.heap) (hN : vx_Zq Bundle.tN "SUPPRESSED_SENTINEL" Bundle.listD A s s.heap) (hS : va_S A s.heap H locs) (hsize : ls.size = c.maxLocals)
    (d0 : decode cc pc = .ok (.new ik, 3)) (d3 : decode cc (pc + 3) = .ok (.dup, 1)) (d4 : decode cc (pc + 4) = .ok (.ldc is, 2)) (d6 : decode cc (pc + 6) = .ok (.invokespecial ic, 3)) (d9 : decode cc (pc + 9) = .ok (.athrow, 1))
    (hout : ∀ x ∈ c.exceptionTable.toList, covers x (pc + 9) = false)
    (hRframes : names.length + 3 < R.frames) (hRlocals : (rest.map fun v => v.category).sum + (13 * (names.length + 1) + 43) ≤ R.locals) (hRcells : cells + 1 ≤ R.cells) (hRslots : slots + 6 ≤ R.slots) (hlocks : meth.locks = false)
    (hx : ∀ t : State, s.vm.Alike t.vm → H.size ≤ t.heap.size → (∀ q : Nat, q < H.size → t.heap[q]? = H[q]?) → XC cls s t)
    (hf : ∀ z ∈ locs, free z.base) (hc : cells + 1 ≤ mc) (hs : slots + 6 ≤ ms) :
    W p l e R s m args below meth c H locs cells slots (vx_MQ below Qc XC args s mc ms free) (F0 m pc ls rest) := by
  intro T hT X
  have htr : e.platform.stackTraces = false := (show e.platform.stackTraces = l.stackTraces by rw [X.admits.platform]).trans hl
  have Y := vx_rebase X (R' := { frames := R.frames, locals := R.locals, cells := 1, slots := 6 }) (Nat.le_refl _) (Nat.le_refl _) hRcells hRslots
  obtain ⟨s', hA⟩ : ∃ z, z = (T.setVm s.vm).setFrames (.invoking m args :: below) := ⟨_, rfl⟩
  rw [← hA] at Y
  have hvm : s'.vm = s.vm := by rw [hA]; rfl
  have hhp : s'.heap = H := by rw [hA]; exact hT
  have hW0 : s.WarmedH s'.vm := by rw [hvm]; exact State.WarmedH.refl s
  have hat' : ∀ w ∈ vx_atS own ic cls names, w.before args s' = true := fun w hw => vx_ot_at hW0 hvm.symm (hgood w (List.mem_cons_of_mem _ (List.mem_cons_of_mem _ hw))) (hat w hw)
  have hk' : (Cond.classLink own ik cls).before args s' = true := vx_ot_at hW0 hvm.symm (hgood _ List.mem_cons_self) hk
  have hini' : (Cond.initialized cls).before args s' = true := vx_ot_at hW0 hvm.symm (hgood _ (List.mem_cons_of_mem _ List.mem_cons_self)) hini
  have hU' : vx_Zq Bundle.tN "UNASSIGNED_STACK" Bundle.steD A s' s'.heap := by rw [hhp]; exact vx_Zq.moved hW0.alike (hU.kept hS.2.1)
  have hN' : vx_Zq Bundle.tN "SUPPRESSED_SENTINEL" Bundle.listD A s' s'.heap := by rw [hhp]; exact vx_Zq.moved hW0.alike (hN.kept hS.2.1)
  have h : ∀ w ∈ Bundle.ownAtoms own ic cls names, w.before args s' = true := vx_own hat' (vx_isRefq hU'.1) (vx_isRefq hN'.1) hU'.2.word hN'.2.word
  have hown' : s'.vm.findClass own = some m.cls := by rw [hvm]; exact hown
  have hins : (Cond.instantiable cls 6).before args s' = true := h _ (by simp [Bundle.ownAtoms])
  obtain ⟨vm₁, cX, kX, hfX, hkX, -, -, X₁, st1⟩ := Y.newCold hexec (own := own) (C := cls) (index := ik) (n := 6) hown' hk' hins hini'
    (g := F0 m pc ls rest) rfl (by rw [hb]; exact d0) (Nat.le_refl _) (Nat.le_refl _)
  generalize hT1 : (T.setVm vm₁).pushCell { cls := cX, slots := kX.instanceTypes.map defaultValue, vm := .none } = T1 at X₁ st1
  have hcat : (Value.ref T.heap.size).category = 1 := rfl
  have hcellA : T1.heap[T.heap.size]? = some (freshCell cX kX) := by rw [← hT1]; exact State.heap_pushCell_size _ _
  have d3' : decode c.code (pc + 3) = .ok (.dup, 1) := by rw [hb]; exact d3
  have d4' : decode c.code (pc + 4) = .ok (.ldc is, 2) := by rw [hb]; exact d4
  have hstr' : vk_R own is text sa s' := vk_R.warm hW0 hstr
  obtain ⟨U, hsteps, hrun, hend, hW, hsame, ce, hce, hO⟩ := X₁.ctorThrowS hexec htr (own := own) (cls := cls) (names := names) (ic := ic) hown' hcls hnames h (fun x hx => nomatch hx) hfX hkX hcellA (by rw [hhp, hT]; exact Nat.le_refl _) (msg := .ref sa) rfl
    (g := { method := m, pc := pc + 6, locals := ls, stack := .ref sa :: .ref T.heap.size :: .ref T.heap.size :: rest, locked := none }) rfl hsize rfl rfl (rest := rest) rfl
    (by rw [hb]; exact d6) (by rw [hb]; exact d9) hout hRframes (by simp only [List.map_cons, List.sum_cons, hcat]; omega) hlocks
  obtain ⟨f1, f2⟩ := vx_frame hsame
  rw [hhp] at f1 f2
  have hWs : s.WarmedH U.vm := State.WarmedH.trans hW0 hW
  have hcl : s.vm.findClass cls = some ce.cls := by
    have h9 := hO.cls
    rw [hvm] at h9
    exact h9
  have hall : s.sameButNew ({ U with vm := s.vm } : State) locs mc ms := by
    subst hA
    obtain ⟨e1, e2⟩ := hsame
    rw [State.setFrames_setFrames] at e1
    have h2 : (T.setVm s.vm).sameButNew ({ U with vm := s.vm } : State) [] (0 + 1) (0 + 6) := ⟨e1, e2⟩
    have h3 := X.same.trans h2
    rw [List.append_nil] at h3
    exact h3.mono hc hs
  refine ⟨U, ?_, .threw T.heap.size, hrun, hend, Or.inr ⟨T.heap.size, rfl, cls, ce, locs, hx U hWs.alike f1 (fun q hq => f2 q hq (fun z hz => nomatch hz)), hce, hO.vm, hcl, hWs, hall, hf⟩⟩
  refine st1 _ ?_
  show Steps p.tables e below (T1.setTop { method := m, pc := pc + 3, locals := ls, stack := .ref T.heap.size :: rest, locked := none }) _
  jvm_step X₁.here [X₁.here.top, hexec, d3', Value.category]
  exact X₁.ldcString hexec (own := own) (text := text) (index := is) (a := sa) hown' hstr'.1 hstr'.2
    (g := { method := m, pc := pc + 4, locals := ls, stack := .ref T.heap.size :: .ref T.heap.size :: rest, locked := none }) rfl d4' _ hsteps
/-- 'throw new E("text")', the text by a wide index -/
theorem vx_throwSW {cc : ByteArray} {pc : Nat} (hexec : p.tables.exec = Jvm.exec) (hb : c.code = cc) (hl : l.stackTraces = false) {own cls text : String} {names : List String} {ik is ic mc ms sa : Nat} {A : Nat → Prop}
    (hown : s.vm.findClass own = some m.cls) (hcls : Bundle.fit cls = true) (hnames : ∀ n ∈ names, Bundle.fit n = true)
    (hk : (Cond.classLink own ik cls).before args s = true) (hini : (Cond.initialized cls).before args s = true) (hstr : vk_R own is text sa s) (hat : ∀ w ∈ vx_atS own ic cls names, w.before args s = true)
    (hgood : ∀ w ∈ Cond.classLink own ik cls :: Cond.initialized cls :: vx_atS own ic cls names, vx_ot w = true)
    (hU : vx_Zq Bundle.tN "UNASSIGNED_STACK" Bundle.steD A s s.heap) (hN : vx_Zq Bundle.tN "SUPPRESSED_SENTINEL" Bundle.listD A s s.heap) (hS : va_S A s.heap H locs) (hsize : ls.size = c.maxLocals)
    (d0 : decode cc pc = .ok (.new ik, 3)) (d3 : decode cc (pc + 3) = .ok (.dup, 1)) (d4 : decode cc (pc + 4) = .ok (.ldc_w is, 3)) (d7 : decode cc (pc + 7) = .ok (.invokespecial ic, 3)) (d10 : decode cc (pc + 10) = .ok (.athrow, 1))
    (hout : ∀ x ∈ c.exceptionTable.toList, covers x (pc + 10) = false)
    (hRframes : names.length + 3 < R.frames) (hRlocals : (rest.map fun v => v.category).sum + (13 * (names.length + 1) + 43) ≤ R.locals) (hRcells : cells + 1 ≤ R.cells) (hRslots : slots + 6 ≤ R.slots) (hlocks : meth.locks = false)
    (hx : ∀ t : State, s.vm.Alike t.vm → H.size ≤ t.heap.size → (∀ q : Nat, q < H.size → t.heap[q]? = H[q]?) → XC cls s t)
    (hf : ∀ z ∈ locs, free z.base) (hc : cells + 1 ≤ mc) (hs : slots + 6 ≤ ms) :
    W p l e R s m args below meth c H locs cells slots (vx_MQ below Qc XC args s mc ms free) (F0 m pc ls rest) := by
  intro T hT X
  have htr : e.platform.stackTraces = false := (show e.platform.stackTraces = l.stackTraces by rw [X.admits.platform]).trans hl
  have Y := vx_rebase X (R' := { frames := R.frames, locals := R.locals, cells := 1, slots := 6 }) (Nat.le_refl _) (Nat.le_refl _) hRcells hRslots
  obtain ⟨s', hA⟩ : ∃ z, z = (T.setVm s.vm).setFrames (.invoking m args :: below) := ⟨_, rfl⟩
  rw [← hA] at Y
  have hvm : s'.vm = s.vm := by rw [hA]; rfl
  have hhp : s'.heap = H := by rw [hA]; exact hT
  have hW0 : s.WarmedH s'.vm := by rw [hvm]; exact State.WarmedH.refl s
  have hat' : ∀ w ∈ vx_atS own ic cls names, w.before args s' = true := fun w hw => vx_ot_at hW0 hvm.symm (hgood w (List.mem_cons_of_mem _ (List.mem_cons_of_mem _ hw))) (hat w hw)
  have hk' : (Cond.classLink own ik cls).before args s' = true := vx_ot_at hW0 hvm.symm (hgood _ List.mem_cons_self) hk
  have hini' : (Cond.initialized cls).before args s' = true := vx_ot_at hW0 hvm.symm (hgood _ (List.mem_cons_of_mem _ List.mem_cons_self)) hini
  have hU' : vx_Zq Bundle.tN "UNASSIGNED_STACK" Bundle.steD A s' s'.heap := by rw [hhp]; exact vx_Zq.moved hW0.alike (hU.kept hS.2.1)
  have hN' : vx_Zq Bundle.tN "SUPPRESSED_SENTINEL" Bundle.listD A s' s'.heap := by rw [hhp]; exact vx_Zq.moved hW0.alike (hN.kept hS.2.1)
  have h : ∀ w ∈ Bundle.ownAtoms own ic cls names, w.before args s' = true := vx_own hat' (vx_isRefq hU'.1) (vx_isRefq hN'.1) hU'.2.word hN'.2.word
  have hown' : s'.vm.findClass own = some m.cls := by rw [hvm]; exact hown
  have hins : (Cond.instantiable cls 6).before args s' = true := h _ (by simp [Bundle.ownAtoms])
  obtain ⟨vm₁, cX, kX, hfX, hkX, -, -, X₁, st1⟩ := Y.newCold hexec (own := own) (C := cls) (index := ik) (n := 6) hown' hk' hins hini'
    (g := F0 m pc ls rest) rfl (by rw [hb]; exact d0) (Nat.le_refl _) (Nat.le_refl _)
  generalize hT1 : (T.setVm vm₁).pushCell { cls := cX, slots := kX.instanceTypes.map defaultValue, vm := .none } = T1 at X₁ st1
  have hcat : (Value.ref T.heap.size).category = 1 := rfl
  have hcellA : T1.heap[T.heap.size]? = some (freshCell cX kX) := by rw [← hT1]; exact State.heap_pushCell_size _ _
  have d3' : decode c.code (pc + 3) = .ok (.dup, 1) := by rw [hb]; exact d3
  have d4' : decode c.code (pc + 4) = .ok (.ldc_w is, 3) := by rw [hb]; exact d4
  have hstr' : vk_R own is text sa s' := vk_R.warm hW0 hstr
  obtain ⟨U, hsteps, hrun, hend, hW, hsame, ce, hce, hO⟩ := X₁.ctorThrowS hexec htr (own := own) (cls := cls) (names := names) (ic := ic) hown' hcls hnames h (fun x hx => nomatch hx) hfX hkX hcellA (by rw [hhp, hT]; exact Nat.le_refl _) (msg := .ref sa) rfl
    (g := { method := m, pc := pc + 7, locals := ls, stack := .ref sa :: .ref T.heap.size :: .ref T.heap.size :: rest, locked := none }) rfl hsize rfl rfl (rest := rest) rfl
    (by rw [hb]; exact d7) (by rw [hb]; exact d10) hout hRframes (by simp only [List.map_cons, List.sum_cons, hcat]; omega) hlocks
  obtain ⟨f1, f2⟩ := vx_frame hsame
  rw [hhp] at f1 f2
  have hWs : s.WarmedH U.vm := State.WarmedH.trans hW0 hW
  have hcl : s.vm.findClass cls = some ce.cls := by
    have h9 := hO.cls
    rw [hvm] at h9
    exact h9
  have hall : s.sameButNew ({ U with vm := s.vm } : State) locs mc ms := by
    subst hA
    obtain ⟨e1, e2⟩ := hsame
    rw [State.setFrames_setFrames] at e1
    have h2 : (T.setVm s.vm).sameButNew ({ U with vm := s.vm } : State) [] (0 + 1) (0 + 6) := ⟨e1, e2⟩
    have h3 := X.same.trans h2
    rw [List.append_nil] at h3
    exact h3.mono hc hs
  refine ⟨U, ?_, .threw T.heap.size, hrun, hend, Or.inr ⟨T.heap.size, rfl, cls, ce, locs, hx U hWs.alike f1 (fun q hq => f2 q hq (fun z hz => nomatch hz)), hce, hO.vm, hcl, hWs, hall, hf⟩⟩
  refine st1 _ ?_
  show Steps p.tables e below (T1.setTop { method := m, pc := pc + 3, locals := ls, stack := .ref T.heap.size :: rest, locked := none }) _
  jvm_step X₁.here [X₁.here.top, hexec, d3', Value.category]
  exact X₁.ldcStringW hexec (own := own) (text := text) (index := is) (a := sa) hown' hstr'.1 hstr'.2
    (g := { method := m, pc := pc + 4, locals := ls, stack := .ref T.heap.size :: .ref T.heap.size :: rest, locked := none }) rfl d4' _ hsteps
end Ends
section Bodies
variable {l : Launch}
theorem vx_ofW {y : MethodName} {ws ws' : List Cond} {rm : Room} {Pc : Array Value → State → Prop} {Qc : Array Value → State → Outcome → State → Prop} {XC : String → State → State → Prop} {mc ms : Nat} {free : Addr → Prop} {cc : ByteArray} {maxL : Nat} {ret : Option FieldType}
    (hy : plainName y.cls = true) (hw : ws = Cond.code y cc maxL ret :: ws')
    (body : ∀ p e s m args below meth c s₁, BodyLoose p l y (headSpec ws rm) cc maxL ret e s m args below meth c s₁ → c.maxLocals = maxL → (∀ x ∈ c.exceptionTable.toList, False) → Pc args s →
      W p l e (headSpec ws rm).room s m args below meth c s.heap [] 0 0 (vx_MQ below Qc XC args s mc ms free) (entryFrame m args maxL)) : vx_Met l y ws rm Pc Qc XC mc ms free := by
  refine MetFree.of_bodyS (code := cc) (maxLocals := maxL) (ret := ret) hy ?_ ?_
  · intro args s m h hn
    obtain ⟨meth, c, h1, h2, h3, h4, h5, h6, -, -⟩ := Cond.code_spec hn (atoms_spec (ws := ws) h _ (by rw [hw]; exact List.mem_cons_self))
    exact ⟨meth, c, h1, h2, h3, h4, h5, h6⟩
  · intro p e s m args below meth c s₁ B hml hP _
    have hh0 : s₁.heap = s.heap := by rw [B.state]; rfl
    have ht : ∀ x ∈ c.exceptionTable.toList, False := by
      obtain ⟨meth9, c9, h1, h2, -, -, -, -, h7, -⟩ := Cond.code_spec B.named (atoms_spec (ws := ws) B.pre _ (by rw [hw]; exact List.mem_cons_self))
      cases Option.some.inj (h1.symm.trans B.method)
      cases Option.some.inj (h2.symm.trans (Stand.of_body B).code)
      intro x hx
      rw [Array.isEmpty_iff.mp h7] at hx
      cases hx
    obtain ⟨t, a1, o, b1, b2, b3⟩ := body p e s m args below meth c s₁ B hml ht hP s₁ hh0 (Stand.of_body B)
    exact ⟨t, o, a1, b1, b2, b3⟩
/-- the table of a body with handlers -/
theorem vx_table {p : Program} {x y : MethodName} {S : Spec} {cc bytes : ByteArray} {maxL maxL' : Nat} {ret ret' : Option FieldType} {e : Env} {s s₁ : State} {m : MethodId} {args : Array Value} {below : List Frame} {meth : Method} {c : Code} {hh : List (Nat × Nat × Nat × Nat)}
    (B : BodyLoose p l y S cc maxL ret e s m args below meth c s₁) (h : (Cond.codeWith y bytes maxL' ret' hh).before args s = true) : c.exceptionTable.toList = tableOf hh := by
  obtain ⟨m9, meth9, c9, hn9, h1, h2, -, -, h6, -⟩ := Cond.codeWith_spec h
  cases Option.some.inj (hn9.symm.trans B.named)
  cases Option.some.inj (h1.symm.trans B.method)
  cases Option.some.inj (h2.symm.trans (Stand.of_body B).code)
  rw [← h6, table_eq]
end Bodies
end VXA
/-! ===== END ===== -/
/-! ===== BEGIN a static call of a method with an exception table ===== -/
section VXS
variable {p : Program} {l : Launch} {e : Env} {R : Room} {s : State} {m : MethodId} {args : Array Value} {below : List Frame} {meth : Method} {c : Code} {T : State} {H : Heap} {locs : List Loc} {cells slots : Nat}
abbrev vx_CSW (R : Room) (s : State) (args : Array Value) (own : String) (index : Nat) (y : MethodName) (bytes : ByteArray) (maxL : Nat) (ret : Option FieldType) (hh : List (Nat × Nat × Nat × Nat)) (ws : List Cond) (rm : Room) (mc ms n : Nat) : Prop :=
  (rm.cells = mc ∧ rm.slots = ms ∧ rm.frames + 1 ≤ R.frames ∧ 8 + (maxL + 11) + rm.locals ≤ R.locals ∧ (∀ w ∈ ws, ∀ (a' : Array Value) (U : State), s.WarmedH U.vm → w.before a' U = true) ∧ Cond.codeWith y bytes maxL ret hh ∈ ws) ∧
  (Cond.codeWith y bytes maxL ret hh).before args s = true ∧ (Cond.initialized y.cls).before args s = true ∧ (y.cls ≠ "java/lang/invoke/MethodHandle" ∧ y.cls ≠ "java/lang/invoke/VarHandle") ∧
  (∀ sig, parseMethodDescriptor y.desc = some sig → n = sig.parameters.length) ∧ (Cond.methodLink own index y).before args s = true ∧ (Cond.static y).before args s = true
theorem vx_cwSW {own : String} {index maxL mc ms : Nat} {y : MethodName} {bytes : ByteArray} {ret : Option FieldType} {hh : List (Nat × Nat × Nat × Nat)} {Ts ws ws' : List Cond} {rm : Room} (n : Nat) (ht : ∀ w ∈ Ts, w.before args s = true) (hT : GoodIn Ts (va_wsS own index y ws)) (hw : ws = Cond.codeWith y bytes maxL ret hh :: ws') (hrc : rm.cells = mc) (hrs : rm.slots = ms)
    (hd : y.cls ≠ "java/lang/invoke/MethodHandle" ∧ y.cls ≠ "java/lang/invoke/VarHandle" ∧ (parseMethodDescriptor y.desc).map (fun d => d.parameters.length) = some n) (hR : rm.frames + 1 ≤ R.frames ∧ 8 + (maxL + 11) + rm.locals ≤ R.locals) :
    vx_CSW R s args own index y bytes maxL ret hh ws rm mc ms n := by
  have ok : ∀ w ∈ va_wsS own index y ws, w.before args s = true := fun w h => ht w (hT w h).1
  have hG : GoodIn Ts ws := fun w h => hT w (by unfold va_wsS; exact List.mem_append_right _ h)
  have hc : Cond.codeWith y bytes maxL ret hh ∈ ws := by rw [hw]; exact List.mem_cons_self
  refine ⟨⟨hrc, hrs, hR.1, hR.2, pay_in ht hG, hc⟩, ht _ (hG _ hc).1, ok _ (by simp [va_wsS]), ⟨hd.1, hd.2.1⟩, fun sig h => ?_, ok _ (by simp [va_wsS]), ok _ (by simp [va_wsS])⟩
  have h2 := hd.2.2
  rw [h] at h2
  exact (Option.some.inj h2).symm
theorem vx_callSW (X : Stand p l e R s m args below meth c T locs cells slots) (hexec : p.tables.exec = Jvm.exec) {own : String} {index : Nat} {y : MethodName} {bytes : ByteArray} {maxL : Nat} {ret : Option FieldType} {hh : List (Nat × Nat × Nat × Nat)}
    (hown : s.vm.findClass own = some m.cls) (hlink : (Cond.methodLink own index y).before args s = true) (hstat : (Cond.static y).before args s = true) (hinit : (Cond.initialized y.cls).before args s = true)
    (hcode : (Cond.codeWith y bytes maxL ret hh).before args s = true) (hy : y.cls ≠ "java/lang/invoke/MethodHandle" ∧ y.cls ≠ "java/lang/invoke/VarHandle")
    {W9 : Nat} {Pre : Pt → Array Value → Prop} {Post : Pt → Array Value → Option Value → Pt → Prop} (hK : Back l R p e below s args y 3 W9 Pre Post)
    {g : JFrame} (hg : g.method = m) (hsize : g.locals.size = c.maxLocals) {argsL rest : List Value} (hlen : ∀ sig, parseMethodDescriptor y.desc = some sig → argsL.length = sig.parameters.length)
    (hstack : g.stack = argsL.reverse ++ rest) (hW : 2 * g.monitorRoom + (rest.map fun v => v.category).sum ≤ W9) (hdg : decode c.code g.pc = .ok (.invokestatic index, 3))
    (hpre : ∀ vm₁, s.WarmedH vm₁ → Pre ⟨T.setVm vm₁, locs, cells, slots⟩ argsL.toArray) :
    ∃ (v : Option Value) (vm₁ : Vm) (B : Pt), s.WarmedH vm₁ ∧ Stand p l e R s m args below meth c B.U B.locs B.cells B.slots ∧ Post ⟨T.setVm vm₁, locs, cells, slots⟩ argsL.toArray v B ∧
      ∀ target, Steps p.tables e below (B.U.setTop { g with pc := g.pc + 3, stack := v.toList ++ rest }) target → Steps p.tables e below (T.setTop g) target := by
  obtain ⟨mk, methM, cM, hnamed, hmethM, -, -, -, -, -, -, hsigM⟩ := Cond.codeWith_spec hcode
  have hstatic : methM.isStatic = true := Cond.static_spec hnamed hmethM hstat
  obtain ⟨kP, hkP, -⟩ := className_of_methodNamed hnamed
  have hinitP : kP.init = .initialized := Cond.initialized_spec (findClass_of_methodNamed hnamed) hkP hinit
  obtain ⟨vm₁, X₁, hstep₁⟩ := X.invokestatic hexec hown hlink hnamed hmethM hstatic hkP hinitP hy (g := g) hg (argsL := argsL) (rest := rest) (hlen _ hsigM) hstack hdg
  obtain ⟨v, B, X', hpost, hsteps⟩ := hK m meth c ⟨T.setVm vm₁, locs, cells, slots⟩ { g with stack := rest } (.invokestatic index) mk argsL.toArray X₁ hg hsize hdg hW (X₁.named hnamed) (hpre vm₁ X₁.warmed)
  exact ⟨v, vm₁, B, X₁.warmed, X', hpost, fun target h => hstep₁ _ fun acts => by rw [doInvoke_state]; exact hsteps.trans h⟩
theorem vx_runSW {y : MethodName} {bytes cc : ByteArray} {maxL nL mc ms n index : Nat} {ret : Option FieldType} {hh : List (Nat × Nat × Nat × Nat)} {ws : List Cond} {rm : Room} {Pc : Array Value → State → Prop} {Qc : Array Value → State → Outcome → State → Prop} {free : Addr → Prop} {Ts : List Cond} {own : String} {As rest : List Value} {g : JFrame}
    (S : CallFix p m c cc nL s args Ts own) (hM : Met l y ws rm Pc Qc mc ms free) (cw : vx_CSW R s args own index y bytes maxL ret hh ws rm mc ms n) (hp : PreS s H Pc As)
    (hg : g.method = m) (hn : As.length = n) (hsize : g.locals.size = nL) (hstack : g.stack = As.reverse ++ rest) (hW : 2 * g.monitorRoom + (rest.map fun v => v.category).sum ≤ 8) (hdg : decode cc g.pc = .ok (.invokestatic index, 3)) (hf : cells + mc ≤ R.cells ∧ slots + ms ≤ R.slots) :
    va_Run p l e R s m args below meth c H locs cells slots mc ms g rest (Qc As.toArray) (free) := by
  obtain ⟨⟨hrc, hrs, hfr, hlo, hws, hcw⟩, hcode, hini, hy, hlen, hl, hstt⟩ := cw
  have hK : Back l R p e below s args y 3 8 (PreOf R mc ms Pc) (PostOf Qc mc ms free) := va_backW (hh := hh) (bytes := bytes) (maxL := maxL) (ret := ret) hM hp.1 hrc hrs hfr hlo hws hcw (fun a' U hW => word_at hW (Or.inl (by first | rfl | simp [Cond.onTables, Cond.keeps, Cond.steady])) hini)
  obtain ⟨hx, hb, hml, ho, -⟩ := S
  intro T hT X
  obtain ⟨v, vm₁, ⟨U', l2, c2, s2⟩, hW₁, X', ⟨g', mk, t, L, e1, e2, hq, h1, hL, h2, h3⟩, st⟩ := vx_callSW X hx (hh := hh) (bytes := bytes) (maxL := maxL) (ret := ret) ho hl hstt hini hcode hy hK hg (hsize.trans hml.symm) (argsL := As) (rest := rest) (fun sig h => hn.trans (hlen sig h)) hstack hW (by rw [hb]; exact hdg)
    (fun vm₁ hW₁ => ⟨hf.1, hf.2, hp.2 (T.setVm vm₁) hT hW₁⟩)
  dsimp only [Pt.U, Pt.locs, Pt.cells, Pt.slots] at X' e1 e2 h1 h2 h3 st
  subst h1; subst h2; subst h3
  exact ⟨v, (T.setVm vm₁).calling g' mk As.toArray, t, U', L, hT, X', hL, e1, e2, hq, st⟩
/-- not caught here, past rows that name other classes: it goes on to the caller -/
theorem vx_outP {p : Program} {l : Launch} {e : Env} {R : Room} {s : State} {m : MethodId} {args : Array Value} {below : List Frame} {meth : Method} {c : Code} {H : Heap} {locs : List Loc} {cells slots : Nat} {free : Addr → Prop} {ls : Array Slot} {rest : List Value} {Qc : Array Value → State → Outcome → State → Prop} {XC : String → State → State → Prop}
    {pc : Nat} {own E : String} {ce : Cell} {q : Addr} {mc ms : Nat} (hown : s.vm.findClass own = some m.cls) (hlocks : meth.locks = false)
    (hpass : ∀ z ∈ c.exceptionTable.toList, covers z pc = false ∨ (z.catchType ≠ 0 ∧ ∃ nm : String, (Cond.classLink own z.catchType nm).before args s = true ∧ va_Nc E nm s)) (hcell : H[q]? = some ce) (hv : ce.vm = .none) (hcl : s.vm.findClass E = some ce.cls)
    (hx : ∀ t : State, t.heap = H → s.vm.Alike t.vm → XC E s t) (hf : ∀ z ∈ locs, free z.base) (hc : cells ≤ mc) (hs : slots ≤ ms) :
    vx_W p l e R s m args below meth c H locs cells slots (vx_MQ below Qc XC args s mc ms free) (F0 m pc ls rest) q := by
  intro T hT X
  have hpl : e.platform.magicAccessors = ({} : Platform).magicAccessors := by rw [X.admits.platform]
  obtain ⟨vm', hW', X', st⟩ := X.outThrough hlocks q (g := F0 m pc ls rest) rfl rfl rfl (cell := ce) (by rw [hT]; exact hcell) (by rw [hv]; rfl)
    (by obtain ⟨k9, h9, -⟩ := Vm.findClass_spec hcl; exact ⟨k9, h9⟩) (fun z hz => by
      rcases hpass z hz with h | ⟨hz0, nm, hl1, hn1⟩
      · exact Or.inl h
      · obtain ⟨c6, hc6, hcl6⟩ := Cond.classLink_spec hown hl1 e.platform hpl
        obtain ⟨a8, b8, h1, h2, h3⟩ := hn1
        cases Option.some.inj (h1.symm.trans hcl)
        cases Option.some.inj (h2.symm.trans hc6)
        exact Or.inr ⟨hz0, _, hcl6, h3⟩)
  obtain ⟨g₀, hfr⟩ := X'.frames_eq
  have hcell9 : ((T.setVm vm').setFrames (.throwing q :: below)).heap[q]? = some ce := by
    show T.heap[q]? = some ce
    rw [hT]; exact hcell
  have hend : Ended ((T.setVm vm').setFrames (.throwing q :: below)) below (.threw q) := State.frames_setFrames _ (State.cur_lt_of_frames hfr)
  refine ⟨(T.setVm vm').setFrames (.throwing q :: below), ?_, .threw q, X'.here.running, hend, Or.inr ⟨q, rfl, E, ce, locs, hx _ hT (X'.ends _).1.alike, hcell9, hv, hcl, (X'.ends _).1, (X'.ends _).2.mono hc hs, hf⟩⟩
  rw [X.pushThrowing_eq]
  exact st
/-- a thing of a world lies in the heap -/
theorem vx_lt {D : va_G} {cl : List vw_C} {ws : va_W} {H1 : Heap} (h : va_P D cl ws H1) {k : Nat} {q : Nat × va_E} (hk : ws[k]? = some q) : q.1 < H1.size := (h k q hk).lt
end VXS
/-! ===== END ===== -/
/-! ===== BEGIN methods with a table of their own: called by a name, returning or throwing ===== -/
section VXH
/-! vx_backW, vx_callVX, vx_callSX, vx_callVW, vx_runVW, vx_runVX, vx_runSX, vx_ofWH follow the same proofs as their sisters above (Free/Laws.lean, Shelf42/LK1.lean); vx_outP calls Shelf42/NT130.lean (outThrough). -/
section
variable {l : Launch} {R : Room} {p : Program} {e : Env} {below : List Frame} {s : State} {sargs : Array Value} {y : MethodName} {len W9 : Nat}
theorem vx_backW {ws : List Cond} {rm : Room} {Pc : Array Value → State → Prop} {Qc : Array Value → State → Outcome → State → Prop} {XC : String → State → State → Prop} {mc ms : Nat} {free : Addr → Prop} {bytes : ByteArray} {maxL : Nat} {ret : Option FieldType} {hh : List (Nat × Nat × Nat × Nat)}
    (hM : vx_Met l y ws rm Pc Qc XC mc ms free) (hblind : FrameBlind Pc) (hrc : rm.cells = mc) (hrs : rm.slots = ms)
    (hframes : rm.frames + 1 ≤ R.frames) (hlocals : W9 + (maxL + 11) + rm.locals ≤ R.locals)
    (hws : ∀ w ∈ ws, ∀ a' U, s.WarmedH U.vm → w.before a' U = true) (hcode : Cond.codeWith y bytes maxL ret hh ∈ ws) (hinit : ∀ a' U, s.WarmedH U.vm → (Cond.initialized y.cls).before a' U = true) :
    vx_Back l R p e below s sargs y len W9 (PreOf R mc ms Pc) (PostOf Qc mc ms free) (vx_Post XC mc ms free) := by
  intro m meth c A g ig mk a X hg hsize hdg hW hn hp
  have h1 : (headSpec ws rm).pre.before a A.U = true := atoms_intro fun w hw => hws w hw _ _ X.warmed
  have h2 : (Cond.codeWith y bytes maxL ret hh).before a A.U = true := hws _ hcode _ _ X.warmed
  have h3 : (Cond.initialized y.cls).before a A.U = true := hinit _ _ X.warmed
  have h4 : A.cells + (headSpec ws rm).room.cells ≤ R.cells := by rw [show (headSpec ws rm).room.cells = mc from hrc]; exact hp.1
  have h5 : A.slots + (headSpec ws rm).room.slots ≤ R.slots := by rw [show (headSpec ws rm).room.slots = ms from hrs]; exact hp.2.1
  have hPc : Pc a (A.U.calling g mk a) := hblind _ _ _ _ hp.2.2
  obtain ⟨U, Ls, c0, s0⟩ := A
  dsimp only [Pt.U, Pt.locs, Pt.cells, Pt.slots] at h1 h2 h3 h4 h5 X hn hPc ⊢
  obtain ⟨m9, methY, cY, hn9, hmY, hcY, -, hlY, -⟩ := Cond.codeWith_spec h2
  cases Option.some.inj (hn9.symm.trans hn)
  obtain ⟨kY, hkY, -⟩ := className_of_methodNamed hn
  have hinitY : kY.init = .initialized := Cond.initialized_spec (findClass_of_methodNamed hn) hkY h3
  have h : At U g.method c below := by rw [hg]; exact X.here
  have hlocals9 : W9 + (maxL + 11) + (headSpec ws rm).room.locals ≤ R.locals := hlocals
  have happ : (headSpec ws rm).appliesLoose y e.platform (U.calling g mk a) = true :=
    Spec.appliesLoose_calling (g := g) h hdg hn hkY hinitY
      (X.room_calling (g := g) (R' := (headSpec ws rm).room) hsize hmY hcY hframes (by rw [hlY]; omega) h4 h5) h1
  obtain ⟨mid, hmid⟩ := h.above
  have hfr : (U.setTop g).frames = (.java g :: mid) ++ below := by rw [State.frames_setTop' g h.top, hmid]; rfl
  obtain ⟨o, s₂, hsteps, -, hend, hq⟩ := Steps.callFree hM p X.admits X.cas X.clock (acts := []) hfr happ hPc trivial
  have hq' : vx_Q Qc XC mc ms free a (U.calling g mk a) o s₂ := hq
  rw [State.frames_setTop' g h.top] at hend
  obtain ⟨g₀, hg0⟩ := Option.isSome_iff_exists.mp h.top
  obtain ⟨r, hr⟩ := State.topJava?_eq_some.mp hg0
  have hr' : (({ U with heap := s₂.heap, slotsUsed := s₂.slotsUsed } : State).setVm s₂.vm).frames = .java g₀ :: r := hr
  rcases hq' with ⟨hqc, L, hfe, hL⟩ | ⟨q, rfl, E, ce, L, hx, hce, hcv, hcl, hW₂, hsm, hL⟩
  · obtain ⟨⟨v, rfl⟩, hW₂, e2, q2, q3, q4, q5, q6⟩ := id hfe
    have e3 : s₂ = ({ (U.calling g mk a).setFrames s₂.frames with heap := s₂.heap, slotsUsed := s₂.slotsUsed } : State).setVm s₂.vm := by
      have : s₂ = ({ s₂ with vm := (U.calling g mk a).vm } : State).setVm s₂.vm := rfl
      rw [e2] at this
      exact this
    obtain ⟨c₂, i₂, len₂, hc₂, hd₂, hf₂⟩ := hend
    have hW' : U.WarmedH s₂.vm := hW₂
    have hcc : c₂ = c := by
      have h1 : s₂.code? g.method = U.code? g.method := by
        rw [State.code?_eq, State.code?_eq, hW'.alike.method?]
      exact Option.some.inj (hc₂.symm.trans (h1.trans h.code))
    subst hcc
    have hlen : len₂ = len := by rw [hdg] at hd₂; cases hd₂; rfl
    subst hlen
    have hs₂ : s₂ = (({ U with heap := s₂.heap, slotsUsed := s₂.slotsUsed } : State).setVm s₂.vm).setTop { g with pc := g.pc + len₂, stack := v.toList ++ g.stack } := by
      refine e3.trans ?_
      rw [hf₂, State.calling_eq h.top, State.setFrames_setFrames, State.setTop_of_frames _ hr', hr]
      rfl
    have hsame : U.sameButNew ({ U with heap := s₂.heap, slotsUsed := s₂.slotsUsed } : State) L mc ms := by
      refine ⟨?_, q2, q3, q4, q5, q6⟩
      obtain ⟨t, ht, -⟩ := State.frames_cons hr
      show ({ U with heap := s₂.heap, slotsUsed := s₂.slotsUsed } : State) = { U.setFrames U.frames with heap := s₂.heap, slotsUsed := s₂.slotsUsed }
      rw [State.setFrames_self ht]
    subst hg
    refine Or.inl ⟨v, ⟨(({ U with heap := s₂.heap, slotsUsed := s₂.slotsUsed } : State).setVm s₂.vm), Ls ++ L, c0 + mc, s0 + ms⟩,
      ⟨X.admits, X.cas, X.clock, X.frames, X.room, X.hears, X.method, X.code, (X.here.setHeapUsed s₂.heap s₂.slotsUsed).setVm hW'.alike, X.tail, State.WarmedH.trans X.warmed hW', X.limits, X.bytes, X.same.trans (hsame.setVm s.vm)⟩,
      ⟨g, mk, s₂, L, rfl, rfl, hqc, rfl, hL, rfl, rfl⟩, ?_⟩
    show Steps p.tables e below _ ((({ U with heap := s₂.heap, slotsUsed := s₂.slotsUsed } : State).setVm s₂.vm).setTop { g with pc := g.pc + len₂, stack := v.toList ++ g.stack })
    rw [← hs₂]
    exact hsteps
  · obtain ⟨e2, q2, q3, q4, q5, q6⟩ := id hsm
    have e3 : s₂ = ({ (U.calling g mk a).setFrames s₂.frames with heap := s₂.heap, slotsUsed := s₂.slotsUsed } : State).setVm s₂.vm := by
      have : s₂ = ({ s₂ with vm := (U.calling g mk a).vm } : State).setVm s₂.vm := rfl
      rw [e2] at this
      exact this
    have hf₂ : s₂.frames = .throwing q :: .java g :: U.frames.tail := hend
    have hW' : U.WarmedH s₂.vm := hW₂
    have hs₂ : s₂ = ((({ U with heap := s₂.heap, slotsUsed := s₂.slotsUsed } : State).setVm s₂.vm).setTop g).pushFrame (.throwing q) := by
      refine e3.trans ?_
      rw [hf₂, State.calling_eq h.top, State.setFrames_setFrames, State.pushFrame, State.frames_setTop _ hr', State.setTop_of_frames _ hr', State.setFrames_setFrames, hr]
      rfl
    have hsame : U.sameButNew ({ U with heap := s₂.heap, slotsUsed := s₂.slotsUsed } : State) L mc ms := by
      refine ⟨?_, q2, q3, q4, q5, q6⟩
      obtain ⟨t, ht, -⟩ := State.frames_cons hr
      show ({ U with heap := s₂.heap, slotsUsed := s₂.slotsUsed } : State) = { U.setFrames U.frames with heap := s₂.heap, slotsUsed := s₂.slotsUsed }
      rw [State.setFrames_self ht]
    subst hg
    refine Or.inr ⟨q, ⟨(({ U with heap := s₂.heap, slotsUsed := s₂.slotsUsed } : State).setVm s₂.vm), Ls ++ L, c0 + mc, s0 + ms⟩,
      ⟨X.admits, X.cas, X.clock, X.frames, X.room, X.hears, X.method, X.code, (X.here.setHeapUsed s₂.heap s₂.slotsUsed).setVm hW'.alike, X.tail, State.WarmedH.trans X.warmed hW', X.limits, X.bytes, X.same.trans (hsame.setVm s.vm)⟩,
      ⟨g, mk, s₂, L, E, ce, rfl, rfl, hx, hce, hcv, hcl, rfl, hL, rfl, rfl⟩, ?_⟩
    show Steps p.tables e below _ (((({ U with heap := s₂.heap, slotsUsed := s₂.slotsUsed } : State).setVm s₂.vm).setTop g).pushFrame (.throwing q))
    rw [← hs₂]
    exact hsteps
end
variable {p : Program} {l : Launch} {e : Env} {R : Room} {s : State} {m : MethodId} {args : Array Value} {below : List Frame} {meth : Method} {c : Code} {T : State} {H : Heap} {locs : List Loc} {cells slots : Nat}
theorem vx_callVX (X : Stand p l e R s m args below meth c T locs cells slots) (hexec : p.tables.exec = Jvm.exec) {own C : String} {index : Nat} {y : MethodName} {bytes : ByteArray} {maxL : Nat} {ret : Option FieldType} {hh : List (Nat × Nat × Nat × Nat)}
    (hown : s.vm.findClass own = some m.cls) (hlink : (Cond.methodLink own index y).before args s = true) (hinst : (Cond.instanceMethod y).before args s = true) (hsel : (Cond.selects C y y).before args s = true)
    (hcode : (Cond.codeWith y bytes maxL ret hh).before args s = true) (hy : y.cls ≠ "java/lang/invoke/MethodHandle" ∧ y.cls ≠ "java/lang/invoke/VarHandle")
    {W9 : Nat} {Pre : Pt → Array Value → Prop} {Post : Pt → Array Value → Option Value → Pt → Prop} {PostX : Pt → Array Value → Addr → Pt → Prop} (hK : vx_Back l R p e below s args y 3 W9 Pre Post PostX)
    {b : Addr} {cellB : Cell} (hcell : T.heap[b]? = some cellB) (hobj : cellB.vm.isStatics = false) (hcls : s.vm.findClass C = some cellB.cls)
    {g : JFrame} (hg : g.method = m) (hsize : g.locals.size = c.maxLocals) {argsL rest : List Value} (hlen : ∀ sig, parseMethodDescriptor y.desc = some sig → argsL.length = sig.parameters.length)
    (hstack : g.stack = argsL.reverse ++ .ref b :: rest) (hW : 2 * g.monitorRoom + (rest.map fun v => v.category).sum ≤ W9) (hdg : decode c.code g.pc = .ok (.invokevirtual index, 3))
    (hpre : ∀ vm₁, s.WarmedH vm₁ → Pre ⟨T.setVm vm₁, locs, cells, slots⟩ (Value.ref b :: argsL).toArray) :
    (∃ (v : Option Value) (vm₁ : Vm) (B : Pt), s.WarmedH vm₁ ∧ Stand p l e R s m args below meth c B.U B.locs B.cells B.slots ∧ Post ⟨T.setVm vm₁, locs, cells, slots⟩ (Value.ref b :: argsL).toArray v B ∧
      ∀ target, Steps p.tables e below (B.U.setTop { g with pc := g.pc + 3, stack := v.toList ++ rest }) target → Steps p.tables e below (T.setTop g) target) ∨
    (∃ (q : Addr) (vm₁ : Vm) (B : Pt), s.WarmedH vm₁ ∧ Stand p l e R s m args below meth c B.U B.locs B.cells B.slots ∧ PostX ⟨T.setVm vm₁, locs, cells, slots⟩ (Value.ref b :: argsL).toArray q B ∧
      Steps p.tables e below (T.setTop g) ((B.U.setTop { g with stack := rest }).pushFrame (.throwing q))) := by
  obtain ⟨mk, methM, hnamed, hmethM, hstM, habM⟩ := Cond.instanceMethod_spec hinst
  obtain ⟨m8, methM', cM, hn8, hmethM', -, -, -, -, -, -, hsigM⟩ := Cond.codeWith_spec hcode
  cases Option.some.inj (hn8.symm.trans hnamed)
  cases hmethM.symm.trans hmethM'
  obtain ⟨c2, r2, m2, q1, q2, q3, q4, kP, hkP, hkPi⟩ := Cond.selects_spec hsel
  cases hcls.symm.trans q1
  cases (State.methodFound?_of_named hnamed hy).symm.trans q2
  cases hnamed.symm.trans q3
  have hselP : selectMethod e.platform s.vm cellB.cls mk = .method mk := by rw [Launch.admits_selectMethod X.admits]; exact q4
  obtain ⟨vm₁, X₁, hstep₁⟩ := X.invokevirtual hexec hown hlink hnamed hmethM hstM hkP hkPi hy (a := b) (cell := cellB) hcell
    (fun z h => by rw [h] at hobj; cases hobj) hselP hmethM habM hkP hkPi (g := g) hg (argsL := argsL) (rest := rest) (hlen _ hsigM) hstack hdg
  rcases hK m meth c ⟨T.setVm vm₁, locs, cells, slots⟩ { g with stack := rest } (.invokevirtual index) mk (Value.ref b :: argsL).toArray X₁ hg hsize hdg hW (X₁.named hnamed) (hpre vm₁ X₁.warmed) with ⟨v, B, X', hpost, hsteps⟩ | ⟨q, B, X', hpost, hsteps⟩
  · exact Or.inl ⟨v, vm₁, B, X₁.warmed, X', hpost, fun target h => hstep₁ _ fun acts => by rw [doInvoke_state]; exact hsteps.trans h⟩
  · exact Or.inr ⟨q, vm₁, B, X₁.warmed, X', hpost, hstep₁ _ fun acts => by rw [doInvoke_state]; exact hsteps⟩
theorem vx_callSX (X : Stand p l e R s m args below meth c T locs cells slots) (hexec : p.tables.exec = Jvm.exec) {own : String} {index : Nat} {y : MethodName} {bytes : ByteArray} {maxL : Nat} {ret : Option FieldType} {hh : List (Nat × Nat × Nat × Nat)}
    (hown : s.vm.findClass own = some m.cls) (hlink : (Cond.methodLink own index y).before args s = true) (hstat : (Cond.static y).before args s = true) (hinit : (Cond.initialized y.cls).before args s = true)
    (hcode : (Cond.codeWith y bytes maxL ret hh).before args s = true) (hy : y.cls ≠ "java/lang/invoke/MethodHandle" ∧ y.cls ≠ "java/lang/invoke/VarHandle")
    {W9 : Nat} {Pre : Pt → Array Value → Prop} {Post : Pt → Array Value → Option Value → Pt → Prop} {PostX : Pt → Array Value → Addr → Pt → Prop} (hK : vx_Back l R p e below s args y 3 W9 Pre Post PostX)
    {g : JFrame} (hg : g.method = m) (hsize : g.locals.size = c.maxLocals) {argsL rest : List Value} (hlen : ∀ sig, parseMethodDescriptor y.desc = some sig → argsL.length = sig.parameters.length)
    (hstack : g.stack = argsL.reverse ++ rest) (hW : 2 * g.monitorRoom + (rest.map fun v => v.category).sum ≤ W9) (hdg : decode c.code g.pc = .ok (.invokestatic index, 3))
    (hpre : ∀ vm₁, s.WarmedH vm₁ → Pre ⟨T.setVm vm₁, locs, cells, slots⟩ argsL.toArray) :
    (∃ (v : Option Value) (vm₁ : Vm) (B : Pt), s.WarmedH vm₁ ∧ Stand p l e R s m args below meth c B.U B.locs B.cells B.slots ∧ Post ⟨T.setVm vm₁, locs, cells, slots⟩ argsL.toArray v B ∧
      ∀ target, Steps p.tables e below (B.U.setTop { g with pc := g.pc + 3, stack := v.toList ++ rest }) target → Steps p.tables e below (T.setTop g) target) ∨
    (∃ (q : Addr) (vm₁ : Vm) (B : Pt), s.WarmedH vm₁ ∧ Stand p l e R s m args below meth c B.U B.locs B.cells B.slots ∧ PostX ⟨T.setVm vm₁, locs, cells, slots⟩ argsL.toArray q B ∧
      Steps p.tables e below (T.setTop g) ((B.U.setTop { g with stack := rest }).pushFrame (.throwing q))) := by
  obtain ⟨mk, methM, cM, hnamed, hmethM, -, -, -, -, -, -, hsigM⟩ := Cond.codeWith_spec hcode
  have hstatic : methM.isStatic = true := Cond.static_spec hnamed hmethM hstat
  obtain ⟨kP, hkP, -⟩ := className_of_methodNamed hnamed
  have hinitP : kP.init = .initialized := Cond.initialized_spec (findClass_of_methodNamed hnamed) hkP hinit
  obtain ⟨vm₁, X₁, hstep₁⟩ := X.invokestatic hexec hown hlink hnamed hmethM hstatic hkP hinitP hy (g := g) hg (argsL := argsL) (rest := rest) (hlen _ hsigM) hstack hdg
  rcases hK m meth c ⟨T.setVm vm₁, locs, cells, slots⟩ { g with stack := rest } (.invokestatic index) mk argsL.toArray X₁ hg hsize hdg hW (X₁.named hnamed) (hpre vm₁ X₁.warmed) with ⟨v, B, X', hpost, hsteps⟩ | ⟨q, B, X', hpost, hsteps⟩
  · exact Or.inl ⟨v, vm₁, B, X₁.warmed, X', hpost, fun target h => hstep₁ _ fun acts => by rw [doInvoke_state]; exact hsteps.trans h⟩
  · exact Or.inr ⟨q, vm₁, B, X₁.warmed, X', hpost, hstep₁ _ fun acts => by rw [doInvoke_state]; exact hsteps⟩
theorem vx_callVW (X : Stand p l e R s m args below meth c T locs cells slots) (hexec : p.tables.exec = Jvm.exec) {own C : String} {index : Nat} {y : MethodName} {bytes : ByteArray} {maxL : Nat} {ret : Option FieldType} {hh : List (Nat × Nat × Nat × Nat)}
    (hown : s.vm.findClass own = some m.cls) (hlink : (Cond.methodLink own index y).before args s = true) (hinst : (Cond.instanceMethod y).before args s = true) (hsel : (Cond.selects C y y).before args s = true)
    (hcode : (Cond.codeWith y bytes maxL ret hh).before args s = true) (hy : y.cls ≠ "java/lang/invoke/MethodHandle" ∧ y.cls ≠ "java/lang/invoke/VarHandle")
    {W9 : Nat} {Pre : Pt → Array Value → Prop} {Post : Pt → Array Value → Option Value → Pt → Prop} (hK : Back l R p e below s args y 3 W9 Pre Post)
    {b : Addr} {cellB : Cell} (hcell : T.heap[b]? = some cellB) (hobj : cellB.vm.isStatics = false) (hcls : s.vm.findClass C = some cellB.cls)
    {g : JFrame} (hg : g.method = m) (hsize : g.locals.size = c.maxLocals) {argsL rest : List Value} (hlen : ∀ sig, parseMethodDescriptor y.desc = some sig → argsL.length = sig.parameters.length)
    (hstack : g.stack = argsL.reverse ++ .ref b :: rest) (hW : 2 * g.monitorRoom + (rest.map fun v => v.category).sum ≤ W9) (hdg : decode c.code g.pc = .ok (.invokevirtual index, 3))
    (hpre : ∀ vm₁, s.WarmedH vm₁ → Pre ⟨T.setVm vm₁, locs, cells, slots⟩ (Value.ref b :: argsL).toArray) :
    ∃ (v : Option Value) (vm₁ : Vm) (B : Pt), s.WarmedH vm₁ ∧ Stand p l e R s m args below meth c B.U B.locs B.cells B.slots ∧ Post ⟨T.setVm vm₁, locs, cells, slots⟩ (Value.ref b :: argsL).toArray v B ∧
      ∀ target, Steps p.tables e below (B.U.setTop { g with pc := g.pc + 3, stack := v.toList ++ rest }) target → Steps p.tables e below (T.setTop g) target := by
  obtain ⟨mk, methM, hnamed, hmethM, hstM, habM⟩ := Cond.instanceMethod_spec hinst
  obtain ⟨m8, methM', cM, hn8, hmethM', -, -, -, -, -, -, hsigM⟩ := Cond.codeWith_spec hcode
  cases Option.some.inj (hn8.symm.trans hnamed)
  cases hmethM.symm.trans hmethM'
  obtain ⟨c2, r2, m2, q1, q2, q3, q4, kP, hkP, hkPi⟩ := Cond.selects_spec hsel
  cases hcls.symm.trans q1
  cases (State.methodFound?_of_named hnamed hy).symm.trans q2
  cases hnamed.symm.trans q3
  have hselP : selectMethod e.platform s.vm cellB.cls mk = .method mk := by rw [Launch.admits_selectMethod X.admits]; exact q4
  obtain ⟨vm₁, X₁, hstep₁⟩ := X.invokevirtual hexec hown hlink hnamed hmethM hstM hkP hkPi hy (a := b) (cell := cellB) hcell
    (fun z h => by rw [h] at hobj; cases hobj) hselP hmethM habM hkP hkPi (g := g) hg (argsL := argsL) (rest := rest) (hlen _ hsigM) hstack hdg
  obtain ⟨v, B, X', hpost, hsteps⟩ := hK m meth c ⟨T.setVm vm₁, locs, cells, slots⟩ { g with stack := rest } (.invokevirtual index) mk (Value.ref b :: argsL).toArray X₁ hg hsize hdg hW (X₁.named hnamed) (hpre vm₁ X₁.warmed)
  exact ⟨v, vm₁, B, X₁.warmed, X', hpost, fun target h => hstep₁ _ fun acts => by rw [doInvoke_state]; exact hsteps.trans h⟩
abbrev vx_CVW (R : Room) (s : State) (args : Array Value) (own C : String) (index : Nat) (y : MethodName) (bytes : ByteArray) (maxL : Nat) (ret : Option FieldType) (hh : List (Nat × Nat × Nat × Nat)) (ws : List Cond) (rm : Room) (mc ms n : Nat) : Prop :=
  (rm.cells = mc ∧ rm.slots = ms ∧ rm.frames + 1 ≤ R.frames ∧ 8 + (maxL + 11) + rm.locals ≤ R.locals ∧ (∀ w ∈ ws, ∀ (a' : Array Value) (U : State), s.WarmedH U.vm → w.before a' U = true) ∧ Cond.codeWith y bytes maxL ret hh ∈ ws) ∧
  (Cond.codeWith y bytes maxL ret hh).before args s = true ∧ (Cond.initialized y.cls).before args s = true ∧ (y.cls ≠ "java/lang/invoke/MethodHandle" ∧ y.cls ≠ "java/lang/invoke/VarHandle") ∧
  (∀ sig, parseMethodDescriptor y.desc = some sig → n = sig.parameters.length) ∧ (Cond.methodLink own index y).before args s = true ∧ (Cond.instanceMethod y).before args s = true ∧ (Cond.selects C y y).before args s = true
theorem vx_cwVW {own C : String} {index maxL mc ms : Nat} {y : MethodName} {bytes : ByteArray} {ret : Option FieldType} {hh : List (Nat × Nat × Nat × Nat)} {Ts ws ws' : List Cond} {rm : Room} (n : Nat) (ht : ∀ w ∈ Ts, w.before args s = true) (hT : GoodIn Ts (wsV own index C y ws)) (hw : ws = Cond.codeWith y bytes maxL ret hh :: ws') (hrc : rm.cells = mc) (hrs : rm.slots = ms)
    (hd : y.cls = C ∧ y.cls ≠ "java/lang/invoke/MethodHandle" ∧ y.cls ≠ "java/lang/invoke/VarHandle" ∧ (parseMethodDescriptor y.desc).map (fun d => d.parameters.length) = some n) (hR : rm.frames + 1 ≤ R.frames ∧ 8 + (maxL + 11) + rm.locals ≤ R.locals) :
    vx_CVW R s args own C index y bytes maxL ret hh ws rm mc ms n := by
  obtain ⟨hC, hd⟩ := hd
  subst hC
  have ok : ∀ w ∈ wsV own index y.cls y ws, w.before args s = true := fun w h => ht w (hT w h).1
  have hG : GoodIn Ts ws := fun w h => hT w (by unfold wsV; exact List.mem_append_right _ h)
  have hc : Cond.codeWith y bytes maxL ret hh ∈ ws := by rw [hw]; exact List.mem_cons_self
  refine ⟨⟨hrc, hrs, hR.1, hR.2, pay_in ht hG, hc⟩, ht _ (hG _ hc).1, ok _ (by simp [wsV]), ⟨hd.1, hd.2.1⟩, fun sig h => ?_, ok _ (by simp [wsV]), ok _ (by simp [wsV]), ok _ (by simp [wsV])⟩
  have h2 := hd.2.2
  rw [h] at h2
  exact (Option.some.inj h2).symm
theorem vx_runVW {y : MethodName} {bytes cc : ByteArray} {maxL nL mc ms n index : Nat} {ret : Option FieldType} {hh : List (Nat × Nat × Nat × Nat)} {ws : List Cond} {rm : Room} {Pc : Array Value → State → Prop} {Qc : Array Value → State → Outcome → State → Prop} {free : Addr → Prop} {Ts : List Cond} {own C : String} {b : Addr} {As rest : List Value} {g : JFrame}
    (S : CallFix p m c cc nL s args Ts own) (hM : Met l y ws rm Pc Qc mc ms free) (cw : vx_CVW R s args own C index y bytes maxL ret hh ws rm mc ms n) (hp : PreV s H C b Pc As)
    (hg : g.method = m) (hn : As.length = n) (hsize : g.locals.size = nL) (hstack : g.stack = As.reverse ++ .ref b :: rest) (hW : 2 * g.monitorRoom + (rest.map fun v => v.category).sum ≤ 8) (hdg : decode cc g.pc = .ok (.invokevirtual index, 3)) (hf : cells + mc ≤ R.cells ∧ slots + ms ≤ R.slots) :
    va_Run p l e R s m args below meth c H locs cells slots mc ms g rest (Qc (Value.ref b :: As).toArray) free := by
  obtain ⟨⟨hrc, hrs, hfr, hlo, hws, hcw⟩, hcode, hini, hy, hlen, hl, hin, hse⟩ := cw
  have hK : Back l R p e below s args y 3 8 (PreOf R mc ms Pc) (PostOf Qc mc ms free) := va_backW (hh := hh) (bytes := bytes) (maxL := maxL) (ret := ret) hM hp.1 hrc hrs hfr hlo hws hcw (fun a' U hW => word_at hW (Or.inl (by first | rfl | simp [Cond.onTables, Cond.keeps, Cond.steady])) hini)
  obtain ⟨hx, hb, hml, ho, -⟩ := S
  obtain ⟨-, ⟨cellB, hcB, hoB, hclB⟩, hPc⟩ := hp
  intro T hT X
  obtain ⟨v, vm₁, ⟨U', l2, c2, s2⟩, hW₁, X', ⟨g', mk, t, L, e1, e2, hq, h1, hL, h2, h3⟩, st⟩ := vx_callVW X hx (C := C) (hh := hh) (bytes := bytes) (maxL := maxL) (ret := ret) ho hl hin hse hcode hy hK (by rw [hT]; exact hcB) hoB hclB hg (hsize.trans hml.symm) (argsL := As) (rest := rest) (fun sig h => hn.trans (hlen sig h)) hstack hW (by rw [hb]; exact hdg)
    (fun vm₁ hW₁ => ⟨hf.1, hf.2, hPc (T.setVm vm₁) hT hW₁⟩)
  dsimp only [Pt.U, Pt.locs, Pt.cells, Pt.slots] at X' e1 e2 h1 h2 h3 st
  subst h1; subst h2; subst h3
  exact ⟨v, (T.setVm vm₁).calling g' mk (Value.ref b :: As).toArray, t, U', L, hT, X', hL, e1, e2, hq, st⟩
section
variable {y : MethodName} {bytes cc : ByteArray} {maxL nL mc ms n index : Nat} {ret : Option FieldType} {ws : List Cond} {rm : Room} {Pc : Array Value → State → Prop} {Qc : Array Value → State → Outcome → State → Prop} {XC : String → State → State → Prop} {free : Addr → Prop} {Ts : List Cond} {own C : String} {b : Addr} {As rest : List Value} {g : JFrame}
theorem vx_runVX {hh : List (Nat × Nat × Nat × Nat)} (S : CallFix p m c cc nL s args Ts own) (hM : vx_Met l y ws rm Pc Qc XC mc ms free) (cw : vx_CVW R s args own C index y bytes maxL ret hh ws rm mc ms n) (hp : PreV s H C b Pc As)
    (hg : g.method = m) (hn : As.length = n) (hsize : g.locals.size = nL) (hstack : g.stack = As.reverse ++ .ref b :: rest) (hW : 2 * g.monitorRoom + (rest.map fun v => v.category).sum ≤ 8) (hdg : decode cc g.pc = .ok (.invokevirtual index, 3)) (hf : cells + mc ≤ R.cells ∧ slots + ms ≤ R.slots) :
    vx_Run p l e R s m args below meth c H locs cells slots mc ms g rest (Qc (Value.ref b :: As).toArray) XC free := by
  obtain ⟨⟨hrc, hrs, hfr, hlo, hws, hcw⟩, hcode, hini, hy, hlen, hl, hin, hse⟩ := cw
  have hK : vx_Back l R p e below s args y 3 8 (PreOf R mc ms Pc) (PostOf Qc mc ms free) (vx_Post XC mc ms free) := vx_backW (hh := hh) (bytes := bytes) (maxL := maxL) (ret := ret) hM hp.1 hrc hrs hfr hlo hws hcw (fun a' U hW => word_at hW (Or.inl (by first | rfl | simp [Cond.onTables, Cond.keeps, Cond.steady])) hini)
  obtain ⟨hx, hb, hml, ho, -⟩ := S
  obtain ⟨-, ⟨cellB, hcB, hoB, hclB⟩, hPc⟩ := hp
  intro T hT X
  rcases vx_callVX X hx (C := C) (hh := hh) (bytes := bytes) (maxL := maxL) (ret := ret) ho hl hin hse hcode hy hK (by rw [hT]; exact hcB) hoB hclB hg (hsize.trans hml.symm) (argsL := As) (rest := rest) (fun sig h => hn.trans (hlen sig h)) hstack hW (by rw [hb]; exact hdg)
    (fun vm₁ hW₁ => ⟨hf.1, hf.2, hPc (T.setVm vm₁) hT hW₁⟩) with ⟨v, vm₁, ⟨U', l2, c2, s2⟩, hW₁, X', ⟨g', mk, t, L, e1, e2, hq, h1, hL, h2, h3⟩, st⟩ | ⟨q, vm₁, ⟨U', l2, c2, s2⟩, hW₁, X', ⟨g', mk, t, L, E, ce, e1, e2, hq, hce, hcv, hcl, h1, hL, h2, h3⟩, st⟩
  · dsimp only [Pt.U, Pt.locs, Pt.cells, Pt.slots] at X' e1 e2 h1 h2 h3 st
    subst h1; subst h2; subst h3
    exact Or.inl ⟨v, (T.setVm vm₁).calling g' mk (Value.ref b :: As).toArray, t, U', L, hT, X', hL, e1, e2, hq, st⟩
  · dsimp only [Pt.U, Pt.locs, Pt.cells, Pt.slots] at X' e1 e2 h1 h2 h3 st hcl
    subst h1; subst h2; subst h3
    exact Or.inr ⟨q, (T.setVm vm₁).calling g' mk (Value.ref b :: As).toArray, t, U', L, E, ce, hT, X', hL, e1, e2, hq, hce, hcv, vx_cls hW₁ hcl, st⟩
theorem vx_runSX {hh : List (Nat × Nat × Nat × Nat)} (S : CallFix p m c cc nL s args Ts own) (hM : vx_Met l y ws rm Pc Qc XC mc ms free) (cw : vx_CSW R s args own index y bytes maxL ret hh ws rm mc ms n) (hp : PreS s H Pc As)
    (hg : g.method = m) (hn : As.length = n) (hsize : g.locals.size = nL) (hstack : g.stack = As.reverse ++ rest) (hW : 2 * g.monitorRoom + (rest.map fun v => v.category).sum ≤ 8) (hdg : decode cc g.pc = .ok (.invokestatic index, 3)) (hf : cells + mc ≤ R.cells ∧ slots + ms ≤ R.slots) :
    vx_Run p l e R s m args below meth c H locs cells slots mc ms g rest (Qc As.toArray) XC free := by
  obtain ⟨⟨hrc, hrs, hfr, hlo, hws, hcw⟩, hcode, hini, hy, hlen, hl, hstt⟩ := cw
  have hK : vx_Back l R p e below s args y 3 8 (PreOf R mc ms Pc) (PostOf Qc mc ms free) (vx_Post XC mc ms free) := vx_backW (hh := hh) (bytes := bytes) (maxL := maxL) (ret := ret) hM hp.1 hrc hrs hfr hlo hws hcw (fun a' U hW => word_at hW (Or.inl (by first | rfl | simp [Cond.onTables, Cond.keeps, Cond.steady])) hini)
  obtain ⟨hx, hb, hml, ho, -⟩ := S
  intro T hT X
  rcases vx_callSX X hx (hh := hh) (bytes := bytes) (maxL := maxL) (ret := ret) ho hl hstt hini hcode hy hK hg (hsize.trans hml.symm) (argsL := As) (rest := rest) (fun sig h => hn.trans (hlen sig h)) hstack hW (by rw [hb]; exact hdg)
    (fun vm₁ hW₁ => ⟨hf.1, hf.2, hp.2 (T.setVm vm₁) hT hW₁⟩) with ⟨v, vm₁, ⟨U', l2, c2, s2⟩, hW₁, X', ⟨g', mk, t, L, e1, e2, hq, h1, hL, h2, h3⟩, st⟩ | ⟨q, vm₁, ⟨U', l2, c2, s2⟩, hW₁, X', ⟨g', mk, t, L, E, ce, e1, e2, hq, hce, hcv, hcl, h1, hL, h2, h3⟩, st⟩
  · dsimp only [Pt.U, Pt.locs, Pt.cells, Pt.slots] at X' e1 e2 h1 h2 h3 st
    subst h1; subst h2; subst h3
    exact Or.inl ⟨v, (T.setVm vm₁).calling g' mk As.toArray, t, U', L, hT, X', hL, e1, e2, hq, st⟩
  · dsimp only [Pt.U, Pt.locs, Pt.cells, Pt.slots] at X' e1 e2 h1 h2 h3 st hcl
    subst h1; subst h2; subst h3
    exact Or.inr ⟨q, (T.setVm vm₁).calling g' mk As.toArray, t, U', L, E, ce, hT, X', hL, e1, e2, hq, hce, hcv, vx_cls hW₁ hcl, st⟩
end
end VXH
theorem vx_ofWH {l : Launch} {y : MethodName} {ws ws' : List Cond} {rm : Room} {Pc : Array Value → State → Prop} {Qc : Array Value → State → Outcome → State → Prop} {XC : String → State → State → Prop} {mc ms : Nat} {free : Addr → Prop} {cc : ByteArray} {maxL : Nat} {ret : Option FieldType} {hh : List (Nat × Nat × Nat × Nat)}
    (hy : plainName y.cls = true) (hw : ws = Cond.codeWith y cc maxL ret hh :: ws')
    (body : ∀ p e s m args below meth c s₁, BodyLoose p l y (headSpec ws rm) cc maxL ret e s m args below meth c s₁ → c.maxLocals = maxL → Pc args s →
      W p l e (headSpec ws rm).room s m args below meth c s.heap [] 0 0 (vx_MQ below Qc XC args s mc ms free) (entryFrame m args maxL)) : vx_Met l y ws rm Pc Qc XC mc ms free := by
  refine MetFree.of_bodyS (code := cc) (maxLocals := maxL) (ret := ret) hy ?_ ?_
  · intro args s m h hn
    obtain ⟨m9, meth, c, hn9, h1, h2, h3, h4, -, h5, h6, -⟩ := Cond.codeWith_spec (atoms_spec (ws := ws) h _ (by rw [hw]; exact List.mem_cons_self))
    cases hn.symm.trans hn9
    exact ⟨meth, c, h1, h2, h3, h4, h5, h6⟩
  · intro p e s m args below meth c s₁ B hml hP _
    have hh0 : s₁.heap = s.heap := by rw [B.state]; rfl
    obtain ⟨t, a1, o, b1, b2, b3⟩ := body p e s m args below meth c s₁ B hml hP s₁ hh0 (Stand.of_body B)
    exact ⟨t, o, a1, b1, b2, b3⟩
/-! ===== END ===== -/
end
section
/-! ===== a small machine: the instructions of these classes over a heap of fixed cells; what it owes, as a Prop that computes ===== -/
abbrev mm_Hp : Type := (Nat → Nat → Int32) × (Nat → Nat → Int64)
/-- a cell: an array (0 int, 1 boolean, 2 long; its length), or an object (its class's number; each field a cell's number, or none: an int) -/
abbrev mm_Lay : Type := (Nat × Nat) ⊕ (Nat × List (Option Nat))
abbrev mm_Tab : Type := List (Nat × Instr × Nat)
abbrev mm_Loc : Type := List (Option Value)
/-- a callee: arguments, 1 if it answers an int, cells made on a road that returns, start, exception (0: none), answer, heap behind it -/
abbrev mm_Ct : Type := Nat × Nat × Nat × (List Value → mm_Hp → Prop) × (List Value → mm_Hp → Nat) × (List Value → mm_Hp → Int32) × (List Value → mm_Hp → mm_Hp)
def mm_V (ad : Nat → Nat) (v : Value) : Value := match v with
  | .ref k => .ref (ad k)
  | v => v
def mm_up (f : Nat → Nat → Int32) (k j : Nat) (x : Int32) : Nat → Nat → Int32 := fun a => cond (Nat.beq a k) (upd (f a) j x) (f a)
def mm_upL (f : Nat → Nat → Int64) (k j : Nat) (x : Int64) : Nat → Nat → Int64 := fun a => cond (Nat.beq a k) (vp_updL (f a) j x) (f a)
def mm_c1 (v : Value) : Bool := match v with
  | .int _ => true
  | .ref _ => true
  | _ => false
def mm_1 (S : List Value) (f : Int32 → Int32) : Option (List Value) := match S with
  | .int x :: r => some (.int (f x) :: r)
  | _ => none
def mm_2 (S : List Value) (f : Int32 → Int32 → Int32) : Option (List Value) := match S with
  | .int y :: .int x :: r => some (.int (f x y) :: r)
  | _ => none
def mm_dup (S : List Value) : Option (List Value) := match S with
  | v :: r => cond (mm_c1 v) (some (v :: v :: r)) none
  | _ => none
def mm_pop (S : List Value) : Option (List Value) := match S with
  | v :: r => cond (mm_c1 v) (some r) none
  | _ => none
def mm_dup_x1 (S : List Value) : Option (List Value) := match S with
  | v :: w :: r => cond (mm_c1 v && mm_c1 w) (some (v :: w :: v :: r)) none
  | _ => none
def mm_dup_x2 (S : List Value) : Option (List Value) := match S with
  | v :: w :: u :: r => cond (mm_c1 v && mm_c1 w && mm_c1 u) (some (v :: w :: u :: v :: r)) none
  | _ => none
def mm_dup2 (S : List Value) : Option (List Value) := match S with
  | v :: w :: r => cond (mm_c1 v && mm_c1 w) (some (v :: w :: v :: w :: r)) none
  | _ => none
def mm_i2l (S : List Value) : Option (List Value) := match S with
  | .int x :: r => some (.long x.toInt64 :: r)
  | _ => none
def mm_lcmp (S : List Value) : Option (List Value) := match S with
  | .long y :: .long x :: r => some (.int (lg_cmp x y) :: r)
  | _ => none
/-- what an instruction on the stack alone makes of it -/
def mm_alu (i : Instr) (S : List Value) : Option (List Value) := match i with
  | .iconst n => some (.int (Int32.ofInt n) :: S)
  | .bipush n => some (.int ((Int8.ofInt n).toInt32) :: S)
  | .sipush n => some (.int ((Int16.ofInt n).toInt32) :: S)
  | .lconst n => some (.long (Int64.ofNat (n : Nat)) :: S)
  | .iadd => mm_2 S (fun x y => x + y)
  | .isub => mm_2 S (fun x y => x - y)
  | .imul => mm_2 S (fun x y => x * y)
  | .iand => mm_2 S (fun x y => x &&& y)
  | .ior => mm_2 S (fun x y => x ||| y)
  | .ixor => mm_2 S (fun x y => x ^^^ y)
  | .ishl => mm_2 S (fun x y => x <<< (y &&& 31))
  | .ishr => mm_2 S (fun x y => x >>> (y &&& 31))
  | .iushr => mm_2 S (fun x y => (x.toUInt32 >>> (y.toUInt32 &&& Int32.toUInt32 31)).toInt32)
  | .ineg => mm_1 S (fun x => -x)
  | .i2l => mm_i2l S
  | .lcmp => mm_lcmp S
  | .dup => mm_dup S
  | .pop => mm_pop S
  | .dup_x1 => mm_dup_x1 S
  | .dup_x2 => mm_dup_x2 S
  | .dup2 => mm_dup2 S
  | _ => none
def mm_ld (L : mm_Loc) (k : Nat) (int : Bool) (S : List Value) : Option (mm_Loc × List Value) := match L[k]?, int with
  | some (some (.int x)), true => some (L, .int x :: S)
  | some (some (.ref x)), false => some (L, .ref x :: S)
  | _, _ => none
def mm_st (L : mm_Loc) (k : Nat) (int : Bool) (S : List Value) : Option (mm_Loc × List Value) := match S, int with
  | .int x :: r, true => cond (Nat.blt k L.length) (some (L.set k (some (.int x)), r)) none
  | .ref x :: r, false => cond (Nat.blt k L.length) (some (L.set k (some (.ref x)), r)) none
  | _, _ => none
def mm_inc (L : mm_Loc) (k : Nat) (n : Int) (S : List Value) : Option (mm_Loc × List Value) := match L[k]? with
  | some (some (.int x)) => some (L.set k (some (.int (x + Int32.ofInt n))), S)
  | _ => none
/-- instructions on the locals -/
def mm_loc (i : Instr) (L : mm_Loc) (S : List Value) : Option (mm_Loc × List Value) := match i with
  | .iload k => mm_ld L k true S
  | .iload_n k => mm_ld L (k : Nat) true S
  | .aload k => mm_ld L k false S
  | .aload_n k => mm_ld L (k : Nat) false S
  | .istore k => mm_st L k true S
  | .istore_n k => mm_st L (k : Nat) true S
  | .astore k => mm_st L k false S
  | .astore_n k => mm_st L (k : Nat) false S
  | .iinc k n => mm_inc L k n S
  | _ => none
def mm_jump (tab : mm_Tab) (pc : Nat) (off : Int) : mm_Tab := tab.dropWhile (fun q => !(decide ((q.1 : Int) = (pc : Int) + off)))
def mm_br (c : ClassFile.Cond) (x y : Int32) (A B : Prop) : Prop := match c with
  | .eq => (x = y → A) ∧ (¬ x = y → B)
  | .ne => (¬ x = y → A) ∧ (x = y → B)
  | .lt => (x < y → A) ∧ (¬ x < y → B)
  | .ge => (y ≤ x → A) ∧ (¬ y ≤ x → B)
  | .gt => (y < x → A) ∧ (¬ y < x → B)
  | .le => (x ≤ y → A) ∧ (¬ x ≤ y → B)
def mm_tsw (go : Int → Prop) (x : Int) : List Int → Int → Prop
  | [], _ => True
  | o :: os, k => (x = k → go o) ∧ mm_tsw go x os (k + 1)
def mm_lsw (go : Int → Prop) (d : Int) (x : Int) : List (Int × Int) → Prop
  | [] => go d
  | (k, o) :: r => (x = k → go o) ∧ (¬ x = k → mm_lsw go d x r)
def mm_get (lay : List mm_Lay) (hp : mm_Hp) (cj : Option (Nat × Nat)) (S : List Value) (go : List Value → Prop) : Prop := match cj, S with
  | some (ci, j), .ref k :: r => match lay[k]? with
    | some (.inr (ci', fs)) => cond (Nat.beq ci ci') (match fs[j]? with
      | some (some q) => go (.ref q :: r)
      | some none => go (.int (hp.1 k j) :: r)
      | none => False) False
    | _ => False
  | _, _ => False
def mm_put (lay : List mm_Lay) (hp : mm_Hp) (cj : Option (Nat × Nat)) (S : List Value) (go : List Value → mm_Hp → Prop) : Prop := match cj, S with
  | some (ci, j), .int x :: .ref k :: r => match lay[k]? with
    | some (.inr (ci', fs)) => cond (Nat.beq ci ci') (match fs[j]? with
      | some none => go r (mm_up hp.1 k j x, hp.2)
      | _ => False) False
    | _ => False
  | _, _ => False
def mm_ald (lay : List mm_Lay) (sc : Option (Nat × (Nat → Int32))) (hp : mm_Hp) (t : Nat) (S : List Value) (go : List Value → Prop) : Prop := match S with
  | .int i :: .ref k :: r => match lay[k]? with
    | some (.inl (t', n)) => cond (Nat.beq t t') (vp_in i n ∧ go ((cond (Nat.beq t 2) (Value.long (hp.2 k i.toNatClampNeg)) (Value.int (hp.1 k i.toNatClampNeg))) :: r)) False
    | none => match sc with
      | some q => cond (Nat.beq k 1000 && Nat.beq t 0) (vp_in i q.1 ∧ go (.int (q.2 i.toNatClampNeg) :: r)) False
      | none => False
    | _ => False
  | _ => False
def mm_alen (lay : List mm_Lay) (sc : Option (Nat × (Nat → Int32))) (S : List Value) (go : List Value → Prop) : Prop := match S with
  | .ref k :: r => match lay[k]? with
    | some (.inl (_, n)) => go (.int (Int32.ofNat n) :: r)
    | none => match sc with
      | some q => cond (Nat.beq k 1000) (go (.int (Int32.ofNat q.1) :: r)) False
      | none => False
    | _ => False
  | _ => False
def mm_ast (lay : List mm_Lay) (hp : mm_Hp) (t : Nat) (S : List Value) (go : List Value → mm_Hp → Prop) : Prop := match S with
  | .int x :: .int i :: .ref k :: r => match lay[k]? with
    | some (.inl (t', n)) => cond (Nat.beq t t' && Nat.blt t 2) (vp_in i n ∧ go r (mm_up hp.1 k i.toNatClampNeg (cond (Nat.beq t 1) (vp_nar .boolean x) x), hp.2)) False
    | _ => False
  | .long x :: .int i :: .ref k :: r => match lay[k]? with
    | some (.inl (t', n)) => cond (Nat.beq t t' && Nat.beq t 2) (vp_in i n ∧ go r (hp.1, mm_upL hp.2 k i.toNatClampNeg x)) False
    | _ => False
  | _ => False
def mm_div (S : List Value) (f : Int32 → Int32 → Int32) (go : List Value → Prop) : Prop := match S with
  | .int y :: .int x :: r => ¬ y = 0 ∧ go (.int (f x y) :: r)
  | _ => False
def mm_if (S : List Value) (c : ClassFile.Cond) (A B : List Value → Prop) : Prop := match S with
  | .int x :: r => mm_br c x 0 (A r) (B r)
  | _ => False
def mm_icmp (S : List Value) (c : ClassFile.Cond) (A B : List Value → Prop) : Prop := match S with
  | .int y :: .int x :: r => mm_br c x y (A r) (B r)
  | _ => False
def mm_split : Nat → List Value → List Value → Option (List Value × List Value)
  | 0, S, acc => some (acc, S)
  | n + 1, v :: S, acc => mm_split n S (v :: acc)
  | _ + 1, [], _ => none
theorem mm_split_s : ∀ (n : Nat) (S acc as rest : List Value), mm_split n S acc = some (as, rest) → S.length = n + rest.length ∧ as.reverse ++ rest = acc.reverse ++ S ∧ as.length = n + acc.length
  | 0, S, acc, as, rest, h => by
    cases h
    exact ⟨by omega, rfl, by omega⟩
  | n + 1, [], acc, as, rest, h => by cases h
  | n + 1, v :: S, acc, as, rest, h => by
    obtain ⟨h1, h2, h3⟩ := mm_split_s n S (v :: acc) as rest h
    refine ⟨by rw [List.length_cons]; omega, ?_, by rw [h3, List.length_cons]; omega⟩
    rw [h2]
    simp
def mm_call (ct : Option mm_Ct) (kb : Nat) (S : List Value) (hp : mm_Hp) (b : Nat) (go : List Value → mm_Hp → Nat → Prop) (th : Nat → mm_Hp → Prop) : Prop := match ct with
  | some (n, r, t, pre, tx, rv, sg) => match mm_split n S [] with
    | some (as, rest) => cond (Nat.ble rest.length 4 && Nat.ble (b + t) kb)
        (pre as hp ∧ (tx as hp = 0 → cond (Nat.beq r 0) (go rest (sg as hp) (b + t)) (go (.int (rv as hp) :: rest) (sg as hp) (b + t))) ∧ ∀ e, tx as hp = e + 1 → th e (sg as hp)) False
    | none => False
  | none => False
end
section
/-- what a method's code is held against: its table, the cells' kinds, the script, fields read, fields written, callees, throws, handlers, constants -/
abbrev mm_Cx : Type := mm_Tab × List mm_Lay × Option (Nat × (Nat → Int32)) × (Nat → Option (Nat × Nat)) × (Nat → Option (Nat × Nat)) × (Bool → Nat → Option mm_Ct) × (Nat → Nat → Nat → Option Nat) × (Nat → Nat → Option Nat) × (Nat → Option Int32)
/-- .. and what is asked: at cuts, at a return, at a throw; the cells that a road to a return may make -/
abbrev mm_As : Type := (Nat → Option (mm_Loc → mm_Hp → Prop)) × (Option Int32 → mm_Hp → Prop) × (Nat → mm_Hp → Prop) × Nat
abbrev mm_Go : Type := mm_Tab → mm_Loc → List Value → mm_Hp → Nat → Prop
def mm_thrown (X : mm_Cx) (A : mm_As) (go : mm_Go) (pc : Nat) (L : mm_Loc) (e : Nat) (hp : mm_Hp) (b : Nat) : Prop := match X.2.2.2.2.2.2.2.1 pc e with
  | none => A.2.2.1 e hp
  | some h => match X.1.dropWhile (fun q => !(Nat.beq q.1 h)) with
    | (_, .astore_n k, _) :: nx => cond (Nat.blt (k : Nat) L.length && Nat.ble (b + 1) A.2.2.2) (go nx (L.set k none) [] hp (b + 1)) False
    | (_, .astore k, _) :: nx => cond (Nat.blt k L.length && Nat.ble (b + 1) A.2.2.2) (go nx (L.set k none) [] hp (b + 1)) False
    | _ => False
def mm_throw (X : mm_Cx) (A : mm_As) (rem : mm_Tab) (S : List Value) (hp : mm_Hp) : Prop := match rem with
  | (_, .new k, _) :: (_, .dup, _) :: (_, .ldc t, _) :: (_, .invokespecial d, _) :: (_, .athrow, _) :: _ => match X.2.2.2.2.2.2.1 k t d with
    | some e => S = [] ∧ A.2.2.1 e hp
    | none => False
  | _ => False
def mm_ret (S : List Value) (Rt : Option Int32 → mm_Hp → Prop) (hp : mm_Hp) : Prop := match S with
  | [.int x] => Rt (some x) hp
  | _ => False
def mm_vret (S : List Value) (Rt : Option Int32 → mm_Hp → Prop) (hp : mm_Hp) : Prop := match S with
  | [] => Rt none hp
  | _ => False
def mm_tswS (S : List Value) (d lo hi : Int) (offs : Array Int) (go : Int → List Value → Prop) : Prop := match S with
  | .int x :: r => cond (decide (lo ≤ hi) && Nat.beq offs.size ((hi - lo).toNat + 1)) ((x.toInt < lo ∨ hi < x.toInt → go d r) ∧ mm_tsw (fun o => go o r) x.toInt offs.toList lo) False
  | _ => False
def mm_lswS (S : List Value) (d : Int) (ps : Array (Int × Int)) (go : Int → List Value → Prop) : Prop := match S with
  | .int x :: r => cond ((ps.toList.zip (ps.toList.drop 1)).all (fun q => decide (q.1.1 < q.2.1))) (mm_lsw (fun o => go o r) d x.toInt ps.toList) False
  | _ => False
def mm_ldc (x : Option Int32) (S : List Value) (go : List Value → Prop) : Prop := match x with
  | some v => go (.int v :: S)
  | none => False
/-- the other instructions -/
def mm_oth (X : mm_Cx) (A : mm_As) (go : mm_Go) (pc : Nat) (i : Instr) (rem nx : mm_Tab) (L : mm_Loc) (S : List Value) (hp : mm_Hp) (b : Nat) : Prop := match i with
  | .goto off => go (mm_jump X.1 pc off) L S hp b
  | .ifCond c off => match mm_jump X.1 pc off with
    | [] => False
    | q :: t => mm_if S c (fun r => go (q :: t) L r hp b) (fun r => go nx L r hp b)
  | .if_icmp c off => match mm_jump X.1 pc off with
    | [] => False
    | q :: t => mm_icmp S c (fun r => go (q :: t) L r hp b) (fun r => go nx L r hp b)
  | .tableswitch d lo hi offs => mm_tswS S d lo hi offs (fun o r => go (mm_jump X.1 pc o) L r hp b)
  | .lookupswitch d ps => mm_lswS S d ps (fun o r => go (mm_jump X.1 pc o) L r hp b)
  | .getfield k => mm_get X.2.1 hp (X.2.2.2.1 k) S (fun r => go nx L r hp b)
  | .putfield k => mm_put X.2.1 hp (X.2.2.2.2.1 k) S (fun r h => go nx L r h b)
  | .iaload => mm_ald X.2.1 X.2.2.1 hp 0 S (fun r => go nx L r hp b)
  | .baload => mm_ald X.2.1 X.2.2.1 hp 1 S (fun r => go nx L r hp b)
  | .laload => mm_ald X.2.1 X.2.2.1 hp 2 S (fun r => go nx L r hp b)
  | .iastore => mm_ast X.2.1 hp 0 S (fun r h => go nx L r h b)
  | .bastore => mm_ast X.2.1 hp 1 S (fun r h => go nx L r h b)
  | .lastore => mm_ast X.2.1 hp 2 S (fun r h => go nx L r h b)
  | .arraylength => mm_alen X.2.1 X.2.2.1 S (fun r => go nx L r hp b)
  | .idiv => mm_div S (fun x y => x / y) (fun r => go nx L r hp b)
  | .irem => mm_div S (fun x y => x - x / y * y) (fun r => go nx L r hp b)
  | .invokevirtual k => mm_call (X.2.2.2.2.2.1 false k) A.2.2.2 S hp b (fun r h b' => go nx L r h b') (fun e h => mm_thrown X A go pc L e h b)
  | .invokestatic k => mm_call (X.2.2.2.2.2.1 true k) A.2.2.2 S hp b (fun r h b' => go nx L r h b') (fun e h => mm_thrown X A go pc L e h b)
  | .new _ => mm_throw X A rem S hp
  | .ldc k => mm_ldc (X.2.2.2.2.2.2.2.2 k) S (fun r => go nx L r hp b)
  | .ldc_w k => mm_ldc (X.2.2.2.2.2.2.2.2 k) S (fun r => go nx L r hp b)
  | .ireturn => mm_ret S A.2.1 hp
  | .return_ => mm_vret S A.2.1 hp
  | _ => False
def mm_step (X : mm_Cx) (A : mm_As) (go : mm_Go) (rem : mm_Tab) (L : mm_Loc) (S : List Value) (hp : mm_Hp) (b : Nat) : Prop := match rem with
  | [] => False
  | (pc, i, z) :: nx => match mm_alu i S with
    | some S' => go nx L S' hp b
    | none => match mm_loc i L S with
      | some (L', S') => go nx L' S' hp b
      | none => mm_oth X A go pc i ((pc, i, z) :: nx) nx L S hp b
def mm_go (A : mm_As) (wp : mm_Go) (rem : mm_Tab) (L : mm_Loc) (S : List Value) (hp : mm_Hp) (b : Nat) : Prop := match rem with
  | [] => False
  | q :: nx => match A.1 q.1 with
    | some P => S = [] ∧ P L hp
    | none => wp (q :: nx) L S hp b
/-- WHAT IS OWED from here, with at most so many steps to the next cut -/
def mm_wp (X : mm_Cx) (A : mm_As) : Nat → mm_Go
  | 0 => fun _ _ _ _ _ => False
  | n + 1 => mm_step X A (mm_go A (mm_wp X A n))
def mm_len (i : Instr) (z : Nat) : Bool := match i with
  | .bipush _ => Nat.beq z 2
  | .sipush _ => Nat.beq z 3
  | .iload _ => Nat.beq z 2
  | .istore _ => Nat.beq z 2
  | .aload _ => Nat.beq z 2
  | .astore _ => Nat.beq z 2
  | .ldc _ => Nat.beq z 2
  | .ldc_w _ => Nat.beq z 3
  | .iinc _ _ => Nat.beq z 3
  | .goto _ => Nat.beq z 3
  | .ifCond _ _ => Nat.beq z 3
  | .if_icmp _ _ => Nat.beq z 3
  | .getfield _ => Nat.beq z 3
  | .putfield _ => Nat.beq z 3
  | .invokevirtual _ => Nat.beq z 3
  | .invokestatic _ => Nat.beq z 3
  | .invokespecial _ => Nat.beq z 3
  | .new _ => Nat.beq z 3
  | .tableswitch _ _ _ _ => true
  | .lookupswitch _ _ => true
  | _ => Nat.beq z 1
/-- a table that is the code's -/
def mm_tok (cc : ByteArray) (tab : mm_Tab) : Prop := (∀ q ∈ tab, decode cc q.1 = .ok (q.2.1, q.2.2) ∧ mm_len q.2.1 q.2.2 = true) ∧ ((tab.zip tab.tail).all (fun q => Nat.beq (q.1.1 + q.1.2.2) q.2.1)) = true
def mm_pc (rem : mm_Tab) : Nat := match rem with
  | [] => 0
  | q :: _ => q.1
theorem mm_z {z k : Nat} (h : Nat.beq z k = true) : z = k := Nat.eq_of_beq_eq_true h
theorem mm_2s {S S' : List Value} {f : Int32 → Int32 → Int32} (h : mm_2 S f = some S') : ∃ x y r, S = .int y :: .int x :: r ∧ S' = .int (f x y) :: r := by
  unfold mm_2 at h
  split at h
  · cases h; exact ⟨_, _, _, rfl, rfl⟩
  · cases h
theorem mm_1s {S S' : List Value} {f : Int32 → Int32} (h : mm_1 S f = some S') : ∃ x r, S = .int x :: r ∧ S' = .int (f x) :: r := by
  unfold mm_1 at h
  split at h
  · cases h; exact ⟨_, _, rfl, rfl⟩
  · cases h
theorem mm_c1V {ad : Nat → Nat} {v : Value} (h : mm_c1 v = true) : (mm_V ad v).category = 1 := by
  cases v <;> first | rfl | cases h
theorem mm_next {cc : ByteArray} {tab : mm_Tab} (h : mm_tok cc tab) {q : Nat × Instr × Nat} {nx : mm_Tab} (hs : (q :: nx) <:+ tab) (hn : nx ≠ []) : mm_pc nx = q.1 + q.2.2 := by
  obtain ⟨pre, rfl⟩ := hs
  cases nx with
  | nil => exact absurd rfl hn
  | cons q2 nx =>
    have h2 := List.all_eq_true.mp h.2 (q, q2) (by
      refine List.mem_of_getElem? (i := pre.length) ?_
      rw [List.getElem?_zip_eq_some]
      refine ⟨by simp, ?_⟩
      rw [List.getElem?_tail]
      simp)
    exact (Nat.eq_of_beq_eq_true h2).symm
theorem mm_jmp {tab : mm_Tab} {pc : Nat} {off : Int} {q : Nat × Instr × Nat} {nx : mm_Tab} (h : mm_jump tab pc off = q :: nx) : (pc : Int) + off = (q.1 : Int) := by
  have h1 := List.head?_dropWhile_not (fun q : Nat × Instr × Nat => !(decide ((q.1 : Int) = (pc : Int) + off))) tab
  unfold mm_jump at h
  rw [h] at h1
  simp at h1
  exact h1.symm
theorem mm_jsuf (tab : mm_Tab) (pc : Nat) (off : Int) : mm_jump tab pc off <:+ tab := List.dropWhile_suffix _
/-- the locals -/
def mm_Ls (ad : Nat → Nat) (ls : Array Slot) (L : mm_Loc) : Prop := ls.size = L.length ∧ lv_wf ls ∧ ∀ (i : Nat) (v : Value), L[i]? = some (some v) → mm_c1 v = true ∧ ls[i]? = some (.val (mm_V ad v))
def mm_ll (ad : Nat → Nat) (L : mm_Loc) : List (Nat × Value) := L.zipIdx.filterMap (fun q => q.1.map (fun v => (q.2, mm_V ad v)))
theorem mm_ll_in {ad : Nat → Nat} {L : mm_Loc} {i : Nat} {v : Value} (h : L[i]? = some (some v)) : (i, mm_V ad v) ∈ mm_ll ad L := by
  refine List.mem_filterMap.mpr ⟨(some v, i), ?_, rfl⟩
  refine List.mem_of_getElem? (i := i) ?_
  rw [List.getElem?_zipIdx, h]
  simp
theorem mm_ll_of {ad : Nat → Nat} {L : mm_Loc} {q : Nat × Value} (h : q ∈ mm_ll ad L) : ∃ v, L[q.1]? = some (some v) ∧ q.2 = mm_V ad v := by
  obtain ⟨⟨o, i⟩, h1, h2⟩ := List.mem_filterMap.mp h
  obtain ⟨j, hj⟩ := List.getElem?_of_mem h1
  rw [List.getElem?_zipIdx] at hj
  cases hL : L[j]? with
  | none => rw [hL] at hj; cases hj
  | some o2 =>
    rw [hL] at hj
    simp at hj
    obtain ⟨rfl, rfl⟩ := hj
    cases o2 with
    | none => cases h2
    | some v => cases h2; exact ⟨v, hL, rfl⟩
theorem mm_Ls.has {ad : Nat → Nat} {ls : Array Slot} {L : mm_Loc} (h : mm_Ls ad ls L) : lv_has ls L.length (mm_ll ad L) := by
  refine ⟨h.1, h.2.1, fun q hq => ?_⟩
  obtain ⟨v, h1, h2⟩ := mm_ll_of hq
  rw [h2]
  exact (h.2.2 _ _ h1).2
/-- behind a store -/
theorem mm_Ls.put {ad : Nat → Nat} {ls ls' : Array Slot} {L : mm_Loc} {k : Nat} {v : Value} (h : mm_Ls ad ls L) (hv : mm_c1 v = true) (hk : k < L.length)
    (h' : lv_has ls' L.length ((k, mm_V ad v) :: (mm_ll ad L).filter (fun q => !(q.1 == k) && !(q.1 + 1 == k && q.2.category == 2)))) : mm_Ls ad ls' (L.set k (some v)) := by
  refine ⟨by rw [List.length_set]; exact h'.1, h'.2.1, fun i w hw => ?_⟩
  by_cases hi : i = k
  · subst hi
    rw [List.getElem?_set_self hk] at hw
    cases hw
    exact ⟨hv, h'.2.2 _ List.mem_cons_self⟩
  · rw [List.getElem?_set_ne (fun q => hi q.symm)] at hw
    obtain ⟨h1, -⟩ := h.2.2 i w hw
    refine ⟨h1, h'.2.2 (i, mm_V ad w) (List.mem_cons_of_mem _ (List.mem_filter.mpr ⟨mm_ll_in hw, ?_⟩))⟩
    have h2 : (mm_V ad w).category = 1 := mm_c1V h1
    simp [hi, h2]
theorem mm_Ls.drop {ad : Nat → Nat} {ls : Array Slot} {L : mm_Loc} {k : Nat} {o : Option Value} (h : mm_Ls ad ls (L.set k o)) : mm_Ls ad ls (L.set k none) := by
  refine ⟨by rw [List.length_set]; rw [← List.length_set (i := k) (a := o)]; exact h.1, h.2.1, fun i w hw => ?_⟩
  by_cases hi : i = k
  · subst hi
    rw [List.getElem?_set] at hw
    simp at hw
  · rw [List.getElem?_set_ne (fun q => hi q.symm)] at hw
    exact h.2.2 i w (by rw [List.getElem?_set_ne (fun q => hi q.symm)]; exact hw)
theorem mm_ld_s {L L' : mm_Loc} {k : Nat} {t : Bool} {S S' : List Value} (h : mm_ld L k t S = some (L', S')) : L' = L ∧ ∃ v, L[k]? = some (some v) ∧ S' = v :: S ∧ ((t = true ∧ ∃ x, v = .int x) ∨ (t = false ∧ ∃ x, v = .ref x)) := by
  unfold mm_ld at h
  split at h
  · rename_i x h1; cases h; exact ⟨rfl, _, h1, rfl, Or.inl ⟨rfl, x, rfl⟩⟩
  · rename_i x h1; cases h; exact ⟨rfl, _, h1, rfl, Or.inr ⟨rfl, x, rfl⟩⟩
  · cases h
theorem mm_cond {α : Type} {c : Bool} {x y : α} (h : cond c (some x) none = some y) : c = true ∧ x = y := by
  cases c with
  | true => exact ⟨rfl, Option.some.inj h⟩
  | false => cases h
theorem mm_condP {c : Bool} {P : Prop} (h : cond c P False) : c = true ∧ P := by
  cases c with
  | true => exact ⟨rfl, h⟩
  | false => exact h.elim
theorem mm_st_s {L L' : mm_Loc} {k : Nat} {t : Bool} {S S' : List Value} (h : mm_st L k t S = some (L', S')) : k < L.length ∧ ∃ v, S = v :: S' ∧ L' = L.set k (some v) ∧ ((t = true ∧ ∃ x, v = .int x) ∨ (t = false ∧ ∃ x, v = .ref x)) := by
  unfold mm_st at h
  split at h
  · obtain ⟨h1, h2⟩ := mm_cond h
    cases h2
    exact ⟨by simpa using h1, _, rfl, rfl, Or.inl ⟨rfl, _, rfl⟩⟩
  · obtain ⟨h1, h2⟩ := mm_cond h
    cases h2
    exact ⟨by simpa using h1, _, rfl, rfl, Or.inr ⟨rfl, _, rfl⟩⟩
  · cases h
section MMA
variable {p : Program} {l : Launch} {e : Env} {R : Room} {s : State} {m : MethodId} {args : Array Value} {below : List Frame} {meth : Method} {c : Code} {H : Heap} {locs : List Loc} {cells slots : Nat} {Q : State → Prop}
variable {cc : ByteArray} {pc z : Nat} {ls : Array Slot} {ad : Nat → Nat} {i : Instr} {S S' : List Value} {L L' : mm_Loc}
set_option maxHeartbeats 4000000 in
theorem mm_alu_ok (hx : p.tables.exec = Jvm.exec) (hb : c.code = cc) (ha : mm_alu i S = some S') (hd : decode cc pc = .ok (i, z)) (hz : mm_len i z = true)
    (k : W p l e R s m args below meth c H locs cells slots Q (F0 m (pc + z) ls (S'.map (mm_V ad)))) : W p l e R s m args below meth c H locs cells slots Q (F0 m pc ls (S.map (mm_V ad))) := by
  unfold mm_alu at ha
  split at ha
  · cases ha; cases mm_z hz; exact lv_iconst hx hb hd rfl k
  · cases ha; cases mm_z hz; exact lv_bipush hx hb hd rfl k
  · cases ha; cases mm_z hz; exact lv_sipush hx hb hd rfl k
  · cases ha; cases mm_z hz; exact lv_lconst hx hb hd rfl k
  · obtain ⟨x, y, r, rfl, rfl⟩ := mm_2s ha; cases mm_z hz; exact lv_iadd hx hb hd k
  · obtain ⟨x, y, r, rfl, rfl⟩ := mm_2s ha; cases mm_z hz; exact lv_isub hx hb hd k
  · obtain ⟨x, y, r, rfl, rfl⟩ := mm_2s ha; cases mm_z hz; exact lv_imul hx hb hd k
  · obtain ⟨x, y, r, rfl, rfl⟩ := mm_2s ha; cases mm_z hz; exact lv_iand hx hb hd k
  · obtain ⟨x, y, r, rfl, rfl⟩ := mm_2s ha; cases mm_z hz; exact lv_ior hx hb hd k
  · obtain ⟨x, y, r, rfl, rfl⟩ := mm_2s ha; cases mm_z hz; exact lv_ixor hx hb hd k
  · obtain ⟨x, y, r, rfl, rfl⟩ := mm_2s ha; cases mm_z hz; exact lv_ishl hx hb hd k
  · obtain ⟨x, y, r, rfl, rfl⟩ := mm_2s ha; cases mm_z hz; exact lv_ishr hx hb hd k
  · obtain ⟨x, y, r, rfl, rfl⟩ := mm_2s ha; cases mm_z hz; exact lv_iushr hx hb hd rfl k
  · obtain ⟨x, r, rfl, rfl⟩ := mm_1s ha; cases mm_z hz; exact lv_ineg hx hb hd k
  · unfold mm_i2l at ha
    split at ha
    · cases ha; cases mm_z hz; exact lv_i2l hx hb hd rfl k
    · cases ha
  · unfold mm_lcmp at ha
    split at ha
    · cases ha; cases mm_z hz; exact W.lcmp hx hb hd k
    · cases ha
  · unfold mm_dup at ha
    split at ha
    · obtain ⟨h1, rfl⟩ := mm_cond ha; cases mm_z hz; exact lv_dup hx hb hd (mm_c1V h1) k
    · cases ha
  · unfold mm_pop at ha
    split at ha
    · obtain ⟨h1, rfl⟩ := mm_cond ha; cases mm_z hz; exact lv_pop hx hb hd (mm_c1V h1) k
    · cases ha
  · unfold mm_dup_x1 at ha
    split at ha
    · obtain ⟨h1, rfl⟩ := mm_cond ha; cases mm_z hz
      simp only [Bool.and_eq_true] at h1
      exact lv_dup_x1 hx hb hd (mm_c1V h1.1) (mm_c1V h1.2) k
    · cases ha
  · unfold mm_dup_x2 at ha
    split at ha
    · obtain ⟨h1, rfl⟩ := mm_cond ha; cases mm_z hz
      simp only [Bool.and_eq_true] at h1
      exact lv_dup_x2 hx hb hd (mm_c1V h1.1.1) (mm_c1V h1.1.2) (mm_c1V h1.2) k
    · cases ha
  · unfold mm_dup2 at ha
    split at ha
    · obtain ⟨h1, rfl⟩ := mm_cond ha; cases mm_z hz
      simp only [Bool.and_eq_true] at h1
      exact lv_dup2_11 hx hb hd (mm_c1V h1.1) (mm_c1V h1.2) k
    · cases ha
  · cases ha
theorem mm_ldI (hx : p.tables.exec = Jvm.exec) (hb : c.code = cc) {j : Nat} (hl : mm_Ls ad ls L) (h : mm_ld L j true S = some (L', S')) (hd : (decode cc pc = .ok (.iload j, 2) ∧ z = 2) ∨ ∃ k : Fin 4, (k : Nat) = j ∧ decode cc pc = .ok (.iload_n k, 1) ∧ z = 1)
    (k : ∀ ls', mm_Ls ad ls' L' → W p l e R s m args below meth c H locs cells slots Q (F0 m (pc + z) ls' (S'.map (mm_V ad)))) : W p l e R s m args below meth c H locs cells slots Q (F0 m pc ls (S.map (mm_V ad))) := by
  obtain ⟨rfl, v, h1, rfl, ⟨-, x, rfl⟩ | ⟨h2, -⟩⟩ := mm_ld_s h
  · have h3 := (hl.2.2 _ _ h1).2
    rcases hd with ⟨hd, rfl⟩ | ⟨k4, hk, hd, rfl⟩
    · exact lv_iload hx hb hd h3 (k ls hl)
    · exact lv_iload_n hx hb hd hk h3 (k ls hl)
  · cases h2
theorem mm_ldA (hx : p.tables.exec = Jvm.exec) (hb : c.code = cc) {j : Nat} (hl : mm_Ls ad ls L) (h : mm_ld L j false S = some (L', S')) (hd : (decode cc pc = .ok (.aload j, 2) ∧ z = 2) ∨ ∃ k : Fin 4, (k : Nat) = j ∧ decode cc pc = .ok (.aload_n k, 1) ∧ z = 1)
    (k : ∀ ls', mm_Ls ad ls' L' → W p l e R s m args below meth c H locs cells slots Q (F0 m (pc + z) ls' (S'.map (mm_V ad)))) : W p l e R s m args below meth c H locs cells slots Q (F0 m pc ls (S.map (mm_V ad))) := by
  obtain ⟨rfl, v, h1, rfl, ⟨h2, -⟩ | ⟨-, x, rfl⟩⟩ := mm_ld_s h
  · cases h2
  · have h3 := (hl.2.2 _ _ h1).2
    rcases hd with ⟨hd, rfl⟩ | ⟨k4, hk, hd, rfl⟩
    · exact lv_aload hx hb hd h3 (k ls hl)
    · exact lv_aload_n hx hb hd hk h3 (k ls hl)
theorem mm_stI (hx : p.tables.exec = Jvm.exec) (hb : c.code = cc) {j : Nat} (hl : mm_Ls ad ls L) (h : mm_st L j true S = some (L', S')) (hd : (decode cc pc = .ok (.istore j, 2) ∧ z = 2) ∨ ∃ k : Fin 4, (k : Nat) = j ∧ decode cc pc = .ok (.istore_n k, 1) ∧ z = 1)
    (k : ∀ ls', mm_Ls ad ls' L' → W p l e R s m args below meth c H locs cells slots Q (F0 m (pc + z) ls' (S'.map (mm_V ad)))) : W p l e R s m args below meth c H locs cells slots Q (F0 m pc ls (S.map (mm_V ad))) := by
  obtain ⟨hj, v, rfl, rfl, ⟨-, x, rfl⟩ | ⟨h2, -⟩⟩ := mm_st_s h
  · rcases hd with ⟨hd, rfl⟩ | ⟨k4, hk, hd, rfl⟩
    · exact lv_istore hx hb hd hl.has hj rfl (fun ls' h' => k ls' (hl.put (v := .int x) rfl hj h'))
    · exact lv_istore_n hx hb hd hk hl.has hj rfl (fun ls' h' => k ls' (hl.put (v := .int x) rfl hj h'))
  · cases h2
theorem mm_stA (hx : p.tables.exec = Jvm.exec) (hb : c.code = cc) {j : Nat} (hl : mm_Ls ad ls L) (h : mm_st L j false S = some (L', S')) (hd : (decode cc pc = .ok (.astore j, 2) ∧ z = 2) ∨ ∃ k : Fin 4, (k : Nat) = j ∧ decode cc pc = .ok (.astore_n k, 1) ∧ z = 1)
    (k : ∀ ls', mm_Ls ad ls' L' → W p l e R s m args below meth c H locs cells slots Q (F0 m (pc + z) ls' (S'.map (mm_V ad)))) : W p l e R s m args below meth c H locs cells slots Q (F0 m pc ls (S.map (mm_V ad))) := by
  obtain ⟨hj, v, rfl, rfl, ⟨h2, -⟩ | ⟨-, x, rfl⟩⟩ := mm_st_s h
  · cases h2
  · rcases hd with ⟨hd, rfl⟩ | ⟨k4, hk, hd, rfl⟩
    · exact lv_astore hx hb hd hl.has hj rfl (fun ls' h' => k ls' (hl.put (v := .ref x) rfl hj h'))
    · exact lv_astore_n hx hb hd hk hl.has hj rfl (fun ls' h' => k ls' (hl.put (v := .ref x) rfl hj h'))
set_option maxHeartbeats 4000000 in
theorem mm_loc_ok (hx : p.tables.exec = Jvm.exec) (hb : c.code = cc) (hl : mm_Ls ad ls L) (ha : mm_loc i L S = some (L', S')) (hd : decode cc pc = .ok (i, z)) (hz : mm_len i z = true)
    (k : ∀ ls', mm_Ls ad ls' L' → W p l e R s m args below meth c H locs cells slots Q (F0 m (pc + z) ls' (S'.map (mm_V ad)))) : W p l e R s m args below meth c H locs cells slots Q (F0 m pc ls (S.map (mm_V ad))) := by
  unfold mm_loc at ha
  split at ha
  · cases mm_z hz; exact mm_ldI hx hb hl ha (Or.inl ⟨hd, rfl⟩) k
  · cases mm_z hz; exact mm_ldI hx hb hl ha (Or.inr ⟨_, rfl, hd, rfl⟩) k
  · cases mm_z hz; exact mm_ldA hx hb hl ha (Or.inl ⟨hd, rfl⟩) k
  · cases mm_z hz; exact mm_ldA hx hb hl ha (Or.inr ⟨_, rfl, hd, rfl⟩) k
  · cases mm_z hz; exact mm_stI hx hb hl ha (Or.inl ⟨hd, rfl⟩) k
  · cases mm_z hz; exact mm_stI hx hb hl ha (Or.inr ⟨_, rfl, hd, rfl⟩) k
  · cases mm_z hz; exact mm_stA hx hb hl ha (Or.inl ⟨hd, rfl⟩) k
  · cases mm_z hz; exact mm_stA hx hb hl ha (Or.inr ⟨_, rfl, hd, rfl⟩) k
  · cases mm_z hz
    unfold mm_inc at ha
    split at ha
    · rename_i x hx2
      cases ha
      have hk := (hl.2.2 _ _ hx2).2
      have hlt : _ < L.length := (List.getElem?_eq_some_iff.mp hx2).1
      obtain ⟨kk, hkk⟩ := List.getElem?_of_mem (mm_ll_in (ad := ad) hx2)
      exact lv_iinc hx hb hd hl.has hkk rfl hlt rfl (fun ls' h' => k ls' (hl.put (v := .int _) rfl hlt h'))
    · cases ha
  · cases ha
end MMA
end
section
/-! ===== the small machine's heap in the machine's ===== -/
def mm_fv (ad : Nat → Nat) (row : Nat → Int32) (j : Nat) (o : Option Nat) : Value := match o with
  | some r => Value.ref (ad r)
  | none => Value.int (row j)
def mm_fs (ad : Nat → Nat) (row : Nat → Int32) (fs : List (Option Nat)) : List Value := fs.zipIdx.map (fun q => mm_fv ad row q.2 q.1)
def mm_cell (ad : Nat → Nat) (cA : Nat → ClassId) (hp : mm_Hp) (k : Nat) (x : mm_Lay) : va_E := match x with
  | .inl (0, n) => .inl (cA 0, n, .inl (hp.1 k))
  | .inl (1, n) => .inl (cA 1, n, .inl (hp.1 k))
  | .inl (_, n) => .inl (cA 2, n, .inr (.inl (hp.2 k)))
  | .inr (ci, fs) => .inr (ci, mm_fs ad (hp.1 k) fs)
def mm_ws (ad : Nat → Nat) (cA : Nat → ClassId) (lay : List mm_Lay) (hp : mm_Hp) : va_W := lay.zipIdx.map (fun q => (ad q.2, mm_cell ad cA hp q.2 q.1))
theorem mm_ws_at {ad : Nat → Nat} {cA : Nat → ClassId} {lay : List mm_Lay} {hp : mm_Hp} {k : Nat} {x : mm_Lay} (h : lay[k]? = some x) : (mm_ws ad cA lay hp)[k]? = some (ad k, mm_cell ad cA hp k x) := by
  unfold mm_ws
  rw [List.getElem?_map, List.getElem?_zipIdx, h]
  simp
theorem mm_ws_none {ad : Nat → Nat} {cA : Nat → ClassId} {lay : List mm_Lay} {hp : mm_Hp} {k : Nat} (h : lay[k]? = none) : (mm_ws ad cA lay hp)[k]? = none := by
  unfold mm_ws
  rw [List.getElem?_map, List.getElem?_zipIdx, h]
  rfl
theorem mm_cell_eq {ad : Nat → Nat} {cA : Nat → ClassId} {hp hp' : mm_Hp} {k : Nat} (x : mm_Lay) (h1 : hp'.1 k = hp.1 k) (h2 : hp'.2 k = hp.2 k) : mm_cell ad cA hp' k x = mm_cell ad cA hp k x := by
  unfold mm_cell
  split <;> simp only [h1, h2]
theorem mm_ws_set {ad : Nat → Nat} {cA : Nat → ClassId} {lay : List mm_Lay} {hp hp' : mm_Hp} {k : Nat} {x : mm_Lay} (h : lay[k]? = some x) (ho : ∀ j, j ≠ k → hp'.1 j = hp.1 j ∧ hp'.2 j = hp.2 j) :
    (mm_ws ad cA lay hp).set k (ad k, mm_cell ad cA hp' k x) = mm_ws ad cA lay hp' := by
  refine List.ext_getElem? fun j => ?_
  by_cases hj : j = k
  · subst hj
    rw [mm_ws_at h, List.getElem?_set_self]
    exact (List.getElem?_eq_some_iff.mp (mm_ws_at (ad := ad) (cA := cA) (hp := hp) h)).1
  · rw [List.getElem?_set_ne (fun q => hj q.symm)]
    cases hl : lay[j]? with
    | none => rw [mm_ws_none hl, mm_ws_none hl]
    | some y => rw [mm_ws_at hl, mm_ws_at hl, mm_cell_eq y (ho j hj).1 (ho j hj).2]
theorem mm_up_s {f : Nat → Nat → Int32} {k j : Nat} {x : Int32} : mm_up f k j x k = upd (f k) j x := by
  simp [mm_up]
theorem mm_up_n {f : Nat → Nat → Int32} {k j a : Nat} {x : Int32} (h : a ≠ k) : mm_up f k j x a = f a := by
  have h1 : Nat.beq a k = false := by
    cases hb : Nat.beq a k with
    | false => rfl
    | true => exact absurd (Nat.eq_of_beq_eq_true hb) h
  simp [mm_up, h1]
theorem mm_upL_s {f : Nat → Nat → Int64} {k j : Nat} {x : Int64} : mm_upL f k j x k = vp_updL (f k) j x := by
  simp [mm_upL]
theorem mm_upL_n {f : Nat → Nat → Int64} {k j a : Nat} {x : Int64} (h : a ≠ k) : mm_upL f k j x a = f a := by
  have h1 : Nat.beq a k = false := by
    cases hb : Nat.beq a k with
    | false => rfl
    | true => exact absurd (Nat.eq_of_beq_eq_true hb) h
  simp [mm_upL, h1]
theorem mm_fs_at {ad : Nat → Nat} {row : Nat → Int32} {fs : List (Option Nat)} {j : Nat} {o : Option Nat} (h : fs[j]? = some o) : (mm_fs ad row fs)[j]? = some (mm_fv ad row j o) := by
  unfold mm_fs
  rw [List.getElem?_map, List.getElem?_zipIdx, h]
  simp
theorem mm_fs_none {ad : Nat → Nat} {row : Nat → Int32} {fs : List (Option Nat)} {j : Nat} (h : fs[j]? = none) : (mm_fs ad row fs)[j]? = none := by
  unfold mm_fs
  rw [List.getElem?_map, List.getElem?_zipIdx, h]
  rfl
theorem mm_fs_set {ad : Nat → Nat} {row : Nat → Int32} {fs : List (Option Nat)} {j : Nat} {x : Int32} (h : fs[j]? = some none) : (mm_fs ad row fs).set j (.int x) = mm_fs ad (upd row j x) fs := by
  refine List.ext_getElem? fun i => ?_
  by_cases hi : i = j
  · subst hi
    rw [mm_fs_at h, List.getElem?_set_self (List.getElem?_eq_some_iff.mp (mm_fs_at (ad := ad) (row := row) h)).1]
    simp [upd, mm_fv]
  · rw [List.getElem?_set_ne (fun q => hi q.symm)]
    cases hl : fs[i]? with
    | none => rw [mm_fs_none hl, mm_fs_none hl]
    | some o => rw [mm_fs_at hl, mm_fs_at hl]; cases o <;> simp [upd, hi, mm_fv]
/-- the world: the cells hold hp, nothing outside A has changed since H0 -/
def mm_Wd (D : va_G) (cl : List vw_C) (ad : Nat → Nat) (cA : Nat → ClassId) (lay : List mm_Lay) (A : Nat → Prop) (H0 : Heap) (hp : mm_Hp) (H : Heap) (locs : List Loc) : Prop :=
  va_P D cl (mm_ws ad cA lay hp) H ∧ va_D A (mm_ws ad cA lay hp) ∧ va_S A H0 H locs
abbrev mm_tys (cA : Nat → ClassId) : List (ClassId × FieldType) := [(cA 0, .int), (cA 1, .boolean), (cA 2, .long)]
def mm_fldOk (own : String) (cl : List vw_C) (Ts : List Jvm.Cond) (fld : Nat → Option (Nat × Nat)) : Prop := ∀ (k ci j : Nat), fld k = some (ci, j) → ∃ (C : String) (T : u_T) (N : Nat), cl[ci]? = some (C, T, N) ∧ j < N ∧ (∀ w ∈ u_ws C T N, w ∈ Ts) ∧ Jvm.Cond.fieldLink own k (T j).1 (T j).2.1 (T j).2.2.1 ∈ Ts
def mm_pflOk (own : String) (cl : List vw_C) (Ts : List Jvm.Cond) (fld : Nat → Option (Nat × Nat)) : Prop := ∀ (k ci j : Nat), fld k = some (ci, j) → ∃ (C : String) (T : u_T) (N : Nat), cl[ci]? = some (C, T, N) ∧ j < N ∧ (∀ w ∈ u_ws C T N, w ∈ Ts) ∧ Jvm.Cond.fieldLink own k (T j).1 (T j).2.1 (T j).2.2.1 ∈ Ts ∧
  (T j).2.2.2 = false ∧ (T j).2.2.1 = "I" ∧ (∃ ty : Nat → FieldType, ∀ a, a < N → parseFieldDescriptor (T a).2.2.1 = some (ty a)) ∧ ∀ a, a < N → ∀ b, b < N → a ≠ b → (T a).2.1 ≠ (T b).2.1
section MMB
variable {p : Program} {l : Launch} {e : Env} {R : Room} {s : State} {m : MethodId} {args : Array Value} {below : List Frame} {meth : Method} {c : Code} {H : Heap} {locs : List Loc} {cells slots : Nat} {Q : State → Prop}
variable {cc : ByteArray} {pc z : Nat} {ls : Array Slot} {ad : Nat → Nat} {S : List Value} {D : va_G} {cl : List vw_C} {cA : Nat → ClassId} {lay : List mm_Lay} {A : Nat → Prop} {H0 : Heap} {hp : mm_Hp} {own : String} {Ts : List Jvm.Cond} {fld : Nat → Option (Nat × Nat)}
theorem mm_get_ok (hx : p.tables.exec = Jvm.exec) (hb : c.code = cc) (hts : ∀ w ∈ Ts, w.before args s = true) (hown : s.vm.findClass own = some m.cls) (hK : va_K D cl (mm_tys cA) s) (hf : mm_fldOk own cl Ts fld) (hw : mm_Wd D cl ad cA lay A H0 hp H locs) {k : Nat} {go : List Value → Prop}
    (h : mm_get lay hp (fld k) S go) (hd : decode cc pc = .ok (.getfield k, 3)) (kk : ∀ S', go S' → W p l e R s m args below meth c H locs cells slots Q (F0 m (pc + 3) ls (S'.map (mm_V ad)))) :
    W p l e R s m args below meth c H locs cells slots Q (F0 m pc ls (S.map (mm_V ad))) := by
  generalize hcj : fld k = cj at h
  unfold mm_get at h
  split at h
  · rename_i ci j q r
    split at h
    · rename_i ci' fs hl
      have hq9 := mm_condP h
      clear h
      obtain ⟨h1, h⟩ := hq9
      cases Nat.eq_of_beq_eq_true h1
      obtain ⟨C, T, N, hc, hj, hin, hlink⟩ := hf k ci j hcj
      have he : (mm_ws ad cA lay hp)[q]? = some (ad q, .inr (ci, mm_fs ad (hp.1 q) fs)) := mm_ws_at hl
      split at h
      · rename_i y hfj
        exact va_get (D := D) (ci := ci) (C := C) (T := T) (N := N) hx hb hts hin hown hK hw.1 q he hc j hj (hts _ hlink) (fun _ h9 => h9) (mm_fs_at hfj) hd (kk _ h)
      · rename_i hfj
        exact va_get (D := D) (ci := ci) (C := C) (T := T) (N := N) hx hb hts hin hown hK hw.1 q he hc j hj (hts _ hlink) (fun _ h9 => h9) (mm_fs_at hfj) hd (kk _ h)
      · exact h.elim
    · exact h.elim
  · exact h.elim
theorem mm_put_ok (hx : p.tables.exec = Jvm.exec) (hb : c.code = cc) (hts : ∀ w ∈ Ts, w.before args s = true) (hown : s.vm.findClass own = some m.cls) (hK : va_K D cl (mm_tys cA) s) (hf : mm_pflOk own cl Ts fld) (hw : mm_Wd D cl ad cA lay A H0 hp H locs) {k : Nat} {go : List Value → mm_Hp → Prop}
    (h : mm_put lay hp (fld k) S go) (hd : decode cc pc = .ok (.putfield k, 3)) (kk : ∀ S' hp' H' locs', go S' hp' → mm_Wd D cl ad cA lay A H0 hp' H' locs' → W p l e R s m args below meth c H' locs' cells slots Q (F0 m (pc + 3) ls (S'.map (mm_V ad)))) :
    W p l e R s m args below meth c H locs cells slots Q (F0 m pc ls (S.map (mm_V ad))) := by
  generalize hcj : fld k = cj at h
  unfold mm_put at h
  split at h
  · rename_i ci j x q r
    split at h
    · rename_i ci' fs hl
      have hq9 := mm_condP h
      clear h
      obtain ⟨h1, h⟩ := hq9
      cases Nat.eq_of_beq_eq_true h1
      obtain ⟨C, T, N, hc, hj, hin, hlink, hfin, hI, ⟨ty0, hty⟩, hnm⟩ := hf k ci j hcj
      have he : (mm_ws ad cA lay hp)[q]? = some (ad q, .inr (ci, mm_fs ad (hp.1 q) fs)) := mm_ws_at hl
      split at h
      · rename_i hfj
        refine va_put (D := D) (ci := ci) (C := C) (T := T) (N := N) (ty := .int) (v := .int x) hx hb hts hin ty0 hty hnm hown hK hw.1 hw.2.1 hw.2.2 q he hc j hj (hts _ hlink) (fun _ h9 => h9) hfin (by rw [hI]; decide +kernel) rfl rfl (List.getElem?_eq_some_iff.mp (mm_fs_at (ad := ad) (row := hp.1 q) hfj)).1 hd (fun H1 locs1 hP1 hD1 hS1 => ?_)
        have hset : (mm_ws ad cA lay hp).set q (ad q, .inr (ci, (mm_fs ad (hp.1 q) fs).set j (.int x))) = mm_ws ad cA lay (mm_up hp.1 q j x, hp.2) := by
          rw [mm_fs_set hfj]
          have h2 := mm_ws_set (ad := ad) (cA := cA) (hp := hp) (hp' := (mm_up hp.1 q j x, hp.2)) hl (fun a ha => ⟨mm_up_n ha, rfl⟩)
          rw [← h2]
          show _ = (mm_ws ad cA lay hp).set q (ad q, .inr (ci, mm_fs ad (mm_up hp.1 q j x q) fs))
          rw [mm_up_s]
        rw [hset] at hP1 hD1
        exact kk _ _ _ _ h ⟨hP1, hD1, hS1⟩
      · exact h.elim
    · exact h.elim
  · exact h.elim
theorem mm_set0 {k n j : Nat} {x : Int32} (hl : lay[k]? = some (.inl (0, n))) : (mm_ws ad cA lay hp).set k (ad k, .inl (cA 0, n, .inl (upd (hp.1 k) j x))) = mm_ws ad cA lay (mm_up hp.1 k j x, hp.2) := by
  have h2 := mm_ws_set (ad := ad) (cA := cA) (hp := hp) (hp' := (mm_up hp.1 k j x, hp.2)) hl (fun a ha => ⟨mm_up_n ha, rfl⟩)
  rw [← h2]
  show _ = (mm_ws ad cA lay hp).set k (ad k, .inl (cA 0, n, .inl (mm_up hp.1 k j x k)))
  rw [mm_up_s]
theorem mm_set1 {k n j : Nat} {x : Int32} (hl : lay[k]? = some (.inl (1, n))) : (mm_ws ad cA lay hp).set k (ad k, .inl (cA 1, n, .inl (upd (hp.1 k) j x))) = mm_ws ad cA lay (mm_up hp.1 k j x, hp.2) := by
  have h2 := mm_ws_set (ad := ad) (cA := cA) (hp := hp) (hp' := (mm_up hp.1 k j x, hp.2)) hl (fun a ha => ⟨mm_up_n ha, rfl⟩)
  rw [← h2]
  show _ = (mm_ws ad cA lay hp).set k (ad k, .inl (cA 1, n, .inl (mm_up hp.1 k j x k)))
  rw [mm_up_s]
theorem mm_set2 {k n j : Nat} {x : Int64} (hl : lay[k]? = some (.inl (2, n))) : (mm_ws ad cA lay hp).set k (ad k, .inl (cA 2, n, .inr (.inl (vp_updL (hp.2 k) j x)))) = mm_ws ad cA lay (hp.1, mm_upL hp.2 k j x) := by
  have h2 := mm_ws_set (ad := ad) (cA := cA) (hp := hp) (hp' := (hp.1, mm_upL hp.2 k j x)) hl (fun a ha => ⟨rfl, mm_upL_n ha⟩)
  rw [← h2]
  show _ = (mm_ws ad cA lay hp).set k (ad k, .inl (cA 2, n, .inr (.inl (mm_upL hp.2 k j x k))))
  rw [mm_upL_s]
/-- the script -/
def mm_scOk (ad : Nat → Nat) (A : Nat → Prop) (H0 : Heap) (s : State) (sc : Option (Nat × (Nat → Int32))) : Prop := ∀ q, sc = some q → va_X (ad 1000) q.1 q.2 s H0 ∧ ad 1000 < H0.size ∧ ¬ A (ad 1000)
theorem mm_ald_ok (hx : p.tables.exec = Jvm.exec) (hb : c.code = cc) (hK : va_K D cl (mm_tys cA) s) (hw : mm_Wd D cl ad cA lay A H0 hp H locs) {sc : Option (Nat × (Nat → Int32))} (hsc : mm_scOk ad A H0 s sc) {t : Nat} {go : List Value → Prop}
    (h : mm_ald lay sc hp t S go) (hd : (t = 0 ∧ decode cc pc = .ok (.iaload, 1)) ∨ (t = 1 ∧ decode cc pc = .ok (.baload, 1)) ∨ (t = 2 ∧ decode cc pc = .ok (.laload, 1))) (kk : ∀ S', go S' → W p l e R s m args below meth c H locs cells slots Q (F0 m (pc + 1) ls (S'.map (mm_V ad)))) :
    W p l e R s m args below meth c H locs cells slots Q (F0 m pc ls (S.map (mm_V ad))) := by
  unfold mm_ald at h
  split at h
  · rename_i i k r
    split at h
    · rename_i t' n hl
      have hq9 := mm_condP h
      clear h
      obtain ⟨h1, hin, h⟩ := hq9
      cases Nat.eq_of_beq_eq_true h1
      have he := mm_ws_at (ad := ad) (cA := cA) (hp := hp) hl
      rcases hd with ⟨rfl, hd⟩ | ⟨rfl, hd⟩ | ⟨rfl, hd⟩
      · exact va_iald hx hb hK hw.1 k 0 he rfl hin hd (kk _ h)
      · exact va_zald hx hb hK hw.1 k 1 he rfl hin hd (kk _ h)
      · exact va_lald hx hb hK hw.1 k 2 he rfl hin hd (kk _ h)
    · split at h
      · have hq9 := mm_condP h
        clear h
        obtain ⟨h1, hin, h⟩ := hq9
        simp only [Bool.and_eq_true] at h1
        cases Nat.eq_of_beq_eq_true h1.1
        cases Nat.eq_of_beq_eq_true h1.2
        obtain ⟨hX, hbl, hbA⟩ := hsc _ rfl
        rcases hd with ⟨-, hd⟩ | ⟨h9, -⟩ | ⟨h9, -⟩
        · exact va_sld hx hb hX hbl hbA hw.2.2 hin hd (kk _ h)
        · cases h9
        · cases h9
      · exact h.elim
    · exact h.elim
  · exact h.elim
theorem mm_alen_ok (hx : p.tables.exec = Jvm.exec) (hb : c.code = cc) (hK : va_K D cl (mm_tys cA) s) (hw : mm_Wd D cl ad cA lay A H0 hp H locs) {sc : Option (Nat × (Nat → Int32))} (hsc : mm_scOk ad A H0 s sc) {go : List Value → Prop}
    (h : mm_alen lay sc S go) (hd : decode cc pc = .ok (.arraylength, 1)) (kk : ∀ S', go S' → W p l e R s m args below meth c H locs cells slots Q (F0 m (pc + 1) ls (S'.map (mm_V ad)))) :
    W p l e R s m args below meth c H locs cells slots Q (F0 m pc ls (S.map (mm_V ad))) := by
  unfold mm_alen at h
  split at h
  · rename_i k r
    split at h
    · rename_i t n hl
      have he := mm_ws_at (ad := ad) (cA := cA) (hp := hp) hl
      match t, he with
      | 0, he => exact va_alen hx hb hK hw.1 k 0 he rfl rfl hd (kk _ h)
      | 1, he => exact va_alen hx hb hK hw.1 k 1 he rfl rfl hd (kk _ h)
      | t + 2, he => exact va_alen hx hb hK hw.1 k 2 he rfl rfl hd (kk _ h)
    · split at h
      · have hq9 := mm_condP h
        clear h
        obtain ⟨h1, h⟩ := hq9
        cases Nat.eq_of_beq_eq_true h1
        obtain ⟨hX, hbl, hbA⟩ := hsc _ rfl
        exact va_slen hx hb hX hbl hbA hw.2.2 hd (kk _ h)
      · exact h.elim
    · exact h.elim
  · exact h.elim
theorem mm_ast_ok (hx : p.tables.exec = Jvm.exec) (hb : c.code = cc) (hK : va_K D cl (mm_tys cA) s) (hw : mm_Wd D cl ad cA lay A H0 hp H locs) {t : Nat} {go : List Value → mm_Hp → Prop}
    (h : mm_ast lay hp t S go) (hd : (t = 0 ∧ decode cc pc = .ok (.iastore, 1)) ∨ (t = 1 ∧ decode cc pc = .ok (.bastore, 1)) ∨ (t = 2 ∧ decode cc pc = .ok (.lastore, 1)))
    (kk : ∀ S' hp' H' locs', go S' hp' → mm_Wd D cl ad cA lay A H0 hp' H' locs' → W p l e R s m args below meth c H' locs' cells slots Q (F0 m (pc + 1) ls (S'.map (mm_V ad)))) :
    W p l e R s m args below meth c H locs cells slots Q (F0 m pc ls (S.map (mm_V ad))) := by
  unfold mm_ast at h
  split at h
  · rename_i x i k r
    split at h
    · rename_i t' n hl
      have hq9 := mm_condP h
      clear h
      obtain ⟨h1, hin, h⟩ := hq9
      simp only [Bool.and_eq_true] at h1
      cases Nat.eq_of_beq_eq_true h1.1
      have he := mm_ws_at (ad := ad) (cA := cA) (hp := hp) hl
      rcases hd with ⟨rfl, hd⟩ | ⟨rfl, hd⟩ | ⟨rfl, hd⟩
      · refine va_iast hx hb hK hw.1 hw.2.1 hw.2.2 k 0 he rfl hin hd (fun H1 locs1 hP1 hD1 hS1 => ?_)
        rw [mm_set0 hl] at hP1 hD1
        exact kk _ _ _ _ h ⟨hP1, hD1, hS1⟩
      · refine va_zast hx hb hK hw.1 hw.2.1 hw.2.2 k 1 he rfl hin hd (fun H1 locs1 hP1 hD1 hS1 => ?_)
        rw [mm_set1 hl] at hP1 hD1
        exact kk _ _ _ _ h ⟨hP1, hD1, hS1⟩
      · exact absurd h1.2 (by decide)
    · exact h.elim
  · rename_i x i k r
    split at h
    · rename_i t' n hl
      have hq9 := mm_condP h
      clear h
      obtain ⟨h1, hin, h⟩ := hq9
      simp only [Bool.and_eq_true] at h1
      cases Nat.eq_of_beq_eq_true h1.1
      have he := mm_ws_at (ad := ad) (cA := cA) (hp := hp) hl
      rcases hd with ⟨rfl, hd⟩ | ⟨rfl, hd⟩ | ⟨rfl, hd⟩
      · exact absurd h1.2 (by decide)
      · exact absurd h1.2 (by decide)
      · refine va_last hx hb hK hw.1 hw.2.1 hw.2.2 k 2 he rfl hin hd (fun H1 locs1 hP1 hD1 hS1 => ?_)
        rw [mm_set2 hl] at hP1 hD1
        exact kk _ _ _ _ h ⟨hP1, hD1, hS1⟩
    · exact h.elim
  · exact h.elim
end MMB
end
section
/-! ===== the small machine is sound ===== -/
def mm_kind (e : Nat) : String := match e with
  | 0 => "java/lang/IndexOutOfBoundsException"
  | 1 => "java/lang/IllegalArgumentException"
  | _ => "java/lang/IllegalStateException"
/-- the thrown object -/
def mm_Ex (s : State) (e : Nat) (H : Heap) (q : Addr) (ce : Cell) : Prop := H[q]? = some ce ∧ ce.vm = .none ∧ s.vm.findClass (mm_kind e) = some ce.cls
section MMC
variable (p : Program) (l : Launch) (e : Env) (R : Room) (s : State) (m : MethodId) (args : Array Value) (below : List Frame) (meth : Method) (c : Code)
variable (cc : ByteArray) (nL : Nat) (ad : Nat → Nat) (D : va_G) (cl : List vw_C) (cA : Nat → ClassId) (lay : List mm_Lay) (A : Nat → Prop) (H0 : Heap)
/-- the cells that a call makes -/
def mm_u (ct : mm_Ct) (as : List Value) (hp : mm_Hp) : Nat := match ct.2.2.2.2.1 as hp with
  | 0 => ct.2.2.1
  | _ + 1 => 1
/-- a call is sound here -/
def mm_callOk (st : Bool) (k : Nat) (ct : mm_Ct) : Prop := ∀ (pc : Nat) (ls : Array Slot) (as rest : List Value) (hp : mm_Hp) (H : Heap) (locs : List Loc) (cells slots : Nat) (Q : State → Prop),
  decode cc pc = .ok (cond st (.invokestatic k) (.invokevirtual k), 3) → ls.size = nL → rest.length ≤ 4 → mm_Wd D cl ad cA lay A H0 hp H locs → cells + mm_u ct as hp ≤ R.cells → slots + mm_u ct as hp * 6 ≤ R.slots → as.length = ct.1 → ct.2.2.2.1 as hp →
  (ct.2.2.2.2.1 as hp = 0 → ∀ H' locs', mm_Wd D cl ad cA lay A H0 (ct.2.2.2.2.2.2 as hp) H' locs' → W p l e R s m args below meth c H' locs' (cells + mm_u ct as hp) (slots + mm_u ct as hp * 6) Q (F0 m (pc + 3) ls ((cond (Nat.beq ct.2.1 0) rest (.int (ct.2.2.2.2.2.1 as hp) :: rest)).map (mm_V ad)))) →
  (∀ x, ct.2.2.2.2.1 as hp = x + 1 → ∀ H' locs' q ce, mm_Wd D cl ad cA lay A H0 (ct.2.2.2.2.2.2 as hp) H' locs' → mm_Ex s x H' q ce → vx_W p l e R s m args below meth c H' locs' (cells + mm_u ct as hp) (slots + mm_u ct as hp * 6) Q (F0 m pc ls (rest.map (mm_V ad))) q) →
  W p l e R s m args below meth c H locs cells slots Q (F0 m pc ls ((as.reverse ++ rest).map (mm_V ad)))
def mm_thrOk (thr : Nat → Nat → Nat → Option Nat) (Tx : Nat → mm_Hp → Prop) (kb c0 s0 : Nat) (Q : State → Prop) : Prop := ∀ (k t d x pc : Nat) (ls : Array Slot) (hp : mm_Hp) (H : Heap) (locs : List Loc) (b : Nat), thr k t d = some x →
  decode cc pc = .ok (.new k, 3) → decode cc (pc + 3) = .ok (.dup, 1) → decode cc (pc + 4) = .ok (.ldc t, 2) → decode cc (pc + 6) = .ok (.invokespecial d, 3) → decode cc (pc + 9) = .ok (.athrow, 1) → ls.size = nL → Tx x hp → mm_Wd D cl ad cA lay A H0 hp H locs → b ≤ kb →
  W p l e R s m args below meth c H locs (c0 + b) (s0 + b * 6) Q (F0 m pc ls [])
def mm_outOk (hnd : Nat → Nat → Option Nat) (Tx : Nat → mm_Hp → Prop) (kb c0 s0 : Nat) (Q : State → Prop) : Prop := ∀ (x pc : Nat) (ls : Array Slot) (st : List Value) (hp : mm_Hp) (H : Heap) (locs : List Loc) (b : Nat) (q : Addr) (ce : Cell), hnd pc x = none → Tx x hp → mm_Wd D cl ad cA lay A H0 hp H locs → mm_Ex s x H q ce → b ≤ kb →
  vx_W p l e R s m args below meth c H locs (c0 + b + 1) (s0 + b * 6 + 6) Q (F0 m pc ls st) q
def mm_hndOk (hnd : Nat → Nat → Option Nat) (Q : State → Prop) : Prop := ∀ (x pc h : Nat) (ls : Array Slot) (st : List Value) (H : Heap) (locs : List Loc) (cells slots : Nat) (q : Addr) (ce : Cell), hnd pc x = some h → mm_Ex s x H q ce →
  W p l e R s m args below meth c H locs cells slots Q (F0 m h ls [.ref q]) → vx_W p l e R s m args below meth c H locs cells slots Q (F0 m pc ls st) q
def mm_retOk (Rt : Option Int32 → mm_Hp → Prop) (kb c0 s0 : Nat) (Q : State → Prop) : Prop := (∀ (x : Int32) (pc : Nat) (ls : Array Slot) (hp : mm_Hp) (H : Heap) (locs : List Loc) (b : Nat), decode cc pc = .ok (.ireturn, 1) → Rt (some x) hp → mm_Wd D cl ad cA lay A H0 hp H locs → b ≤ kb → W p l e R s m args below meth c H locs (c0 + b) (s0 + b * 6) Q (F0 m pc ls [.int x])) ∧
  ∀ (pc : Nat) (ls : Array Slot) (hp : mm_Hp) (H : Heap) (locs : List Loc) (b : Nat), decode cc pc = .ok (.return_, 1) → Rt none hp → mm_Wd D cl ad cA lay A H0 hp H locs → b ≤ kb → W p l e R s m args below meth c H locs (c0 + b) (s0 + b * 6) Q (F0 m pc ls [])
def mm_cutOk (K : Nat → Option (mm_Loc → mm_Hp → Prop)) (kb c0 s0 : Nat) (Q : State → Prop) : Prop := ∀ (pc : Nat) (P : mm_Loc → mm_Hp → Prop) (L : mm_Loc) (ls : Array Slot) (hp : mm_Hp) (H : Heap) (locs : List Loc), K pc = some P → P L hp → L.length = nL → mm_Wd D cl ad cA lay A H0 hp H locs → mm_Ls ad ls L →
  W p l e R s m args below meth c H locs (c0 + kb) (s0 + kb * 6) Q (F0 m pc ls [])
end MMC
theorem mm_Ls.puto {ad : Nat → Nat} {ls ls' : Array Slot} {L : mm_Loc} {k : Nat} {v : Value} (h : mm_Ls ad ls L)
    (h' : lv_has ls' L.length ((k, v) :: (mm_ll ad L).filter (fun q => !(q.1 == k) && !(q.1 + 1 == k && q.2.category == 2)))) : mm_Ls ad ls' (L.set k none) := by
  refine ⟨by rw [List.length_set]; exact h'.1, h'.2.1, fun i w hw => ?_⟩
  by_cases hi : i = k
  · subst hi
    rw [List.getElem?_set] at hw
    simp at hw
  · rw [List.getElem?_set_ne (fun q => hi q.symm)] at hw
    obtain ⟨h1, -⟩ := h.2.2 i w hw
    refine ⟨h1, h'.2.2 (i, mm_V ad w) (List.mem_cons_of_mem _ (List.mem_filter.mpr ⟨mm_ll_in hw, ?_⟩))⟩
    have h2 : (mm_V ad w).category = 1 := mm_c1V h1
    simp [hi, h2]
section MMD
variable {p : Program} {l : Launch} {e : Env} {R : Room} {s : State} {m : MethodId} {args : Array Value} {below : List Frame} {meth : Method} {c : Code} {Q : State → Prop}
variable {cc : ByteArray} {ad : Nat → Nat} {D : va_G} {cl : List vw_C} {cA : Nat → ClassId} {A : Nat → Prop} {H0 : Heap} {own : String} {Ts : List Jvm.Cond} {X : mm_Cx} {B : mm_As} {kb c0 s0 nL : Nat}
/-- from here, in any state that hp is the picture of, the machine comes to Q -/
def mm_Sd (p : Program) (l : Launch) (e : Env) (R : Room) (s : State) (m : MethodId) (args : Array Value) (below : List Frame) (meth : Method) (c : Code) (Q : State → Prop) (ad : Nat → Nat) (D : va_G) (cl : List vw_C) (cA : Nat → ClassId) (A : Nat → Prop) (H0 : Heap) (tab : mm_Tab) (lay : List mm_Lay) (kb c0 s0 nL : Nat) (go : mm_Go) : Prop :=
  ∀ (rem : mm_Tab) (L : mm_Loc) (S : List Value) (hp : mm_Hp) (b : Nat), go rem L S hp b → rem <:+ tab → L.length = nL → b ≤ kb → ∀ (H : Heap) (locs : List Loc) (ls : Array Slot), mm_Wd D cl ad cA lay A H0 hp H locs → mm_Ls ad ls L →
    W p l e R s m args below meth c H locs (c0 + b) (s0 + b * 6) Q (F0 m (mm_pc rem) ls (S.map (mm_V ad)))
theorem mm_if_ok {H : Heap} {locs : List Loc} {cells slots : Nat} {pc tgt : Nat} {ls : Array Slot} {r : List Value} {cd : ClassFile.Cond} {off : Int} {x : Int32} {PA PB : Prop} (hx : p.tables.exec = Jvm.exec) (hb : c.code = cc) (h : mm_br cd x 0 PA PB) (hd : decode cc pc = .ok (.ifCond cd off, 3)) (ht : (pc : Int) + off = (tgt : Int))
    (kt : PA → W p l e R s m args below meth c H locs cells slots Q (F0 m tgt ls r)) (kf : PB → W p l e R s m args below meth c H locs cells slots Q (F0 m (pc + 3) ls r)) : W p l e R s m args below meth c H locs cells slots Q (F0 m pc ls (.int x :: r)) := by
  cases cd with
  | eq => exact lv_if_eq hx hb hd ht (fun q => kt (h.1 q)) (fun q => kf (h.2 q))
  | ne => exact lv_if_ne hx hb hd ht (fun q => kt (h.1 q)) (fun q => kf (h.2 q))
  | lt => exact lv_if_lt hx hb hd ht (fun q => kt (h.1 q)) (fun q => kf (h.2 q))
  | ge => exact lv_if_ge hx hb hd ht (fun q => kt (h.1 q)) (fun q => kf (h.2 q))
  | gt => exact lv_if_gt hx hb hd ht (fun q => kt (h.1 q)) (fun q => kf (h.2 q))
  | le => exact lv_if_le hx hb hd ht (fun q => kt (h.1 q)) (fun q => kf (h.2 q))
theorem mm_icmp_ok {H : Heap} {locs : List Loc} {cells slots : Nat} {pc tgt : Nat} {ls : Array Slot} {r : List Value} {cd : ClassFile.Cond} {off : Int} {x y : Int32} {PA PB : Prop} (hx : p.tables.exec = Jvm.exec) (hb : c.code = cc) (h : mm_br cd x y PA PB) (hd : decode cc pc = .ok (.if_icmp cd off, 3)) (ht : (pc : Int) + off = (tgt : Int))
    (kt : PA → W p l e R s m args below meth c H locs cells slots Q (F0 m tgt ls r)) (kf : PB → W p l e R s m args below meth c H locs cells slots Q (F0 m (pc + 3) ls r)) : W p l e R s m args below meth c H locs cells slots Q (F0 m pc ls (.int y :: .int x :: r)) := by
  cases cd with
  | eq => exact lv_icmp_eq hx hb hd ht (fun q => kt (h.1 q)) (fun q => kf (h.2 q))
  | ne => exact lv_icmp_ne hx hb hd ht (fun q => kt (h.1 q)) (fun q => kf (h.2 q))
  | lt => exact lv_icmp_lt hx hb hd ht (fun q => kt (h.1 q)) (fun q => kf (h.2 q))
  | ge => exact lv_icmp_ge hx hb hd ht (fun q => kt (h.1 q)) (fun q => kf (h.2 q))
  | gt => exact lv_icmp_gt hx hb hd ht (fun q => kt (h.1 q)) (fun q => kf (h.2 q))
  | le => exact lv_icmp_le hx hb hd ht (fun q => kt (h.1 q)) (fun q => kf (h.2 q))
theorem mm_tsw_at {go : Int → Prop} {x : Int} : ∀ (os : List Int) (k : Int), mm_tsw go x os k → ∀ o, os[(x - k).toNat]? = some o → k ≤ x → go o
  | [], _, _, _, h, _ => by simp at h
  | o :: os, k, h, o', ho, hk => by
    by_cases hx : x = k
    · subst hx
      simp at ho
      subst ho
      exact h.1 rfl
    · refine mm_tsw_at os (k + 1) h.2 o' ?_ (by omega)
      have h2 : (x - k).toNat = (x - (k + 1)).toNat + 1 := by omega
      rw [h2] at ho
      simpa using ho
theorem mm_lsw_at {go : Int → Prop} {d x : Int} : ∀ (ps : List (Int × Int)), mm_lsw go d x ps → go (Op.lookupswitch.offset ps d x)
  | [], h => h
  | (k, o) :: r, h => by
    rw [Op.lookupswitch.offset_cons]
    by_cases hx : k = x
    · rw [if_pos hx]; exact h.1 hx.symm
    · rw [if_neg hx]; exact mm_lsw_at r (h.2 (fun q => hx q.symm))
theorem mm_ld_len {L L' : mm_Loc} {k : Nat} {t : Bool} {S S' : List Value} (h : mm_ld L k t S = some (L', S')) : L'.length = L.length := by rw [(mm_ld_s h).1]
theorem mm_st_len {L L' : mm_Loc} {k : Nat} {t : Bool} {S S' : List Value} (h : mm_st L k t S = some (L', S')) : L'.length = L.length := by
  obtain ⟨-, v, -, rfl, -⟩ := mm_st_s h
  exact List.length_set
theorem mm_loc_len {i : Instr} {L L' : mm_Loc} {S S' : List Value} (h : mm_loc i L S = some (L', S')) : L'.length = L.length := by
  unfold mm_loc at h
  split at h
  · exact mm_ld_len h
  · exact mm_ld_len h
  · exact mm_ld_len h
  · exact mm_ld_len h
  · exact mm_st_len h
  · exact mm_st_len h
  · exact mm_st_len h
  · exact mm_st_len h
  · unfold mm_inc at h
    split at h
    · cases h; exact List.length_set
    · cases h
  · cases h
theorem mm_after (htab : mm_tok cc X.1) {go : mm_Go} (hgo0 : ∀ L S hp b, ¬ go [] L S hp b) (hgo : mm_Sd p l e R s m args below meth c Q ad D cl cA A H0 X.1 X.2.1 kb c0 s0 nL go) {q : Nat × Instr × Nat} {nx : mm_Tab} (hsuf : (q :: nx) <:+ X.1) :
    ∀ (L' : mm_Loc) (S' : List Value) (hp' : mm_Hp) (b' : Nat), go nx L' S' hp' b' → L'.length = nL → b' ≤ kb → ∀ (H' : Heap) (locs' : List Loc) (ls' : Array Slot), mm_Wd D cl ad cA X.2.1 A H0 hp' H' locs' → mm_Ls ad ls' L' →
      W p l e R s m args below meth c H' locs' (c0 + b') (s0 + b' * 6) Q (F0 m (q.1 + q.2.2) ls' (S'.map (mm_V ad))) := by
  intro L' S' hp' b' hg hL' hb' H' locs' ls' a1 a2
  have hne : nx ≠ [] := fun q => by rw [q] at hg; exact hgo0 _ _ _ _ hg
  rw [← mm_next htab hsuf hne]
  exact hgo nx L' S' hp' b' hg ((List.suffix_cons _ _).trans hsuf) hL' hb' H' locs' ls' a1 a2
theorem mm_thrown_ok (hx : p.tables.exec = Jvm.exec) (hb : c.code = cc) (htab : mm_tok cc X.1) (hout : mm_outOk p l e R s m args below meth c ad D cl cA X.2.1 A H0 X.2.2.2.2.2.2.2.1 B.2.2.1 kb c0 s0 Q)
    (hhnd : mm_hndOk p l e R s m args below meth c X.2.2.2.2.2.2.2.1 Q) {go : mm_Go} (hgo0 : ∀ L S hp b, ¬ go [] L S hp b) (hgo : mm_Sd p l e R s m args below meth c Q ad D cl cA A H0 X.1 X.2.1 kb c0 s0 nL go)
    {pc x b : Nat} {L : mm_Loc} {hp : mm_Hp} (hkb : B.2.2.2 = kb) (hbk : b ≤ kb) (hL : L.length = nL) (h : mm_thrown X B go pc L x hp b) {H : Heap} {locs : List Loc} {ls : Array Slot} {st : List Value} {q : Addr} {ce : Cell} (hw : mm_Wd D cl ad cA X.2.1 A H0 hp H locs) (hls : mm_Ls ad ls L) (hex : mm_Ex s x H q ce) :
    vx_W p l e R s m args below meth c H locs (c0 + b + 1) (s0 + b * 6 + 6) Q (F0 m pc ls st) q := by
  unfold mm_thrown at h
  split at h
  · rename_i hn
    exact hout x pc ls st hp H locs b q ce hn h hw hex hbk
  · rename_i hh hn
    have hd9 : ∀ (y : Nat × Instr × Nat) (nx : mm_Tab), X.1.dropWhile (fun q => !(Nat.beq q.1 hh)) = y :: nx → y.1 = hh ∧ (y :: nx) <:+ X.1 := by
      intro y nx hy
      have h1 := List.head?_dropWhile_not (fun q : Nat × Instr × Nat => !(Nat.beq q.1 hh)) X.1
      rw [hy] at h1
      simp at h1
      exact ⟨h1, by rw [← hy]; exact List.dropWhile_suffix _⟩
    split at h
    · rename_i p0 k z0 nx hy
      obtain ⟨h1, h2⟩ := hd9 _ _ hy
      dsimp only at h1
      subst h1
      obtain ⟨h3, h4⟩ := mm_condP h
      have hq := htab.1 _ (h2.subset List.mem_cons_self)
      have e0 : z0 = 1 := mm_z hq.2
      subst e0
      simp only [Bool.and_eq_true] at h3
      have hk : (k : Nat) < L.length := by simpa using h3.1
      have hb1 : b + 1 ≤ kb := by rw [← hkb]; exact Nat.le_of_ble_eq_true h3.2
      refine hhnd x pc _ ls st H locs _ _ q ce hn hex ?_
      exact lv_astore_n hx hb hq.1 rfl hls.has hk rfl (fun ls' h' => by have K9 := mm_after htab hgo0 hgo h2 _ [] hp (b + 1) h4 (by rw [List.length_set]; exact hL) hb1 H locs ls' hw (hls.puto h'); rw [show c0 + b + 1 = c0 + (b + 1) by omega, show s0 + b * 6 + 6 = s0 + (b + 1) * 6 by omega]; exact K9)
    · rename_i p0 k z0 nx hy
      obtain ⟨h1, h2⟩ := hd9 _ _ hy
      dsimp only at h1
      subst h1
      obtain ⟨h3, h4⟩ := mm_condP h
      have hq := htab.1 _ (h2.subset List.mem_cons_self)
      have e0 : z0 = 2 := mm_z hq.2
      subst e0
      simp only [Bool.and_eq_true] at h3
      have hk : k < L.length := by simpa using h3.1
      have hb1 : b + 1 ≤ kb := by rw [← hkb]; exact Nat.le_of_ble_eq_true h3.2
      refine hhnd x pc _ ls st H locs _ _ q ce hn hex ?_
      exact lv_astore hx hb hq.1 hls.has hk rfl (fun ls' h' => by have K9 := mm_after htab hgo0 hgo h2 _ [] hp (b + 1) h4 (by rw [List.length_set]; exact hL) hb1 H locs ls' hw (hls.puto h'); rw [show c0 + b + 1 = c0 + (b + 1) by omega, show s0 + b * 6 + 6 = s0 + (b + 1) * 6 by omega]; exact K9)
    · exact h.elim
theorem mm_call_ok (hx : p.tables.exec = Jvm.exec) (hb : c.code = cc) (htab : mm_tok cc X.1) {st : Bool} {k : Nat} (hkb : B.2.2.2 = kb) (hRc : c0 + kb ≤ R.cells) (hRs : s0 + kb * 6 ≤ R.slots) (hRx : ∀ x hp, B.2.2.1 x hp → c0 + kb + 1 ≤ R.cells ∧ s0 + kb * 6 + 6 ≤ R.slots)
    (hcal : ∀ (ct : mm_Ct), X.2.2.2.2.2.1 st k = some ct → mm_callOk p l e R s m args below meth c cc nL ad D cl cA X.2.1 A H0 st k ct) (hout : mm_outOk p l e R s m args below meth c ad D cl cA X.2.1 A H0 X.2.2.2.2.2.2.2.1 B.2.2.1 kb c0 s0 Q)
    (hhnd : mm_hndOk p l e R s m args below meth c X.2.2.2.2.2.2.2.1 Q) {go : mm_Go} (hgo0 : ∀ L S hp b, ¬ go [] L S hp b) (hgo : mm_Sd p l e R s m args below meth c Q ad D cl cA A H0 X.1 X.2.1 kb c0 s0 nL go)
    {pc b : Nat} {L : mm_Loc} {S : List Value} {hp : mm_Hp} {nx : mm_Tab} {H : Heap} {locs : List Loc} {ls : Array Slot} (hd : decode cc pc = .ok (cond st (.invokestatic k) (.invokevirtual k), 3)) (hL : L.length = nL) (hbk : b ≤ kb) (hw : mm_Wd D cl ad cA X.2.1 A H0 hp H locs) (hls : mm_Ls ad ls L)
    (h : mm_call (X.2.2.2.2.2.1 st k) B.2.2.2 S hp b (fun r h b' => go nx L r h b') (fun x h => mm_thrown X B go pc L x h b))
    (hnx : ∀ (L' : mm_Loc) (S' : List Value) (hp' : mm_Hp) (b' : Nat), go nx L' S' hp' b' → L'.length = nL → b' ≤ kb → ∀ (H' : Heap) (locs' : List Loc) (ls' : Array Slot), mm_Wd D cl ad cA X.2.1 A H0 hp' H' locs' → mm_Ls ad ls' L' →
      W p l e R s m args below meth c H' locs' (c0 + b') (s0 + b' * 6) Q (F0 m (pc + 3) ls' (S'.map (mm_V ad)))) :
    W p l e R s m args below meth c H locs (c0 + b) (s0 + b * 6) Q (F0 m pc ls (S.map (mm_V ad))) := by
  cases hct : X.2.2.2.2.2.1 st k with
  | none => rw [hct] at h; exact h.elim
  | some ct =>
    rw [hct] at h
    obtain ⟨n, r, t, pre, tx, rv, sg⟩ := ct
    unfold mm_call at h
    dsimp only at h
    split at h
    · rename_i as rest hsplit
      obtain ⟨q1, q2, q3⟩ := mm_split_s _ _ _ _ _ hsplit
      obtain ⟨h1, hpre, hz0, hth⟩ := mm_condP h
      simp only [Bool.and_eq_true] at h1
      have a2 : rest.length ≤ 4 := Nat.le_of_ble_eq_true h1.1
      have a3 : b + t ≤ kb := by rw [← hkb]; exact Nat.le_of_ble_eq_true h1.2
      have hsp : S = as.reverse ++ rest := by rw [q2]; rfl
      have hu0 : tx as hp = 0 → mm_u (n, r, t, pre, tx, rv, sg) as hp = t := fun q => by
        show (match tx as hp with | 0 => t | _ + 1 => 1) = t
        rw [q]
      have hu1 : ∀ x, tx as hp = x + 1 → mm_u (n, r, t, pre, tx, rv, sg) as hp = 1 := fun x q => by
        show (match tx as hp with | 0 => t | _ + 1 => 1) = 1
        rw [q]
      have hroom : c0 + b + mm_u (n, r, t, pre, tx, rv, sg) as hp ≤ R.cells ∧ s0 + b * 6 + mm_u (n, r, t, pre, tx, rv, sg) as hp * 6 ≤ R.slots := by
        cases hq : tx as hp with
        | zero => rw [hu0 hq]; exact ⟨by omega, by omega⟩
        | succ x =>
          rw [hu1 x hq]
          have h9 : mm_thrown X B go pc L x (sg as hp) b := hth x hq
          unfold mm_thrown at h9
          split at h9
          · have := hRx x _ h9
            exact ⟨by omega, by omega⟩
          · split at h9
            · obtain ⟨h3, -⟩ := mm_condP h9
              simp only [Bool.and_eq_true] at h3
              have : b + 1 ≤ kb := by rw [← hkb]; exact Nat.le_of_ble_eq_true h3.2
              exact ⟨by omega, by omega⟩
            · obtain ⟨h3, -⟩ := mm_condP h9
              simp only [Bool.and_eq_true] at h3
              have : b + 1 ≤ kb := by rw [← hkb]; exact Nat.le_of_ble_eq_true h3.2
              exact ⟨by omega, by omega⟩
            · exact h9.elim
      have K := hcal _ hct pc ls as rest hp H locs (c0 + b) (s0 + b * 6) Q hd (hls.1.trans hL) a2 hw hroom.1 hroom.2 q3 hpre
        (fun h0 H' locs' hw' => by
          have h8 : go nx L (cond (Nat.beq r 0) rest (.int (rv as hp) :: rest)) (sg as hp) (b + t) := by
            have h7 := hz0 h0
            cases hr : Nat.beq r 0 with
            | true => rw [hr] at h7; exact h7
            | false => rw [hr] at h7; exact h7
          have K9 := hnx L _ _ (b + t) h8 hL a3 H' locs' ls hw' hls
          rw [hu0 h0, show c0 + b + t = c0 + (b + t) by omega, show s0 + b * 6 + t * 6 = s0 + (b + t) * 6 by omega]
          exact K9)
        (fun x hx' H' locs' q ce hw' hex => by
          rw [hu1 x hx']
          exact mm_thrown_ok hx hb htab hout hhnd hgo0 hgo hkb hbk hL (hth x hx') hw' hls hex)
      rw [← hsp] at K
      exact K
    · exact h.elim
set_option maxHeartbeats 4000000 in
/-- ONE STEP -/
theorem mm_step_ok (hx : p.tables.exec = Jvm.exec) (hb : c.code = cc) (htab : mm_tok cc X.1) (hts : ∀ w ∈ Ts, w.before args s = true) (hown : s.vm.findClass own = some m.cls) (hK : va_K D cl (mm_tys cA) s)
    (hf : mm_fldOk own cl Ts X.2.2.2.1) (hpf : mm_pflOk own cl Ts X.2.2.2.2.1) (hsc : mm_scOk ad A H0 s X.2.2.1) (hcst : ∀ k v, X.2.2.2.2.2.2.2.2 k = some v → Jvm.Cond.constant own k v ∈ Ts) (hkb : B.2.2.2 = kb) (hRc : c0 + kb ≤ R.cells) (hRs : s0 + kb * 6 ≤ R.slots) (hRx : ∀ x hp, B.2.2.1 x hp → c0 + kb + 1 ≤ R.cells ∧ s0 + kb * 6 + 6 ≤ R.slots)
    (hcal : ∀ (st : Bool) (k : Nat) (ct : mm_Ct), X.2.2.2.2.2.1 st k = some ct → mm_callOk p l e R s m args below meth c cc nL ad D cl cA X.2.1 A H0 st k ct)
    (hthr : mm_thrOk p l e R s m args below meth c cc nL ad D cl cA X.2.1 A H0 X.2.2.2.2.2.2.1 B.2.2.1 kb c0 s0 Q) (hout : mm_outOk p l e R s m args below meth c ad D cl cA X.2.1 A H0 X.2.2.2.2.2.2.2.1 B.2.2.1 kb c0 s0 Q)
    (hhnd : mm_hndOk p l e R s m args below meth c X.2.2.2.2.2.2.2.1 Q) (hret : mm_retOk p l e R s m args below meth c cc ad D cl cA X.2.1 A H0 B.2.1 kb c0 s0 Q) {go : mm_Go} (hgo0 : ∀ L S hp b, ¬ go [] L S hp b)
    (hgo : mm_Sd p l e R s m args below meth c Q ad D cl cA A H0 X.1 X.2.1 kb c0 s0 nL go) : mm_Sd p l e R s m args below meth c Q ad D cl cA A H0 X.1 X.2.1 kb c0 s0 nL (mm_step X B go) := by
  intro rem L S hp b h hsuf hL hbk H locs ls hw hls
  match rem, h, hsuf with
  | [], h, _ => exact h.elim
  | (pc, i, z) :: nx, h, hsuf =>
    have hq := htab.1 _ (hsuf.subset List.mem_cons_self)
    have hd : decode cc pc = .ok (i, z) := hq.1
    have hz : mm_len i z = true := hq.2
    have hsn : nx <:+ X.1 := (List.suffix_cons _ _).trans hsuf
    have hpn : nx ≠ [] → mm_pc nx = pc + z := mm_next htab hsuf
    have hnx : ∀ (L' : mm_Loc) (S' : List Value) (hp' : mm_Hp) (b' : Nat), go nx L' S' hp' b' → L'.length = nL → b' ≤ kb → ∀ (H' : Heap) (locs' : List Loc) (ls' : Array Slot), mm_Wd D cl ad cA X.2.1 A H0 hp' H' locs' → mm_Ls ad ls' L' →
        W p l e R s m args below meth c H' locs' (c0 + b') (s0 + b' * 6) Q (F0 m (pc + z) ls' (S'.map (mm_V ad))) := by
      intro L' S' hp' b' hg hL' hb' H' locs' ls' a1 a2
      have hne : nx ≠ [] := fun q => by rw [q] at hg; exact hgo0 _ _ _ _ hg
      rw [← hpn hne]
      exact hgo nx L' S' hp' b' hg hsn hL' hb' H' locs' ls' a1 a2
    have hjp : ∀ (off : Int) (S' : List Value), go (mm_jump X.1 pc off) L S' hp b → ∃ tgt : Nat, (pc : Int) + off = (tgt : Int) ∧ W p l e R s m args below meth c H locs (c0 + b) (s0 + b * 6) Q (F0 m tgt ls (S'.map (mm_V ad))) := by
      intro off S' hg
      cases hj : mm_jump X.1 pc off with
      | nil => rw [hj] at hg; exact absurd hg (hgo0 _ _ _ _)
      | cons q t =>
        rw [hj] at hg
        exact ⟨q.1, mm_jmp hj, hgo (q :: t) L S' hp b hg (by rw [← hj]; exact mm_jsuf _ _ _) hL hbk H locs ls hw hls⟩
    show W p l e R s m args below meth c H locs (c0 + b) (s0 + b * 6) Q (F0 m pc ls (S.map (mm_V ad)))
    unfold mm_step at h
    dsimp only at h
    cases ha : mm_alu i S with
    | some S' =>
      rw [ha] at h
      exact mm_alu_ok hx hb ha hd hz (hnx L S' hp b h hL hbk H locs ls hw hls)
    | none =>
      rw [ha] at h
      dsimp only at h
      cases hl : mm_loc i L S with
      | some q =>
        obtain ⟨L', S'⟩ := q
        rw [hl] at h
        dsimp only at h
        have hLL : L'.length = nL := by rw [mm_loc_len hl]; exact hL
        exact mm_loc_ok hx hb hls hl hd hz (fun ls' hls' => hnx L' S' hp b h hLL hbk H locs ls' hw hls')
      | none =>
        rw [hl] at h
        dsimp only at h
        clear ha hl
        unfold mm_oth at h
        split at h
        · -- goto
          obtain ⟨tgt, ht, k⟩ := hjp _ _ h
          cases mm_z hz
          exact lv_goto hx hb hd ht k
        · -- ifCond
          cases mm_z hz
          split at h
          · exact h.elim
          · rename_i q t hj
            unfold mm_if at h
            split at h
            · refine mm_if_ok hx hb h hd (mm_jmp hj) (fun h1 => ?_) (fun h1 => hnx L _ hp b h1 hL hbk H locs ls hw hls)
              exact hgo (q :: t) L _ hp b h1 (by rw [← hj]; exact mm_jsuf _ _ _) hL hbk H locs ls hw hls
            · exact h.elim
        · -- if_icmp
          cases mm_z hz
          split at h
          · exact h.elim
          · rename_i q t hj
            unfold mm_icmp at h
            split at h
            · refine mm_icmp_ok hx hb h hd (mm_jmp hj) (fun h1 => ?_) (fun h1 => hnx L _ hp b h1 hL hbk H locs ls hw hls)
              exact hgo (q :: t) L _ hp b h1 (by rw [← hj]; exact mm_jsuf _ _ _) hL hbk H locs ls hw hls
            · exact h.elim
        · -- tableswitch
          rename_i d lo hi offs
          unfold mm_tswS at h
          split at h
          · rename_i x r _
            obtain ⟨hsz, h⟩ := mm_condP h
            simp only [Bool.and_eq_true, decide_eq_true_eq] at hsz
            have hsz2 := Nat.eq_of_beq_eq_true hsz.2
            by_cases hout2 : x.toInt < lo ∨ hi < x.toInt
            · obtain ⟨tgt, ht, k⟩ := hjp _ _ (h.1 hout2)
              exact lv_tableOut hx hb hd hout2 ht k
            · have h1 : ¬ x.toInt < lo := fun q => hout2 (Or.inl q)
              have h2 : ¬ hi < x.toInt := fun q => hout2 (Or.inr q)
              cases ho : offs[(x.toInt - lo).toNat]? with
              | none =>
                have := Array.getElem?_eq_none_iff.mp ho
                omega
              | some o =>
                obtain ⟨tgt, ht, k⟩ := hjp _ _ (mm_tsw_at offs.toList lo h.2 o (by rw [Array.getElem?_toList]; exact ho) (by omega))
                exact lv_tableIn hx hb hd h1 h2 ho ht k
          · exact h.elim
        · -- lookupswitch
          rename_i d ps
          unfold mm_lswS at h
          split at h
          · rename_i x r
            obtain ⟨hp9, h⟩ := mm_condP h
            obtain ⟨tgt, ht, k⟩ := hjp _ _ (mm_lsw_at ps.toList h)
            exact lv_lookup hx hb hd hp9 rfl ht k
          · exact h.elim
        · cases mm_z hz
          exact mm_get_ok hx hb hts hown hK hf hw h hd (fun S' h1 => hnx L S' hp b h1 hL hbk H locs ls hw hls)
        · cases mm_z hz
          exact mm_put_ok hx hb hts hown hK hpf hw h hd (fun S' hp' H' locs' h1 hw' => hnx L S' hp' b h1 hL hbk H' locs' ls hw' hls)
        · cases mm_z hz
          exact mm_ald_ok hx hb hK hw hsc h (Or.inl ⟨rfl, hd⟩) (fun S' h1 => hnx L S' hp b h1 hL hbk H locs ls hw hls)
        · cases mm_z hz
          exact mm_ald_ok hx hb hK hw hsc h (Or.inr (Or.inl ⟨rfl, hd⟩)) (fun S' h1 => hnx L S' hp b h1 hL hbk H locs ls hw hls)
        · cases mm_z hz
          exact mm_ald_ok hx hb hK hw hsc h (Or.inr (Or.inr ⟨rfl, hd⟩)) (fun S' h1 => hnx L S' hp b h1 hL hbk H locs ls hw hls)
        · cases mm_z hz
          exact mm_ast_ok hx hb hK hw h (Or.inl ⟨rfl, hd⟩) (fun S' hp' H' locs' h1 hw' => hnx L S' hp' b h1 hL hbk H' locs' ls hw' hls)
        · cases mm_z hz
          exact mm_ast_ok hx hb hK hw h (Or.inr (Or.inl ⟨rfl, hd⟩)) (fun S' hp' H' locs' h1 hw' => hnx L S' hp' b h1 hL hbk H' locs' ls hw' hls)
        · cases mm_z hz
          exact mm_ast_ok hx hb hK hw h (Or.inr (Or.inr ⟨rfl, hd⟩)) (fun S' hp' H' locs' h1 hw' => hnx L S' hp' b h1 hL hbk H' locs' ls hw' hls)
        · cases mm_z hz
          exact mm_alen_ok hx hb hK hw hsc h hd (fun S' h1 => hnx L S' hp b h1 hL hbk H locs ls hw hls)
        · cases mm_z hz
          unfold mm_div at h
          split at h
          · exact lv_idiv hx hb hd h.1 (hnx L _ hp b h.2 hL hbk H locs ls hw hls)
          · exact h.elim
        · cases mm_z hz
          unfold mm_div at h
          split at h
          · exact lv_irem hx hb hd h.1 (hnx L _ hp b h.2 hL hbk H locs ls hw hls)
          · exact h.elim
        · -- invokevirtual
          cases mm_z hz
          exact mm_call_ok (st := false) hx hb htab hkb hRc hRs hRx (hcal false _) hout hhnd hgo0 hgo hd hL hbk hw hls h hnx
        · -- invokestatic
          cases mm_z hz
          exact mm_call_ok (st := true) hx hb htab hkb hRc hRs hRx (hcal true _) hout hhnd hgo0 hgo hd hL hbk hw hls h hnx
        · -- new
          unfold mm_throw at h
          split at h
          · rename_i p0 k z0 p1 z1 p2 t z2 p3 d z3 p4 z4 rr heq
            cases heq
            split at h
            · rename_i x hx9
              obtain ⟨hS, hT9⟩ := h
              subst hS
              have s1 : ((p1, Instr.dup, z1) :: (p2, .ldc t, z2) :: (p3, .invokespecial d, z3) :: (p4, .athrow, z4) :: rr) <:+ X.1 := hsn
              have s2 : ((p2, Instr.ldc t, z2) :: (p3, .invokespecial d, z3) :: (p4, .athrow, z4) :: rr) <:+ X.1 := (List.suffix_cons _ _).trans s1
              have s3 : ((p3, Instr.invokespecial d, z3) :: (p4, .athrow, z4) :: rr) <:+ X.1 := (List.suffix_cons _ _).trans s2
              have s4 : ((p4, Instr.athrow, z4) :: rr) <:+ X.1 := (List.suffix_cons _ _).trans s3
              have q1 := htab.1 _ (s1.subset List.mem_cons_self)
              have q2 := htab.1 _ (s2.subset List.mem_cons_self)
              have q3 := htab.1 _ (s3.subset List.mem_cons_self)
              have q4 := htab.1 _ (s4.subset List.mem_cons_self)
              have n1 : p1 = pc + z := mm_next htab hsuf (by simp)
              have n2 : p2 = p1 + z1 := mm_next htab s1 (by simp)
              have n3 : p3 = p2 + z2 := mm_next htab s2 (by simp)
              have n4 : p4 = p3 + z3 := mm_next htab s3 (by simp)
              have e0 : z = 3 := mm_z hz
              have e1 : z1 = 1 := mm_z q1.2
              have e2 : z2 = 2 := mm_z q2.2
              have e3 : z3 = 3 := mm_z q3.2
              have e4 : z4 = 1 := mm_z q4.2
              subst e0 e1 e2 e3 e4
              have n1 : p1 = pc + 3 := n1
              have n2 : p2 = pc + 4 := by omega
              have n3 : p3 = pc + 6 := by omega
              have n4 : p4 = pc + 9 := by omega
              subst n1 n2 n3 n4
              exact hthr _ t d x pc ls hp H locs b hx9 hd q1.1 q2.1 q3.1 q4.1 (hls.1.trans hL) hT9 hw hbk
            · exact h.elim
          · exact h.elim
        · cases mm_z hz
          unfold mm_ldc at h
          split at h
          · rename_i v hv
            exact lv_ldc hx hb hown (hts _ (hcst _ v hv)) hd (hnx L _ hp b h hL hbk H locs ls hw hls)
          · exact h.elim
        · cases mm_z hz
          unfold mm_ldc at h
          split at h
          · rename_i v hv
            exact lv_ldcw hx hb hown (hts _ (hcst _ v hv)) hd (hnx L _ hp b h hL hbk H locs ls hw hls)
          · exact h.elim
        · cases mm_z hz
          unfold mm_ret at h
          split at h
          · exact hret.1 _ pc ls hp H locs b hd h hw hbk
          · exact h.elim
        · cases mm_z hz
          unfold mm_vret at h
          split at h
          · exact hret.2 pc ls hp H locs b hd h hw hbk
          · exact h.elim
        · exact h.elim
theorem mm_go_ok (hcut : mm_cutOk p l e R s m args below meth c nL ad D cl cA X.2.1 A H0 B.1 kb c0 s0 Q) {wp : mm_Go} (hwp : mm_Sd p l e R s m args below meth c Q ad D cl cA A H0 X.1 X.2.1 kb c0 s0 nL wp) : mm_Sd p l e R s m args below meth c Q ad D cl cA A H0 X.1 X.2.1 kb c0 s0 nL (mm_go B wp) := by
  intro rem L S hp b h hsuf hL hbk H locs ls hw hls
  match rem, h, hsuf with
  | [], h, _ => exact h.elim
  | q :: nx, h, hsuf =>
    unfold mm_go at h
    dsimp only at h
    split at h
    · rename_i P hP
      obtain ⟨rfl, hPL⟩ := h
      exact W.widen (by omega) (by omega) (hcut q.1 P L ls hp H locs hP hPL hL hw hls)
    · exact hwp (q :: nx) L S hp b h hsuf hL hbk H locs ls hw hls
/-- THE SMALL MACHINE IS SOUND -/
theorem mm_sound (hx : p.tables.exec = Jvm.exec) (hb : c.code = cc) (htab : mm_tok cc X.1) (hts : ∀ w ∈ Ts, w.before args s = true) (hown : s.vm.findClass own = some m.cls) (hK : va_K D cl (mm_tys cA) s)
    (hf : mm_fldOk own cl Ts X.2.2.2.1) (hpf : mm_pflOk own cl Ts X.2.2.2.2.1) (hsc : mm_scOk ad A H0 s X.2.2.1) (hcst : ∀ k v, X.2.2.2.2.2.2.2.2 k = some v → Jvm.Cond.constant own k v ∈ Ts) (hkb : B.2.2.2 = kb) (hRc : c0 + kb ≤ R.cells) (hRs : s0 + kb * 6 ≤ R.slots) (hRx : ∀ x hp, B.2.2.1 x hp → c0 + kb + 1 ≤ R.cells ∧ s0 + kb * 6 + 6 ≤ R.slots)
    (hcal : ∀ (st : Bool) (k : Nat) (ct : mm_Ct), X.2.2.2.2.2.1 st k = some ct → mm_callOk p l e R s m args below meth c cc nL ad D cl cA X.2.1 A H0 st k ct)
    (hthr : mm_thrOk p l e R s m args below meth c cc nL ad D cl cA X.2.1 A H0 X.2.2.2.2.2.2.1 B.2.2.1 kb c0 s0 Q) (hout : mm_outOk p l e R s m args below meth c ad D cl cA X.2.1 A H0 X.2.2.2.2.2.2.2.1 B.2.2.1 kb c0 s0 Q)
    (hhnd : mm_hndOk p l e R s m args below meth c X.2.2.2.2.2.2.2.1 Q) (hret : mm_retOk p l e R s m args below meth c cc ad D cl cA X.2.1 A H0 B.2.1 kb c0 s0 Q)
    (hcut : mm_cutOk p l e R s m args below meth c nL ad D cl cA X.2.1 A H0 B.1 kb c0 s0 Q) : ∀ n, mm_Sd p l e R s m args below meth c Q ad D cl cA A H0 X.1 X.2.1 kb c0 s0 nL (mm_wp X B n)
  | 0 => fun _ _ _ _ _ h => h.elim
  | n + 1 => mm_step_ok hx hb htab hts hown hK hf hpf hsc hcst hkb hRc hRs hRx hcal hthr hout hhnd hret (fun _ _ _ _ h => h) (mm_go_ok hcut (mm_sound hx hb htab hts hown hK hf hpf hsc hcst hkb hRc hRs hRx hcal hthr hout hhnd hret hcut n))
end MMD
end
