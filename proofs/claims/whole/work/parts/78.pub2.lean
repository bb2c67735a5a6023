/-! ===== the reference: order, doubt, wear, row ===== -/
theorem msOk_T {hp : mm_Hp} (h : msOk hp) (v : Int32) : msOk (setT v hp) := by
  refine ⟨mdOk_T h.1 v, ?_⟩
  have e : mrwN (setT v hp) = mrwN hp := by unfold mrwN; rw [setT_25 v hp (by omega)]
  refine ⟨?_, ?_⟩
  · rw [setT_25 v hp (by omega)]; exact h.2.1
  · rw [e, setT_ne v hp (by omega), setT_ne v hp (by omega)]; exact h.2.2
theorem qBf_at (z : Nat → Nat) : ∀ n, ((qBf z n).1 = 99 ∨ ((qBf z n).2 < n ∧ z (qBf z n).2 = (qBf z n).1)) ∧ ∀ d, d < n → (qBf z n).1 ≤ z d
  | 0 => ⟨Or.inl rfl, fun d hd => absurd hd (Nat.not_lt_zero d)⟩
  | n + 1 => by
    have ih := qBf_at z n
    show ((bBf z n (qBf z n)).1 = 99 ∨ ((bBf z n (qBf z n)).2 < n + 1 ∧ z (bBf z n (qBf z n)).2 = (bBf z n (qBf z n)).1)) ∧ ∀ d, d < n + 1 → (bBf z n (qBf z n)).1 ≤ z d
    generalize qBf z n = q at ih
    unfold bBf
    by_cases c : z n < q.1
    · rw [if_pos c]
      refine ⟨Or.inr ⟨Nat.lt_succ_self n, rfl⟩, fun d hd => ?_⟩
      show z n ≤ z d
      by_cases e : d = n
      · rw [e]; exact Nat.le_refl _
      · have := ih.2 d (by omega); omega
    · rw [if_neg c]
      refine ⟨?_, fun d hd => ?_⟩
      · rcases ih.1 with q1 | ⟨q1, q2⟩
        · exact Or.inl q1
        · exact Or.inr ⟨by omega, q2⟩
      · by_cases e : d = n
        · rw [e]; omega
        · exact ih.2 d (by omega)
set_option maxRecDepth 20000 in
/-- where there is a ring, one can be told -/
theorem tell_ok {hp : mm_Hp} (h : rSe hp = 0) : tellP ((hSe hp).1 33) := by
  obtain ⟨d, hd, hw⟩ := (fGood_0 (fSt hp) (hp.1 34)).mp h
  obtain ⟨n, hn⟩ := wq_wk (Nat.le_refl _) hd hw
  have r := rsz_ring hd hn
  have q := qBf_at (rsz (stM (fSt hp))) 32
  rw [hSe_33]
  generalize hS : stM (fSt hp) = S at *
  have h1 := q.2 d hd
  rcases q.1 with q1 | ⟨q1, q2⟩
  · omega
  · have hb : rsz S (qBf (rsz S) 32).2 ≤ 32 := by omega
    have hrl : isRl S (qBf (rsz S) 32).2 (rsz S (qBf (rsz S) 32).2) := by
      apply Classical.byContradiction
      intro no
      have : rsz S (qBf (rsz S) 32).2 = 99 := rsz_none (fun n => by
        cases e : wk S (n + 1) (qBf (rsz S) 32).2 (qBf (rsz S) 32).2
        · rfl
        · exact absurd (rsz_ring q1 e).1 no)
      omega
    rw [q2] at hrl hb
    refine tellP_of (b := (qBf (rsz S) 32).1) (t := (qBf (rsz S) 32).2) (by rw [hS]) hrl.1 hb ?_
    rw [hS]
    exact fun k hk => (rg_ok q1 hrl hb k hk).1
theorem my_ok {hp : mm_Hp} (h : msOk hp) : myOk hp := ⟨h, tell_ok⟩
def iGo2 (pc0 : Nat) (hp : mm_Hp) (g h c : Int32) (pc : Nat) : Option (mm_Loc → mm_Hp → Prop) := cond (Nat.beq pc pc0) (some (fun L hp' => L = [some (.ref 25), some (.int h), some (.int c)] ∧ hp' = setT 0 hp ∧ g = 0)) none
theorem dd_0 {a b : Int32} (c5 : fId a = 0) : gDD a b = 0 := if_pos c5
theorem dd_1 {a b : Int32} (c5 : ¬ fId a = 0) (c12 : fId b = 0) : gDD a b = 0 := by unfold gDD; rw [if_neg c5, if_pos c12]
theorem dd_2 {a b : Int32} (c5 : ¬ fId a = 0) (c12 : ¬ fId b = 0) : gDD a b = 1 := by unfold gDD; rw [if_neg c5, if_neg c12]
theorem gOr_0 {a b c : Int32} (h : gDD a b = 0) : gOr a b c = fGo 0 0 c := by unfold gOr; rw [h, if_pos rfl]
theorem gOr_1 {a b c : Int32} (h : gDD a b = 1) (q : ¬ a / 16 = b / 16) : gOr a b c = fGo 1 0 c := by unfold gOr; rw [h, if_neg (by decide), if_neg q]
theorem gOr_2 {a b c : Int32} (h : gDD a b = 1) (q : a / 16 = b / 16) : gOr a b c = fGo 1 1 c := by unfold gOr; rw [h, if_neg (by decide), if_pos q]
theorem id_in {a : Int32} (h : ¬ fId a = 0) : ∃ k, k < 32 ∧ a = nI k := by
  rcases die_code a with ⟨_, q⟩ | ⟨_, _, k⟩
  · exact absurd q h
  · exact k
theorem dd_in {a b : Int32} (h : ¬ gDD a b = 0) : (∃ k, k < 32 ∧ a = nI k) ∧ ∃ k, k < 32 ∧ b = nI k := by
  obtain ⟨q1, q2⟩ := and_n0 h
  exact ⟨id_in q1, id_in q2⟩
theorem M_M_order_g {E : En} (hE : EOk E) (rs : mm_Hp → Int32) (hs : mm_Hp → mm_Hp) (hMS : Mt E yM_settle cM_settle 3 (some .boolean) 3 (ct0 25 1 msOk (fun _ => 0) rs hs)) (rv : Int32 → Int32 → mm_Hp → Int32) (sg : Int32 → Int32 → mm_Hp → mm_Hp) (r1 : ∀ a b hp, gOr a b 1 = 0 → rv a b hp = if (hs (setT 0 hp)).1 34 (32 * cN a + cN b) = 0 then (if (hs (setT 0 hp)).1 34 (32 * cN b + cN a) = 0 then 0 else 1) else -1) (r0 : ∀ a b hp, ¬ gOr a b 1 = 0 → rv a b hp = 0) (s1 : ∀ a b hp, gOr a b 1 = 0 → sg a b hp = hs (setT 0 hp)) (s0 : ∀ a b hp, ¬ gOr a b 1 = 0 → sg a b hp = setT (gOr a b 1) hp) :
    Mt E yM_order cM_order 3 (some .int) 6 (ct2 25 1 (fun _ _ hp => msOk hp) (fun _ _ _ => 0) rv sg) :=
  met (n := 60) (tab := tM_order) (cals := [(235, sM_isDie), (206, sM_goes), (182, ct0 25 1 msOk (fun _ => 0) rs hs)]) hE flM_ok pfM_ok csM_ok rfl (by decide) kM_order rfl (cf_s 117 (lM_117 (M_M_isDie hE) (by decide) rfl) (cf_v 103 (lM_103 (M_M_goes hE) (by decide) ct3_t rfl) (cf_v 91 (lM_91 hMS (by decide) ct0_t rfl) cf_nil))) (rt_i rfl) ct2_c (Nat.le_of_ble_eq_true rfl) rfl
    (fun as hp pc => iGo2 59 hp (gOr (as2 as).1 (as2 as).2 1) (as2 as).1 (as2 as).2 pc) (fun pc L _ => 0)
    (fun as hp hl h => by
      obtain ⟨a, b, rfl, hP⟩ := ct2_s h
      have fin : ∀ X Y Z : Int32, gOr a b 1 = fGo X Y Z → (¬ (if fGo X Y Z = 0 then (1 : Int32) else 0) = 0 → setT (fGo X Y Z) hp = setT 0 hp ∧ gOr a b 1 = 0) ∧ ((if fGo X Y Z = 0 then (1 : Int32) else 0) = 0 → some (0 : Int32) = some (rv a b hp) ∧ setT (fGo X Y Z) hp = sg a b hp) := fun X Y Z hg => by
        obtain ⟨a1, a2⟩ := go2 hg hp
        refine ⟨fun c => ⟨(a1 c).2, (a1 c).1⟩, fun c => ⟨by rw [r0 a b hp (a2 c).1], ?_⟩⟩
        rw [s0 a b hp (a2 c).1]
        exact (a2 c).2
      refine ⟨trivial, fun r2 => ⟨fun c5 => ⟨trivial, fun r21 => ⟨fun c24 => ⟨⟨rfl, trivial⟩, fun r51 => ⟨fun c54 => ?_, fun c54 => ?_⟩, fun e51 x51 => no0 x51⟩, fun c24 => absurd c5 c24⟩, fun e21 x21 => no0 x21⟩, fun c5 => ⟨trivial, fun r9 => ⟨fun c12 => ⟨trivial, fun r21 => ⟨fun c24 => absurd c24 c5, fun c24 => ⟨trivial, fun r28 => ⟨fun c31 => ⟨⟨rfl, trivial⟩, fun r51 => ⟨fun c54 => ?_, fun c54 => ?_⟩, fun e51 x51 => no0 x51⟩, fun c31 => absurd c12 c31⟩, fun e28 x28 => no0 x28⟩⟩, fun e21 x21 => no0 x21⟩, fun c12 => ⟨trivial, fun r21 => ⟨fun c24 => absurd c24 c5, fun c24 => ⟨trivial, fun r28 => ⟨fun c31 => absurd c31 c12, fun c31 => ⟨by decide, ⟨by decide, ⟨fun c42 => ⟨⟨rfl, trivial⟩, fun r51 => ⟨fun c54 => ?_, fun c54 => ?_⟩, fun e51 x51 => no0 x51⟩, fun c42 => ⟨⟨rfl, trivial⟩, fun r51 => ⟨fun c54 => ?_, fun c54 => ?_⟩, fun e51 x51 => no0 x51⟩⟩⟩⟩⟩, fun e28 x28 => no0 x28⟩⟩, fun e21 x21 => no0 x21⟩⟩, fun e9 x9 => no0 x9⟩⟩, fun e2 x2 => no0 x2⟩
      all_goals try (have c5 : fId a = 0 := c5)
      all_goals try (have c5 : ¬ fId a = 0 := c5)
      all_goals try (have c12 : fId b = 0 := c12)
      all_goals try (have c12 : ¬ fId b = 0 := c12)
      all_goals try (have c42 : a / 16 = b / 16 := c42)
      all_goals try (have c42 : ¬ a / 16 = b / 16 := c42)
      · obtain ⟨q1, q2⟩ := (fin 0 0 1 (gOr_0 (dd_0 c5))).1 c54
        exact ⟨rfl, rfl, q1, q2⟩
      · obtain ⟨q1, q2⟩ := (fin 0 0 1 (gOr_0 (dd_0 c5))).2 c54
        exact ⟨rfl, q1, q2⟩
      · obtain ⟨q1, q2⟩ := (fin 0 0 1 (gOr_0 (dd_1 c5 c12))).1 c54
        exact ⟨rfl, rfl, q1, q2⟩
      · obtain ⟨q1, q2⟩ := (fin 0 0 1 (gOr_0 (dd_1 c5 c12))).2 c54
        exact ⟨rfl, q1, q2⟩
      · obtain ⟨q1, q2⟩ := (fin 1 0 1 (gOr_1 (dd_2 c5 c12) c42)).1 c54
        exact ⟨rfl, rfl, q1, q2⟩
      · obtain ⟨q1, q2⟩ := (fin 1 0 1 (gOr_1 (dd_2 c5 c12) c42)).2 c54
        exact ⟨rfl, q1, q2⟩
      · obtain ⟨q1, q2⟩ := (fin 1 1 1 (gOr_2 (dd_2 c5 c12) c42)).1 c54
        exact ⟨rfl, rfl, q1, q2⟩
      · obtain ⟨q1, q2⟩ := (fin 1 1 1 (gOr_2 (dd_2 c5 c12) c42)).2 c54
        exact ⟨rfl, q1, q2⟩)
    (fun as hp hl h pc P hq L hp' hL _ => by
      obtain ⟨a, b, rfl, hP⟩ := ct2_s h
      obtain ⟨rfl, rfl⟩ := at1 hq
      obtain ⟨rfl, ehp, hg⟩ := hL
      have hg : gOr a b 1 = 0 := hg
      obtain ⟨⟨i, hi, ei⟩, j, hj, ej⟩ := dd_in (fGo_0.mp hg).1
      have er := r1 a b hp hg
      have es := s1 a b hp hg
      have ex : 32 * a + b = nI (32 * i + j) := by rw [ei, ej, show (32 : Int32) = nI 32 from rfl, pk_mul, nI_add]
      have ey : 32 * b + a = nI (32 * j + i) := by rw [ei, ej, show (32 : Int32) = nI 32 from rfl, pk_mul, nI_add]
      have hx := nx ex (by omega)
      have hy := nx ey (by omega)
      have ea : cN a = i := by rw [ei, cN_nI (by omega)]
      have eb : cN b = j := by rw [ej, cN_nI (by omega)]
      rw [ea, eb] at er
      subst ehp
      refine ⟨⟨rfl, msOk_T hP 0⟩, fun r60 => ⟨inx ex (by omega) (by omega), ⟨fun c75 => ⟨inx ey (by omega) (by omega), ⟨fun c93 => ⟨rfl, ?_, es.symm⟩, fun c93 => ⟨rfl, ?_, es.symm⟩⟩⟩, fun c75 => ⟨rfl, ?_, es.symm⟩⟩⟩, fun e60 x60 => no0 x60⟩
      · have c75 : (hs (setT 0 hp)).1 34 (32 * a + b).toNatClampNeg = 0 := c75
        have c93 : (hs (setT 0 hp)).1 34 (32 * b + a).toNatClampNeg = 0 := c93
        rw [hx] at c75
        rw [hy] at c93
        show some (0 : Int32) = some (rv a b hp)
        rw [er, if_pos c75, if_pos c93]
      · have c75 : (hs (setT 0 hp)).1 34 (32 * a + b).toNatClampNeg = 0 := c75
        have c93 : ¬ (hs (setT 0 hp)).1 34 (32 * b + a).toNatClampNeg = 0 := c93
        rw [hx] at c75
        rw [hy] at c93
        show some (1 : Int32) = some (rv a b hp)
        rw [er, if_pos c75, if_neg c93]
      · have c75 : ¬ (hs (setT 0 hp)).1 34 (32 * a + b).toNatClampNeg = 0 := c75
        rw [hx] at c75
        show some (-1 : Int32) = some (rv a b hp)
        rw [er, if_neg c75])
def sM_order : mm_Ct := ct2 25 1 (fun _ _ hp => msOk hp) (fun _ _ _ => 0) rOrM hOrM
theorem M_M_order {E : En} (hE : EOk E) : Mt E yM_order cM_order 3 (some .int) 6 sM_order :=
  M_M_order_g hE rSe hSe (M_M_settle hE) rOrM hOrM (fun a b hp h => by unfold rOrM; rw [if_pos h]) (fun a b hp h => by unfold rOrM; rw [if_neg h]) (fun a b hp h => by unfold hOrM; rw [if_pos h]) (fun a b hp h => by unfold hOrM; rw [if_neg h])
/-! doubt -/
def gDb (c : Int32) (hp : mm_Hp) : Int32 := fGo (fIc c hp) 1 1
def fDbM (rs : mm_Hp → Int32) (hm : mm_Hp → mm_Hp) (c b : Int32) (hp : mm_Hp) : Int32 × mm_Hp := if hp.1 29 (cN c) = b then (0, setA (setT 0 hp) 29 (cN c) b) else if b = 0 then (if rs (setA (setT 0 hp) 29 (cN c) b) = 0 then (0, setA (hm (setA (setT 0 hp) 29 (cN c) b)) 29 (cN c) (hp.1 29 (cN c))) else (1, hm (setA (setT 0 hp) 29 (cN c) b))) else (1, setA (setT 0 hp) 29 (cN c) b)
theorem setA_at (hp : mm_Hp) (c i : Nat) (v : Int32) : (setA hp c i v).1 c = upd (hp.1 c) i v := by rw [setA_as, sR_at]
theorem setA_ne (hp : mm_Hp) {c k : Nat} (i : Nat) (v : Int32) (h : k ≠ c) : (setA hp c i v).1 k = hp.1 k := by rw [setA_as, sR_ne h]
theorem msOk_29 {hp : mm_Hp} (h : msOk hp) {i : Nat} {v : Int32} (hv : isB v) : msOk (setA hp 29 i v) := by
  have e1 : mszN (setA hp 29 i v) = mszN hp := by unfold mszN; rw [setA_ne _ _ _ (by omega)]
  have e2 : mrwN (setA hp 29 i v) = mrwN hp := by unfold mrwN; rw [setA_ne _ _ _ (by omega)]
  refine ⟨⟨by rw [setA_ne _ _ _ (by omega)]; exact h.1.1, fun k hk => ?_⟩, ⟨by rw [setA_ne _ _ _ (by omega)]; exact h.2.1, ?_⟩⟩
  · rw [e1] at hk
    rw [setA_at, setA_ne _ _ _ (by omega), setA_ne _ _ _ (by omega)]
    refine ⟨?_, (h.1.2 k hk).2⟩
    by_cases q : k = i
    · rw [q, pk_us]; exact hv
    · rw [pk_un q]; exact (h.1.2 k hk).1
  · rw [e2, setA_ne _ _ _ (by omega), setA_ne _ _ _ (by omega)]; exact h.2.2
theorem M_M_doubt_g {E : En} (hE : EOk E) (rs : mm_Hp → Int32) (hm : mm_Hp → mm_Hp) (Pm : mm_Hp → Prop) (hPm : ∀ hp, msOk hp → Pm hp) (hMM : Mt E yM_may cM_may 2 (some .boolean) 4 (ct0 25 1 Pm (fun _ => 0) rs hm)) (rv : Int32 → Int32 → mm_Hp → Int32) (sg : Int32 → Int32 → mm_Hp → mm_Hp) (hB : ∀ c b hp, isB (rv c b hp)) (r1 : ∀ c b hp q, gDb c hp = 0 → fDbM rs hm c b hp = q → rv c b hp = q.1 ∧ sg c b hp = q.2) (r0 : ∀ c b hp, ¬ gDb c hp = 0 → rv c b hp = 0 ∧ sg c b hp = setT (gDb c hp) hp) :
    Mt E yM_doubt cM_doubt 4 (some .boolean) 6 (ct2 25 1 (fun _ b hp => msOk hp ∧ isB b) (fun _ _ _ => 0) rv sg) :=
  metS (n := 60) (tab := tM_doubt) (cals := [(214, sM_isCoin), (206, sM_goes), (222, ct0 25 1 Pm (fun _ => 0) rs hm)]) hE flM_ok pfM_ok csM_ok rfl (by decide) kM_doubt rfl (cf_v 107 (lM_107 (M_M_isCoin hE) (by decide) ct1_t rfl) (cf_v 103 (lM_103 (M_M_goes hE) (by decide) ct3_t rfl) (cf_v 111 (lM_111 hMM (by decide) ct0_t rfl) cf_nil))) (rt_z2 (fun h c hp _ => hB h c hp)) ct2_c (Nat.le_of_ble_eq_true rfl) rfl (fun as hp hl h => by
    obtain ⟨c, b, rfl, hP, hb⟩ := ct2_s h
    refine ⟨⟨rfl, trivial⟩, fun r3 => ⟨⟨rfl, trivial⟩, fun r8 => ⟨fun c11 => ?_, fun c11 => ?_⟩, fun e8 x8 => no0 x8⟩, fun e3 x3 => no0 x3⟩
    · have g : gDb c hp = 0 := gt0 c11
      have e0 : setT (fGo (fIc c hp) 1 1) hp = setT 0 hp := by
        have g : fGo (fIc c hp) 1 1 = 0 := g
        rw [g]
      obtain ⟨n, hn, en⟩ := hP.1.1
      obtain ⟨k, hk, ek⟩ := ic_in (by omega) en (fGo_0.mp g).1
      have i80 : vp_in c 80 := inx ek (by omega) (by omega)
      have hk2 : k < mszN hp := by unfold mszN; rw [en, nIc (by omega)]; exact hk
      have hck : cN c = k := by rw [ek, cN_nI (by omega)]
      have hBk : isB (hp.1 29 (cN c)) := by rw [hck]; exact (hP.1.2 k hk2).1
      have v29 : (setT (fGo (fIc c hp) 1 1) hp).1 29 c.toNatClampNeg = hp.1 29 (cN c) := by rw [setT_ne _ _ (by omega)]; rfl
      have est : (mm_up (setT (fGo (fIc c hp) 1 1) hp).1 29 c.toNatClampNeg (vp_nar .boolean b), (setT (fGo (fIc c hp) 1 1) hp).2) = setA (setT 0 hp) 29 (cN c) b := by
        rw [isB_v hb, e0]; rfl
      have hms : msOk (setA (setT 0 hp) 29 (cN c) b) := msOk_29 (msOk_T hP 0) hb
      refine ⟨i80, ⟨i80, ⟨fun c32 => ⟨fun c57 => ?_, fun c57 => absurd c32 c57⟩, fun c32 => ⟨fun c36 => ⟨fun c57 => absurd c57 c32, fun c57 => ?_⟩, fun c36 => ⟨⟨rfl, ?_⟩, fun r40 => ⟨fun c43 => ⟨fun c57 => absurd c57 c32, fun c57 => ?_⟩, fun c43 => ⟨i80, ?_⟩⟩, fun e40 x40 => no0 x40⟩⟩⟩⟩⟩
      all_goals try (have c32 : (setT (fGo (fIc c hp) 1 1) hp).1 29 c.toNatClampNeg = b := c32)
      all_goals try (have c32 : ¬ (setT (fGo (fIc c hp) 1 1) hp).1 29 c.toNatClampNeg = b := c32)
      all_goals rw [v29] at c32
      all_goals try (have c36 : b = 0 := c36)
      all_goals try (have c36 : ¬ b = 0 := c36)
      · obtain ⟨q1, q2⟩ := r1 c b hp _ g (if_pos c32)
        exact ⟨rfl, congrArg some q1.symm, est.trans q2.symm⟩
      · obtain ⟨q1, q2⟩ := r1 c b hp _ g ((if_neg c32).trans (if_neg c36))
        exact ⟨rfl, congrArg some q1.symm, est.trans q2.symm⟩
      · show Pm (mm_up (setT (fGo (fIc c hp) 1 1) hp).1 29 c.toNatClampNeg (vp_nar .boolean b), (setT (fGo (fIc c hp) 1 1) hp).2)
        rw [est]
        exact hPm _ hms
      · have c43 : ¬ rs (mm_up (setT (fGo (fIc c hp) 1 1) hp).1 29 c.toNatClampNeg (vp_nar .boolean b), (setT (fGo (fIc c hp) 1 1) hp).2) = 0 := c43
        rw [est] at c43
        obtain ⟨q1, q2⟩ := r1 c b hp _ g ((if_neg c32).trans ((if_pos c36).trans (if_neg c43)))
        refine ⟨rfl, congrArg some q1.symm, ?_⟩
        show hm (mm_up (setT (fGo (fIc c hp) 1 1) hp).1 29 c.toNatClampNeg (vp_nar .boolean b), (setT (fGo (fIc c hp) 1 1) hp).2) = sg c b hp
        rw [est]
        exact q2.symm
      · have c43 : rs (mm_up (setT (fGo (fIc c hp) 1 1) hp).1 29 c.toNatClampNeg (vp_nar .boolean b), (setT (fGo (fIc c hp) 1 1) hp).2) = 0 := c43
        rw [est] at c43
        obtain ⟨q1, q2⟩ := r1 c b hp _ g ((if_neg c32).trans ((if_pos c36).trans (if_pos c43)))
        refine ⟨rfl, congrArg some q1.symm, ?_⟩
        show setA (hm (mm_up (setT (fGo (fIc c hp) 1 1) hp).1 29 c.toNatClampNeg (vp_nar .boolean b), (setT (fGo (fIc c hp) 1 1) hp).2)) 29 c.toNatClampNeg (vp_nar .boolean ((setT (fGo (fIc c hp) 1 1) hp).1 29 c.toNatClampNeg)) = sg c b hp
        rw [est, v29, isB_v hBk]
        exact q2.symm
    · have g : ¬ gDb c hp = 0 := gf0 c11
      obtain ⟨q1, q2⟩ := r0 c b hp g
      exact ⟨rfl, congrArg some q1.symm, q2.symm⟩)
def rDbM (c b : Int32) (hp : mm_Hp) : Int32 := if gDb c hp = 0 then (fDbM rSe hMay c b hp).1 else 0
def hDbM (c b : Int32) (hp : mm_Hp) : mm_Hp := if gDb c hp = 0 then (fDbM rSe hMay c b hp).2 else setT (gDb c hp) hp
theorem fDbM_B (rs : mm_Hp → Int32) (hm : mm_Hp → mm_Hp) (c b : Int32) (hp : mm_Hp) : isB (fDbM rs hm c b hp).1 := by
  unfold fDbM
  split
  · exact Or.inl rfl
  · split
    · split
      · exact Or.inl rfl
      · exact Or.inr rfl
    · exact Or.inr rfl
def sM_doubt : mm_Ct := ct2 25 1 (fun _ b hp => msOk hp ∧ isB b) (fun _ _ _ => 0) rDbM hDbM
theorem M_M_doubt {E : En} (hE : EOk E) : Mt E yM_doubt cM_doubt 4 (some .boolean) 6 sM_doubt :=
  M_M_doubt_g hE rSe hMay myOk (fun hp h => my_ok h) (M_M_may hE) rDbM hDbM (fun c b hp => by
    unfold rDbM
    split
    · exact fDbM_B _ _ _ _ _
    · exact Or.inl rfl) (fun c b hp q h e => by unfold rDbM hDbM; rw [if_pos h, if_pos h, e]; exact ⟨rfl, rfl⟩) (fun c b hp h => by unfold rDbM hDbM; rw [if_neg h, if_neg h]; exact ⟨rfl, rfl⟩)
/-! wear -/
def gWr (c s t : Int32) (hp : mm_Hp) : Int32 := fGo (if fIc c hp = 0 then 0 else if fIs s = 0 then 0 else 1) (fWi t (-1) 9) 1
def fWrM (rs : mm_Hp → Int32) (hm : mm_Hp → mm_Hp) (c s t : Int32) (hp : mm_Hp) : Int32 × mm_Hp := if rs (setA (setT 0 hp) 30 (2 * cN c + cN s) t) = 0 then (0, setA (hm (setA (setT 0 hp) 30 (2 * cN c + cN s) t)) 30 (2 * cN c + cN s) (hp.1 30 (2 * cN c + cN s))) else (rs (setA (setT 0 hp) 30 (2 * cN c + cN s) t), hm (setA (setT 0 hp) 30 (2 * cN c + cN s) t))
theorem is_in {s : Int32} (h : ¬ fIs s = 0) : ∃ k, k < 2 ∧ s = nI k := by
  unfold fIs at h
  have h : s = 0 ∨ s = 1 := Classical.byContradiction (fun q => h (if_neg q))
  rcases h with h | h
  · exact ⟨0, by omega, h⟩
  · exact ⟨1, by omega, h⟩
theorem msOk_30 {hp : mm_Hp} (h : msOk hp) (i : Nat) (v : Int32) : msOk (setA hp 30 i v) := by
  have e1 : mszN (setA hp 30 i v) = mszN hp := by unfold mszN; rw [setA_ne _ _ _ (by omega)]
  have e2 : mrwN (setA hp 30 i v) = mrwN hp := by unfold mrwN; rw [setA_ne _ _ _ (by omega)]
  refine ⟨⟨by rw [setA_ne _ _ _ (by omega)]; exact h.1.1, ?_⟩, ⟨by rw [setA_ne _ _ _ (by omega)]; exact h.2.1, ?_⟩⟩
  · rw [e1, setA_ne _ _ _ (by omega), setA_ne _ _ _ (by omega), setA_ne _ _ _ (by omega)]; exact h.1.2
  · rw [e2, setA_ne _ _ _ (by omega), setA_ne _ _ _ (by omega)]; exact h.2.2
def iWr (hp : mm_Hp) (g c s t : Int32) (pc : Nat) : Option (mm_Loc → mm_Hp → Prop) := cond (Nat.beq pc 37) (some (fun L hp' => ∃ o o2, L = [some (.ref 25), some (.int c), some (.int s), some (.int t), o, o2] ∧ hp' = setT 0 hp ∧ g = 0)) none
theorem M_M_wear_g {E : En} (hE : EOk E) (rs : mm_Hp → Int32) (hm : mm_Hp → mm_Hp) (Pm : mm_Hp → Prop) (hPm : ∀ hp, msOk hp → Pm hp) (hrs : ∀ hp, isB (rs hp)) (hMM : Mt E yM_may cM_may 2 (some .boolean) 4 (ct0 25 1 Pm (fun _ => 0) rs hm)) (rv : Int32 → Int32 → Int32 → mm_Hp → Int32) (sg : Int32 → Int32 → Int32 → mm_Hp → mm_Hp) (hB : ∀ c s t hp, isB (rv c s t hp)) (r1 : ∀ c s t hp q, gWr c s t hp = 0 → fWrM rs hm c s t hp = q → rv c s t hp = q.1 ∧ sg c s t hp = q.2) (r0 : ∀ c s t hp, ¬ gWr c s t hp = 0 → rv c s t hp = 0 ∧ sg c s t hp = setT (gWr c s t hp) hp) :
    Mt E yM_wear cM_wear 6 (some .boolean) 6 (ct3 25 1 (fun _ _ _ hp => msOk hp) (fun _ _ _ _ => 0) rv sg) :=
  met (n := 60) (tab := tM_wear) (cals := [(214, sM_isCoin), (229, sM_isSide), (197, sM_within), (206, sM_goes), (222, ct0 25 1 Pm (fun _ => 0) rs hm)]) hE flM_ok pfM_ok csM_ok rfl (by decide) kM_wear rfl (cf_v 107 (lM_107 (M_M_isCoin hE) (by decide) ct1_t rfl) (cf_s 114 (lM_114 (M_M_isSide hE) (by decide) rfl) (cf_s 98 (lM_98 (M_M_within hE) (by decide) rfl) (cf_v 103 (lM_103 (M_M_goes hE) (by decide) ct3_t rfl) (cf_v 111 (lM_111 hMM (by decide) ct0_t rfl) cf_nil))))) (rt_z3 (fun c s t hp _ => hB c s t hp)) ct3_c (Nat.le_of_ble_eq_true rfl) rfl
    (fun as hp pc => iWr hp (gWr (as3 as).1 (as3 as).2.1 (as3 as).2.2 hp) (as3 as).1 (as3 as).2.1 (as3 as).2.2 pc) (fun pc L _ => 0)
    (fun as hp hl h => by
      obtain ⟨c, s, t, rfl, hP⟩ := ct3_s h
      have fin : ∀ X Y Z : Int32, gWr c s t hp = fGo X Y Z → (¬ (if fGo X Y Z = 0 then (1 : Int32) else 0) = 0 → setT (fGo X Y Z) hp = setT 0 hp ∧ gWr c s t hp = 0) ∧ ((if fGo X Y Z = 0 then (1 : Int32) else 0) = 0 → some (0 : Int32) = some (rv c s t hp) ∧ setT (fGo X Y Z) hp = sg c s t hp) := fun X Y Z hg => by
        obtain ⟨a1, a2⟩ := go2 hg hp
        refine ⟨fun q => ⟨(a1 q).2, (a1 q).1⟩, fun q => ⟨by rw [(r0 c s t hp (a2 q).1).1], ?_⟩⟩
        rw [(r0 c s t hp (a2 q).1).2]
        exact (a2 q).2
      refine ⟨⟨rfl, trivial⟩, fun r3 => ⟨fun c6 => ⟨trivial, fun r25 => ⟨⟨rfl, trivial⟩, fun r29 => ⟨fun c32 => ?_, fun c32 => ?_⟩, fun e29 x29 => no0 x29⟩, fun e25 x25 => no0 x25⟩, fun c6 => ⟨trivial, fun r10 => ⟨fun c13 => ⟨trivial, fun r25 => ⟨⟨rfl, trivial⟩, fun r29 => ⟨fun c32 => ?_, fun c32 => ?_⟩, fun e29 x29 => no0 x29⟩, fun e25 x25 => no0 x25⟩, fun c13 => ⟨trivial, fun r25 => ⟨⟨rfl, trivial⟩, fun r29 => ⟨fun c32 => ?_, fun c32 => ?_⟩, fun e29 x29 => no0 x29⟩, fun e25 x25 => no0 x25⟩⟩, fun e10 x10 => no0 x10⟩⟩, fun e3 x3 => no0 x3⟩
      all_goals try (have c6 : fIc c hp = 0 := c6)
      all_goals try (have c6 : ¬ fIc c hp = 0 := c6)
      all_goals try (have c13 : fIs s = 0 := c13)
      all_goals try (have c13 : ¬ fIs s = 0 := c13)
      · obtain ⟨q1, q2⟩ := (fin 0 (fWi t (-1) 9) 1 (by unfold gWr; rw [if_pos c6])).1 c32
        exact ⟨rfl, _, _, rfl, q1, q2⟩
      · obtain ⟨q1, q2⟩ := (fin 0 (fWi t (-1) 9) 1 (by unfold gWr; rw [if_pos c6])).2 c32
        exact ⟨rfl, q1, q2⟩
      · obtain ⟨q1, q2⟩ := (fin 0 (fWi t (-1) 9) 1 (by unfold gWr; rw [if_neg c6, if_pos c13])).1 c32
        exact ⟨rfl, _, _, rfl, q1, q2⟩
      · obtain ⟨q1, q2⟩ := (fin 0 (fWi t (-1) 9) 1 (by unfold gWr; rw [if_neg c6, if_pos c13])).2 c32
        exact ⟨rfl, q1, q2⟩
      · obtain ⟨q1, q2⟩ := (fin 1 (fWi t (-1) 9) 1 (by unfold gWr; rw [if_neg c6, if_neg c13])).1 c32
        exact ⟨rfl, _, _, rfl, q1, q2⟩
      · obtain ⟨q1, q2⟩ := (fin 1 (fWi t (-1) 9) 1 (by unfold gWr; rw [if_neg c6, if_neg c13])).2 c32
        exact ⟨rfl, q1, q2⟩)
    (fun as hp hl h pc P hq L hp' hL _ => by
      obtain ⟨c, s, t, rfl, hP⟩ := ct3_s h
      obtain ⟨rfl, rfl⟩ := at1 hq
      obtain ⟨o, o2, rfl, ehp, hg⟩ := hL
      have hg : gWr c s t hp = 0 := hg
      obtain ⟨q1, q2⟩ := and_n0 (fGo_0.mp hg).1
      obtain ⟨n, hn, en⟩ := hP.1.1
      obtain ⟨i, hi, ei⟩ := ic_in (by omega) en q1
      obtain ⟨j, hj, ej⟩ := is_in q2
      have ex : 2 * c + s = nI (2 * i + j) := by rw [ei, ej, show (2 : Int32) = nI 2 from rfl, pk_mul, nI_add]
      have hx := nx ex (by omega)
      have i16 : vp_in (2 * c + s) 160 := inx ex (by omega) (by omega)
      have ea : cN c = i := by rw [ei, cN_nI (by omega)]
      have eb : cN s = j := by rw [ej, cN_nI (by omega)]
      have v30 : hp'.1 30 (2 * c + s).toNatClampNeg = hp.1 30 (2 * cN c + cN s) := by rw [ehp, setT_ne _ _ (by omega), hx, ea, eb]
      have est : (mm_up hp'.1 30 (2 * c + s).toNatClampNeg t, hp'.2) = setA (setT 0 hp) 30 (2 * cN c + cN s) t := by
        rw [hx, ea, eb, ehp]; rfl
      have hms : msOk (setA (setT 0 hp) 30 (2 * cN c + cN s) t) := msOk_30 (msOk_T hP 0) _ _
      refine ⟨i16, ⟨i16, ⟨⟨rfl, ?_⟩, fun r61 => ⟨fun c68 => ⟨rfl, ?_, ?_⟩, fun c68 => ⟨i16, ⟨rfl, ?_, ?_⟩⟩⟩, fun e61 x61 => no0 x61⟩⟩⟩
      · show Pm (mm_up hp'.1 30 (2 * c + s).toNatClampNeg t, hp'.2)
        rw [est]
        exact hPm _ hms
      · have c68 : ¬ rs (mm_up hp'.1 30 (2 * c + s).toNatClampNeg t, hp'.2) = 0 := c68
        show some (rs (mm_up hp'.1 30 (2 * c + s).toNatClampNeg t, hp'.2)) = some (rv c s t hp)
        rw [est] at c68 ⊢
        rw [(r1 c s t hp _ hg (if_neg c68)).1]
      · have c68 : ¬ rs (mm_up hp'.1 30 (2 * c + s).toNatClampNeg t, hp'.2) = 0 := c68
        show hm (mm_up hp'.1 30 (2 * c + s).toNatClampNeg t, hp'.2) = sg c s t hp
        rw [est] at c68 ⊢
        rw [(r1 c s t hp _ hg (if_neg c68)).2]
      · have c68 : rs (mm_up hp'.1 30 (2 * c + s).toNatClampNeg t, hp'.2) = 0 := c68
        show some (rs (mm_up hp'.1 30 (2 * c + s).toNatClampNeg t, hp'.2)) = some (rv c s t hp)
        rw [est] at c68 ⊢
        rw [(r1 c s t hp _ hg (if_pos c68)).1, c68]
      · have c68 : rs (mm_up hp'.1 30 (2 * c + s).toNatClampNeg t, hp'.2) = 0 := c68
        show setA (hm (mm_up hp'.1 30 (2 * c + s).toNatClampNeg t, hp'.2)) 30 (2 * c + s).toNatClampNeg (hp'.1 30 (2 * c + s).toNatClampNeg) = sg c s t hp
        rw [est] at c68 ⊢
        rw [(r1 c s t hp _ hg (if_pos c68)).2, v30, hx, ea, eb])
def rWrM (c s t : Int32) (hp : mm_Hp) : Int32 := if gWr c s t hp = 0 then (fWrM rSe hMay c s t hp).1 else 0
def hWrM (c s t : Int32) (hp : mm_Hp) : mm_Hp := if gWr c s t hp = 0 then (fWrM rSe hMay c s t hp).2 else setT (gWr c s t hp) hp
def sM_wear : mm_Ct := ct3 25 1 (fun _ _ _ hp => msOk hp) (fun _ _ _ _ => 0) rWrM hWrM
theorem rSe_B (hp : mm_Hp) : isB (rSe hp) := fGood_B _
theorem fWrM_B (rs : mm_Hp → Int32) (hm : mm_Hp → mm_Hp) (hrs : ∀ hp, isB (rs hp)) (c s t : Int32) (hp : mm_Hp) : isB (fWrM rs hm c s t hp).1 := by
  unfold fWrM
  split
  · exact Or.inl rfl
  · exact hrs _
theorem if_B {p : Prop} [Decidable p] {x : Int32} (h : isB x) : isB (if p then x else 0) := by
  split
  · exact h
  · exact Or.inl rfl
theorem rWrM_B (c s t : Int32) (hp : mm_Hp) : isB (rWrM c s t hp) := if_B (fWrM_B rSe hMay rSe_B c s t hp)
theorem M_M_wear {E : En} (hE : EOk E) : Mt E yM_wear cM_wear 6 (some .boolean) 6 sM_wear :=
  M_M_wear_g hE rSe hMay myOk (fun hp h => my_ok h) rSe_B (M_M_may hE) rWrM hWrM rWrM_B (fun c s t hp q h e => by unfold rWrM hWrM; rw [if_pos h, if_pos h, e]; exact ⟨rfl, rfl⟩) (fun c s t hp h => by unfold rWrM hWrM; rw [if_neg h, if_neg h]; exact ⟨rfl, rfl⟩)
/-! row -/
def gRw (a b : Int32) (hp : mm_Hp) : Int32 := gOr a b (if 60 ≤ hp.1 25 7 then 0 else 1)
def addM (a b : Int32) (hp : mm_Hp) : mm_Hp := setA (setA (setA hp 31 (mrwN hp) a) 32 (mrwN hp) b) 25 7 (hp.1 25 7 + 1)
def fRwM (rs : mm_Hp → Int32) (hm : mm_Hp → mm_Hp) (a b : Int32) (hp : mm_Hp) : Int32 × mm_Hp := if rs (addM a b (setT 0 hp)) = 0 then (0, setA (hm (addM a b (setT 0 hp))) 25 7 ((hm (addM a b (setT 0 hp))).1 25 7 - 1)) else (rs (addM a b (setT 0 hp)), setA (hm (addM a b (setT 0 hp))) 25 7 ((hm (addM a b (setT 0 hp))).1 25 7))
theorem addM_n (a b : Int32) (hp : mm_Hp) : (addM a b hp).1 25 7 = hp.1 25 7 + 1 := by unfold addM; rw [setA_at, pk_us]
theorem addM_25 (a b : Int32) (hp : mm_Hp) {j : Nat} (h : j ≠ 7) : (addM a b hp).1 25 j = hp.1 25 j := by unfold addM; rw [setA_at, pk_un h, setA_ne _ _ _ (by omega), setA_ne _ _ _ (by omega)]
theorem addM_31 (a b : Int32) (hp : mm_Hp) : (addM a b hp).1 31 = upd (hp.1 31) (mrwN hp) a := by unfold addM; rw [setA_ne _ _ _ (by omega), setA_ne _ _ _ (by omega), setA_at]
theorem addM_32 (a b : Int32) (hp : mm_Hp) : (addM a b hp).1 32 = upd (hp.1 32) (mrwN hp) b := by unfold addM; rw [setA_ne _ _ _ (by omega), setA_at, setA_ne _ _ _ (by omega)]
theorem addM_ne (a b : Int32) (hp : mm_Hp) {c : Nat} (h1 : c ≠ 25) (h2 : c ≠ 31) (h3 : c ≠ 32) : (addM a b hp).1 c = hp.1 c := by unfold addM; rw [setA_ne _ _ _ h1, setA_ne _ _ _ h3, setA_ne _ _ _ h2]
theorem msOk_add {hp : mm_Hp} (h : msOk hp) {a b : Int32} {i j n : Nat} (hi : i < 32) (hj : j < 32) (ei : a = nI i) (ej : b = nI j) (hn : n < 60) (en : hp.1 25 7 = nI n) : msOk (addM a b hp) := by
  have e1 : mszN (addM a b hp) = mszN hp := by unfold mszN; rw [addM_25 _ _ _ (by omega)]
  have e3 : mrwN hp = n := by unfold mrwN; rw [en, nIc (by omega)]
  have e2 : mrwN (addM a b hp) = n + 1 := by unfold mrwN; rw [addM_n, en, nI_1, nIc (by omega)]
  refine ⟨⟨by rw [addM_25 _ _ _ (by omega)]; exact h.1.1, ?_⟩, ⟨⟨n + 1, by omega, by rw [addM_n, en, nI_1]⟩, fun k hk => ?_⟩⟩
  · rw [e1, addM_ne _ _ _ (by omega) (by omega) (by omega), addM_ne _ _ _ (by omega) (by omega) (by omega), addM_ne _ _ _ (by omega) (by omega) (by omega)]; exact h.1.2
  · rw [e2] at hk
    rw [addM_31, addM_32, e3]
    by_cases q : k = n
    · rw [q, pk_us, pk_us]
      exact ⟨⟨i, hi, ei⟩, j, hj, ej⟩
    · rw [pk_un q, pk_un q]
      exact h.2.2 k (by omega)
def iRw (hp : mm_Hp) (g a b : Int32) (pc : Nat) : Option (mm_Loc → mm_Hp → Prop) := cond (Nat.beq pc 72) (some (fun L hp' => ∃ o, L = [some (.ref 25), some (.int a), some (.int b), o] ∧ hp' = setT 0 hp ∧ g = 0)) none
theorem M_M_row_g {E : En} (hE : EOk E) (rs : mm_Hp → Int32) (hm : mm_Hp → mm_Hp) (Pm : mm_Hp → Prop) (hPm : ∀ hp, msOk hp → Pm hp) (hrs : ∀ hp, isB (rs hp)) (hMM : Mt E yM_may cM_may 2 (some .boolean) 4 (ct0 25 1 Pm (fun _ => 0) rs hm)) (rv : Int32 → Int32 → mm_Hp → Int32) (sg : Int32 → Int32 → mm_Hp → mm_Hp) (hB : ∀ a b hp, isB (rv a b hp)) (r1 : ∀ a b hp q, gRw a b hp = 0 → fRwM rs hm a b hp = q → rv a b hp = q.1 ∧ sg a b hp = q.2) (r0 : ∀ a b hp, ¬ gRw a b hp = 0 → rv a b hp = 0 ∧ sg a b hp = setT (gRw a b hp) hp) :
    Mt E yM_row cM_row 4 (some .boolean) 6 (ct2 25 1 (fun _ _ hp => msOk hp) (fun _ _ _ => 0) rv sg) :=
  met (n := 60) (tab := tM_row) (cals := [(235, sM_isDie), (206, sM_goes), (222, ct0 25 1 Pm (fun _ => 0) rs hm)]) hE flM_ok pfM_ok csM_ok rfl (by decide) kM_row rfl (cf_s 117 (lM_117 (M_M_isDie hE) (by decide) rfl) (cf_v 103 (lM_103 (M_M_goes hE) (by decide) ct3_t rfl) (cf_v 111 (lM_111 hMM (by decide) ct0_t rfl) cf_nil))) (rt_z2 (fun a b hp _ => hB a b hp)) ct2_c (Nat.le_of_ble_eq_true rfl) rfl
    (fun as hp pc => iRw hp (gRw (as2 as).1 (as2 as).2 hp) (as2 as).1 (as2 as).2 pc) (fun pc L _ => 0)
    (fun as hp hl h => by
      obtain ⟨a, b, rfl, hP⟩ := ct2_s h
      have fin : ∀ X Y Z : Int32, gRw a b hp = fGo X Y Z → (¬ (if fGo X Y Z = 0 then (1 : Int32) else 0) = 0 → setT (fGo X Y Z) hp = setT 0 hp ∧ gRw a b hp = 0) ∧ ((if fGo X Y Z = 0 then (1 : Int32) else 0) = 0 → some (0 : Int32) = some (rv a b hp) ∧ setT (fGo X Y Z) hp = sg a b hp) := fun X Y Z hg => by
        obtain ⟨a1, a2⟩ := go2 hg hp
        refine ⟨fun c => ⟨(a1 c).2, (a1 c).1⟩, fun c => ⟨by rw [(r0 a b hp (a2 c).1).1], ?_⟩⟩
        rw [(r0 a b hp (a2 c).1).2]
        exact (a2 c).2
      have g0 : 60 ≤ hp.1 25 7 → gRw a b hp = gOr a b 0 := fun q => by unfold gRw; rw [if_pos q]
      have g1 : ¬ 60 ≤ hp.1 25 7 → gRw a b hp = gOr a b 1 := fun q => by unfold gRw; rw [if_neg q]
      refine ⟨trivial, fun r2 => ⟨fun c5 => ⟨trivial, fun r21 => ⟨fun c24 => ⟨fun c56 => ⟨⟨rfl, trivial⟩, fun r64 => ⟨fun c67 => ?_, fun c67 => ?_⟩, fun e64 x64 => no0 x64⟩, fun c56 => ⟨⟨rfl, trivial⟩, fun r64 => ⟨fun c67 => ?_, fun c67 => ?_⟩, fun e64 x64 => no0 x64⟩⟩, fun c24 => absurd c5 c24⟩, fun e21 x21 => no0 x21⟩, fun c5 => ⟨trivial, fun r9 => ⟨fun c12 => ⟨trivial, fun r21 => ⟨fun c24 => absurd c24 c5, fun c24 => ⟨trivial, fun r28 => ⟨fun c31 => ⟨fun c56 => ⟨⟨rfl, trivial⟩, fun r64 => ⟨fun c67 => ?_, fun c67 => ?_⟩, fun e64 x64 => no0 x64⟩, fun c56 => ⟨⟨rfl, trivial⟩, fun r64 => ⟨fun c67 => ?_, fun c67 => ?_⟩, fun e64 x64 => no0 x64⟩⟩, fun c31 => absurd c12 c31⟩, fun e28 x28 => no0 x28⟩⟩, fun e21 x21 => no0 x21⟩, fun c12 => ⟨trivial, fun r21 => ⟨fun c24 => absurd c24 c5, fun c24 => ⟨trivial, fun r28 => ⟨fun c31 => absurd c31 c12, fun c31 => ⟨by decide, ⟨by decide, ⟨fun c42 => ⟨fun c56 => ⟨⟨rfl, trivial⟩, fun r64 => ⟨fun c67 => ?_, fun c67 => ?_⟩, fun e64 x64 => no0 x64⟩, fun c56 => ⟨⟨rfl, trivial⟩, fun r64 => ⟨fun c67 => ?_, fun c67 => ?_⟩, fun e64 x64 => no0 x64⟩⟩, fun c42 => ⟨fun c56 => ⟨⟨rfl, trivial⟩, fun r64 => ⟨fun c67 => ?_, fun c67 => ?_⟩, fun e64 x64 => no0 x64⟩, fun c56 => ⟨⟨rfl, trivial⟩, fun r64 => ⟨fun c67 => ?_, fun c67 => ?_⟩, fun e64 x64 => no0 x64⟩⟩⟩⟩⟩⟩, fun e28 x28 => no0 x28⟩⟩, fun e21 x21 => no0 x21⟩⟩, fun e9 x9 => no0 x9⟩⟩, fun e2 x2 => no0 x2⟩
      all_goals try (have c5 : fId a = 0 := c5)
      all_goals try (have c5 : ¬ fId a = 0 := c5)
      all_goals try (have c12 : fId b = 0 := c12)
      all_goals try (have c12 : ¬ fId b = 0 := c12)
      all_goals try (have c42 : a / 16 = b / 16 := c42)
      all_goals try (have c42 : ¬ a / 16 = b / 16 := c42)
      all_goals try (have c56 : 60 ≤ hp.1 25 7 := c56)
      all_goals try (have c56 : ¬ 60 ≤ hp.1 25 7 := c56)
      · obtain ⟨q1, q2⟩ := (fin 0 0 0 ((g0 c56).trans (gOr_0 (dd_0 c5)))).1 c67
        exact ⟨rfl, _, rfl, q1, q2⟩
      · obtain ⟨q1, q2⟩ := (fin 0 0 0 ((g0 c56).trans (gOr_0 (dd_0 c5)))).2 c67
        exact ⟨rfl, q1, q2⟩
      · obtain ⟨q1, q2⟩ := (fin 0 0 1 ((g1 c56).trans (gOr_0 (dd_0 c5)))).1 c67
        exact ⟨rfl, _, rfl, q1, q2⟩
      · obtain ⟨q1, q2⟩ := (fin 0 0 1 ((g1 c56).trans (gOr_0 (dd_0 c5)))).2 c67
        exact ⟨rfl, q1, q2⟩
      · obtain ⟨q1, q2⟩ := (fin 0 0 0 ((g0 c56).trans (gOr_0 (dd_1 c5 c12)))).1 c67
        exact ⟨rfl, _, rfl, q1, q2⟩
      · obtain ⟨q1, q2⟩ := (fin 0 0 0 ((g0 c56).trans (gOr_0 (dd_1 c5 c12)))).2 c67
        exact ⟨rfl, q1, q2⟩
      · obtain ⟨q1, q2⟩ := (fin 0 0 1 ((g1 c56).trans (gOr_0 (dd_1 c5 c12)))).1 c67
        exact ⟨rfl, _, rfl, q1, q2⟩
      · obtain ⟨q1, q2⟩ := (fin 0 0 1 ((g1 c56).trans (gOr_0 (dd_1 c5 c12)))).2 c67
        exact ⟨rfl, q1, q2⟩
      · obtain ⟨q1, q2⟩ := (fin 1 0 0 ((g0 c56).trans (gOr_1 (dd_2 c5 c12) c42))).1 c67
        exact ⟨rfl, _, rfl, q1, q2⟩
      · obtain ⟨q1, q2⟩ := (fin 1 0 0 ((g0 c56).trans (gOr_1 (dd_2 c5 c12) c42))).2 c67
        exact ⟨rfl, q1, q2⟩
      · obtain ⟨q1, q2⟩ := (fin 1 0 1 ((g1 c56).trans (gOr_1 (dd_2 c5 c12) c42))).1 c67
        exact ⟨rfl, _, rfl, q1, q2⟩
      · obtain ⟨q1, q2⟩ := (fin 1 0 1 ((g1 c56).trans (gOr_1 (dd_2 c5 c12) c42))).2 c67
        exact ⟨rfl, q1, q2⟩
      · obtain ⟨q1, q2⟩ := (fin 1 1 0 ((g0 c56).trans (gOr_2 (dd_2 c5 c12) c42))).1 c67
        exact ⟨rfl, _, rfl, q1, q2⟩
      · obtain ⟨q1, q2⟩ := (fin 1 1 0 ((g0 c56).trans (gOr_2 (dd_2 c5 c12) c42))).2 c67
        exact ⟨rfl, q1, q2⟩
      · obtain ⟨q1, q2⟩ := (fin 1 1 1 ((g1 c56).trans (gOr_2 (dd_2 c5 c12) c42))).1 c67
        exact ⟨rfl, _, rfl, q1, q2⟩
      · obtain ⟨q1, q2⟩ := (fin 1 1 1 ((g1 c56).trans (gOr_2 (dd_2 c5 c12) c42))).2 c67
        exact ⟨rfl, q1, q2⟩)
    (fun as hp hl h pc P hq L hp' hL _ => by
      obtain ⟨a, b, rfl, hP⟩ := ct2_s h
      obtain ⟨rfl, rfl⟩ := at1 hq
      obtain ⟨o, rfl, ehp, hg⟩ := hL
      have hg : gRw a b hp = 0 := hg
      have hgg := fGo_0.mp hg
      obtain ⟨⟨i, hi, ei⟩, j, hj, ej⟩ := dd_in hgg.1
      obtain ⟨n, hn, en⟩ := hP.2.1
      have hlt : n < 60 := by
        apply Classical.byContradiction
        intro q
        apply hgg.2.2
        rw [if_pos]
        rw [en]
        exact (nI_leI (a := 60) (by omega) (by omega)).mpr (by omega)
      have v25 : hp'.1 25 7 = nI n := by rw [ehp, setT_25 _ _ (by omega)]; exact en
      have i60 : vp_in (hp'.1 25 7) 60 := inx v25 hlt (by omega)
      have e3 : mrwN (setT 0 hp) = (hp'.1 25 7).toNatClampNeg := by unfold mrwN; rw [ehp]
      have est : (mm_up (mm_up (mm_up hp'.1 31 (hp'.1 25 7).toNatClampNeg a) 32 (hp'.1 25 7).toNatClampNeg b) 25 7 (hp'.1 25 7 + 1), hp'.2) = addM a b (setT 0 hp) := by
        rw [← e3, ehp]
        rfl
      have hms : msOk (addM a b (setT 0 hp)) := msOk_add (msOk_T hP 0) hi hj ei ej hlt (by rw [setT_25 _ _ (by omega)]; exact en)
      refine ⟨i60, ⟨i60, ⟨⟨rfl, ?_⟩, fun r103 => ⟨fun c109 => ⟨rfl, ?_, ?_⟩, fun c109 => ⟨rfl, ?_, ?_⟩⟩, fun e103 x103 => no0 x103⟩⟩⟩
      · show Pm (mm_up (mm_up (mm_up hp'.1 31 (hp'.1 25 7).toNatClampNeg a) 32 (hp'.1 25 7).toNatClampNeg b) 25 7 (hp'.1 25 7 + 1), hp'.2)
        rw [est]
        exact hPm _ hms
      · have c109 : rs (mm_up (mm_up (mm_up hp'.1 31 (hp'.1 25 7).toNatClampNeg a) 32 (hp'.1 25 7).toNatClampNeg b) 25 7 (hp'.1 25 7 + 1), hp'.2) = 0 := c109
        show some (rs (mm_up (mm_up (mm_up hp'.1 31 (hp'.1 25 7).toNatClampNeg a) 32 (hp'.1 25 7).toNatClampNeg b) 25 7 (hp'.1 25 7 + 1), hp'.2)) = some (rv a b hp)
        rw [est] at c109 ⊢
        rw [(r1 a b hp _ hg (if_pos c109)).1, c109]
      · have c109 : rs (mm_up (mm_up (mm_up hp'.1 31 (hp'.1 25 7).toNatClampNeg a) 32 (hp'.1 25 7).toNatClampNeg b) 25 7 (hp'.1 25 7 + 1), hp'.2) = 0 := c109
        show setA (hm (mm_up (mm_up (mm_up hp'.1 31 (hp'.1 25 7).toNatClampNeg a) 32 (hp'.1 25 7).toNatClampNeg b) 25 7 (hp'.1 25 7 + 1), hp'.2)) 25 7 ((hm (mm_up (mm_up (mm_up hp'.1 31 (hp'.1 25 7).toNatClampNeg a) 32 (hp'.1 25 7).toNatClampNeg b) 25 7 (hp'.1 25 7 + 1), hp'.2)).1 25 7 - 1) = sg a b hp
        rw [est] at c109 ⊢
        rw [(r1 a b hp _ hg (if_pos c109)).2]
      · have c109 : ¬ rs (mm_up (mm_up (mm_up hp'.1 31 (hp'.1 25 7).toNatClampNeg a) 32 (hp'.1 25 7).toNatClampNeg b) 25 7 (hp'.1 25 7 + 1), hp'.2) = 0 := c109
        show some (rs (mm_up (mm_up (mm_up hp'.1 31 (hp'.1 25 7).toNatClampNeg a) 32 (hp'.1 25 7).toNatClampNeg b) 25 7 (hp'.1 25 7 + 1), hp'.2)) = some (rv a b hp)
        rw [est] at c109 ⊢
        rw [(r1 a b hp _ hg (if_neg c109)).1]
      · have c109 : ¬ rs (mm_up (mm_up (mm_up hp'.1 31 (hp'.1 25 7).toNatClampNeg a) 32 (hp'.1 25 7).toNatClampNeg b) 25 7 (hp'.1 25 7 + 1), hp'.2) = 0 := c109
        show setA (hm (mm_up (mm_up (mm_up hp'.1 31 (hp'.1 25 7).toNatClampNeg a) 32 (hp'.1 25 7).toNatClampNeg b) 25 7 (hp'.1 25 7 + 1), hp'.2)) 25 7 ((hm (mm_up (mm_up (mm_up hp'.1 31 (hp'.1 25 7).toNatClampNeg a) 32 (hp'.1 25 7).toNatClampNeg b) 25 7 (hp'.1 25 7 + 1), hp'.2)).1 25 7) = sg a b hp
        rw [est] at c109 ⊢
        rw [(r1 a b hp _ hg (if_neg c109)).2])
def rRwM (a b : Int32) (hp : mm_Hp) : Int32 := if gRw a b hp = 0 then (fRwM rSe hMay a b hp).1 else 0
def hRwM (a b : Int32) (hp : mm_Hp) : mm_Hp := if gRw a b hp = 0 then (fRwM rSe hMay a b hp).2 else setT (gRw a b hp) hp
def sM_row : mm_Ct := ct2 25 1 (fun _ _ hp => msOk hp) (fun _ _ _ => 0) rRwM hRwM
theorem fRwM_B (rs : mm_Hp → Int32) (hm : mm_Hp → mm_Hp) (hrs : ∀ hp, isB (rs hp)) (a b : Int32) (hp : mm_Hp) : isB (fRwM rs hm a b hp).1 := by
  unfold fRwM
  split
  · exact Or.inl rfl
  · exact hrs _
theorem rRwM_B (a b : Int32) (hp : mm_Hp) : isB (rRwM a b hp) := if_B (fRwM_B rSe hMay rSe_B a b hp)
theorem M_M_row {E : En} (hE : EOk E) : Mt E yM_row cM_row 4 (some .boolean) 6 sM_row :=
  M_M_row_g hE rSe hMay myOk (fun hp h => my_ok h) rSe_B (M_M_may hE) rRwM hRwM rRwM_B (fun a b hp q h e => by unfold rRwM hRwM; rw [if_pos h, if_pos h, e]; exact ⟨rfl, rfl⟩) (fun a b hp h => by unfold rRwM hRwM; rw [if_neg h, if_neg h]; exact ⟨rfl, rfl⟩)
