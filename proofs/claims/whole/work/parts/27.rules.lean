/-! ===== DieGraphs$Rules: the text ===== -/
def sR_size : mm_Ct := ct0 4 1 (fun _ => True) (fun _ => 0) (fun hp => hp.1 4 8) (fun hp => hp)
theorem M_R_size {E : En} (hE : EOk E) : Mt E yR_size cR_size 1 (some .int) 1 sR_size :=
  metS (n := 10) (tab := tR_size) (cals := []) hE flR_ok pfR_ok csR_ok rfl (by decide) kR_size rfl cf_nil (rt_i rfl) ct0_c (by decide) rfl (fun as hp hl h => by
    obtain ⟨rfl, hP⟩ := ct0_s h
    exact ⟨rfl, rfl, rfl⟩)
def sR_textLength : mm_Ct := ct0 4 1 (fun _ => True) (fun _ => 0) (fun hp => hp.1 4 2) (fun hp => hp)
theorem M_R_textLength {E : En} (hE : EOk E) : Mt E yR_textLength cR_textLength 1 (some .int) 1 sR_textLength :=
  metS (n := 10) (tab := tR_textLength) (cals := []) hE flR_ok pfR_ok csR_ok rfl (by decide) kR_textLength rfl cf_nil (rt_i rfl) ct0_c (by decide) rfl (fun as hp hl h => by
    obtain ⟨rfl, hP⟩ := ct0_s h
    exact ⟨rfl, rfl, rfl⟩)
/-- byte k of a word -/
def byteAt (w : Int32) (k : Nat) : Int32 := (w.toUInt32 >>> ((nI (8 * k)).toUInt32 &&& Int32.toUInt32 31)).toInt32 &&& 255
def bSigns (w : Int32) (k : Nat) (a : Int32) : Int32 := if byteAt w k = 0 then a else a + 1
def fSigns (w : Int32) : Int32 := lp (bSigns w) 4 0
theorem inc8 {i : Nat} {x : Int32} (ex : x = nI (8 * i)) : x + 8 = nI (8 * (i + 1)) := by rw [ex, show (8 : Int32) = nI 8 from rfl, nI_add]; rfl
theorem dec8 {i : Nat} {x : Int32} (ex : x = nI (8 * i)) (hi : i < 4) : 100 - (x + 8).toNatClampNeg < 100 - x.toNatClampNeg := by
  rw [inc8 ex, ex, nIc (by omega), nIc (by omega)]
  omega
def sR_signsIn : mm_Ct := cs1 1 (fun _ _ => True) (fun _ _ => 0) (fun w _ => fSigns w)
theorem M_R_signsIn {E : En} (hE : EOk E) : Mt E yR_signsIn cR_signsIn 3 (some .int) 1 sR_signsIn :=
  met (n := 60) (tab := tR_signsIn) (cals := []) hE flR_ok pfR_ok csR_ok rfl (by decide) kR_signsIn rfl cf_nil (rt_i rfl) cs1_c (by decide) rfl
    (fun as hp pc => cond (Nat.beq pc 4) (some (fun L hp' => hp' = hp ∧ ∃ (w : Int32) (i : Nat) (x a : Int32), as = [.int w] ∧ L = [some (.int w), some (.int a), some (.int x)] ∧ x = nI (8 * i) ∧ i ≤ 4 ∧ a = lp (bSigns w) i 0)) none) (fun _ L _ => msk 100 2 L)
    (fun as hp hl h => by
      obtain ⟨w, rfl, hP⟩ := cs1_s h
      exact ⟨rfl, rfl, w, 0, _, _, rfl, rfl, rfl, by omega, rfl⟩)
    (fun as hp hl h pc P hq L hp' hL _ => by
      obtain ⟨rfl, rfl⟩ := at1 hq
      obtain ⟨rfl, w, i, x, a, rfl, rfl, ex, hi, ea⟩ := hL
      refine ⟨fun c7 => ⟨rfl, ?_, rfl⟩, fun c7 => ?_⟩
      · have := cge ex (n := 32) rfl (by omega) (by omega) c7
        have hi2 : i = 4 := by omega
        subst hi2
        exact congrArg some ea
      · have hlt := clt ex (n := 32) rfl (by omega) (by omega) c7
        have hstep : lp (bSigns w) (i + 1) 0 = bSigns w i a := by rw [ea]; rfl
        refine ⟨fun c17 => ⟨rfl, ⟨rfl, w, i + 1, _, _, rfl, rfl, inc8 ex, by omega, ?_⟩, dec8 ex (by omega)⟩, fun c17 => ⟨rfl, ⟨rfl, w, i + 1, _, _, rfl, rfl, inc8 ex, by omega, ?_⟩, dec8 ex (by omega)⟩⟩
        · have c17 : (w.toUInt32 >>> (x.toUInt32 &&& Int32.toUInt32 31)).toInt32 &&& 255 = 0 := c17
          rw [ex] at c17
          rw [hstep]
          exact (if_pos c17).symm
        · have c17 : ¬ (w.toUInt32 >>> (x.toUInt32 &&& Int32.toUInt32 31)).toInt32 &&& 255 = 0 := c17
          rw [ex] at c17
          rw [hstep]
          exact (if_neg c17).symm)
def txN (hp : mm_Hp) : Nat := (hp.1 4 2).toNatClampNeg
def txOk (hp : mm_Hp) : Prop := ∃ t, t ≤ 40 ∧ hp.1 4 2 = nI t
def bApp (w : Int32) (k : Nat) (q : Nat × (Nat → Int32)) : Nat × (Nat → Int32) := if byteAt w k = 0 then q else if 40 ≤ q.1 then q else (q.1 + 1, upd q.2 q.1 (byteAt w k))
def fApp (w : Int32) (hp : mm_Hp) : Nat × (Nat → Int32) := lp (bApp w) 4 (txN hp, hp.1 20)
def hApp (w : Int32) (hp : mm_Hp) : mm_Hp := sR (sR hp 4 (upd (hp.1 4) 2 (nI (fApp w hp).1))) 20 (fApp w hp).2
def sR_append : mm_Ct := ct1 4 0 (fun _ hp => txOk hp) (fun _ _ => 0) (fun _ _ => 0) hApp
theorem M_R_append {E : En} (hE : EOk E) : Mt E yR_append cR_append 4 none 1 sR_append :=
  met (n := 60) (tab := tR_append) (cals := []) hE flR_ok pfR_ok csR_ok rfl (by decide) kR_append rfl cf_nil (rt_v rfl) ct1_c (by decide) rfl
    (fun as hp pc => cond (Nat.beq pc 2) (some (fun L hp' => ∃ (w : Int32) (i : Nat) (x : Int32) (t : Nat) (g : Nat → Int32) (o : Option Value), as = [.ref 4, .int w] ∧ L = [some (.ref 4), some (.int w), some (.int x), o] ∧ x = nI (8 * i) ∧ i ≤ 4 ∧ t ≤ 40 ∧ hp' = sR (sR hp 4 (upd (hp.1 4) 2 (nI t))) 20 g ∧ (t, g) = lp (bApp w) i (txN hp, hp.1 20))) none) (fun _ L _ => msk 100 2 L)
    (fun as hp hl h => by
      obtain ⟨w, rfl, t, ht, et⟩ := ct1_s h
      have htN : txN hp = t := by unfold txN; rw [et]; exact nIc (by omega)
      refine ⟨rfl, w, 0, _, t, hp.1 20, none, rfl, rfl, rfl, by omega, ht, ?_, by rw [htN]; rfl⟩
      refine hp_ext (fun k => ?_) rfl
      by_cases hk : k = 20
      · subst hk; rw [sR_at]
      · rw [sR_ne hk]
        by_cases hk2 : k = 4
        · subst hk2
          rw [sR_at]
          funext j
          unfold upd
          split
          · rename_i hj; rw [hj]; exact et
          · rfl
        · rw [sR_ne hk2])
    (fun as hp hl h pc P hq L hp' hL _ => by
      obtain ⟨w, rfl, hP⟩ := ct1_s h
      obtain ⟨rfl, rfl⟩ := at1 hq
      obtain ⟨w', i, x, t, g, o, heq, rfl, ex, hi, ht, rfl, eg⟩ := hL
      cases heq
      have htl : upd (hp.1 4) 2 (nI t) 2 = nI t := by simp [upd]
      refine ⟨fun c5 => ⟨rfl, rfl, ?_⟩, fun c5 => ?_⟩
      · have := cge ex (n := 32) rfl (by omega) (by omega) c5
        have hi2 : i = 4 := by omega
        subst hi2
        show sR (sR hp 4 (upd (hp.1 4) 2 (nI t))) 20 g = hApp w hp
        unfold hApp fApp
        rw [← eg]
      · have hlt := clt ex (n := 32) rfl (by omega) (by omega) c5
        have hstep : lp (bApp w) (i + 1) (txN hp, hp.1 20) = bApp w i (t, g) := by rw [eg]; rfl
        refine ⟨fun c17 => ⟨rfl, ⟨w, i + 1, _, t, g, _, rfl, rfl, inc8 ex, by omega, ht, rfl, ?_⟩, dec8 ex (by omega)⟩, fun c17 => ⟨fun c26 => ⟨rfl, ⟨w, i + 1, _, t, g, _, rfl, rfl, inc8 ex, by omega, ht, rfl, ?_⟩, dec8 ex (by omega)⟩, fun c26 => ?_⟩⟩
        · have c17 : (w.toUInt32 >>> (x.toUInt32 &&& Int32.toUInt32 31)).toInt32 &&& 255 = 0 := c17
          rw [ex] at c17
          rw [hstep]
          exact (if_pos c17).symm
        · have c17 : ¬ (w.toUInt32 >>> (x.toUInt32 &&& Int32.toUInt32 31)).toInt32 &&& 255 = 0 := c17
          have c26 : (40 : Int32) ≤ upd (hp.1 4) 2 (nI t) 2 := c26
          rw [ex] at c17
          rw [htl] at c26
          have h40 := (nI_leI (a := 40) (b := t) (by omega) (by omega)).mp c26
          rw [hstep]
          unfold bApp
          rw [if_neg (show ¬ byteAt w i = 0 from c17), if_pos h40]
        · have c17 : ¬ (w.toUInt32 >>> (x.toUInt32 &&& Int32.toUInt32 31)).toInt32 &&& 255 = 0 := c17
          have c26 : ¬ (40 : Int32) ≤ upd (hp.1 4) 2 (nI t) 2 := c26
          rw [ex] at c17
          rw [htl] at c26
          have h40 : ¬ 40 ≤ t := mt (nI_leI (a := 40) (b := t) (by omega) (by omega)).mpr c26
          refine ⟨?_, ⟨rfl, ⟨w, i + 1, _, t + 1, upd g t (byteAt w i), _, rfl, rfl, inc8 ex, by omega, by omega, ?_, ?_⟩, dec8 ex (by omega)⟩⟩
          · show vp_in (upd (hp.1 4) 2 (nI t) 2) 40
            rw [htl]; exact nIv (by omega) (by omega)
          · show (mm_up (mm_up (sR (sR hp 4 (upd (hp.1 4) 2 (nI t))) 20 g).1 20 (upd (hp.1 4) 2 (nI t) 2).toNatClampNeg ((w.toUInt32 >>> (x.toUInt32 &&& Int32.toUInt32 31)).toInt32 &&& 255)) 4 2 (upd (hp.1 4) 2 (nI t) 2 + 1), (sR (sR hp 4 (upd (hp.1 4) 2 (nI t))) 20 g).2) = _
            rw [htl, nIc (by omega), nI_1, ex]
            have e1 := up_sR (sR hp 4 (upd (hp.1 4) 2 (nI t))) 20 t g (byteAt w i)
            have e2 := up_nR (hp := sR hp 4 (upd (hp.1 4) 2 (nI t))) (c := 20) (d := 4) (by decide) 2 (upd g t (byteAt w i)) (nI (t + 1))
            rw [sR_at, upd2, sR_sR] at e2
            rw [← e2, ← e1]
            rfl
          · rw [hstep]
            unfold bApp
            rw [if_neg (show ¬ byteAt w i = 0 from c17), if_neg h40])
/-- the sign at a place -/
def fSign (hp : mm_Hp) : Int32 := if hp.1 4 2 ≤ hp.1 4 3 then -1 else hp.1 20 (hp.1 4 3).toNatClampNeg
def rdOk (hp : mm_Hp) : Prop := ∃ t p, t ≤ 40 ∧ p ≤ t ∧ hp.1 4 2 = nI t ∧ hp.1 4 3 = nI p
def sR_sign : mm_Ct := ct0 4 1 rdOk (fun _ => 0) fSign (fun hp => hp)
theorem M_R_sign {E : En} (hE : EOk E) : Mt E yR_sign cR_sign 1 (some .int) 1 sR_sign :=
  metS (n := 20) (tab := tR_sign) (cals := []) hE flR_ok pfR_ok csR_ok rfl (by decide) kR_sign rfl cf_nil (rt_i rfl) ct0_c (by decide) rfl (fun as hp hl h => by
    obtain ⟨rfl, t, p, ht, hpt, et, ep⟩ := ct0_s h
    refine ⟨fun c8 => ⟨rfl, ?_, rfl⟩, fun c8 => ⟨?_, rfl, ?_, rfl⟩⟩
    · exact congrArg some (if_pos c8).symm
    · have c8 : ¬ hp.1 4 2 ≤ hp.1 4 3 := c8
      have := clt ep et (by omega) (by omega) c8
      exact inx ep (by omega) (by omega)
    · exact congrArg some (if_neg c8).symm)
def upPl (hp : mm_Hp) : mm_Hp := (mm_up hp.1 4 3 (hp.1 4 3 + 1), hp.2)
def sR_take : mm_Ct := ct1 4 1 (fun _ hp => rdOk hp) (fun _ _ => 0) (fun w hp => if fSign hp = w then 1 else 0) (fun w hp => if fSign hp = w then upPl hp else hp)
theorem M_R_take {E : En} (hE : EOk E) : Mt E yR_take cR_take 2 (some .boolean) 2 sR_take :=
  metS (n := 30) (tab := tR_take) (cals := [(104, sR_sign)]) hE flR_ok pfR_ok csR_ok rfl (by decide) kR_take rfl (cf_v 52 (lR_52 (M_R_sign hE) (by decide) ct0_t rfl) cf_nil) (rt_z rfl (fun as hp h => by obtain ⟨w, rfl, -⟩ := ct1_s h; exact isB_fi)) ct1_c (by decide) rfl (fun as hp hl h => by
    obtain ⟨w, rfl, hP⟩ := ct1_s h
    refine ⟨⟨rfl, hP⟩, fun r1 => ⟨fun c5 => ⟨rfl, ?_, ?_⟩, fun c5 => ⟨rfl, ?_, ?_⟩⟩, fun e1 x1 => no0 x1⟩
    · exact congrArg some (if_pos (show fSign hp = w from c5)).symm
    · exact (if_pos (show fSign hp = w from c5)).symm
    · exact congrArg some (if_neg (show ¬ fSign hp = w from c5)).symm
    · exact (if_neg (show ¬ fSign hp = w from c5)).symm)
def fDig (x : Int32) : Int32 := if x < 48 ∨ 57 < x then 0 else 1
def sR_isDigit : mm_Ct := cs1 1 (fun _ _ => True) (fun _ _ => 0) (fun x _ => fDig x)
theorem M_R_isDigit {E : En} (hE : EOk E) : Mt E yR_isDigit cR_isDigit 1 (some .boolean) 1 sR_isDigit :=
  metS (n := 30) (tab := tR_isDigit) (cals := []) hE flR_ok pfR_ok csR_ok rfl (by decide) kR_isDigit rfl cf_nil (rt_z rfl (fun as hp h => by obtain ⟨w, rfl, -⟩ := cs1_s h; exact isB_if)) cs1_c (by decide) rfl (fun as hp hl h => by
    obtain ⟨w, rfl, hP⟩ := cs1_s h
    refine ⟨fun c3 => ⟨rfl, ?_, rfl⟩, fun c3 => ⟨fun c9 => ⟨rfl, ?_, rfl⟩, fun c9 => ⟨rfl, ?_, rfl⟩⟩⟩
    · exact congrArg some (if_pos (Or.inl c3)).symm
    · exact congrArg some (if_pos (Or.inr c9)).symm
    · exact congrArg some (if_neg (fun q => q.elim c3 c9)).symm)
def isK (x : Int32) : Prop := x = 111 ∨ x = 114 ∨ x = 60 ∨ x = 62 ∨ x = 120
def fKind (x : Int32) : Int32 := if x = 111 ∨ x = 114 ∨ x = 60 ∨ x = 62 ∨ x = 120 then 1 else 0
def sR_isKind : mm_Ct := cs1 1 (fun _ _ => True) (fun _ _ => 0) (fun x _ => fKind x)
theorem M_R_isKind {E : En} (hE : EOk E) : Mt E yR_isKind cR_isKind 1 (some .boolean) 1 sR_isKind :=
  metS (n := 40) (tab := tR_isKind) (cals := []) hE flR_ok pfR_ok csR_ok rfl (by decide) kR_isKind rfl cf_nil (rt_z rfl (fun as hp h => by obtain ⟨w, rfl, -⟩ := cs1_s h; exact isB_fi)) cs1_c (by decide) rfl (fun as hp hl h => by
    obtain ⟨w, rfl, hP⟩ := cs1_s h
    refine ⟨fun c3 => ⟨rfl, ?_, rfl⟩, fun c3 => ⟨fun c9 => ⟨rfl, ?_, rfl⟩, fun c9 => ⟨fun c15 => ⟨rfl, ?_, rfl⟩, fun c15 => ⟨fun c21 => ⟨rfl, ?_, rfl⟩, fun c21 => ⟨fun c27 => ⟨rfl, ?_, rfl⟩, fun c27 => ⟨rfl, ?_, rfl⟩⟩⟩⟩⟩⟩
    · exact congrArg some (if_pos (Or.inl c3)).symm
    · exact congrArg some (if_pos (Or.inr (Or.inl c9))).symm
    · exact congrArg some (if_pos (Or.inr (Or.inr (Or.inl c15)))).symm
    · exact congrArg some (if_pos (Or.inr (Or.inr (Or.inr (Or.inl c21))))).symm
    · exact congrArg some (if_neg (fun q => by
        rcases q with q | q | q | q | q
        · exact c3 q
        · exact c9 q
        · exact c15 q
        · exact c21 q
        · exact c27 q)).symm
    · exact congrArg some (if_pos (Or.inr (Or.inr (Or.inr (Or.inr c27))))).symm)
