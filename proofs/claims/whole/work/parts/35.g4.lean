/-! ===== DieGraphs: linked, unit, type, count, overlap ===== -/
def xLk (c k : Int32) (hp : mm_Hp) : Nat := if xCoin c hp = 0 then xPlace k else xCoin c hp
/-- of the coins from i on, n: the one behind k linked ones, a passed already -/
def fLkF (f : Nat → Int32) (k : Int32) : Nat → Nat → Int32 → Int32
  | 0, _, _ => -1
  | n + 1, i, a => if f i = 0 then fLkF f k n (i + 1) a else if a = k then nI i else fLkF f k n (i + 1) (a + 1)
theorem M_G_linked_g {E : En} (hE : EOk E) (rv : Int32 → Int32 → mm_Hp → Int32) (hrv : ∀ c k hp n, szN hp = n → rv c k hp = fLkF (fun i => fC_areLinked c (nI i) hp) k n 0 0) :
    Mt E yG_linked cG_linked 5 (some .int) 9 (ct2 0 1 (fun _ _ hp => szOk hp) xLk rv (fun _ _ hp => hp)) :=
  metG (n := 60) (tab := tG_linked) (cals := [(142, sG_requireCoin), (237, sG_requirePlace), (116, sC_size), (346, sC_areLinked)]) hE rfl (by decide) (by decide) kG_linked rfl (cf_v 71 (lG_71 (M_G_requireCoin hE) (by decide) ct1_t rfl) (cf_s 118 (lG_118 (M_G_requirePlace hE) (by decide) rfl) (cf_v 58 (lG_58 (M_C_size hE) (by decide) ct0_t rfl) (cf_v 173 (lG_173 (M_C_areLinked hE) (by decide) ct2_t rfl) cf_nil)))) (rt_i rfl) ct2_c (Nat.le_of_ble_eq_true rfl) rfl
    (fun as hp pc => cond (Nat.beq pc 14) (some (fun L hp' => hp' = hp ∧ ∃ (i : Nat) (c k x a : Int32), as = [.ref 0, .int c, .int k] ∧ xLk c k hp = 0 ∧ vp_in c 80 ∧ L = [some (.ref 0), some (.int c), some (.int k), some (.int a), some (.int x)] ∧ x = nI i ∧ i ≤ szN hp ∧ fLkF (fun i => fC_areLinked c (nI i) hp) k (szN hp - i) i a = rv c k hp)) none) (fun _ L _ => msk 100 4 L)
    (fun as hp hl h => by
      obtain ⟨c, k, rfl, hP⟩ := ct2_s h
      have X1 : ∀ x, xCoin c hp = x + 1 → xLk c k hp = x + 1 := fun x q => by unfold xLk; rw [if_neg (by omega)]; exact q
      have X2 : xCoin c hp = 0 → xLk c k hp = xPlace k := fun q => by unfold xLk; rw [if_pos q]
      refine ⟨⟨rfl, trivial⟩, fun r2 => ⟨trivial, fun r6 => ?_, fun e6 x6 => ⟨(X2 r2).trans x6, rfl⟩⟩, fun e2 x2 => ⟨X1 e2 x2, rfl⟩⟩
      have r2 : xCoin c hp = 0 := r2
      have r6 : xPlace k = 0 := r6
      obtain ⟨j, hj, rfl, hj8⟩ := xCoin0 hP r2
      exact ⟨rfl, rfl, 0, _, k, _, _, rfl, (X2 r2).trans r6, nIv hj8 (by omega), rfl, rfl, by omega, (hrv _ k hp _ rfl).symm⟩)
    (fun as hp hl h pc P hq L hp' hL _ => by
      obtain ⟨c, k, rfl, hP⟩ := ct2_s h
      obtain ⟨rfl, rfl⟩ := at1 hq
      obtain ⟨rfl, i, c', k', x, a, heq, Z, hc, rfl, ex, hi, ee⟩ := hL
      cases heq
      obtain ⟨n, hn, hs, hsz⟩ := szE hP
      rw [hsz] at hi ee
      refine ⟨⟨rfl, trivial⟩, fun r20 => ⟨fun c23 => ⟨Z, ?_, rfl⟩, fun c23 => ?_⟩, fun e20 x20 => no0 x20⟩
      · have c23 : hp'.1 1 7 ≤ x := c23
        have := cge ex hs (by omega) (by omega) c23
        have hi2 : n - i = 0 := by omega
        rw [hi2] at ee
        exact congrArg some ee
      · have c23 : ¬ hp'.1 1 7 ≤ x := c23
        have hlt := clt ex hs (by omega) (by omega) c23
        have hin : vp_in x 80 := inx ex (by omega) (by omega)
        have hu : (if fC_areLinked c x hp' = 0 then fLkF (fun i => fC_areLinked c (nI i) hp') k (n - (i + 1)) (i + 1) a else if a = k then x else fLkF (fun i => fC_areLinked c (nI i) hp') k (n - (i + 1)) (i + 1) (a + 1)) = rv c k hp' := by
          rw [← ee, show n - i = (n - (i + 1)) + 1 by omega, ex]; rfl
        refine ⟨⟨rfl, hc, hin⟩, fun r33 => ⟨fun c36 => ?_, fun c36 => ⟨fun c41 => ?_, fun c41 => ⟨Z, ?_, rfl⟩⟩⟩, fun e33 x33 => no0 x33⟩
        · have c36 : fC_areLinked c x hp' = 0 := c36
          rw [if_pos c36] at hu
          exact ⟨rfl, ⟨rfl, i + 1, c, k, _, _, rfl, Z, hc, rfl, inc1 ex, by omega, by rw [hsz]; exact hu⟩, dec1 ex (by omega) (by omega)⟩
        · have c36 : ¬ fC_areLinked c x hp' = 0 := c36
          have c41 : ¬ a = k := c41
          rw [if_neg c36, if_neg c41] at hu
          exact ⟨rfl, ⟨rfl, i + 1, c, k, _, _, rfl, Z, hc, rfl, inc1 ex, by omega, by rw [hsz]; exact hu⟩, dec1 ex (by omega) (by omega)⟩
        · have c36 : ¬ fC_areLinked c x hp' = 0 := c36
          have c41 : a = k := c41
          rw [if_neg c36, if_pos c41] at hu
          exact congrArg some hu)
def fLk (c k : Int32) (hp : mm_Hp) : Int32 := fLkF (fun i => fC_areLinked c (nI i) hp) k (szN hp) 0 0
def sG_linked : mm_Ct := ct2 0 1 (fun _ _ hp => szOk hp) xLk fLk (fun _ _ hp => hp)
theorem M_G_linked {E : En} (hE : EOk E) : Mt E yG_linked cG_linked 5 (some .int) 9 sG_linked :=
  M_G_linked_g hE fLk (fun c k hp n h => by rw [← h]; rfl)
/-- methods with four ints -/
def ct4 (j r : Nat) (P : Int32 → Int32 → Int32 → Int32 → mm_Hp → Prop) (tx : Int32 → Int32 → Int32 → Int32 → mm_Hp → Nat) (rv : Int32 → Int32 → Int32 → Int32 → mm_Hp → Int32) (sg : Int32 → Int32 → Int32 → Int32 → mm_Hp → mm_Hp) : mm_Ct := (5, r, 0, fun as hp => match as with
  | [.ref k, .int a, .int b, .int c, .int d] => k = j ∧ P a b c d hp
  | _ => False, fun as hp => match as with
  | [_, .int a, .int b, .int c, .int d] => tx a b c d hp
  | _ => 0, fun as hp => match as with
  | [_, .int a, .int b, .int c, .int d] => rv a b c d hp
  | _ => 0, fun as hp => match as with
  | [_, .int a, .int b, .int c, .int d] => sg a b c d hp
  | _ => hp)
theorem ct4_s {j r : Nat} {P : Int32 → Int32 → Int32 → Int32 → mm_Hp → Prop} {tx : Int32 → Int32 → Int32 → Int32 → mm_Hp → Nat} {rv : Int32 → Int32 → Int32 → Int32 → mm_Hp → Int32} {sg : Int32 → Int32 → Int32 → Int32 → mm_Hp → mm_Hp} {as : List Value} {hp : mm_Hp} (h : (ct4 j r P tx rv sg).2.2.2.1 as hp) : ∃ a b c d, as = [.ref j, .int a, .int b, .int c, .int d] ∧ P a b c d hp := by
  unfold ct4 at h
  dsimp only at h
  split at h
  · obtain ⟨rfl, h⟩ := h; exact ⟨_, _, _, _, rfl, h⟩
  · exact h.elim
theorem ct4_c {j r : Nat} {P : Int32 → Int32 → Int32 → Int32 → mm_Hp → Prop} {tx : Int32 → Int32 → Int32 → Int32 → mm_Hp → Nat} {rv : Int32 → Int32 → Int32 → Int32 → mm_Hp → Int32} {sg : Int32 → Int32 → Int32 → Int32 → mm_Hp → mm_Hp} (as : List Value) (hp : mm_Hp) (h : (ct4 j r P tx rv sg).2.2.2.1 as hp) : ∀ v ∈ as, mm_c1 v = true := by
  obtain ⟨a, b, c, d, rfl, -⟩ := ct4_s h
  intro v hv
  simp at hv
  rcases hv with rfl | rfl | rfl | rfl | rfl <;> rfl
theorem ct4_t {j r : Nat} {P : Int32 → Int32 → Int32 → Int32 → mm_Hp → Prop} {tx : Int32 → Int32 → Int32 → Int32 → mm_Hp → Nat} {rv : Int32 → Int32 → Int32 → Int32 → mm_Hp → Int32} {sg : Int32 → Int32 → Int32 → Int32 → mm_Hp → mm_Hp} (as : List Value) (hp : mm_Hp) (h : (ct4 j r P tx rv sg).2.2.2.1 as hp) : ∃ as', as = .ref j :: as' := by
  obtain ⟨a, b, c, d, rfl, -⟩ := ct4_s h
  exact ⟨_, rfl⟩
def xUn (a b c d : Int32) (hp : mm_Hp) : Nat := if hp.1 4 2 + (fSigns a + fSigns b + fSigns c + fSigns d) ≤ 40 then 0 else 3
theorem M_G_unit_g {E : En} (hE : EOk E) (ha : Int32 → mm_Hp → mm_Hp) (hMA : Mt E yR_append cR_append 4 none 1 (ct1 4 0 (fun _ hp => txOk hp) (fun _ _ => 0) (fun _ _ => 0) ha)) (hok : ∀ w hp, txOk hp → txOk (ha w hp)) (rv : Int32 → Int32 → Int32 → Int32 → mm_Hp → Int32) (sg : Int32 → Int32 → Int32 → Int32 → mm_Hp → mm_Hp) (h0 : ∀ a b c d hp, xUn a b c d hp = 0 → rv a b c d hp = (ha d (ha c (ha b (ha a hp)))).1 4 2 ∧ sg a b c d hp = ha d (ha c (ha b (ha a hp)))) (hx : ∀ a b c d hp, xUn a b c d hp = 3 → sg a b c d hp = hp) :
    Mt E yG_unit cG_unit 6 (some .int) 9 (ct4 0 1 (fun _ _ _ _ hp => txOk hp) xUn rv sg) :=
  metGS (n := 60) (tab := tG_unit) (cals := [(353, sR_signsIn), (358, sR_textLength), (368, ct1 4 0 (fun _ hp => txOk hp) (fun _ _ => 0) (fun _ _ => 0) ha)]) hE rfl (by decide) (by decide) kG_unit rfl (cf_s 176 (lG_176 (M_R_signsIn hE) (by decide) rfl) (cf_v 179 (lG_179 (M_R_textLength hE) (by decide) ct0_t rfl) (cf_v 184 (lG_184 hMA (by decide) ct1_t rfl) cf_nil))) (rt_i rfl) ct4_c (Nat.le_of_ble_eq_true rfl) rfl (fun as hp hl h => by
    obtain ⟨a, b, c, d, rfl, hP⟩ := ct4_s h
    refine ⟨trivial, fun r1 => ⟨trivial, fun r5 => ⟨trivial, fun r10 => ⟨trivial, fun r16 => ⟨⟨rfl, trivial⟩, fun r26 => ⟨fun c34 => ?_, fun c34 => ?_⟩, fun e26 x26 => no0 x26⟩, fun e16 x16 => no0 x16⟩, fun e10 x10 => no0 x10⟩, fun e5 x5 => no0 x5⟩, fun e1 x1 => no0 x1⟩
    · have c34 : hp.1 4 2 + (fSigns a + fSigns b + fSigns c + fSigns d) ≤ 40 := c34
      have Z : xUn a b c d hp = 0 := if_pos c34
      obtain ⟨q1, q2⟩ := h0 a b c d hp Z
      exact ⟨⟨rfl, hP⟩, fun r52 => ⟨⟨rfl, hok _ _ hP⟩, fun r60 => ⟨⟨rfl, hok _ _ (hok _ _ hP)⟩, fun r68 => ⟨⟨rfl, hok _ _ (hok _ _ (hok _ _ hP))⟩, fun r77 => ⟨⟨rfl, trivial⟩, fun r84 => ⟨Z, congrArg some q1.symm, q2.symm⟩, fun e84 x84 => no0 x84⟩, fun e77 x77 => no0 x77⟩, fun e68 x68 => no0 x68⟩, fun e60 x60 => no0 x60⟩, fun e52 x52 => no0 x52⟩
    · have c34 : ¬ hp.1 4 2 + (fSigns a + fSigns b + fSigns c + fSigns d) ≤ 40 := c34
      have Z : xUn a b c d hp = 3 := if_neg c34
      exact ⟨rfl, Z, (hx a b c d hp Z).symm⟩)
theorem bApp_40 (w : Int32) (k : Nat) (q : Nat × (Nat → Int32)) (h : q.1 ≤ 40) : (bApp w k q).1 ≤ 40 := by
  unfold bApp
  split
  · exact h
  · split
    · exact h
    · show q.1 + 1 ≤ 40
      omega
theorem fApp_40 (w : Int32) (hp : mm_Hp) (h : txOk hp) : (fApp w hp).1 ≤ 40 := by
  obtain ⟨t, ht, et⟩ := h
  have h0 : txN hp ≤ 40 := by unfold txN; rw [et, nIc (by omega)]; exact ht
  unfold fApp
  exact bApp_40 w 3 _ (bApp_40 w 2 _ (bApp_40 w 1 _ (bApp_40 w 0 _ h0)))
theorem hApp_ok (w : Int32) (hp : mm_Hp) (h : txOk hp) : txOk (hApp w hp) := by
  refine ⟨(fApp w hp).1, fApp_40 w hp h, ?_⟩
  unfold hApp
  rw [sR_ne (by omega), sR_at]
  simp [upd]
def hUn (a b c d : Int32) (hp : mm_Hp) : mm_Hp := hApp d (hApp c (hApp b (hApp a hp)))
def sG_unit : mm_Ct := ct4 0 1 (fun _ _ _ _ hp => txOk hp) xUn (fun a b c d hp => (hUn a b c d hp).1 4 2) (fun a b c d hp => if xUn a b c d hp = 0 then hUn a b c d hp else hp)
theorem M_G_unit {E : En} (hE : EOk E) : Mt E yG_unit cG_unit 6 (some .int) 9 sG_unit :=
  M_G_unit_g hE hApp (M_R_append hE) hApp_ok (fun a b c d hp => (hUn a b c d hp).1 4 2) (fun a b c d hp => if xUn a b c d hp = 0 then hUn a b c d hp else hp) (fun a b c d hp h => ⟨rfl, if_pos h⟩) (fun a b c d hp h => if_neg (by omega))
theorem M_G_type_g {E : En} (hE : EOk E) (ft : Int32 → mm_Hp → Int32) (hMT : Mt E yR_typeOf cR_typeOf 3 (some .int) 4 (ct1 4 1 (fun c hp => coOk c hp ∧ rlOk hp) (fun _ _ => 0) ft (fun _ hp => hp))) :
    Mt E yG_type cG_type 2 (some .int) 9 (ct1 0 1 (fun _ hp => cnOk hp ∧ rlOk hp) xCoin ft (fun _ hp => hp)) :=
  metGS (n := 60) (tab := tG_type) (cals := [(142, sG_requireCoin), (386, ct1 4 1 (fun c hp => coOk c hp ∧ rlOk hp) (fun _ _ => 0) ft (fun _ hp => hp))]) hE rfl (by decide) (by decide) kG_type rfl (cf_v 71 (lG_71 (M_G_requireCoin hE) (by decide) ct1_t rfl) (cf_v 193 (lG_193 hMT (by decide) ct1_t rfl) cf_nil)) (rt_i rfl) ct1_c (Nat.le_of_ble_eq_true rfl) rfl (fun as hp hl h => by
    obtain ⟨c, rfl, hP, hrl⟩ := ct1_s h
    refine ⟨⟨rfl, trivial⟩, fun r2 => ?_, fun e2 x2 => ⟨x2, rfl⟩⟩
    have r2 : xCoin c hp = 0 := r2
    obtain ⟨k, hk, rfl, hk8⟩ := xCoin0 hP.1 r2
    have hco : coOk (nI k) hp := ⟨nIv hk8 (by omega), by rw [nIc (by omega)]; exact (hP.2 k hk).1⟩
    exact ⟨⟨rfl, hco, hrl⟩, fun r10 => ⟨r2, rfl, rfl⟩, fun e10 x10 => no0 x10⟩)
def sG_type : mm_Ct := ct1 0 1 (fun _ hp => cnOk hp ∧ rlOk hp) xCoin fType (fun _ hp => hp)
theorem M_G_type {E : En} (hE : EOk E) : Mt E yG_type cG_type 2 (some .int) 9 sG_type :=
  M_G_type_g hE fType (M_R_typeOf hE)
def xCt (w : Int32) : Nat := if w.toInt < 0 ∨ 5 < w.toInt then 1 else 0
theorem M_G_count_g {E : En} (hE : EOk E) (rv : Int32 → mm_Hp → Int32) (h0 : ∀ w hp, w.toInt = 0 → rv w hp = hp.1 1 7) (h1 : ∀ w hp, w.toInt = 1 → rv w hp = cnt1 (hp.1 11) (szN hp)) (h2 : ∀ w hp, w.toInt = 2 → rv w hp = hp.1 3 3) (h3 : ∀ w hp, w.toInt = 3 → rv w hp = hp.1 0 4) (h4 : ∀ w hp, w.toInt = 4 → rv w hp = hp.1 4 8) (h5 : ∀ w hp, w.toInt = 5 → rv w hp = hp.1 4 2) :
    Mt E yG_count cG_count 2 (some .int) 9 (ct1 0 1 (fun _ hp => szOk hp) (fun w _ => xCt w) rv (fun _ hp => hp)) :=
  metGS (n := 60) (tab := tG_count) (cals := [(116, sC_size), (392, sC_doubted), (214, sP_rows), (374, sR_size), (358, sR_textLength)]) hE rfl (by decide) (by decide) kG_count rfl (cf_v 58 (lG_58 (M_C_size hE) (by decide) ct0_t rfl) (cf_v 196 (lG_196 (M_C_doubted hE) (by decide) ct0_t rfl) (cf_v 107 (lG_107 (M_P_rows hE) (by decide) ct0_t rfl) (cf_v 187 (lG_187 (M_R_size hE) (by decide) ct0_t rfl) (cf_v 179 (lG_179 (M_R_textLength hE) (by decide) ct0_t rfl) cf_nil))))) (rt_i rfl) ct1_c (Nat.le_of_ble_eq_true rfl) rfl (fun as hp hl h => by
    obtain ⟨w, rfl, hP⟩ := ct1_s h
    have Z : ∀ {k : Int}, w.toInt = k → 0 ≤ k → k ≤ 5 → xCt w = 0 := fun e k0 k5 => by unfold xCt; rw [if_neg (by omega)]
    refine ⟨fun c1 => ⟨rfl, if_pos c1, rfl⟩, fun c1 => ⟨⟨rfl, trivial⟩, fun r44 => ⟨Z c1 (by omega) (by omega), ?_, rfl⟩, fun e44 x44 => no0 x44⟩, fun c1 => ⟨⟨rfl, hP⟩, fun r52 => ⟨Z c1 (by omega) (by omega), ?_, rfl⟩, fun e52 x52 => no0 x52⟩, fun c1 => ⟨⟨rfl, trivial⟩, fun r60 => ⟨Z c1 (by omega) (by omega), ?_, rfl⟩, fun e60 x60 => no0 x60⟩, fun c1 => ⟨Z c1 (by omega) (by omega), ?_, rfl⟩, fun c1 => ⟨⟨rfl, trivial⟩, fun r73 => ⟨Z c1 (by omega) (by omega), ?_, rfl⟩, fun e73 x73 => no0 x73⟩, fun c1 => ⟨⟨rfl, trivial⟩, fun r81 => ⟨Z c1 (by omega) (by omega), ?_, rfl⟩, fun e81 x81 => no0 x81⟩, trivial⟩
    · exact congrArg some (h0 w hp c1).symm
    · exact congrArg some (h1 w hp c1).symm
    · exact congrArg some (h2 w hp c1).symm
    · exact congrArg some (h3 w hp c1).symm
    · exact congrArg some (h4 w hp c1).symm
    · exact congrArg some (h5 w hp c1).symm)
def fCt (w : Int32) (hp : mm_Hp) : Int32 := if w.toInt = 0 then hp.1 1 7 else if w.toInt = 1 then cnt1 (hp.1 11) (szN hp) else if w.toInt = 2 then hp.1 3 3 else if w.toInt = 3 then hp.1 0 4 else if w.toInt = 4 then hp.1 4 8 else hp.1 4 2
def sG_count : mm_Ct := ct1 0 1 (fun _ hp => szOk hp) (fun w _ => xCt w) fCt (fun _ hp => hp)
theorem M_G_count {E : En} (hE : EOk E) : Mt E yG_count cG_count 2 (some .int) 9 sG_count :=
  M_G_count_g hE fCt (fun w hp h => by unfold fCt; rw [if_pos h]) (fun w hp h => by unfold fCt; rw [if_neg (by omega), if_pos h]) (fun w hp h => by unfold fCt; rw [if_neg (by omega), if_neg (by omega), if_pos h]) (fun w hp h => by unfold fCt; rw [if_neg (by omega), if_neg (by omega), if_neg (by omega), if_pos h]) (fun w hp h => by unfold fCt; rw [if_neg (by omega), if_neg (by omega), if_neg (by omega), if_neg (by omega), if_pos h]) (fun w hp h => by unfold fCt; rw [if_neg (by omega), if_neg (by omega), if_neg (by omega), if_neg (by omega), if_neg (by omega)])
def xOv (a b p : Int32) (hp : mm_Hp) : Nat := if xHoard a hp = 0 then (if xHoard b hp = 0 then xSide p else xHoard b hp) else xHoard a hp
theorem M_G_overlap_g {E : En} (hE : EOk E) (sd : Int32 → mm_Hp → Int32) (hMS : Mt E yC_sureDiesOfHoard cC_sureDiesOfHoard 4 (some .int) 2 (ct1 1 1 (fun _ hp => szOk hp) (fun _ _ => 0) sd (fun _ hp => hp))) (bc : Int32 → Int32) (hMB : Mt E yI_bitCount cI_bitCount 1 (some .int) 1 (cs1 1 (fun _ _ => True) (fun _ _ => 0) (fun x _ => bc x))) (fl : Int32 → Int32 → Int32 → Int32) (hML : Mt E yG_lessened cG_lessened 5 (some .int) 2 (cs3 1 (fun _ _ _ _ => True) (fun _ _ _ _ => 0) (fun a b p _ => fl a b p)))
    (rv : Int32 → Int32 → Int32 → mm_Hp → Int32) (hr0 : ∀ a b p hp, bc (sd a hp ||| sd b hp) = 0 → rv a b p hp = fl 0 1 p) (hr1 : ∀ a b p hp, ¬ bc (sd a hp ||| sd b hp) = 0 → rv a b p hp = fl (bc (sd a hp &&& sd b hp)) (bc (sd a hp ||| sd b hp)) p) :
    Mt E yG_overlap cG_overlap 8 (some .int) 9 (ct3 0 1 (fun _ _ _ hp => szOk hp) xOv rv (fun _ _ _ hp => hp)) :=
  metGS (n := 60) (tab := tG_overlap) (cals := [(312, sG_requireHoard), (279, sG_requireSide), (330, ct1 1 1 (fun _ hp => szOk hp) (fun _ _ => 0) sd (fun _ hp => hp)), (337, cs1 1 (fun _ _ => True) (fun _ _ => 0) (fun x _ => bc x)), (291, cs3 1 (fun _ _ _ _ => True) (fun _ _ _ _ => 0) (fun a b p _ => fl a b p))]) hE rfl (by decide) (by decide) kG_overlap rfl (cf_v 156 (lG_156 (M_G_requireHoard hE) (by decide) ct1_t rfl) (cf_s 139 (lG_139 (M_G_requirePart hE) (by decide) rfl) (cf_v 165 (lG_165 hMS (by decide) ct1_t rfl) (cf_s 168 (lG_168 hMB (by decide) rfl) (cf_s 145 (lG_145 hML (by decide) rfl) cf_nil))))) (rt_i rfl) ct3_c (Nat.le_of_ble_eq_true rfl) rfl (fun as hp hl h => by
    obtain ⟨a, b, p, rfl, hP⟩ := ct3_s h
    have X1 : ∀ x, xHoard a hp = x + 1 → xOv a b p hp = x + 1 := fun x q => by unfold xOv; rw [if_neg (by omega)]; exact q
    have X2 : ∀ x, xHoard a hp = 0 → xHoard b hp = x + 1 → xOv a b p hp = x + 1 := fun x q r => by unfold xOv; rw [if_pos q, if_neg (by omega)]; exact r
    have X3 : xHoard a hp = 0 → xHoard b hp = 0 → xOv a b p hp = xSide p := fun q r => by unfold xOv; rw [if_pos q, if_pos r]
    refine ⟨⟨rfl, trivial⟩, fun r2 => ⟨⟨rfl, trivial⟩, fun r7 => ⟨trivial, fun r11 => ?_, fun e11 x11 => ⟨(X3 r2 r7).trans x11, rfl⟩⟩, fun e7 x7 => ⟨X2 e7 r2 x7, rfl⟩⟩, fun e2 x2 => ⟨X1 e2 x2, rfl⟩⟩
    have Z : xOv a b p hp = 0 := (X3 r2 r7).trans r11
    refine ⟨⟨rfl, hP⟩, fun r19 => ⟨⟨rfl, hP⟩, fun r29 => ⟨trivial, fun r39 => ⟨trivial, fun r49 => ⟨fun c56 => ⟨trivial, fun r73 => ⟨Z, ?_, rfl⟩, fun e73 x73 => no0 x73⟩, fun c56 => ⟨trivial, fun r62 => ⟨Z, ?_, rfl⟩, fun e62 x62 => no0 x62⟩⟩, fun e49 x49 => no0 x49⟩, fun e39 x39 => no0 x39⟩, fun e29 x29 => no0 x29⟩, fun e19 x19 => no0 x19⟩
    · have c56 : ¬ bc (sd a hp ||| sd b hp) = 0 := c56
      exact congrArg some (hr1 a b p hp c56).symm
    · have c56 : bc (sd a hp ||| sd b hp) = 0 := c56
      exact congrArg some (hr0 a b p hp c56).symm)
def sdH (h : Int32) (hp : mm_Hp) : Int32 := lp (bC_dies hp h) (szN hp) 0
def fOv (a b p : Int32) (hp : mm_Hp) : Int32 := if fBC (sdH a hp ||| sdH b hp) = 0 then fLess 0 1 p else fLess (fBC (sdH a hp &&& sdH b hp)) (fBC (sdH a hp ||| sdH b hp)) p
def sG_overlap : mm_Ct := ct3 0 1 (fun _ _ _ hp => szOk hp) xOv fOv (fun _ _ _ hp => hp)
theorem M_G_overlap {E : En} (hE : EOk E) : Mt E yG_overlap cG_overlap 8 (some .int) 9 sG_overlap :=
  M_G_overlap_g hE sdH (M_C_sureDiesOfHoard hE) fBC (M_I_bitCount hE) fLess (M_G_lessened hE) fOv (fun a b p hp h => if_pos h) (fun a b p hp h => if_neg h)
