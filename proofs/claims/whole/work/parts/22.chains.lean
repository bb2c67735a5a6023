/-! ===== a cell's row put anew ===== -/
def sR (hp : mm_Hp) (c : Nat) (g : Nat → Int32) : mm_Hp := (fun k => cond (Nat.beq k c) g (hp.1 k), hp.2)
theorem beq_ne {a b : Nat} (h : a ≠ b) : Nat.beq a b = false := by
  cases hb : Nat.beq a b with
  | false => rfl
  | true => exact absurd (Nat.eq_of_beq_eq_true hb) h
theorem sR_at (hp : mm_Hp) (c : Nat) (g : Nat → Int32) : (sR hp c g).1 c = g := by simp [sR]
theorem sR_ne {hp : mm_Hp} {c k : Nat} {g : Nat → Int32} (h : k ≠ c) : (sR hp c g).1 k = hp.1 k := by simp [sR, beq_ne h]
theorem hp_ext {a b : mm_Hp} (h : ∀ k, a.1 k = b.1 k) (h2 : a.2 = b.2) : a = b := Prod.ext (funext h) h2
theorem up_as (hp : mm_Hp) (c i : Nat) (v : Int32) : (mm_up hp.1 c i v, hp.2) = sR hp c (upd (hp.1 c) i v) := by
  refine hp_ext (fun k => ?_) rfl
  by_cases h : k = c
  · subst h; rw [sR_at]; exact mm_up_s
  · rw [sR_ne h]; exact mm_up_n h
theorem sR_sR (hp : mm_Hp) (c : Nat) (f g : Nat → Int32) : sR (sR hp c f) c g = sR hp c g := by
  refine hp_ext (fun k => ?_) rfl
  by_cases h : k = c
  · subst h; rw [sR_at, sR_at]
  · rw [sR_ne h, sR_ne h, sR_ne h]
theorem sR_comm {hp : mm_Hp} {c d : Nat} (hcd : c ≠ d) (f g : Nat → Int32) : sR (sR hp c f) d g = sR (sR hp d g) c f := by
  refine hp_ext (fun k => ?_) rfl
  by_cases h : k = c
  · subst h; rw [sR_ne hcd, sR_at, sR_at]
  · by_cases h2 : k = d
    · subst h2; rw [sR_at, sR_ne h, sR_at]
    · rw [sR_ne h2, sR_ne h, sR_ne h, sR_ne h2]
theorem sR_self (hp : mm_Hp) (c : Nat) : sR hp c (hp.1 c) = hp := by
  refine hp_ext (fun k => ?_) rfl
  by_cases h : k = c
  · subst h; rw [sR_at]
  · rw [sR_ne h]
theorem up_sR (hp : mm_Hp) (c i : Nat) (g : Nat → Int32) (v : Int32) : (mm_up (sR hp c g).1 c i v, (sR hp c g).2) = sR hp c (upd g i v) := by
  rw [up_as, sR_sR, sR_at]
theorem up_nR {hp : mm_Hp} {c d : Nat} (h : d ≠ c) (i : Nat) (g : Nat → Int32) (v : Int32) : (mm_up (sR hp c g).1 d i v, (sR hp c g).2) = sR (sR hp d (upd (hp.1 d) i v)) c g := by
  rw [up_as, sR_ne h, sR_comm (Ne.symm h)]
theorem upd2 (f : Nat → Int32) (i : Nat) (a b : Int32) : upd (upd f i a) i b = upd f i b := by
  funext j
  unfold upd
  split <;> rfl
/-! ===== Math.min, Math.max ===== -/
def sMin : mm_Ct := cs2 1 (fun _ _ _ => True) (fun _ _ _ => 0) (fun x y _ => if y < x then y else x)
def sMax : mm_Ct := cs2 1 (fun _ _ _ => True) (fun _ _ _ => 0) (fun x y _ => if x < y then y else x)
theorem cMin {E : En} {d : Nat} (hd : 1 ≤ d) : CallFine E RX0 d true 45 sMin := by
  intro u p e s m args below meth c cc nL A hin pc ls as rest hp H locs cells slots Q hdg hsz hrest hw hc hs hlen hpre k1 k2
  obtain ⟨x, y, rfl, -⟩ := cs2_s hpre
  have hts := hin.1.2.2.2.2
  obtain ⟨hx, hb, hml, hown, -⟩ := hin.1
  have h1 : ∀ r : List Value, ((r.map (mm_V E.2.2.1)).map fun v => v.category).sum ≤ 2 * r.length := by
    intro r
    induction r with
    | nil => simp
    | cons v r ih =>
      have := lv_cat (mm_V E.2.2.1 v)
      simp only [List.map_cons, List.sum_cons, List.length_cons]
      omega
  have h2 := h1 rest
  have hlo : 33 ≤ (rmk d u).locals := by show 33 ≤ 33 * d; omega
  have hl9 : ((rest.map (mm_V E.2.2.1)).map fun v => v.category).sum + 13 ≤ (rmk d u).locals := by omega
  have K := k1 rfl H locs hw
  exact va_mmin (rest := rest.map (mm_V E.2.2.1)) (own := RX0) (index := 45) hx hb (hml.trans hsz.symm) hown (hts _ (tb (w := .methodLink RX0 45 Lib.Math.min.name) 221 (by decide +kernel) (by decide +kernel))) (hts _ (tb (w := .static Lib.Math.min.name) 222 (by decide +kernel) (by decide +kernel))) (hts _ (tb (w := .initialized "java/lang/Math") 51 (by decide +kernel) (by decide +kernel))) (hts _ (tb (w := .code Lib.Math.min.name Lib.Math.min.code 2 (some .int)) 223 (by decide +kernel) (by decide +kernel))) hd hl9 (Nat.le_trans (Nat.le_add_right _ _) hc) (Nat.le_trans (Nat.le_add_right _ _) hs) hdg K
theorem cMax {E : En} {d : Nat} (hd : 1 ≤ d) : CallFine E RX0 d true 50 sMax := by
  intro u p e s m args below meth c cc nL A hin pc ls as rest hp H locs cells slots Q hdg hsz hrest hw hc hs hlen hpre k1 k2
  obtain ⟨x, y, rfl, -⟩ := cs2_s hpre
  have hts := hin.1.2.2.2.2
  obtain ⟨hx, hb, hml, hown, -⟩ := hin.1
  have h1 : ∀ r : List Value, ((r.map (mm_V E.2.2.1)).map fun v => v.category).sum ≤ 2 * r.length := by
    intro r
    induction r with
    | nil => simp
    | cons v r ih =>
      have := lv_cat (mm_V E.2.2.1 v)
      simp only [List.map_cons, List.sum_cons, List.length_cons]
      omega
  have h2 := h1 rest
  have hlo : 33 ≤ (rmk d u).locals := by show 33 ≤ 33 * d; omega
  have hl9 : ((rest.map (mm_V E.2.2.1)).map fun v => v.category).sum + 13 ≤ (rmk d u).locals := by omega
  have K := k1 rfl H locs hw
  exact va_mmax (rest := rest.map (mm_V E.2.2.1)) (own := RX0) (index := 50) hx hb (hml.trans hsz.symm) hown (hts _ (tb (w := .methodLink RX0 50 Lib.Math.max.name) 224 (by decide +kernel) (by decide +kernel))) (hts _ (tb (w := .static Lib.Math.max.name) 225 (by decide +kernel) (by decide +kernel))) (hts _ (tb (w := .initialized "java/lang/Math") 51 (by decide +kernel) (by decide +kernel))) (hts _ (tb (w := .code Lib.Math.max.name Lib.Math.max.code 2 (some .int)) 226 (by decide +kernel) (by decide +kernel))) hd hl9 (Nat.le_trans (Nat.le_add_right _ _) hc) (Nat.le_trans (Nat.le_add_right _ _) hs) hdg K
/-! ===== DieGraphs$Chains ===== -/
def bJoin (mn mx : Int32) (k : Nat) (g : Nat → Int32) : Nat → Int32 := if g k = mx then upd g k mn else g
def fJoin (g : Nat → Int32) (a b : Int32) : Nat → Int32 := if a = b then g else lp (bJoin (if b < a then b else a) (if a < b then b else a)) 32 g
def sH_join : mm_Ct := ct2 2 0 (fun _ _ _ => True) (fun _ _ _ => 0) (fun _ _ _ => 0) (fun a b hp => sR hp 12 (fJoin (hp.1 12) a b))
theorem M_H_join {E : En} (hE : EOk E) : Mt E yH_join cH_join 6 none 2 sH_join :=
  met (n := 60) (tab := tH_join) (cals := [(91, sMin), (101, sMax)]) hE flH_ok pfH_ok csH_ok rfl (by decide) kH_join rfl
    (cf_s 45 (cMin (by decide)) (cf_s 50 (cMax (by decide)) cf_nil)) (rt_v rfl) ct2_c (by decide) rfl
    (fun as hp pc => cond (Nat.beq pc 22) (some (fun L hp' => ∃ (a b : Int32) (i : Nat) (x : Int32) (g : Nat → Int32), as = [.ref 2, .int a, .int b] ∧ ¬ a = b ∧ L = [some (.ref 2), some (.int a), some (.int b), some (.int (if b < a then b else a)), some (.int (if a < b then b else a)), some (.int x)] ∧ x = nI i ∧ i ≤ 32 ∧ hp' = sR hp 12 g ∧ g = lp (bJoin (if b < a then b else a) (if a < b then b else a)) i (hp.1 12))) none) (fun _ L _ => msk 100 5 L)
    (fun as hp hl h => by
      obtain ⟨a, b, rfl, hP⟩ := ct2_s h
      refine ⟨fun c2 => ⟨trivial, fun r8 => ⟨trivial, fun r14 => ⟨rfl, a, b, 0, _, hp.1 12, rfl, c2, rfl, rfl, by omega, (sR_self hp 12).symm, rfl⟩, fun e14 x14 => no0 x14⟩, fun e8 x8 => no0 x8⟩, fun c2 => ⟨rfl, rfl, ?_⟩⟩
      have c2 : a = b := c2
      show hp = sR hp 12 (fJoin (hp.1 12) a b)
      unfold fJoin
      rw [if_pos c2, sR_self])
    (fun as hp hl h pc P hq L hp' hL _ => by
      obtain ⟨a, b, rfl, hP⟩ := ct2_s h
      obtain ⟨rfl, rfl⟩ := at1 hq
      obtain ⟨a', b', i, x, g, heq, hab, rfl, ex, hi, rfl, eg⟩ := hL
      cases heq
      refine ⟨fun c26 => ⟨rfl, rfl, ?_⟩, fun c26 => ?_⟩
      · have := cge ex (n := 32) rfl (by omega) (by omega) c26
        have hi2 : i = 32 := by omega
        subst hi2
        show sR hp 12 g = sR hp 12 (fJoin (hp.1 12) a b)
        unfold fJoin
        rw [if_neg hab, eg]
      · have hlt := clt ex (n := 32) rfl (by omega) (by omega) c26
        have hin : vp_in x 32 := inx ex hlt (by omega)
        have hx := nx ex (by omega)
        have hstep : lp (bJoin (if b < a then b else a) (if a < b then b else a)) (i + 1) (hp.1 12) = bJoin (if b < a then b else a) (if a < b then b else a) i g := by rw [eg]; rfl
        refine ⟨hin, ⟨fun c38 => ⟨rfl, ⟨a, b, i + 1, _, g, rfl, hab, rfl, inc1 ex, by omega, rfl, ?_⟩, dec1 ex (by omega) (by omega)⟩, fun c38 => ⟨hin, ⟨rfl, ⟨a, b, i + 1, _, upd g i (if b < a then b else a), rfl, hab, rfl, inc1 ex, by omega, ?_, ?_⟩, dec1 ex (by omega) (by omega)⟩⟩⟩⟩
        · have c38 : ¬ g x.toNatClampNeg = (if a < b then b else a) := c38
          rw [hx] at c38
          rw [hstep]
          unfold bJoin
          rw [if_neg c38]
        · show (mm_up (sR hp 12 g).1 12 x.toNatClampNeg (if b < a then b else a), (sR hp 12 g).2) = _
          rw [up_sR, hx]
        · have c38 : g x.toNatClampNeg = (if a < b then b else a) := c38
          rw [hx] at c38
          rw [hstep]
          unfold bJoin
          rw [if_pos c38])
/-- what is known of the coins -/
def cnOk (hp : mm_Hp) : Prop := szOk hp ∧ ∀ k, k < szN hp → isB (hp.1 11 k) ∧ (∃ f, f < 16 ∧ hp.1 5 k = nI f) ∧ (∃ b, 16 ≤ b ∧ b < 32 ∧ hp.1 6 k = nI b)
def idRow (g : Nat → Int32) : Nat → Int32 := lp (fun k g => upd g k (nI k)) 32 g
def bBuild (hp : mm_Hp) (k : Nat) (q : Int32 × (Nat → Int32)) : Int32 × (Nat → Int32) := if hp.1 11 k = 0 then (q.1 ||| (bit1 (hp.1 5 k) ||| bit1 (hp.1 6 k)), fJoin q.2 (q.2 (hp.1 5 k).toNatClampNeg) (q.2 (hp.1 6 k).toNatClampNeg)) else q
def fBuild (hp : mm_Hp) : Int32 × (Nat → Int32) := lp (bBuild hp) (szN hp) (0, idRow (hp.1 12))
def sH_build : mm_Ct := ct0 2 0 cnOk (fun _ => 0) (fun _ => 0) (fun hp => sR (sR hp 2 (upd (hp.1 2) 2 (fBuild hp).1)) 12 (fBuild hp).2)
theorem M_H_build {E : En} (hE : EOk E) : Mt E yH_build cH_build 4 none 3 sH_build :=
  met (n := 80) (tab := tH_build) (cals := [(46, sC_size), (58, sC_isDoubted), (66, sC_dieOf), (74, sH_join)]) hE flH_ok pfH_ok csH_ok rfl (by decide) kH_build rfl
    (cf_v 23 (lH_23 (M_C_size hE) (by decide) ct0_t rfl) (cf_v 29 (lH_29 (M_C_isDoubted hE) (by decide) ct1_t rfl) (cf_v 33 (lH_33 (M_C_dieOf hE) (by decide) ct2_t rfl) (cf_v 37 (lH_37 (M_H_join hE) (by decide) ct2_t rfl) cf_nil)))) (rt_v rfl) ct0_c (by decide) rfl
    (fun as hp pc => cond (Nat.beq pc 7) (some (fun L hp' => ∃ (i : Nat) (x : Int32) (g : Nat → Int32) (o1 o2 : Option Value), L = [some (.ref 2), some (.int x), o1, o2] ∧ x = nI i ∧ i ≤ 32 ∧ hp' = sR (sR hp 2 (upd (hp.1 2) 2 0)) 12 g ∧ g = lp (fun k g => upd g k (nI k)) i (hp.1 12)))
      (cond (Nat.beq pc 28) (some (fun L hp' => ∃ (i : Nat) (x : Int32) (q : Int32 × (Nat → Int32)) (o1 o2 : Option Value), L = [some (.ref 2), some (.int x), o1, o2] ∧ x = nI i ∧ i ≤ szN hp ∧ hp' = sR (sR hp 2 (upd (hp.1 2) 2 q.1)) 12 q.2 ∧ q = lp (bBuild hp) i (0, idRow (hp.1 12)))) none))
    (fun pc L _ => cond (Nat.beq pc 7) (200 + msk 100 1 L) (msk 100 1 L))
    (fun as hp hl h => by
      obtain ⟨rfl, hP⟩ := ct0_s h
      refine ⟨rfl, 0, _, hp.1 12, none, none, rfl, rfl, by omega, ?_, rfl⟩
      show (mm_up hp.1 2 2 0, hp.2) = _
      rw [up_as]
      exact (sR_self (sR hp 2 (upd (hp.1 2) 2 0)) 12).symm)
    (fun as hp hl h pc P hq L hp' hL _ => by
      obtain ⟨rfl, hP⟩ := ct0_s h
      rcases at2 hq with ⟨rfl, rfl⟩ | ⟨rfl, rfl⟩
      · obtain ⟨i, x, g, o1, o2, rfl, ex, hi, rfl, eg⟩ := hL
        refine ⟨fun c10 => ⟨rfl, ⟨0, 0, (0, g), o1, o2, rfl, rfl, Nat.zero_le _, rfl, ?_⟩, ?_⟩, fun c10 => ?_⟩
        · have := cge ex (n := 32) rfl (by omega) (by omega) c10
          have hi2 : i = 32 := by omega
          subst hi2
          rw [eg]
          rfl
        · show 100 - (0 : Int32).toNatClampNeg < 200 + (100 - x.toNatClampNeg)
          rw [show (0 : Int32).toNatClampNeg = 0 from rfl]
          omega
        · have hlt := clt ex (n := 32) rfl (by omega) (by omega) c10
          have hx := nx ex (by omega)
          refine ⟨inx ex hlt (by omega), ⟨rfl, ⟨i + 1, _, upd g i (nI i), o1, o2, rfl, inc1 ex, by omega, ?_, ?_⟩, ?_⟩⟩
          · show (mm_up (sR (sR hp 2 (upd (hp.1 2) 2 0)) 12 g).1 12 x.toNatClampNeg x, (sR (sR hp 2 (upd (hp.1 2) 2 0)) 12 g).2) = _
            rw [up_sR, hx, ex]
          · rw [eg]; rfl
          · have := dec1 ex (N := 100) (by omega) (by omega)
            show 200 + (100 - (x + 1).toNatClampNeg) < 200 + (100 - x.toNatClampNeg)
            omega
      · obtain ⟨i, x, q, o1, o2, rfl, ex, hi, rfl, eq⟩ := hL
        obtain ⟨n, hn, hs, hsz⟩ := szE hP.1
        rw [hsz] at hi
        refine ⟨⟨rfl, trivial⟩, fun r33 => ⟨fun c36 => ⟨rfl, rfl, ?_⟩, fun c36 => ?_⟩, fun e33 x33 => no0 x33⟩
        · have := cge ex hs (by omega) (by omega) c36
          have hi2 : i = n := by omega
          subst hi2
          show sR (sR hp 2 (upd (hp.1 2) 2 q.1)) 12 q.2 = sR (sR hp 2 (upd (hp.1 2) 2 (fBuild hp).1)) 12 (fBuild hp).2
          rw [eq]
          unfold fBuild
          rw [hsz]
        · have hlt := clt ex hs (by omega) (by omega) c36
          have hin : vp_in x 80 := inx ex (by omega) (by omega)
          have hx := nx ex (by omega)
          obtain ⟨hB, ⟨f, hf, ef⟩, ⟨b, hb1, hb2, eb⟩⟩ := hP.2 i (by omega)
          have hstep : lp (bBuild hp) (i + 1) (0, idRow (hp.1 12)) = bBuild hp i q := by rw [eq]; rfl
          have hf9 : hp.1 5 x.toNatClampNeg = nI f := by rw [hx]; exact ef
          have hb9 : hp.1 6 x.toNatClampNeg = nI b := by rw [hx]; exact eb
          refine ⟨⟨rfl, hin, ?_⟩, fun r44 => ⟨fun c47 => ⟨rfl, ⟨i + 1, _, q, o1, o2, rfl, inc1 ex, by omega, rfl, ?_⟩, dec1 ex (by omega) (by omega)⟩, fun c47 => ⟨⟨rfl, hin⟩, fun r56 => ⟨⟨rfl, hin⟩, fun r66 => ⟨?_, ⟨?_, ⟨⟨rfl, trivial⟩, fun r99 => ⟨rfl, ⟨i + 1, _, bBuild hp i q, _, _, rfl, inc1 ex, by omega, ?_, hstep.symm⟩, dec1 ex (by omega) (by omega)⟩, fun e99 x99 => no0 x99⟩⟩⟩, fun e66 x66 => no0 x66⟩, fun e56 x56 => no0 x56⟩⟩, fun e44 x44 => no0 x44⟩
          · show isB (hp.1 11 x.toNatClampNeg)
            rw [hx]; exact hB
          · have c47 : ¬ hp.1 11 x.toNatClampNeg = 0 := c47
            rw [hx] at c47
            rw [hstep]
            unfold bBuild
            rw [if_neg c47]
          · show vp_in (hp.1 5 x.toNatClampNeg) 32
            rw [hf9]; exact nIv (by omega) (by omega)
          · show vp_in (hp.1 6 x.toNatClampNeg) 32
            rw [hb9]; exact nIv (by omega) (by omega)
          · have c47 : hp.1 11 x.toNatClampNeg = 0 := c47
            rw [hx] at c47
            show sR (mm_up (sR (sR hp 2 (upd (hp.1 2) 2 q.1)) 12 q.2).1 2 2 (q.1 ||| (bit1 (hp.1 5 x.toNatClampNeg) ||| bit1 (hp.1 6 x.toNatClampNeg))), (sR (sR hp 2 (upd (hp.1 2) 2 q.1)) 12 q.2).2) 12 (fJoin q.2 (q.2 (hp.1 5 x.toNatClampNeg).toNatClampNeg) (q.2 (hp.1 6 x.toNatClampNeg).toNatClampNeg)) = _
            rw [up_nR (by decide), sR_sR, sR_sR, sR_at, upd2, hx]
            unfold bBuild
            rw [if_pos c47])
def sH_leastDieWith : mm_Ct := ct1 2 1 (fun d _ => vp_in d 32) (fun _ _ => 0) (fun d hp => hp.1 12 d.toNatClampNeg) (fun _ hp => hp)
theorem M_H_leastDieWith {E : En} (hE : EOk E) : Mt E yH_leastDieWith cH_leastDieWith 2 (some .int) 1 sH_leastDieWith :=
  metS (n := 20) (tab := tH_leastDieWith) (cals := []) hE flH_ok pfH_ok csH_ok rfl (by decide) kH_leastDieWith rfl cf_nil (rt_i rfl) ct1_c (by decide) rfl (fun as hp hl h => by
    obtain ⟨d, rfl, hP⟩ := ct1_s h
    exact ⟨hP, rfl, rfl, rfl⟩)
def sH_hasCoins : mm_Ct := ct1 2 1 (fun _ _ => True) (fun _ _ => 0) (fun d hp => if bitAt (hp.1 2 2) d = 0 then 0 else 1) (fun _ hp => hp)
theorem M_H_hasCoins {E : En} (hE : EOk E) : Mt E yH_hasCoins cH_hasCoins 2 (some .boolean) 2 sH_hasCoins :=
  metS (n := 20) (tab := tH_hasCoins) (cals := [(83, sG_contains)]) hE flH_ok pfH_ok csH_ok rfl (by decide) kH_hasCoins rfl (cf_s 41 (lH_41 hE (M_G_contains hE) (by decide) rfl (fun as hp h => by obtain ⟨a, b, rfl, -⟩ := cs2_s h; rfl)) cf_nil) (rt_z rfl (fun as hp h => by obtain ⟨d, rfl, -⟩ := ct1_s h; exact isB_if)) ct1_c (by decide) rfl (fun as hp hl h => by
    obtain ⟨d, rfl, hP⟩ := ct1_s h
    exact ⟨trivial, fun r5 => ⟨rfl, rfl, rfl⟩, fun e5 x5 => no0 x5⟩)
