/-! ===== the reference: compare, settle ===== -/
def mszN (hp : mm_Hp) : Nat := (hp.1 25 1).toNatClampNeg
def mdOk (hp : mm_Hp) : Prop := (∃ n, n ≤ 80 ∧ hp.1 25 1 = nI n) ∧ ∀ k, k < mszN hp → isB (hp.1 29 k) ∧ (∃ f, f < 16 ∧ hp.1 26 k = nI f) ∧ (∃ b, 16 ≤ b ∧ b < 32 ∧ hp.1 27 k = nI b)
theorem mszE {hp : mm_Hp} (h : ∃ n, n ≤ 80 ∧ hp.1 25 1 = nI n) : ∃ n, n ≤ 80 ∧ hp.1 25 1 = nI n ∧ mszN hp = n := by
  obtain ⟨n, hn, en⟩ := h
  exact ⟨n, hn, en, by unfold mszN; rw [en]; exact nIc (by omega)⟩
def mdI (hp : mm_Hp) (s a : Int32) : Int32 := if s = 0 then hp.1 26 a.toNatClampNeg else hp.1 27 a.toNatClampNeg
def msI (hp : mm_Hp) (s a : Int32) : Int32 := hp.1 30 (2 * a + s).toNatClampNeg
/-- a's other die was used before b's, by side s -/
def CmpC (hp : mm_Hp) (a b s : Int32) : Bool := decide (mdI hp s a = mdI hp s b) && decide (hp.1 29 a.toNatClampNeg = 0) && decide (hp.1 29 b.toNatClampNeg = 0) && !decide (msI hp s a = -1) && !decide (msI hp s b = -1) && !decide (msI hp s b ≤ msI hp s a) && !decide (mdI hp (1 - s) a = mdI hp (1 - s) b)
def ixC (hp : mm_Hp) (a b s : Int32) : Nat := (32 * mdI hp (1 - s) a + mdI hp (1 - s) b).toNatClampNeg
def gC (hp : mm_Hp) (a b s : Int32) (g : Nat → Int32) : Nat → Int32 := if CmpC hp a b s = true then upd g (ixC hp a b s) 1 else g
def mcP (a b s : Int32) (hp : mm_Hp) : Prop := mdOk hp ∧ (∃ i, i < mszN hp ∧ a = nI i) ∧ (∃ j, j < mszN hp ∧ b = nI j) ∧ isB s
theorem mdI_in {hp : mm_Hp} (h : mdOk hp) {i : Nat} (hi : i < mszN hp) (s : Int32) : ∃ d, d < 32 ∧ mdI hp s (nI i) = nI d := by
  obtain ⟨n, hn, en, ez⟩ := mszE h.1
  obtain ⟨-, ⟨f, hf, ef⟩, b, hb1, hb2, eb⟩ := h.2 i hi
  unfold mdI
  rw [nIc (by omega)]
  split
  · exact ⟨f, by omega, ef⟩
  · exact ⟨b, by omega, eb⟩
theorem stg_in {hp : mm_Hp} (h : mdOk hp) {i : Nat} (hi : i < mszN hp) {s : Int32} (hs : isB s) : vp_in (2 * nI i + s) 160 := by
  obtain ⟨n, hn, en, ez⟩ := mszE h.1
  rcases hs with rfl | rfl
  · rw [show (2 : Int32) = nI 2 from rfl, pk_mul, show (0 : Int32) = nI 0 from rfl, nI_add]
    exact nIv (by omega) (by omega)
  · rw [show (2 : Int32) = nI 2 from rfl, pk_mul, nI_1]
    exact nIv (by omega) (by omega)
theorem M_M_compare_g {E : En} (hE : EOk E) (sg : Int32 → Int32 → Int32 → mm_Hp → mm_Hp) (h0 : ∀ a b s hp, CmpC hp a b s = false → sg a b s hp = hp) (h1 : ∀ a b s hp, CmpC hp a b s = true → sg a b s hp = (mm_up hp.1 33 (ixC hp a b s) 1, hp.2)) : Mt E yM_compare cM_compare 7 none 2 (ct3 25 0 mcP (fun _ _ _ _ => 0) (fun _ _ _ _ => 0) sg) :=
  met (n := 80) (tab := tM_compare) (cals := [(138, sM_dieOf)]) hE flM_ok pfM_ok csM_ok rfl (by decide) kM_compare rfl (cf_v 69 (lM_69 (M_M_dieOf hE) (by decide) ct2_t rfl) cf_nil) (rt_v rfl) ct3_c (Nat.le_of_ble_eq_true rfl) rfl
    (fun as hp pc => cond (Nat.beq pc 40) (some (fun L hp' => hp' = hp ∧ ∃ (a b s z : Int32), as = [.ref 25, .int a, .int b, .int s] ∧ L = [some (.ref 25), some (.int a), some (.int b), some (.int s), some (.int z), none, none] ∧ (z = 0 → CmpC hp a b s = false) ∧ (¬ z = 0 → mdI hp s a = mdI hp s b ∧ hp.1 29 a.toNatClampNeg = 0 ∧ hp.1 29 b.toNatClampNeg = 0))) none) (fun _ L _ => 0)
    (fun as hp hl h => by
      obtain ⟨a, b, s, rfl, hP⟩ := ct3_s h
      obtain ⟨hmd, ⟨i, hi, ea⟩, ⟨j, hj, eb⟩, hs⟩ := hP
      obtain ⟨n, hn, en, ez⟩ := mszE hmd.1
      have ia : vp_in a 80 := by rw [ea]; exact nIv (by omega) (by omega)
      have ib : vp_in b 80 := by rw [eb]; exact nIv (by omega) (by omega)
      refine ⟨⟨rfl, ia⟩, fun r3 => ⟨⟨rfl, ib⟩, fun r9 => ⟨fun c12 => ⟨rfl, rfl, a, b, s, _, rfl, rfl, fun _ => ?_, fun q => absurd rfl q⟩, fun c12 => ⟨ia, ⟨fun c21 => ⟨rfl, rfl, a, b, s, _, rfl, rfl, fun _ => ?_, fun q => absurd rfl q⟩, fun c21 => ⟨ib, ⟨fun c30 => ⟨rfl, rfl, a, b, s, _, rfl, rfl, fun _ => ?_, fun q => absurd rfl q⟩, fun c30 => ⟨rfl, rfl, a, b, s, _, rfl, rfl, fun q => absurd q (by decide), fun _ => ⟨c12, c21, c30⟩⟩⟩⟩⟩⟩⟩, fun e9 x9 => no0 x9⟩, fun e3 x3 => no0 x3⟩
      · have c12 : ¬ mdI hp s a = mdI hp s b := c12
        unfold CmpC; rw [decide_eq_false c12]; rfl
      · have c21 : ¬ hp.1 29 a.toNatClampNeg = 0 := c21
        unfold CmpC; rw [decide_eq_false c21]; simp
      · have c30 : ¬ hp.1 29 b.toNatClampNeg = 0 := c30
        unfold CmpC; rw [decide_eq_false c30]; simp)
    (fun as hp hl h pc P hq L hp' hL _ => by
      obtain ⟨a, b, s, rfl, hP⟩ := ct3_s h
      obtain ⟨hmd, ⟨i, hi, ea⟩, ⟨j, hj, eb⟩, hs⟩ := hP
      obtain ⟨n, hn, en, ez⟩ := mszE hmd.1
      obtain ⟨rfl, rfl⟩ := at1 hq
      obtain ⟨rfl, a', b', s', z, heq, rfl, hz0, hz1⟩ := hL
      cases heq
      have ia : vp_in a 80 := by rw [ea]; exact nIv (by omega) (by omega)
      have ib : vp_in b 80 := by rw [eb]; exact nIv (by omega) (by omega)
      have ja : vp_in (2 * a + s) 160 := by rw [ea]; exact stg_in hmd hi hs
      have jb : vp_in (2 * b + s) 160 := by rw [eb]; exact stg_in hmd hj hs
      have hF : CmpC hp' a b s = false → hp' = sg a b s hp' := fun q => (h0 a b s hp' q).symm
      refine ⟨ja, ⟨jb, ⟨fun c66 => ⟨rfl, rfl, hF (hz0 c66)⟩, fun c66 => ?_⟩⟩⟩
      obtain ⟨z1, z2, z3⟩ := hz1 c66
      refine ⟨fun c72 => ⟨rfl, rfl, hF ?_⟩, fun c72 => ⟨fun c78 => ⟨rfl, rfl, hF ?_⟩, fun c78 => ⟨fun c85 => ⟨rfl, rfl, hF ?_⟩, fun c85 => ⟨⟨rfl, ia⟩, fun r93 => ⟨⟨rfl, ib⟩, fun r101 => ⟨fun c104 => ⟨rfl, rfl, hF ?_⟩, fun c104 => ⟨⟨rfl, ia⟩, fun r118 => ⟨⟨rfl, ib⟩, fun r127 => ⟨?_, ⟨rfl, rfl, ?_⟩⟩, fun e127 x127 => no0 x127⟩, fun e118 x118 => no0 x118⟩⟩, fun e101 x101 => no0 x101⟩, fun e93 x93 => no0 x93⟩⟩⟩⟩
      · have c72 : msI hp' s a = -1 := c72
        unfold CmpC; rw [decide_eq_true c72]; simp
      · have c78 : msI hp' s b = -1 := c78
        unfold CmpC; rw [decide_eq_true c78]; simp
      · have c85 : msI hp' s b ≤ msI hp' s a := c85
        unfold CmpC; rw [decide_eq_true c85]; simp
      · have c104 : mdI hp' (1 - s) a = mdI hp' (1 - s) b := c104
        unfold CmpC; rw [decide_eq_true c104]; simp
      · show vp_in (32 * mdI hp' (1 - s) a + mdI hp' (1 - s) b) 1024
        obtain ⟨d1, hd1, e1⟩ := mdI_in hmd hi (1 - s)
        obtain ⟨d2, hd2, e2⟩ := mdI_in hmd hj (1 - s)
        rw [ea, eb, e1, e2, show (32 : Int32) = nI 32 from rfl, pk_mul, nI_add]
        exact nIv (by omega) (by omega)
      · have c72 : ¬ msI hp' s a = -1 := c72
        have c78 : ¬ msI hp' s b = -1 := c78
        have c85 : ¬ msI hp' s b ≤ msI hp' s a := c85
        have c104 : ¬ mdI hp' (1 - s) a = mdI hp' (1 - s) b := c104
        have hT : CmpC hp' a b s = true := by
          unfold CmpC
          rw [decide_eq_true z1, decide_eq_true z2, decide_eq_true z3, decide_eq_false c72, decide_eq_false c78, decide_eq_false c85, decide_eq_false c104]; rfl
        exact (h1 a b s hp' hT).symm)
def sM_compare : mm_Ct := ct3 25 0 mcP (fun _ _ _ _ => 0) (fun _ _ _ _ => 0) (fun a b s hp => sR hp 33 (gC hp a b s (hp.1 33)))
theorem M_M_compare {E : En} (hE : EOk E) : Mt E yM_compare cM_compare 7 none 2 sM_compare :=
  M_M_compare_g hE (fun a b s hp => sR hp 33 (gC hp a b s (hp.1 33))) (fun a b s hp h => by unfold gC; rw [if_neg (by rw [h]; decide)]; exact sR_self hp 33) (fun a b s hp h => by unfold gC; rw [if_pos h]; exact (up_as hp 33 _ _).symm)
def mrwN (hp : mm_Hp) : Nat := (hp.1 25 7).toNatClampNeg
def mrOk (hp : mm_Hp) : Prop := (∃ n, n ≤ 60 ∧ hp.1 25 7 = nI n) ∧ ∀ k, k < mrwN hp → (∃ b, b < 32 ∧ hp.1 31 k = nI b) ∧ (∃ a, a < 32 ∧ hp.1 32 k = nI a)
def bMr (hp : mm_Hp) (k : Nat) (g : Nat → Int32) : Nat → Int32 := upd g (32 * hp.1 31 k + hp.1 32 k).toNatClampNeg 1
def bC2 (hp : mm_Hp) (i j : Nat) (g : Nat → Int32) : Nat → Int32 := gC hp (nI i) (nI j) 1 (gC hp (nI i) (nI j) 0 g)
def fSt (hp : mm_Hp) : Nat → Int32 := lp (fun i g => lp (bC2 hp i) (mszN hp) g) (mszN hp) (lp (bMr hp) (mrwN hp) (zeroR 1024 (hp.1 33)))
def eNew (e : Nat → Int32) (z k : Nat) : Int32 := if e k = 0 then (if e (k / 32 * 32 + z) = 0 then 0 else if e (32 * z + k % 32) = 0 then 0 else 1) else 1
def bE (z k : Nat) (e : Nat → Int32) : Nat → Int32 := upd e k (eNew e z k)
def fEa (S g : Nat → Int32) : Nat → Int32 := lp (fun z e => lp (bE z) 1024 e) 32 (fCopy S 1024 g)
def fGood (e : Nat → Int32) : Int32 := lp (fun d a => if a = 0 then 0 else if e (33 * d) = 0 then 1 else 0) 32 1
def msOk (hp : mm_Hp) : Prop := mdOk hp ∧ mrOk hp
theorem atc {α : Type} {p pc : Nat} {x y : α} {r : Option α} (h : cond (Nat.beq pc p) (some x) r = some y) : (pc = p ∧ x = y) ∨ r = some y := by
  cases hb : Nat.beq pc p with
  | true => rw [hb] at h; exact Or.inl ⟨Nat.eq_of_beq_eq_true hb, Option.some.inj h⟩
  | false => rw [hb] at h; exact Or.inr h
theorem lp_all {α : Type} {P : α → Prop} {f : Nat → α → α} (hf : ∀ k a, P a → P (f k a)) : ∀ n a, P a → P (lp f n a)
  | 0, _, h => h
  | n + 1, a, h => hf n _ (lp_all hf n a h)
def isBs (g : Nat → Int32) : Prop := ∀ k, k < 1024 → isB (g k)
theorem isBs_upd {g : Nat → Int32} {i : Nat} {v : Int32} (h : isBs g) (hv : isB v) : isBs (upd g i v) := by
  intro k hk
  unfold upd
  split
  · exact hv
  · exact h k hk
theorem zeroR_at (n : Nat) (g : Nat → Int32) {k : Nat} (hk : k < n) : zeroR n g k = 0 := by
  induction n with
  | zero => omega
  | succ n ih =>
    show upd (zeroR n g) n 0 k = 0
    unfold upd
    split
    · rfl
    · exact ih (by omega)
theorem zeroR_ge (n : Nat) (g : Nat → Int32) {k : Nat} (hk : n ≤ k) : zeroR n g k = g k := by
  induction n with
  | zero => rfl
  | succ n ih =>
    show upd (zeroR n g) n 0 k = g k
    unfold upd
    rw [if_neg (by omega)]
    exact ih (by omega)
theorem gC_B {hp : mm_Hp} {a b s : Int32} {g : Nat → Int32} (h : isBs g) : isBs (gC hp a b s g) := by
  unfold gC
  split
  · exact isBs_upd h (Or.inr rfl)
  · exact h
theorem fSt_B (hp : mm_Hp) : isBs (fSt hp) := by
  refine lp_all (P := isBs) (fun i g hg => lp_all (P := isBs) (fun j g hg => gC_B (gC_B hg)) _ _ hg) _ _ (lp_all (P := isBs) (fun k g hg => isBs_upd hg (Or.inr rfl)) _ _ ?_)
  intro k hk
  rw [zeroR_at 1024 _ hk]
  exact Or.inl rfl
theorem isB_val {x : Int32} (h : isB x) : vp_nar .boolean x = x := isB_v h
theorem gC_sR (hp : mm_Hp) (f : Nat → Int32) (a b s : Int32) (g : Nat → Int32) : gC (sR hp 33 f) a b s g = gC hp a b s g := by
  have h1 : ∀ t x, mdI (sR hp 33 f) t x = mdI hp t x := fun t x => by unfold mdI; rw [sR_ne (by omega), sR_ne (by omega)]
  have h2 : ∀ t x, msI (sR hp 33 f) t x = msI hp t x := fun t x => by unfold msI; rw [sR_ne (by omega)]
  unfold gC ixC CmpC
  rw [h1, h1, h1, h1, h2, h2, sR_ne (by omega)]
theorem mdOk_sR {hp : mm_Hp} (h : mdOk hp) {c : Nat} (hc : 30 ≤ c) (g : Nat → Int32) : mdOk (sR hp c g) := by
  have hz : mszN (sR hp c g) = mszN hp := by unfold mszN; rw [sR_ne (by omega)]
  refine ⟨by rw [sR_ne (by omega)]; exact h.1, fun k hk => ?_⟩
  rw [hz] at hk
  rw [sR_ne (by omega), sR_ne (by omega), sR_ne (by omega)]
  exact h.2 k hk
theorem mszN_sR (hp : mm_Hp) {c : Nat} (hc : 26 ≤ c) (g : Nat → Int32) : mszN (sR hp c g) = mszN hp := by unfold mszN; rw [sR_ne (by omega)]
