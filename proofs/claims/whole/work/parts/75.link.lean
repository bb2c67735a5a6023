/-! ===== the reference: link ===== -/
theorem sumN_bd {f : Nat → Nat} {c : Nat} : ∀ {n : Nat}, (∀ k, k < n → f k ≤ c) → sumN f n ≤ n * c
  | 0, _ => Nat.le_of_eq (Nat.zero_mul c).symm
  | n + 1, h => by
    have a := sumN_bd (f := f) (c := c) (n := n) (fun k hk => h k (by omega))
    have b := h n (by omega)
    show sumN f n + f n ≤ (n + 1) * c
    rw [Nat.add_mul]
    omega
theorem sumN_le {f g : Nat → Nat} : ∀ {n : Nat}, (∀ k, k < n → g k ≤ f k) → sumN g n ≤ sumN f n
  | 0, _ => Nat.le_refl _
  | n + 1, h => by
    have a := sumN_le (f := f) (g := g) (n := n) (fun k hk => h k (by omega))
    have b := h n (by omega)
    show sumN g n + g n ≤ sumN f n + f n
    omega
theorem sumN_lt2 {f g : Nat → Nat} {i : Nat} : ∀ {n : Nat}, (∀ k, k < n → g k ≤ f k) → i < n → g i < f i → sumN g n < sumN f n
  | 0, _, hi, _ => absurd hi (Nat.not_lt_zero i)
  | n + 1, h, hi, hlt => by
    show sumN g n + g n < sumN f n + f n
    have b := h n (by omega)
    by_cases e : i = n
    · rw [e] at hlt
      have a := sumN_le (f := f) (g := g) (n := n) (fun k hk => h k (by omega))
      omega
    · have a := sumN_lt2 (f := f) (g := g) (n := n) (i := i) (fun k hk => h k (by omega)) (by omega) hlt
      omega
def LabJ (hp : mm_Hp) (f : Nat → Int32) : Prop := LabI (hp.1 29) (hp.1 26) (hp.1 27) (mszN hp) f ∧ ∀ d, 32 ≤ d → f d = hp.1 37 d
theorem LabJ.phi {hp : mm_Hp} {f : Nat → Int32} (h : LabJ hp f) : phi f ≤ 1024 := by
  have := sumN_bd (f := fun d => (f d).toNatClampNeg) (c := 32) (n := 32) (fun k hk => by
    obtain ⟨v, hv, e⟩ := h.1.1 k hk
    show (f k).toNatClampNeg ≤ 32
    rw [e, nIc (by omega)]; omega)
  exact this
/-- the step lowers a label -/
theorem link_phi {f : Nat → Int32} {i j a b m : Nat} (hi : i < 32) (hj : j < 32) (ha : a ≤ 31) (hb : b ≤ 31) (ea : f i = nI a) (eb : f j = nI b) (hne : a ≠ b) (hm : m = min a b) : phi (upd (upd f i (nI m)) j (nI m)) < phi f := by
  have hle : ∀ k, k < 32 → (upd (upd f i (nI m)) j (nI m) k).toNatClampNeg ≤ (f k).toNatClampNeg := by
    intro k hk
    by_cases e : k = j
    · rw [e, pk_us, eb, nIc (by omega), nIc (by omega)]; omega
    · rw [pk_un e]
      by_cases e2 : k = i
      · rw [e2, pk_us, ea, nIc (by omega), nIc (by omega)]; omega
      · rw [pk_un e2]; exact Nat.le_refl _
  unfold phi
  rcases Nat.lt_or_ge a b with q | q
  · refine sumN_lt2 (i := j) hle hj ?_
    show (upd (upd f i (nI m)) j (nI m) j).toNatClampNeg < (f j).toNatClampNeg
    rw [pk_us, eb, nIc (by omega), nIc (by omega)]; omega
  · by_cases e : i = j
    · rw [e, eb, nI_eq (by omega) (by omega)] at ea
      omega
    · refine sumN_lt2 (i := i) hle hi ?_
      show (upd (upd f i (nI m)) j (nI m) i).toNatClampNeg < (f i).toNatClampNeg
      rw [pk_un e, pk_us, ea, nIc (by omega), nIc (by omega)]; omega
def msLi (pc : Nat) (L : mm_Loc) (hp : mm_Hp) : Nat := cond (Nat.beq pc 2) (1000000000 + (100 - msv 1 L)) (cond (Nat.beq pc 23) (phi (hp.1 37) * 1000 + msv 1 L * 500) (phi (hp.1 37) * 1000 + msv 1 L * 500 + ((100 - msv 2 L) * 2 + 1)))
def lf0 (g : Nat → Int32) (i : Nat) : Nat → Int32 := lp (fun k g => upd g k (nI k)) i g
def iLi (hp : mm_Hp) (pc : Nat) : Option (mm_Loc → mm_Hp → Prop) :=
  cond (Nat.beq pc 2) (some (fun L hp' => ∃ (i : Nat) (x : Int32), L = [some (.ref 25), some (.int x), none, none, none] ∧ x = nI i ∧ i ≤ 32 ∧ hp' = sR hp 37 (lf0 (hp.1 37) i)))
  (cond (Nat.beq pc 23) (some (fun L hp' => ∃ (z : Int32) (o2 o3 o4 : Option Value) (f : Nat → Int32), L = [some (.ref 25), some (.int z), o2, o3, o4] ∧ isB z ∧ hp' = sR hp 37 f ∧ LabJ hp f ∧ (z = 0 → LabE (hp.1 29) (hp.1 26) (hp.1 27) (mszN hp) f)))
  (cond (Nat.beq pc 31) (some (fun L hp' => ∃ (z x : Int32) (k : Nat) (o3 o4 : Option Value) (f : Nat → Int32), L = [some (.ref 25), some (.int z), some (.int x), o3, o4] ∧ isB z ∧ x = nI k ∧ k ≤ mszN hp ∧ hp' = sR hp 37 f ∧ LabJ hp f ∧ (z = 0 → LabE (hp.1 29) (hp.1 26) (hp.1 27) k f))) none))
theorem li_m1 {p q z k : Nat} (h : p < q) (hk : k ≤ 100) : p * 1000 + 1 * 500 + ((100 - (k + 1)) * 2 + 1) < q * 1000 + z * 500 + ((100 - k) * 2 + 1) := by omega
set_option maxRecDepth 20000 in
theorem M_M_link_g {E : En} (hE : EOk E) (sg : mm_Hp → mm_Hp) (hsg : ∀ hp f, mdOk hp → LabJ hp f → LabE (hp.1 29) (hp.1 26) (hp.1 27) (mszN hp) f → sg hp = sR hp 37 f) : Mt E yM_link cM_link 5 none 1 (ct0 25 0 mdOk (fun _ => 0) (fun _ => 0) sg) :=
  met (n := 60) (tab := tM_link) (cals := []) hE flM_ok pfM_ok csM_ok rfl (by decide) kM_link rfl cf_nil (rt_v rfl) ct0_c (Nat.le_of_ble_eq_true rfl) rfl
    (fun as hp pc => iLi hp pc) (fun pc L hp => msLi pc L hp)
    (fun as hp hl h => by
      obtain ⟨rfl, hP⟩ := ct0_s h
      exact ⟨rfl, 0, _, rfl, rfl, by omega, (sR_self hp 37).symm⟩)
    (fun as hp hl h pc P hq L hp' hL _ => by
      obtain ⟨rfl, hP⟩ := ct0_s h
      have h80 := mszN_80 hP
      have esz : hp.1 25 1 = nI (mszN hp) := by obtain ⟨n, _, e, e2⟩ := mszE hP.1; rw [e2]; exact e
      unfold iLi at hq
      rcases atc hq with ⟨rfl, rfl⟩ | hq
      · obtain ⟨i, x, rfl, ex, hi, ehp⟩ := hL
        refine ⟨fun c5 => ?_, fun c5 => ⟨?_, ?_⟩⟩
        · have := cge ex (n := 32) rfl (by omega) (by omega) c5
          have hi2 : i = 32 := by omega
          subst hi2
          have hJ : LabJ hp (lf0 (hp.1 37) 32) := by
            refine ⟨⟨fun d hd => ⟨d, Nat.le_refl _, ?_⟩, fun q _ d hd => ?_⟩, fun d hd => ?_⟩
            · show idRow (hp.1 37) d = _
              rw [idRow_at, if_pos hd]
            · show q (cN (idRow (hp.1 37) d)) = _
              rw [idRow_at, if_pos hd, cN_nI (by omega)]
            · show idRow (hp.1 37) d = _
              rw [idRow_at, if_neg (by omega)]
          refine ⟨rfl, ⟨1, _, _, _, _, rfl, Or.inr rfl, ehp, hJ, fun q => absurd q (by decide)⟩, ?_⟩
          show phi (hp'.1 37) * 1000 + (1 : Int32).toNatClampNeg * 500 < 1000000000 + (100 - x.toNatClampNeg)
          have hph := hJ.phi
          rw [ehp, sR_at]
          have e1 : (1 : Int32).toNatClampNeg = 1 := rfl
          rw [e1]
          generalize phi (lf0 (hp.1 37) 32) = p at hph
          omega
        · exact inx ex (clt ex (n := 32) rfl (by omega) (by omega) c5) (by omega)
        · have hlt := clt ex (n := 32) rfl (by omega) (by omega) c5
          have hx := nx ex (by omega)
          refine ⟨rfl, ⟨i + 1, _, rfl, inc1 ex, by omega, ?_⟩, ?_⟩
          · show (mm_up hp'.1 37 x.toNatClampNeg x, hp'.2) = _
            rw [ehp, up_sR, hx, ex]
            rfl
          · show 1000000000 + (100 - (x + 1).toNatClampNeg) < 1000000000 + (100 - x.toNatClampNeg)
            rw [inc1 ex, hx, nIc (by omega)]; omega
      rcases atc hq with ⟨rfl, rfl⟩ | hq
      · obtain ⟨z, o2, o3, o4, f, rfl, hz, ehp, hJ, hE'⟩ := hL
        refine ⟨fun c24 => ⟨rfl, rfl, ?_⟩, fun c24 => ?_⟩
        · have c24 : z = 0 := c24
          exact ehp.trans (hsg hp f hP hJ (hE' c24)).symm
        · have c24 : ¬ z = 0 := c24
          have hz1 : z = 1 := hz.elim (fun q => absurd q c24) id
          refine ⟨rfl, ⟨0, 0, 0, _, _, f, rfl, Or.inl rfl, rfl, by omega, ehp, hJ, fun _ k hk => absurd hk (Nat.not_lt_zero k)⟩, ?_⟩
          show phi (hp'.1 37) * 1000 + (0 : Int32).toNatClampNeg * 500 + ((100 - (0 : Int32).toNatClampNeg) * 2 + 1) < phi (hp'.1 37) * 1000 + z.toNatClampNeg * 500
          rw [hz1]
          have e1 : (1 : Int32).toNatClampNeg = 1 := rfl
          have e0 : (0 : Int32).toNatClampNeg = 0 := rfl
          rw [e1, e0]
          omega
      obtain ⟨rfl, rfl⟩ := at1 hq
      obtain ⟨z, x, k, o3, o4, f, rfl, hz, ex, hk, ehp, hJ, hE'⟩ := hL
      have hx := nx ex (by omega)
      have v26 : hp'.1 26 = hp.1 26 := by rw [ehp, sR_ne (by omega)]
      have v27 : hp'.1 27 = hp.1 27 := by rw [ehp, sR_ne (by omega)]
      have v29 : hp'.1 29 = hp.1 29 := by rw [ehp, sR_ne (by omega)]
      have v37 : hp'.1 37 = f := by rw [ehp, sR_at]
      have v25 : hp'.1 25 1 = nI (mszN hp) := by rw [ehp, sR_ne (by omega)]; exact esz
      refine ⟨fun c36 => ?_, fun c36 => ?_⟩
      · have c36 : hp'.1 25 1 ≤ x := c36
        rw [v25] at c36
        have := cge ex (n := mszN hp) rfl (by omega) (by omega) c36
        have hk2 : k = mszN hp := by omega
        subst hk2
        refine ⟨rfl, ⟨z, _, _, _, f, rfl, hz, ehp, hJ, hE'⟩, ?_⟩
        show phi (hp'.1 37) * 1000 + z.toNatClampNeg * 500 < phi (hp'.1 37) * 1000 + z.toNatClampNeg * 500 + ((100 - x.toNatClampNeg) * 2 + 1)
        omega
      · have c36 : ¬ hp'.1 25 1 ≤ x := c36
        rw [v25] at c36
        have hlt := clt ex (n := mszN hp) rfl (by omega) (by omega) c36
        obtain ⟨hB, ⟨fr, hfr, efr⟩, bk, hbk1, hbk2, ebk⟩ := hP.2 k hlt
        obtain ⟨a, ha, ea⟩ := hJ.1.1 fr (by omega)
        obtain ⟨b, hb, eb⟩ := hJ.1.1 bk hbk2
        have w26 : hp'.1 26 x.toNatClampNeg = nI fr := by rw [v26, hx, efr]
        have w27 : hp'.1 27 x.toNatClampNeg = nI bk := by rw [v27, hx, ebk]
        have w29 : hp'.1 29 x.toNatClampNeg = hp.1 29 k := by rw [v29, hx]
        have wa : hp'.1 37 (hp'.1 26 x.toNatClampNeg).toNatClampNeg = nI a := by rw [w26, v37, nIc (by omega), ea]
        have wb : hp'.1 37 (hp'.1 27 x.toNatClampNeg).toNatClampNeg = nI b := by rw [w27, v37, nIc (by omega), eb]
        have i80 : vp_in x 80 := inx ex (by omega) (by omega)
        have i26 : vp_in (hp'.1 26 x.toNatClampNeg) 32 := by rw [w26]; exact nIv (by omega) (by omega)
        have i27 : vp_in (hp'.1 27 x.toNatClampNeg) 32 := by rw [w27]; exact nIv (by omega) (by omega)
        have keep : ∀ (o3 o4 : Option Value), (hp.1 29 k = 0 → f (cN (hp.1 26 k)) = f (cN (hp.1 27 k))) → ∃ (z' x' : Int32) (k' : Nat) (o3' o4' : Option Value) (f' : Nat → Int32), [some (Value.ref 25), some (.int z), some (.int (x + 1)), o3, o4] = [some (Value.ref 25), some (.int z'), some (.int x'), o3', o4'] ∧ isB z' ∧ x' = nI k' ∧ k' ≤ mszN hp ∧ hp' = sR hp 37 f' ∧ LabJ hp f' ∧ (z' = 0 → LabE (hp.1 29) (hp.1 26) (hp.1 27) k' f') := fun o3 o4 hq => ⟨z, _, k + 1, o3, o4, f, rfl, hz, inc1 ex, by omega, ehp, hJ, fun q j hj ej => by
          by_cases e : j = k
          · subst e; exact hq ej
          · exact hE' q j (by omega) ej⟩
        have hms : phi (hp'.1 37) * 1000 + z.toNatClampNeg * 500 + ((100 - (x + 1).toNatClampNeg) * 2 + 1) < phi (hp'.1 37) * 1000 + z.toNatClampNeg * 500 + ((100 - x.toNatClampNeg) * 2 + 1) := by
          rw [inc1 ex, hx, nIc (by omega)]; omega
        -- the step, with m the lower label
        have go : ∀ (m m2 : Int32), m = nI (min a b) → m2 = nI (min a b) → hp.1 29 k = 0 → a ≠ b → ∀ (o3 o4 : Option Value), (∃ (z' x' : Int32) (k' : Nat) (o3' o4' : Option Value) (f' : Nat → Int32), [some (Value.ref 25), some (.int 1), some (.int (x + 1)), o3, o4] = [some (Value.ref 25), some (.int z'), some (.int x'), o3', o4'] ∧ isB z' ∧ x' = nI k' ∧ k' ≤ mszN hp ∧ (mm_up (mm_up hp'.1 37 (hp'.1 26 x.toNatClampNeg).toNatClampNeg m) 37 (hp'.1 27 x.toNatClampNeg).toNatClampNeg m2, hp'.2) = sR hp 37 f' ∧ LabJ hp f' ∧ (z' = 0 → LabE (hp.1 29) (hp.1 26) (hp.1 27) k' f')) ∧ phi ((mm_up (mm_up hp'.1 37 (hp'.1 26 x.toNatClampNeg).toNatClampNeg m) 37 (hp'.1 27 x.toNatClampNeg).toNatClampNeg m2) 37) * 1000 + (1 : Int32).toNatClampNeg * 500 + ((100 - (x + 1).toNatClampNeg) * 2 + 1) < phi (hp'.1 37) * 1000 + z.toNatClampNeg * 500 + ((100 - x.toNatClampNeg) * 2 + 1) := by
          intro m m2 em em2 hd hne o3 o4
          have hph := link_phi (f := f) (i := fr) (j := bk) (a := a) (b := b) (by omega) hbk2 (by omega) (by omega) ea eb hne rfl
          have est : (mm_up (mm_up hp'.1 37 (hp'.1 26 x.toNatClampNeg).toNatClampNeg m) 37 (hp'.1 27 x.toNatClampNeg).toNatClampNeg m2, hp'.2) = sR hp 37 (upd (upd f fr (nI (min a b))) bk (nI (min a b))) := by
            rw [w26, w27, em, em2, nIc (by omega), nIc (by omega), ehp]
            have h1 := up_sR hp 37 fr f (nI (min a b))
            have h2 := up_sR hp 37 bk (upd f fr (nI (min a b))) (nI (min a b))
            rw [← h2, ← h1]
          refine ⟨⟨1, _, k + 1, o3, o4, _, rfl, Or.inr rfl, inc1 ex, by omega, est, ⟨link_step hlt hJ.1 hd efr ebk (by omega) hbk2 ha hb ea eb, fun d hd2 => ?_⟩, fun q => absurd q (by decide)⟩, ?_⟩
          · rw [pk_un (by omega), pk_un (by omega)]
            exact hJ.2 d hd2
          · have e37 : (mm_up (mm_up hp'.1 37 (hp'.1 26 x.toNatClampNeg).toNatClampNeg m) 37 (hp'.1 27 x.toNatClampNeg).toNatClampNeg m2) 37 = upd (upd f fr (nI (min a b))) bk (nI (min a b)) := by
              have := congrArg (fun q : mm_Hp => q.1 37) est
              rw [sR_at] at this
              exact this
            rw [e37, v37, inc1 ex, hx, nIc (by omega)]
            exact li_m1 hph (by omega)
        refine ⟨i80, ⟨i26, ⟨i80, ⟨i27, ⟨i80, ⟨fun c70 => ?_, fun c70 => ⟨fun c76 => ?_, fun c76 => ⟨i80, ⟨fun c92 => ⟨i26, ⟨i80, ⟨fun c115 => ⟨i27, ?_⟩, fun c115 => absurd c92 c115⟩⟩⟩, fun c92 => ⟨i26, ⟨i80, ⟨fun c115 => absurd c115 c92, fun c115 => ⟨i27, ?_⟩⟩⟩⟩⟩⟩⟩⟩⟩⟩⟩⟩⟩
        · have c70 : ¬ hp'.1 29 x.toNatClampNeg = 0 := c70
          rw [w29] at c70
          exact ⟨rfl, keep _ _ (fun q => absurd q c70), hms⟩
        · have c76 : hp'.1 37 (hp'.1 26 x.toNatClampNeg).toNatClampNeg = hp'.1 37 (hp'.1 27 x.toNatClampNeg).toNatClampNeg := c76
          rw [wa, wb, ← ea, ← eb] at c76
          exact ⟨rfl, keep _ _ (fun _ => by rw [efr, ebk, cN_nI (by omega), cN_nI (by omega)]; exact c76), hms⟩
        · have c70 : hp'.1 29 x.toNatClampNeg = 0 := c70
          rw [w29] at c70
          have c76 : ¬ hp'.1 37 (hp'.1 26 x.toNatClampNeg).toNatClampNeg = hp'.1 37 (hp'.1 27 x.toNatClampNeg).toNatClampNeg := c76
          have hne : a ≠ b := fun q => c76 (by rw [wa, wb, q])
          have c92 : hp'.1 37 (hp'.1 27 x.toNatClampNeg).toNatClampNeg ≤ hp'.1 37 (hp'.1 26 x.toNatClampNeg).toNatClampNeg := c92
          rw [wa, wb, nI_leI (by omega) (by omega)] at c92
          have em : hp'.1 37 (hp'.1 27 x.toNatClampNeg).toNatClampNeg = nI (min a b) := by rw [wb, Nat.min_eq_right c92]
          obtain ⟨g1, g2⟩ := go _ _ em em c70 hne _ _
          exact ⟨rfl, g1, g2⟩
        · have c70 : hp'.1 29 x.toNatClampNeg = 0 := c70
          rw [w29] at c70
          have c76 : ¬ hp'.1 37 (hp'.1 26 x.toNatClampNeg).toNatClampNeg = hp'.1 37 (hp'.1 27 x.toNatClampNeg).toNatClampNeg := c76
          have hne : a ≠ b := fun q => c76 (by rw [wa, wb, q])
          have c92 : ¬ hp'.1 37 (hp'.1 27 x.toNatClampNeg).toNatClampNeg ≤ hp'.1 37 (hp'.1 26 x.toNatClampNeg).toNatClampNeg := c92
          rw [wa, wb, nI_leI (by omega) (by omega)] at c92
          have em : hp'.1 37 (hp'.1 26 x.toNatClampNeg).toNatClampNeg = nI (min a b) := by rw [wa, Nat.min_eq_left (by omega)]
          obtain ⟨g1, g2⟩ := go _ _ em em c70 hne _ _
          exact ⟨rfl, g1, g2⟩)
def hLi (hp : mm_Hp) : mm_Hp := sR hp 37 (labF (hp.1 29) (hp.1 26) (hp.1 27) (mszN hp) (hp.1 37))
def sM_link : mm_Ct := ct0 25 0 mdOk (fun _ => 0) (fun _ => 0) hLi
theorem M_M_link {E : En} (hE : EOk E) : Mt E yM_link cM_link 5 none 1 sM_link :=
  M_M_link_g hE hLi (fun hp f h h1 h2 => by unfold hLi; rw [lab_is (g := hp.1 37) (md_ds h) h1.1 h2 h1.2])
