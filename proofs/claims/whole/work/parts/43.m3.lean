/-! ===== walks and distances; the reference: measure, ringOf ===== -/
/-- a walk of n steps from i to j -/
def wk (St : Nat → Nat → Bool) : Nat → Nat → Nat → Bool
  | 0, i, j => decide (i = j)
  | n + 1, i, j => (List.range 32).any (fun m => St i m && wk St n m j)
theorem wk_s {St : Nat → Nat → Bool} {n i j : Nat} : wk St (n + 1) i j = true ↔ ∃ m, m < 32 ∧ St i m = true ∧ wk St n m j = true := by
  show (List.range 32).any (fun m => St i m && wk St n m j) = true ↔ _
  rw [List.any_eq_true]
  constructor
  · rintro ⟨m, hm, h⟩
    rw [Bool.and_eq_true] at h
    exact ⟨m, List.mem_range.mp hm, h.1, h.2⟩
  · rintro ⟨m, hm, h1, h2⟩
    exact ⟨m, List.mem_range.mpr hm, by rw [h1, h2]; rfl⟩
theorem wk_0 {St : Nat → Nat → Bool} {i j : Nat} : wk St 0 i j = true ↔ i = j := by
  unfold wk
  exact decide_eq_true_iff
/-- the first n from i on with p, at most so many tried -/
def fnd (p : Nat → Bool) : Nat → Nat → Nat
  | 0, i => i
  | n + 1, i => if p i = true then i else fnd p n (i + 1)
theorem fnd_ge (p : Nat → Bool) : ∀ n i, i ≤ fnd p n i ∧ fnd p n i ≤ i + n
  | 0, i => ⟨Nat.le_refl _, by show i ≤ i + 0; omega⟩
  | n + 1, i => by
    have ih := fnd_ge p n (i + 1)
    unfold fnd
    split <;> omega
theorem fnd_le {p : Nat → Bool} : ∀ {n i k : Nat}, i ≤ k → p k = true → fnd p n i ≤ k ∨ fnd p n i = i + n
  | 0, i, k, h, hp => Or.inr rfl
  | n + 1, i, k, h, hp => by
    unfold fnd
    split
    · exact Or.inl h
    · rename_i q
      have hne : i ≠ k := fun e => q (by rw [e]; exact hp)
      rcases fnd_le (p := p) (n := n) (i := i + 1) (k := k) (by omega) hp with h1 | h1
      · exact Or.inl h1
      · exact Or.inr (by omega)
theorem fnd_at {p : Nat → Bool} : ∀ {n i : Nat}, fnd p n i < i + n → p (fnd p n i) = true
  | 0, i, h => absurd h (by show ¬ i < i + 0; omega)
  | n + 1, i, h => by
    unfold fnd at h ⊢
    split
    · assumption
    · rename_i q
      rw [if_neg q] at h
      exact fnd_at (by omega)
/-- steps from d to t; 99: it can't be reached -/
def dst (St : Nat → Nat → Bool) (t d : Nat) : Nat := fnd (fun n => wk St n d t) 99 0
theorem dst_99 (St : Nat → Nat → Bool) (t d : Nat) : dst St t d ≤ 99 := by
  have := (fnd_ge (fun n => wk St n d t) 99 0).2
  unfold dst; omega
theorem dst_wk {St : Nat → Nat → Bool} {t d : Nat} (h : dst St t d < 99) : wk St (dst St t d) d t = true := by
  unfold dst at h ⊢
  exact fnd_at (p := fun n => wk St n d t) (by omega)
theorem dst_le {St : Nat → Nat → Bool} {t d n : Nat} (h : wk St n d t = true) (hn : n ≤ 99) : dst St t d ≤ n := by
  rcases fnd_le (p := fun n => wk St n d t) (n := 99) (i := 0) (k := n) (by omega) h with h1 | h1
  · exact h1
  · have : dst St t d = 0 + 99 := h1
    have := (fnd_ge (fun n => wk St n d t) 99 0).2
    by_cases q : n = 99
    · unfold dst; omega
    · -- n < 99 and found none: impossible
      exfalso
      have key : ∀ m i, i ≤ n → n < i + m → fnd (fun n => wk St n d t) m i ≤ n := by
        intro m
        induction m with
        | zero => intro i h1 h2; omega
        | succ m ih =>
          intro i h1 h2
          unfold fnd
          split
          · exact h1
          · rename_i hq
            have : i ≠ n := fun e => hq (by rw [e]; exact h)
            exact ih (i + 1) (by omega) (by omega)
      have := key 99 0 (by omega) (by omega)
      unfold dst at *
      omega
theorem dst_0 (St : Nat → Nat → Bool) (t : Nat) : dst St t t = 0 := Nat.le_zero.mp (dst_le (wk_0.mpr rfl) (by omega))
/-- distances are all that fits: walks, and no step that shortens -/
theorem dst_eq {St : Nat → Nat → Bool} {t : Nat} {v : Nat → Nat} (h1 : ∀ d, d < 32 → v d ≤ 99 ∧ (v d < 99 → wk St (v d) d t = true)) (h0 : v t = 0) (h2 : ∀ i m, i < 32 → m < 32 → St i m = true → v i ≤ v m + 1) : ∀ d, d < 32 → v d = dst St t d := by
  have up : ∀ n d, d < 32 → wk St n d t = true → v d ≤ n := by
    intro n
    induction n with
    | zero =>
      intro d hd h
      rw [wk_0.mp h, h0]
      exact Nat.le_refl _
    | succ n ih =>
      intro d hd h
      obtain ⟨m, hm, hs, hw⟩ := wk_s.mp h
      have := ih m hm hw
      have := h2 d m hd hm hs
      omega
  intro d hd
  apply Nat.le_antisymm
  · rcases Nat.lt_or_ge (dst St t d) 99 with h | h
    · exact up _ d hd (dst_wk h)
    · have := (h1 d hd).1
      omega
  · rcases Nat.lt_or_ge (v d) 99 with h | h
    · exact dst_le ((h1 d hd).2 h) (by omega)
    · have := dst_99 St t d
      omega
def stM (g : Nat → Int32) (i j : Nat) : Bool := !decide (g (32 * i + j) = 0)
def mrow (g far : Nat → Int32) (t : Nat) : Nat → Int32 := fun d => if d < 32 then nI (dst (stM g) t d) else far d
def sumN (f : Nat → Nat) : Nat → Nat
  | 0 => 0
  | n + 1 => sumN f n + f n
theorem sumN_same {f g : Nat → Nat} : ∀ {n : Nat}, (∀ k, k < n → f k = g k) → sumN f n = sumN g n
  | 0, _ => rfl
  | n + 1, h => by
    show sumN f n + f n = sumN g n + g n
    rw [sumN_same (fun k hk => h k (by omega)), h n (by omega)]
theorem sumN_lt {f g : Nat → Nat} {i : Nat} : ∀ {n : Nat}, i < n → g i < f i → (∀ k, k ≠ i → g k = f k) → sumN g n < sumN f n
  | 0, h, _, _ => absurd h (by omega)
  | n + 1, h, h1, h2 => by
    show sumN g n + g n < sumN f n + f n
    by_cases q : i = n
    · rw [← q, sumN_same (f := g) (g := f) (fun k hk => h2 k (by omega))]
      omega
    · have := sumN_lt (n := n) (by omega) h1 h2
      rw [h2 n (fun e => q e.symm)]
      omega
def phi (f : Nat → Int32) : Nat := sumN (fun d => (f d).toNatClampNeg) 32
def jM (St : Nat → Nat → Bool) (t : Nat) (far f : Nat → Int32) : Prop := (∀ d, d < 32 → ∃ v, v ≤ 99 ∧ f d = nI v ∧ (v < 99 → wk St v d t = true)) ∧ f t = nI 0 ∧ ∀ d, 32 ≤ d → f d = far d
/-- no step among the first k shortens -/
def relx (g f : Nat → Int32) (k : Nat) : Prop := ∀ j, j < k → ¬ g j = 0 → ¬ f (j % 32) + 1 < f (j / 32)
def msMe (pc : Nat) (L : mm_Loc) (hp : mm_Hp) : Nat := cond (Nat.beq pc 2) (1000000000 + (100 - msv 2 L)) (cond (Nat.beq pc 33) (phi (hp.1 35) * 8000 + msv 2 L * 3000) (phi (hp.1 35) * 8000 + msv 2 L * 3000 + ((1024 - msv 3 L) * 2 + 1)))
def mf0 (t : Int32) (far : Nat → Int32) (i : Nat) : Nat → Int32 := lp (fun d f => upd f d (if nI d = t then 0 else 99)) i far
def iMe (hp : mm_Hp) (t : Int32) (pc : Nat) : Option (mm_Loc → mm_Hp → Prop) :=
  cond (Nat.beq pc 2) (some (fun L hp' => ∃ (i : Nat) (x : Int32), L = [some (.ref 25), some (.int t), some (.int x), none] ∧ x = nI i ∧ i ≤ 32 ∧ hp' = sR hp 35 (mf0 t (hp.1 35) i)))
  (cond (Nat.beq pc 33) (some (fun L hp' => ∃ (z : Int32) (o : Option Value) (f : Nat → Int32), L = [some (.ref 25), some (.int t), some (.int z), o] ∧ isB z ∧ hp' = sR hp 35 f ∧ jM (stM (hp.1 33)) t.toNatClampNeg (hp.1 35) f ∧ (z = 0 → relx (hp.1 33) f 1024)))
  (cond (Nat.beq pc 41) (some (fun L hp' => ∃ (z x : Int32) (k : Nat) (f : Nat → Int32), L = [some (.ref 25), some (.int t), some (.int z), some (.int x)] ∧ isB z ∧ x = nI k ∧ k ≤ 1024 ∧ hp' = sR hp 35 f ∧ jM (stM (hp.1 33)) t.toNatClampNeg (hp.1 35) f ∧ (z = 0 → relx (hp.1 33) f k))) none))
theorem mf0_at (t : Int32) (far : Nat → Int32) : ∀ (i d : Nat), mf0 t far i d = if d < i then (if nI d = t then 0 else 99) else far d
  | 0, d => rfl
  | i + 1, d => by
    show upd (mf0 t far i) i (if nI i = t then 0 else 99) d = _
    unfold upd
    split
    · rename_i q
      rw [q, if_pos (show i < i + 1 by omega)]
    · rename_i q
      rw [mf0_at t far i d]
      by_cases h : d < i
      · rw [if_pos h, if_pos (show d < i + 1 by omega)]
      · rw [if_neg h, if_neg (show ¬ d < i + 1 by omega)]
theorem mf0_j {t : Nat} (ht : t < 32) (St : Nat → Nat → Bool) (far : Nat → Int32) : jM St t far (mf0 (nI t) far 32) := by
  refine ⟨fun d hd => ?_, ?_, fun d hd => ?_⟩
  · rw [mf0_at, if_pos hd]
    by_cases q : nI d = nI t
    · rw [if_pos q]
      have hdt : d = t := (nI_eq (by omega) (by omega)).mp q
      exact ⟨0, by omega, rfl, fun _ => wk_0.mpr hdt⟩
    · rw [if_neg q]
      exact ⟨99, by omega, rfl, fun h => absurd h (by omega)⟩
  · rw [mf0_at, if_pos ht, if_pos rfl]; rfl
  · rw [mf0_at, if_neg (by omega)]
theorem jM_upd {St : Nat → Nat → Bool} {t i m : Nat} {far f : Nat → Int32} (h : jM St t far f) (hi : i < 32) (hm : m < 32) (hs : St i m = true) (hlt : f m + 1 < f i) : jM St t far (upd f i (f m + 1)) ∧ (f m + 1).toNatClampNeg < (f i).toNatClampNeg := by
  obtain ⟨v, hv, ev, wv⟩ := h.1 m hm
  obtain ⟨u, hu, eu, wu⟩ := h.1 i hi
  rw [ev, eu, nI_1] at hlt
  have h1 : v + 1 < u := (nI_ltI (by omega) (by omega)).mp hlt
  refine ⟨⟨fun d hd => ?_, ?_, fun d hd => ?_⟩, ?_⟩
  · unfold upd
    split
    · rename_i q
      rw [ev, nI_1]
      exact ⟨v + 1, by omega, rfl, fun _ => by rw [q]; exact wk_s.mpr ⟨m, hm, hs, wv (by omega)⟩⟩
    · exact h.1 d hd
  · unfold upd
    split
    · rename_i q
      exfalso
      rw [← q, h.2.1] at eu
      have := (nI_eq (by omega) (by omega)).mp eu
      omega
    · exact h.2.1
  · unfold upd
    rw [if_neg (by omega)]
    exact h.2.2 d hd
  · rw [ev, eu, nI_1, nIc (by omega), nIc (by omega)]
    exact h1
theorem phi_upd {f : Nat → Int32} {i : Nat} {v : Int32} (hi : i < 32) (h : v.toNatClampNeg < (f i).toNatClampNeg) : phi (upd f i v) < phi f := by
  refine sumN_lt (i := i) hi ?_ (fun k hk => ?_)
  · show (upd f i v i).toNatClampNeg < _
    unfold upd
    rw [if_pos rfl]
    exact h
  · show (upd f i v k).toNatClampNeg = _
    unfold upd
    rw [if_neg hk]
theorem jM_end {g far f : Nat → Int32} {t : Nat} (ht : t < 32) (h : jM (stM g) t far f) (hr : relx g f 1024) : f = mrow g far t := by
  have key := dst_eq (St := stM g) (t := t) (v := fun d => (f d).toNatClampNeg) (fun d hd => by
      obtain ⟨v, hv, ev, wv⟩ := h.1 d hd
      show (f d).toNatClampNeg ≤ 99 ∧ ((f d).toNatClampNeg < 99 → wk (stM g) (f d).toNatClampNeg d t = true)
      rw [ev, nIc (by omega)]
      exact ⟨hv, wv⟩) (by show (f t).toNatClampNeg = 0; rw [h.2.1]; rfl) (fun i m hi hm hs => by
      obtain ⟨v, hv, ev, wv⟩ := h.1 m hm
      obtain ⟨u, hu, eu, wu⟩ := h.1 i hi
      show (f i).toNatClampNeg ≤ (f m).toNatClampNeg + 1
      have h1 : ¬ g (32 * i + m) = 0 := by
        unfold stM at hs
        simpa using hs
      have h2 := hr (32 * i + m) (by omega) h1
      rw [show (32 * i + m) % 32 = m by omega, show (32 * i + m) / 32 = i by omega, ev, eu, nI_1] at h2
      rw [ev, eu, nIc (by omega), nIc (by omega)]
      exact Nat.le_of_not_lt (fun q => h2 ((nI_ltI (by omega) (by omega)).mpr q)))
  funext d
  unfold mrow
  split
  · rename_i hd
    obtain ⟨v, hv, ev, wv⟩ := h.1 d hd
    have := key d hd
    rw [← this]
    show f d = nI (f d).toNatClampNeg
    rw [ev, nIc (by omega)]
  · exact h.2.2 d (by omega)
theorem q32 {k : Nat} {y : Int32} (ey : y = nI k) (hk : k < 1024) : y / 32 = nI (k / 32) := by
  rw [ey, show (32 : Int32) = nI 32 from rfl, pk_div (by omega) (by omega) (by omega)]
theorem r32 {k : Nat} {y : Int32} (ey : y = nI k) (hk : k < 1024) : y - y / 32 * 32 = nI (k % 32) := by
  rw [ey, show (32 : Int32) = nI 32 from rfl, pk_rem (by omega) (by omega) (by omega)]
theorem ph_lt {p x : Nat} (h : p ≤ 32 * 99) : p * 8000 + 1 * 3000 < 1000000000 + (100 - x) := by omega
theorem M_M_measure_g {E : En} (hE : EOk E) (sg : Int32 → mm_Hp → mm_Hp) (hsg : ∀ t hp, t < 32 → sg (nI t) hp = sR hp 35 (mrow (hp.1 33) (hp.1 35) t)) : Mt E yM_measure cM_measure 4 none 1 (ct1 25 0 (fun t _ => vp_in t 32) (fun _ _ => 0) (fun _ _ => 0) sg) :=
  met (n := 60) (tab := tM_measure) (cals := []) hE flM_ok pfM_ok csM_ok rfl (by decide) kM_measure rfl cf_nil (rt_v rfl) ct1_c (Nat.le_of_ble_eq_true rfl) rfl
    (fun as hp pc => match as with
      | [_, .int t] => iMe hp t pc
      | _ => none) msMe
    (fun as hp hl h => by
      obtain ⟨t, rfl, hP⟩ := ct1_s h
      exact ⟨rfl, 0, _, rfl, rfl, by omega, (sR_self hp 35).symm⟩)
    (fun as hp hl h pc P hq L hp' hL _ => by
      obtain ⟨t, rfl, hP⟩ := ct1_s h
      obtain ⟨t', ht, rfl⟩ : ∃ t', t' < 32 ∧ t = nI t' := by
        rcases pk_ix t (n := 32) (by omega) with h3 | h3 | ⟨j, hj, rfl⟩
        · exact absurd (Or.inl h3) hP
        · refine absurd (Or.inr ?_) hP
          rw [Int32.le_iff_toInt_le] at h3
          have h4 : (nI 32).toInt = 32 := rfl
          rw [h4] at h3
          show 32 ≤ t.toInt.toNat
          omega
        · exact ⟨j, hj, rfl⟩
      have htc : (nI t').toNatClampNeg = t' := nIc (by omega)
      have hs := hsg t' hp ht
      have hq : iMe hp (nI t') pc = some P := hq
      unfold iMe at hq
      rw [htc] at hq
      rcases atc hq with ⟨rfl, rfl⟩ | hq
      · obtain ⟨i, x, rfl, ex, hi, ehp⟩ := hL
        refine ⟨fun c5 => ?_, fun c5 => ?_⟩
        · have := cge ex (n := 32) rfl (by omega) (by omega) c5
          have hi2 : i = 32 := by omega
          subst hi2
          refine ⟨rfl, ⟨1, _, _, rfl, Or.inr rfl, ehp, ?_, fun q => absurd q (by decide)⟩, ?_⟩
          · rw [htc]; exact mf0_j ht _ _
          · show phi (hp'.1 35) * 8000 + (1 : Int32).toNatClampNeg * 3000 < 1000000000 + (100 - x.toNatClampNeg)
            have hph : phi (hp'.1 35) ≤ 32 * 99 := by
              have : ∀ n, n ≤ 32 → sumN (fun d => (hp'.1 35 d).toNatClampNeg) n ≤ n * 99 := by
                intro n
                induction n with
                | zero => intro _; exact Nat.le_refl _
                | succ n ih =>
                  intro hn
                  have := ih (by omega)
                  obtain ⟨v, hv, ev, -⟩ := (mf0_j ht (stM (hp.1 33)) (hp.1 35)).1 n (by omega)
                  have e2 : (hp'.1 35 n).toNatClampNeg = v := by rw [ehp, sR_at, ev, nIc (by omega)]
                  show sumN (fun d => (hp'.1 35 d).toNatClampNeg) n + (hp'.1 35 n).toNatClampNeg ≤ _
                  rw [e2]; omega
              exact this 32 (by omega)
            rw [show (1 : Int32).toNatClampNeg = 1 from rfl]
            exact ph_lt hph
        · have hlt := clt ex (n := 32) rfl (by omega) (by omega) c5
          have hx := nx ex (by omega)
          have hms : 1000000000 + (100 - (x + 1).toNatClampNeg) < 1000000000 + (100 - x.toNatClampNeg) := by rw [inc1 ex, hx, nIc (by omega)]; omega
          refine ⟨fun c15 => ⟨inx ex (by omega) (by omega), ⟨rfl, ⟨i + 1, _, rfl, inc1 ex, by omega, ?_⟩, hms⟩⟩, fun c15 => ⟨inx ex (by omega) (by omega), ⟨rfl, ⟨i + 1, _, rfl, inc1 ex, by omega, ?_⟩, hms⟩⟩⟩
          · have c15 : ¬ x = nI t' := c15
            rw [ex] at c15
            show (mm_up hp'.1 35 x.toNatClampNeg 99, hp'.2) = sR hp 35 (upd (mf0 (nI t') (hp.1 35) i) i (if nI i = nI t' then 0 else 99))
            rw [if_neg c15, ehp, hx, up_sR]
          · have c15 : x = nI t' := c15
            rw [ex] at c15
            show (mm_up hp'.1 35 x.toNatClampNeg 0, hp'.2) = sR hp 35 (upd (mf0 (nI t') (hp.1 35) i) i (if nI i = nI t' then 0 else 99))
            rw [if_pos c15, ehp, hx, up_sR]
      rcases atc hq with ⟨rfl, rfl⟩ | hq
      · obtain ⟨z, o, f, rfl, hz, ehp, hj, hr⟩ := hL
        refine ⟨fun c34 => ⟨rfl, rfl, ?_⟩, fun c34 => ?_⟩
        · have c34 : z = 0 := c34
          have := jM_end ht hj (hr c34)
          rw [ehp, this]
          exact hs.symm
        · have c34 : ¬ z = 0 := c34
          have hz1 : z = 1 := hz.resolve_left c34
          refine ⟨rfl, ⟨0, _, 0, f, rfl, Or.inl rfl, rfl, by omega, ehp, ?_, fun _ j hj2 => absurd hj2 (by omega)⟩, ?_⟩
          · rw [htc]; exact hj
          · show phi (hp'.1 35) * 8000 + (0 : Int32).toNatClampNeg * 3000 + ((1024 - (0 : Int32).toNatClampNeg) * 2 + 1) < phi (hp'.1 35) * 8000 + z.toNatClampNeg * 3000
            rw [hz1]
            have : (1 : Int32).toNatClampNeg = 1 := rfl
            have : (0 : Int32).toNatClampNeg = 0 := rfl
            omega
      obtain ⟨rfl, rfl⟩ := at1 hq
      obtain ⟨z, x, k, f, rfl, hz, ex, hk, ehp, hj, hr⟩ := hL
      refine ⟨fun c45 => ?_, fun c45 => ?_⟩
      · have := cge ex (n := 1024) rfl (by omega) (by omega) c45
        have hk2 : k = 1024 := by omega
        subst hk2
        refine ⟨rfl, ⟨z, _, f, rfl, hz, ehp, by rw [htc]; exact hj, hr⟩, ?_⟩
        show phi (hp'.1 35) * 8000 + z.toNatClampNeg * 3000 < phi (hp'.1 35) * 8000 + z.toNatClampNeg * 3000 + ((1024 - x.toNatClampNeg) * 2 + 1)
        omega
      · have hlt := clt ex (n := 1024) rfl (by omega) (by omega) c45
        have hx := nx ex (by omega)
        have n32 : ¬ (32 : Int32) = 0 := by decide
        have v33 : hp'.1 33 x.toNatClampNeg = hp.1 33 k := by rw [ehp, sR_ne (by omega), hx]
        have v35 : ∀ j, hp'.1 35 j = f j := fun j => by rw [ehp, sR_at]
        have iq : vp_in (x / 32) 32 := by rw [q32 ex hlt]; exact nIv (by omega) (by omega)
        have ir : vp_in (x - x / 32 * 32) 32 := by rw [r32 ex hlt]; exact nIv (by omega) (by omega)
        have hms : ∀ z', z' = z → phi (hp'.1 35) * 8000 + z'.toNatClampNeg * 3000 + ((1024 - (x + 1).toNatClampNeg) * 2 + 1) < phi (hp'.1 35) * 8000 + z.toNatClampNeg * 3000 + ((1024 - x.toNatClampNeg) * 2 + 1) := fun z' e => by
          rw [e, inc1 ex, hx, nIc (by omega)]; omega
        refine ⟨inx ex (by omega) (by omega), ⟨fun c54 => ⟨rfl, ⟨z, _, k + 1, f, rfl, hz, inc1 ex, by omega, ehp, by rw [htc]; exact hj, ?_⟩, hms z rfl⟩, fun c54 => ⟨n32, ⟨ir, ⟨n32, ⟨iq, ⟨fun c77 => ⟨rfl, ⟨z, _, k + 1, f, rfl, hz, inc1 ex, by omega, ehp, by rw [htc]; exact hj, ?_⟩, hms z rfl⟩, fun c77 => ⟨n32, ⟨n32, ⟨ir, ⟨iq, ⟨rfl, ⟨1, _, k + 1, upd f (k / 32) (f (k % 32) + 1), rfl, Or.inr rfl, inc1 ex, by omega, ?_, ?_, fun q => absurd q (by decide)⟩, ?_⟩⟩⟩⟩⟩⟩⟩⟩⟩⟩⟩⟩
        · have c54 : hp'.1 33 x.toNatClampNeg = 0 := c54
          rw [v33] at c54
          intro hz0 j hj2 hg
          rcases Nat.lt_or_ge j k with h3 | h3
          · exact hr hz0 j h3 hg
          · have : j = k := by omega
            rw [this] at hg
            exact absurd c54 hg
        · have c77 : hp'.1 35 (x / 32).toNatClampNeg ≤ hp'.1 35 (x - x / 32 * 32).toNatClampNeg + 1 := c77
          rw [v35, v35, r32 ex hlt, q32 ex hlt, nIc (by omega), nIc (by omega)] at c77
          intro hz0 j hj2 hg
          rcases Nat.lt_or_ge j k with h3 | h3
          · exact hr hz0 j h3 hg
          · have : j = k := by omega
            rw [this]
            exact fun q => lt_nge q c77
        all_goals
          have c54 : ¬ hp'.1 33 x.toNatClampNeg = 0 := c54
          have c77 : ¬ hp'.1 35 (x / 32).toNatClampNeg ≤ hp'.1 35 (x - x / 32 * 32).toNatClampNeg + 1 := c77
          rw [v33] at c54
          rw [v35, v35, r32 ex hlt, q32 ex hlt, nIc (by omega), nIc (by omega)] at c77
          have hst : stM (hp.1 33) (k / 32) (k % 32) = true := by
            unfold stM
            rw [show 32 * (k / 32) + k % 32 = k by omega, decide_eq_false c54]; rfl
          have hju := jM_upd hj (i := k / 32) (m := k % 32) (by omega) (by omega) hst (nle_lt c77)
        · show (mm_up hp'.1 35 (x / 32).toNatClampNeg (hp'.1 35 (x - x / 32 * 32).toNatClampNeg + 1), hp'.2) = _
          rw [v35, r32 ex hlt, q32 ex hlt, nIc (by omega), nIc (by omega), ehp, up_sR]
        · rw [htc]; exact hju.1
        · have e35 : (mm_up hp'.1 35 (x / 32).toNatClampNeg (hp'.1 35 (x - x / 32 * 32).toNatClampNeg + 1)) 35 = upd f (k / 32) (f (k % 32) + 1) := by
            rw [mm_up_s, v35, r32 ex hlt, q32 ex hlt, nIc (by omega), nIc (by omega), ehp, sR_at]
          show phi ((mm_up hp'.1 35 (x / 32).toNatClampNeg (hp'.1 35 (x - x / 32 * 32).toNatClampNeg + 1)) 35) * 8000 + (1 : Int32).toNatClampNeg * 3000 + ((1024 - (x + 1).toNatClampNeg) * 2 + 1) < phi (hp'.1 35) * 8000 + z.toNatClampNeg * 3000 + ((1024 - x.toNatClampNeg) * 2 + 1)
          have hp35 : hp'.1 35 = f := by rw [ehp, sR_at]
          rw [e35, hp35]
          have := phi_upd (f := f) (i := k / 32) (by omega) hju.2
          have h1 : (1 : Int32).toNatClampNeg = 1 := rfl
          omega)
def hMe (t : Int32) (hp : mm_Hp) : mm_Hp := sR hp 35 (mrow (hp.1 33) (hp.1 35) t.toNatClampNeg)
def sM_measure : mm_Ct := ct1 25 0 (fun t _ => vp_in t 32) (fun _ _ => 0) (fun _ _ => 0) hMe
theorem M_M_measure {E : En} (hE : EOk E) : Mt E yM_measure cM_measure 4 none 1 sM_measure :=
  M_M_measure_g hE hMe (fun t hp ht => by unfold hMe; rw [nIc (by omega)])
