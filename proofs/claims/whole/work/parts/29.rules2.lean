/-! ===== DieGraphs$Rules: reading ===== -/
/-- with another place -/
def plH (hp : mm_Hp) (p : Nat) : mm_Hp := sR hp 4 (upd (hp.1 4) 3 (nI p))
theorem plH_plH (hp : mm_Hp) (p q : Nat) : plH (plH hp p) q = plH hp q := by
  unfold plH
  rw [sR_at, upd2, sR_sR]
theorem plH_3 (hp : mm_Hp) (p : Nat) : (plH hp p).1 4 3 = nI p := by
  unfold plH
  rw [sR_at]
  simp [upd]
theorem plH_2 (hp : mm_Hp) (p : Nat) : (plH hp p).1 4 2 = hp.1 4 2 := by
  unfold plH
  rw [sR_at]
  simp [upd]
theorem plH_8 (hp : mm_Hp) (p : Nat) : (plH hp p).1 4 8 = hp.1 4 8 := by
  unfold plH
  rw [sR_at]
  simp [upd]
theorem plH_ne {hp : mm_Hp} {p c : Nat} (h : c ≠ 4) : (plH hp p).1 c = hp.1 c := sR_ne h
theorem plH_self {hp : mm_Hp} {p : Nat} (h : hp.1 4 3 = nI p) : plH hp p = hp := by
  unfold plH
  have h1 : upd (hp.1 4) 3 (nI p) = hp.1 4 := by
    funext j
    unfold upd
    split
    · rename_i q; rw [q, h]
    · rfl
  rw [h1, sR_self]
theorem upPl_plH (hp : mm_Hp) (p : Nat) : upPl (plH hp p) = plH hp (p + 1) := by
  unfold upPl
  rw [plH_3, nI_1, up_as]
  exact plH_plH hp p (p + 1)
def sgn (g : Nat → Int32) (t p : Nat) : Int32 := if t ≤ p then -1 else g p
theorem fSign_pl {hp : mm_Hp} {t p : Nat} (ht : t ≤ 40) (hp9 : p ≤ 40) (et : hp.1 4 2 = nI t) : fSign (plH hp p) = sgn (hp.1 20) t p := by
  unfold fSign sgn
  rw [plH_2, plH_3, et, plH_ne (by omega), nIc (by omega)]
  by_cases h : t ≤ p
  · rw [if_pos ((nI_leI (by omega) (by omega)).mpr h), if_pos h]
  · rw [if_neg (fun q => h ((nI_leI (by omega) (by omega)).mp q)), if_neg h]
theorem rdOk_pl {hp : mm_Hp} {t p : Nat} (ht : t ≤ 40) (hpt : p ≤ t) (et : hp.1 4 2 = nI t) : rdOk (plH hp p) := ⟨t, p, ht, hpt, (plH_2 hp p).trans et, plH_3 hp p⟩
theorem sgn_dig {g : Nat → Int32} {t p : Nat} (h : ¬ fDig (sgn g t p) = 0) : p < t := by
  by_cases q : t ≤ p
  · exact absurd (by unfold sgn; rw [if_pos q]; decide) h
  · omega
def fNumF (g : Nat → Int32) (t : Nat) : Nat → Nat → Int32 → Nat × Int32
  | 0, p, a => (p, a)
  | n + 1, p, a => if fDig (sgn g t p) = 0 then (p, a) else fNumF g t n (p + 1) (a * 10 + sgn g t p - 48)
def fNum (g : Nat → Int32) (t p : Nat) : Nat × Int32 := fNumF g t 7 p 0
def plN (hp : mm_Hp) : Nat := (hp.1 4 3).toNatClampNeg
def rNum (hp : mm_Hp) : Int32 := if (fNum (hp.1 20) (txN hp) (plN hp)).1 = plN hp then -1 else (fNum (hp.1 20) (txN hp) (plN hp)).2
def hNum (hp : mm_Hp) : mm_Hp := plH hp (fNum (hp.1 20) (txN hp) (plN hp)).1
theorem fNumF_le (g : Nat → Int32) (t : Nat) : ∀ (n p : Nat) (a : Int32), p ≤ (fNumF g t n p a).1 ∧ (p ≤ t → (fNumF g t n p a).1 ≤ t) ∧ (fNumF g t n p a).1 ≤ p + n
  | 0, p, a => ⟨Nat.le_refl p, fun h => h, Nat.le_refl p⟩
  | n + 1, p, a => by
    show p ≤ (if fDig (sgn g t p) = 0 then (p, a) else fNumF g t n (p + 1) (a * 10 + sgn g t p - 48)).1 ∧ (p ≤ t → (if fDig (sgn g t p) = 0 then (p, a) else fNumF g t n (p + 1) (a * 10 + sgn g t p - 48)).1 ≤ t) ∧ (if fDig (sgn g t p) = 0 then (p, a) else fNumF g t n (p + 1) (a * 10 + sgn g t p - 48)).1 ≤ p + (n + 1)
    split
    · exact ⟨Nat.le_refl p, fun h => h, Nat.le_add_right _ _⟩
    · rename_i h
      obtain ⟨h1, h2, h3⟩ := fNumF_le g t n (p + 1) (a * 10 + sgn g t p - 48)
      exact ⟨by omega, fun _ => h2 (sgn_dig h), by omega⟩
theorem M_R_readNumber_g {E : En} (hE : EOk E) (rv : mm_Hp → Int32) (sg : mm_Hp → mm_Hp) (hrv : ∀ hp t p q a, hp.1 4 2 = nI t → hp.1 4 3 = nI p → p ≤ 40 → t ≤ 40 → fNum (hp.1 20) t p = (q, a) → rv hp = (if q = p then -1 else a) ∧ sg hp = plH hp q) : Mt E yR_readNumber cR_readNumber 3 (some .int) 2 (ct0 4 1 rdOk (fun _ => 0) rv sg) :=
  met (n := 60) (tab := tR_readNumber) (cals := [(104, sR_sign), (139, sR_isDigit)]) hE flR_ok pfR_ok csR_ok rfl (by decide) kR_readNumber rfl (cf_v 52 (lR_52 (M_R_sign hE) (by decide) ct0_t rfl) (cf_s 69 (lR_69 (M_R_isDigit hE) (by decide) rfl) cf_nil)) (rt_i rfl) ct0_c (Nat.le_of_ble_eq_true rfl) rfl
    (fun as hp pc => cond (Nat.beq pc 4) (some (fun L hp' => ∃ (t p0 i : Nat) (x a : Int32), hp.1 4 2 = nI t ∧ hp.1 4 3 = nI p0 ∧ t ≤ 40 ∧ p0 + i ≤ t ∧ i ≤ 7 ∧ L = [some (.ref 4), some (.int a), some (.int x)] ∧ x = nI i ∧ hp' = plH hp (p0 + i) ∧ fNumF (hp.1 20) t (7 - i) (p0 + i) a = fNum (hp.1 20) t p0)) none) (fun _ L _ => msk 100 2 L)
    (fun as hp hl h => by
      obtain ⟨rfl, t, p, ht, hpt, et, ep⟩ := ct0_s h
      exact ⟨rfl, t, p, 0, _, _, et, ep, ht, hpt, by omega, rfl, rfl, (plH_self ep).symm, rfl⟩)
    (fun as hp hl h pc P hq L hp' hL _ => by
      obtain ⟨rfl, hP⟩ := ct0_s h
      obtain ⟨rfl, rfl⟩ := at1 hq
      obtain ⟨t, p0, i, x, a, et, ep, ht, hpt, hi, rfl, ex, rfl, ee⟩ := hL
      have hend : fNum (hp.1 20) t p0 = (p0 + i, a) → (x = 0 → rv hp = -1) ∧ (¬ x = 0 → rv hp = a) ∧ sg hp = plH hp (p0 + i) := by
        intro hf
        obtain ⟨h1, h2⟩ := hrv hp t p0 (p0 + i) a et ep (by omega) ht hf
        refine ⟨fun h3 => ?_, fun h3 => ?_, h2⟩
        · rw [ex, ← nI_0] at h3
          have := (nI_eq (a := i) (b := 0) (by omega) (by omega)).mp h3
          rw [h1, if_pos (by omega)]
        · rw [h1, if_neg (fun q => h3 (by rw [ex, show i = 0 by omega]; rfl))]
      have hs : fSign (plH hp (p0 + i)) = sgn (hp.1 20) t (p0 + i) := fSign_pl ht (by omega) et
      refine ⟨fun c7 => ?_, fun c7 => ?_⟩
      · have := cge ex (n := 7) rfl (by omega) (by omega) c7
        have hi2 : i = 7 := by omega
        obtain ⟨q1, q2, q3⟩ := hend (by rw [← ee, hi2]; rfl)
        refine ⟨fun c50 => ⟨rfl, ?_, q3.symm⟩, fun c50 => ⟨rfl, ?_, q3.symm⟩⟩
        · exact congrArg some (q2 c50).symm
        · exact congrArg some (q1 c50).symm
      · have hlt := clt ex (n := 7) rfl (by omega) (by omega) c7
        have hu : fNumF (hp.1 20) t (7 - i) (p0 + i) a = if fDig (sgn (hp.1 20) t (p0 + i)) = 0 then (p0 + i, a) else fNumF (hp.1 20) t (7 - (i + 1)) (p0 + i + 1) (a * 10 + sgn (hp.1 20) t (p0 + i) - 48) := by
          rw [show 7 - i = (7 - (i + 1)) + 1 by omega]; rfl
        refine ⟨⟨rfl, rdOk_pl ht hpt et⟩, fun r11 => ⟨trivial, fun r14 => ⟨fun c17 => ?_, fun c17 => ?_⟩, fun e14 x14 => no0 x14⟩, fun e11 x11 => no0 x11⟩
        · have c17 : fDig (fSign (plH hp (p0 + i))) = 0 := c17
          rw [hs] at c17
          obtain ⟨q1, q2, q3⟩ := hend (by rw [← ee, hu, if_pos c17])
          refine ⟨fun c50 => ⟨rfl, ?_, q3.symm⟩, fun c50 => ⟨rfl, ?_, q3.symm⟩⟩
          · exact congrArg some (q2 c50).symm
          · exact congrArg some (q1 c50).symm
        · have c17 : ¬ fDig (fSign (plH hp (p0 + i))) = 0 := c17
          rw [hs] at c17
          have hpl := sgn_dig c17
          refine ⟨⟨rfl, rdOk_pl ht hpt et⟩, fun r25 => ⟨rfl, ⟨t, p0, i + 1, x + 1, a * 10 + fSign (plH hp (p0 + i)) - 48, et, ep, ht, by omega, by omega, rfl, inc1 ex, ?_, ?_⟩, dec1 ex (by omega) (by omega)⟩, fun e25 x25 => no0 x25⟩
          · show upPl (plH hp (p0 + i)) = plH hp (p0 + (i + 1))
            rw [upPl_plH]
            rfl
          · rw [hs, ← ee, hu, if_neg c17]
            rfl)
def sR_readNumber : mm_Ct := ct0 4 1 rdOk (fun _ => 0) rNum hNum
theorem M_R_readNumber {E : En} (hE : EOk E) : Mt E yR_readNumber cR_readNumber 3 (some .int) 2 sR_readNumber :=
  M_R_readNumber_g hE rNum hNum (fun hp t p q a et ep hp9 ht hf => by
    have h1 : txN hp = t := by unfold txN; rw [et]; exact nIc (by omega)
    have h2 : plN hp = p := by unfold plN; rw [ep]; exact nIc (by omega)
    unfold rNum hNum
    rw [h1, h2, hf]
    exact ⟨rfl, rfl⟩)
