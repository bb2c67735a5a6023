/-! both closures are the closure by middles -/
theorem nI_eq1 {a b : Nat} (ha : a ≤ 4000) (hb : b ≤ 4000) : nI a = nI b ↔ a = b := nI_eq (by omega) (by omega)
theorem fCopy_at (f g : Nat → Int32) : ∀ (n k : Nat), fCopy f n g k = if k < n then f k else g k
  | 0, k => by rw [if_neg (Nat.not_lt_zero k)]; rfl
  | n + 1, k => by
    show upd (fCopy f n g) n (f n) k = _
    by_cases e : k = n
    · rw [e, pk_us, if_pos (by omega)]
    · rw [pk_un e, fCopy_at f g n k]
      by_cases q : k < n
      · rw [if_pos q, if_pos (by omega)]
      · rw [if_neg q, if_neg (by omega)]
theorem close_in {m : Nat} (hm : m < 32) (g : Nat → Int32) : ∀ (n : Nat), n ≤ 32 → ∀ i j, j < 32 → qb (lp (bClose m) n g i) j = if i < n then (qb (g i) j || (qb (g i) m && qb (g m) j)) else qb (g i) j
  | 0, _, i, j, hj => by rw [if_neg (Nat.not_lt_zero i)]; rfl
  | n + 1, hn, i, j, hj => by
    have ih := close_in hm g n (by omega)
    have hrow : ∀ j, j < 32 → qb (lp (bClose m) n g m) j = qb (g m) j := by
      intro j hj
      rw [ih m j hj]
      split
      · cases qb (g m) j <;> cases qb (g m) m <;> rfl
      · rfl
    show qb (bClose m n (lp (bClose m) n g) i) j = _
    generalize lp (bClose m) n g = h at ih hrow
    unfold bClose
    by_cases q : bitAt (h n) (nI m) = 0
    · rw [if_pos q]
      rw [bitAt_eq hm, ih n m hm, if_neg (Nat.lt_irrefl n)] at q
      rw [ih i j hj]
      by_cases e : i = n
      · rw [e, if_neg (Nat.lt_irrefl n), if_pos (Nat.lt_succ_self n), q, Bool.false_and, Bool.or_false]
      · by_cases r : i < n
        · rw [if_pos r, if_pos (by omega)]
        · rw [if_neg r, if_neg (by omega)]
    · rw [if_neg q]
      rw [bitAt_ne hm, ih n m hm, if_neg (Nat.lt_irrefl n)] at q
      by_cases e : i = n
      · rw [e, pk_us, qb_or, ih n j hj, hrow j hj, if_neg (Nat.lt_irrefl n), if_pos (Nat.lt_succ_self n), q, Bool.true_and]
      · rw [pk_un e, ih i j hj]
        by_cases r : i < n
        · rw [if_pos r, if_pos (by omega)]
        · rw [if_neg r, if_neg (by omega)]
theorem close_out (f g : Nat → Int32) : ∀ z, z ≤ 32 → ∀ i j, i < 32 → j < 32 → qb (lp (fun m g => lp (bClose m) 32 g) z (fCopy f 32 g) i) j = wq (qS f) z i j
  | 0, _, i, j, hi, hj => by
    show qb (fCopy f 32 g i) j = qb (f i) j
    rw [fCopy_at, if_pos hi]
  | z + 1, hz, i, j, hi, hj => by
    have ih := close_out f g z (by omega)
    show qb (lp (bClose z) 32 (lp (fun m g => lp (bClose m) 32 g) z (fCopy f 32 g)) i) j = (wq (qS f) z i j || (wq (qS f) z i z && wq (qS f) z z j))
    rw [close_in (by omega) _ 32 (Nat.le_refl _) i j hj, if_pos hi, ih i j hi hj, ih i z hi (by omega), ih z j (by omega) hj]
theorem fClose_ok (hp : mm_Hp) : clOk (hp.1 16) (fClose hp) := fun i j hi hj => close_out (hp.1 16) (hp.1 17) 32 (Nat.le_refl _) i j hi hj
/-! the reference's -/
def nz (x : Int32) : Bool := !decide (x = 0)
theorem nz_t {x : Int32} : nz x = true ↔ ¬ x = 0 := by unfold nz; by_cases h : x = 0 <;> simp [h]
theorem nz_f {x : Int32} : nz x = false ↔ x = 0 := by unfold nz; by_cases h : x = 0 <;> simp [h]
theorem nz_eNew (e : Nat → Int32) (z k : Nat) : nz (eNew e z k) = (nz (e k) || (nz (e (k / 32 * 32 + z)) && nz (e (32 * z + k % 32)))) := by
  unfold eNew
  by_cases h : e k = 0
  · rw [if_pos h, nz_f.mpr h, Bool.false_or]
    by_cases h2 : e (k / 32 * 32 + z) = 0
    · rw [if_pos h2, nz_f.mpr h2]; rfl
    · rw [if_neg h2, nz_t.mpr h2, Bool.true_and]
      by_cases h3 : e (32 * z + k % 32) = 0
      · rw [if_pos h3, nz_f.mpr h3]; rfl
      · rw [if_neg h3, nz_t.mpr h3]; rfl
  · rw [if_neg h, nz_t.mpr h]; rfl
theorem ear_in {z : Nat} (hz : z < 32) (g : Nat → Int32) : ∀ (k : Nat), k ≤ 1024 → ∀ q, nz (lp (bE z) k g q) = if q < k then (nz (g q) || (nz (g (q / 32 * 32 + z)) && nz (g (32 * z + q % 32)))) else nz (g q)
  | 0, _, q => by rw [if_neg (Nat.not_lt_zero q)]; rfl
  | k + 1, hk, q => by
    have ih := ear_in hz g k (by omega)
    have h1 : nz (lp (bE z) k g (k / 32 * 32 + z)) = nz (g (k / 32 * 32 + z)) := by
      rw [ih]
      split
      · rw [show (k / 32 * 32 + z) / 32 * 32 + z = k / 32 * 32 + z by omega]
        cases nz (g (k / 32 * 32 + z)) <;> cases nz (g (32 * z + (k / 32 * 32 + z) % 32)) <;> rfl
      · rfl
    have h2 : nz (lp (bE z) k g (32 * z + k % 32)) = nz (g (32 * z + k % 32)) := by
      rw [ih]
      split
      · rw [show 32 * z + (32 * z + k % 32) % 32 = 32 * z + k % 32 by omega]
        cases nz (g (32 * z + k % 32)) <;> cases nz (g ((32 * z + k % 32) / 32 * 32 + z)) <;> rfl
      · rfl
    show nz (upd (lp (bE z) k g) k (eNew (lp (bE z) k g) z k) q) = _
    by_cases e : q = k
    · rw [e, pk_us, nz_eNew, h1, h2, ih k, if_neg (Nat.lt_irrefl k), if_pos (Nat.lt_succ_self k)]
    · rw [pk_un e, ih q]
      by_cases r : q < k
      · rw [if_pos r, if_pos (by omega)]
      · rw [if_neg r, if_neg (by omega)]
theorem ear_out (S g : Nat → Int32) : ∀ z, z ≤ 32 → ∀ i j, i < 32 → j < 32 → stM (lp (fun z e => lp (bE z) 1024 e) z (fCopy S 1024 g)) i j = wq (stM S) z i j
  | 0, _, i, j, hi, hj => by
    show nz (fCopy S 1024 g (32 * i + j)) = nz (S (32 * i + j))
    rw [fCopy_at, if_pos (by omega)]
  | z + 1, hz, i, j, hi, hj => by
    have ih := ear_out S g z (by omega)
    show nz (lp (bE z) 1024 (lp (fun z e => lp (bE z) 1024 e) z (fCopy S 1024 g)) (32 * i + j)) = (wq (stM S) z i j || (wq (stM S) z i z && wq (stM S) z z j))
    rw [ear_in (by omega) _ 1024 (Nat.le_refl _), if_pos (by omega), ← ih i j hi hj, ← ih i z hi (by omega), ← ih z j (by omega) hj, show (32 * i + j) / 32 * 32 + z = 32 * i + z by omega, show 32 * z + (32 * i + j) % 32 = 32 * z + j by omega]
    rfl
theorem fEa_ok (S g : Nat → Int32) {i j : Nat} (hi : i < 32) (hj : j < 32) : stM (fEa S g) i j = wq (stM S) 32 i j := ear_out S g 32 (Nat.le_refl _) i j hi hj
theorem good_go (e : Nat → Int32) : ∀ n, lp (fun d a => if a = 0 then 0 else if e (33 * d) = 0 then (1 : Int32) else 0) n 1 = 0 ↔ ∃ d, d < n ∧ ¬ e (33 * d) = 0
  | 0 => ⟨fun h => absurd (show (1 : Int32) = 0 from h) (by decide), fun ⟨d, hd, _⟩ => absurd hd (Nat.not_lt_zero d)⟩
  | n + 1 => by
    show (if lp (fun d a => if a = 0 then 0 else if e (33 * d) = 0 then (1 : Int32) else 0) n 1 = 0 then (0 : Int32) else if e (33 * n) = 0 then 1 else 0) = 0 ↔ _
    by_cases h : lp (fun d a => if a = 0 then 0 else if e (33 * d) = 0 then (1 : Int32) else 0) n 1 = 0
    · rw [if_pos h]
      obtain ⟨d, hd, h2⟩ := (good_go e n).mp h
      exact ⟨fun _ => ⟨d, by omega, h2⟩, fun _ => rfl⟩
    · rw [if_neg h]
      by_cases q : e (33 * n) = 0
      · rw [if_pos q]
        refine ⟨fun h => absurd h (by decide), fun ⟨d, hd, h2⟩ => ?_⟩
        by_cases r : d = n
        · rw [r] at h2; exact absurd q h2
        · exact absurd ((good_go e n).mpr ⟨d, by omega, h2⟩) h
      · rw [if_neg q]
        exact ⟨fun _ => ⟨n, by omega, q⟩, fun _ => rfl⟩
/-- the reference refuses just where there is a ring -/
theorem fGood_0 (S g : Nat → Int32) : fGood (fEa S g) = 0 ↔ ∃ d, d < 32 ∧ wq (stM S) 32 d d = true := by
  unfold fGood
  rw [good_go]
  constructor
  · rintro ⟨d, hd, h⟩
    refine ⟨d, hd, ?_⟩
    rw [← fEa_ok S g hd hd]
    show nz (fEa S g (32 * d + d)) = true
    rw [nz_t, show 32 * d + d = 33 * d by omega]
    exact h
  · rintro ⟨d, hd, h⟩
    refine ⟨d, hd, ?_⟩
    rw [← fEa_ok S g hd hd] at h
    have h : nz (fEa S g (32 * d + d)) = true := h
    rw [nz_t, show 32 * d + d = 33 * d by omega] at h
    exact h
/-! walks speak of dies below 32 alone -/
theorem wk_same {S T : Nat → Nat → Bool} (h : ∀ i j, i < 32 → j < 32 → S i j = T i j) : ∀ {n i j : Nat}, i < 32 → wk S n i j = wk T n i j
  | 0, i, j, hi => rfl
  | n + 1, i, j, hi => by
    rw [Bool.eq_iff_iff, wk_s, wk_s]
    constructor
    · rintro ⟨m, hm, a, b⟩
      exact ⟨m, hm, by rw [← h i m hi hm]; exact a, by rw [← wk_same h hm]; exact b⟩
    · rintro ⟨m, hm, a, b⟩
      exact ⟨m, hm, by rw [h i m hi hm]; exact a, by rw [wk_same h hm]; exact b⟩
theorem wq_same {S T : Nat → Nat → Bool} (h : ∀ i j, i < 32 → j < 32 → S i j = T i j) : ∀ {z i j : Nat}, z ≤ 32 → i < 32 → j < 32 → wq S z i j = wq T z i j
  | 0, i, j, _, hi, hj => h i j hi hj
  | z + 1, i, j, hz, hi, hj => by
    show (wq S z i j || (wq S z i z && wq S z z j)) = (wq T z i j || (wq T z i z && wq T z z j))
    rw [wq_same h (by omega) hi hj, wq_same h (by omega) hi (by omega : z < 32), wq_same h (by omega) (by omega : z < 32) hj]
theorem dst_same {S T : Nat → Nat → Bool} (h : ∀ i j, i < 32 → j < 32 → S i j = T i j) {t d : Nat} (hd : d < 32) : dst S t d = dst T t d := by
  unfold dst
  exact fnd_same (fun n _ _ => wk_same h hd)
theorem lp_same {α : Type} {f g : Nat → α → α} : ∀ {n : Nat} {a : α}, (∀ k b, k < n → f k b = g k b) → lp f n a = lp g n a
  | 0, a, _ => rfl
  | n + 1, a, h => by
    show f n (lp f n a) = g n (lp g n a)
    rw [lp_same (fun k b hk => h k b (by omega)), h n _ (by omega)]
theorem rsz_same {S T : Nat → Nat → Bool} (h : ∀ i j, i < 32 → j < 32 → S i j = T i j) {t : Nat} (ht : t < 32) : rsz S t = rsz T t := by
  unfold rsz
  refine lp_same (fun d b hd => ?_)
  unfold bRz
  rw [h t d ht hd, dst_same h hd]
theorem rgM_same {S T : Nat → Nat → Bool} (h : ∀ i j, i < 32 → j < 32 → S i j = T i j) {b t : Nat} : ∀ k, (∀ j, j < k → rgM T b t j < 32) → rgM S b t k = rgM T b t k
  | 0, _ => rfl
  | k + 1, hk => by
    show fnd _ 32 0 = fnd _ 32 0
    refine fnd_same (fun d _ hd => ?_)
    show (S (rgM S b t k) d && decide (dst S t d = b - (k + 1))) = (T (rgM T b t k) d && decide (dst T t d = b - (k + 1)))
    rw [rgM_same h k (fun j hj => hk j (by omega)), dst_same h (by omega), h _ d (hk k (by omega)) (by omega)]
theorem qBf_same {y z : Nat → Nat} {n : Nat} (h : ∀ d, d < n → y d = z d) : qBf y n = qBf z n := by
  unfold qBf
  refine lp_same (fun d b hd => ?_)
  unfold bBf
  rw [h d hd]
