/-! ===== the small machine is sound ===== -/
def mm_kind (e : Nat) : String := match e with
  | 0 => "java/lang/IndexOutOfBoundsException"
  | 1 => "java/lang/IllegalArgumentException"
  | _ => "java/lang/IllegalStateException"
/-- the thrown object -/
def mm_Ex (s : State) (e : Nat) (H : Heap) (q : Addr) (ce : Cell) : Prop := H[q]? = some ce ∧ ce.vm = .none ∧ s.vm.findClass (mm_kind e) = some ce.cls
section MMC
variable (p : Program) (l : Launch) (e : Env) (R : Room) (s : State) (m : MethodId) (args : Array Value) (below : List Frame) (meth : Method) (c : Code)
variable (cc : ByteArray) (nL : Nat) (ad : Nat → Nat) (D : va_G) (cl : List vw_C) (cA : Nat → ClassId) (lay : List mm_Lay) (A : Nat → Prop) (H0 : Heap)
/-- the cells that a call makes -/
def mm_u (ct : mm_Ct) (as : List Value) (hp : mm_Hp) : Nat := match ct.2.2.2.2.1 as hp with
  | 0 => ct.2.2.1
  | _ + 1 => 1
/-- a call is sound here -/
def mm_callOk (st : Bool) (k : Nat) (ct : mm_Ct) : Prop := ∀ (pc : Nat) (ls : Array Slot) (as rest : List Value) (hp : mm_Hp) (H : Heap) (locs : List Loc) (cells slots : Nat) (Q : State → Prop),
  decode cc pc = .ok (cond st (.invokestatic k) (.invokevirtual k), 3) → ls.size = nL → rest.length ≤ 4 → mm_Wd D cl ad cA lay A H0 hp H locs → cells + mm_u ct as hp ≤ R.cells → slots + mm_u ct as hp * 6 ≤ R.slots → as.length = ct.1 → ct.2.2.2.1 as hp →
  (ct.2.2.2.2.1 as hp = 0 → ∀ H' locs', mm_Wd D cl ad cA lay A H0 (ct.2.2.2.2.2.2 as hp) H' locs' → W p l e R s m args below meth c H' locs' (cells + mm_u ct as hp) (slots + mm_u ct as hp * 6) Q (F0 m (pc + 3) ls ((cond (Nat.beq ct.2.1 0) rest (.int (ct.2.2.2.2.2.1 as hp) :: rest)).map (mm_V ad)))) →
  (∀ x, ct.2.2.2.2.1 as hp = x + 1 → ∀ H' locs' q ce, mm_Wd D cl ad cA lay A H0 (ct.2.2.2.2.2.2 as hp) H' locs' → mm_Ex s x H' q ce → vx_W p l e R s m args below meth c H' locs' (cells + mm_u ct as hp) (slots + mm_u ct as hp * 6) Q (F0 m pc ls (rest.map (mm_V ad))) q) →
  W p l e R s m args below meth c H locs cells slots Q (F0 m pc ls ((as.reverse ++ rest).map (mm_V ad)))
def mm_thrOk (thr : Nat → Nat → Nat → Option Nat) (Tx : Nat → mm_Hp → Prop) (kb c0 s0 : Nat) (Q : State → Prop) : Prop := ∀ (k t d x pc : Nat) (ls : Array Slot) (hp : mm_Hp) (H : Heap) (locs : List Loc) (b : Nat), thr k t d = some x →
  decode cc pc = .ok (.new k, 3) → decode cc (pc + 3) = .ok (.dup, 1) → decode cc (pc + 4) = .ok (.ldc t, 2) → decode cc (pc + 6) = .ok (.invokespecial d, 3) → decode cc (pc + 9) = .ok (.athrow, 1) → ls.size = nL → Tx x hp → mm_Wd D cl ad cA lay A H0 hp H locs → b ≤ kb →
  W p l e R s m args below meth c H locs (c0 + b) (s0 + b * 6) Q (F0 m pc ls [])
def mm_outOk (hnd : Nat → Nat → Option Nat) (Tx : Nat → mm_Hp → Prop) (kb c0 s0 : Nat) (Q : State → Prop) : Prop := ∀ (x pc : Nat) (ls : Array Slot) (st : List Value) (hp : mm_Hp) (H : Heap) (locs : List Loc) (b : Nat) (q : Addr) (ce : Cell), hnd pc x = none → Tx x hp → mm_Wd D cl ad cA lay A H0 hp H locs → mm_Ex s x H q ce → b ≤ kb →
  vx_W p l e R s m args below meth c H locs (c0 + b + 1) (s0 + b * 6 + 6) Q (F0 m pc ls st) q
def mm_hndOk (hnd : Nat → Nat → Option Nat) (Q : State → Prop) : Prop := ∀ (x pc h : Nat) (ls : Array Slot) (st : List Value) (H : Heap) (locs : List Loc) (cells slots : Nat) (q : Addr) (ce : Cell), hnd pc x = some h → mm_Ex s x H q ce →
  W p l e R s m args below meth c H locs cells slots Q (F0 m h ls [.ref q]) → vx_W p l e R s m args below meth c H locs cells slots Q (F0 m pc ls st) q
def mm_retOk (Rt : Option Int32 → mm_Hp → Prop) (kb c0 s0 : Nat) (Q : State → Prop) : Prop := (∀ (x : Int32) (pc : Nat) (ls : Array Slot) (hp : mm_Hp) (H : Heap) (locs : List Loc) (b : Nat), decode cc pc = .ok (.ireturn, 1) → Rt (some x) hp → mm_Wd D cl ad cA lay A H0 hp H locs → b ≤ kb → W p l e R s m args below meth c H locs (c0 + b) (s0 + b * 6) Q (F0 m pc ls [.int x])) ∧
  ∀ (pc : Nat) (ls : Array Slot) (hp : mm_Hp) (H : Heap) (locs : List Loc) (b : Nat), decode cc pc = .ok (.return_, 1) → Rt none hp → mm_Wd D cl ad cA lay A H0 hp H locs → b ≤ kb → W p l e R s m args below meth c H locs (c0 + b) (s0 + b * 6) Q (F0 m pc ls [])
def mm_cutOk (K : Nat → Option (mm_Loc → mm_Hp → Prop)) (kb c0 s0 : Nat) (Q : State → Prop) : Prop := ∀ (pc : Nat) (P : mm_Loc → mm_Hp → Prop) (L : mm_Loc) (ls : Array Slot) (hp : mm_Hp) (H : Heap) (locs : List Loc), K pc = some P → P L hp → L.length = nL → mm_Wd D cl ad cA lay A H0 hp H locs → mm_Ls ad ls L →
  W p l e R s m args below meth c H locs (c0 + kb) (s0 + kb * 6) Q (F0 m pc ls [])
end MMC
theorem mm_Ls.puto {ad : Nat → Nat} {ls ls' : Array Slot} {L : mm_Loc} {k : Nat} {v : Value} (h : mm_Ls ad ls L)
    (h' : lv_has ls' L.length ((k, v) :: (mm_ll ad L).filter (fun q => !(q.1 == k) && !(q.1 + 1 == k && q.2.category == 2)))) : mm_Ls ad ls' (L.set k none) := by
  refine ⟨by rw [List.length_set]; exact h'.1, h'.2.1, fun i w hw => ?_⟩
  by_cases hi : i = k
  · subst hi
    rw [List.getElem?_set] at hw
    simp at hw
  · rw [List.getElem?_set_ne (fun q => hi q.symm)] at hw
    obtain ⟨h1, -⟩ := h.2.2 i w hw
    refine ⟨h1, h'.2.2 (i, mm_V ad w) (List.mem_cons_of_mem _ (List.mem_filter.mpr ⟨mm_ll_in hw, ?_⟩))⟩
    have h2 : (mm_V ad w).category = 1 := mm_c1V h1
    simp [hi, h2]
section MMD
variable {p : Program} {l : Launch} {e : Env} {R : Room} {s : State} {m : MethodId} {args : Array Value} {below : List Frame} {meth : Method} {c : Code} {Q : State → Prop}
variable {cc : ByteArray} {ad : Nat → Nat} {D : va_G} {cl : List vw_C} {cA : Nat → ClassId} {A : Nat → Prop} {H0 : Heap} {own : String} {Ts : List Jvm.Cond} {X : mm_Cx} {B : mm_As} {kb c0 s0 nL : Nat}
/-- from here, in any state that hp is the picture of, the machine comes to Q -/
def mm_Sd (p : Program) (l : Launch) (e : Env) (R : Room) (s : State) (m : MethodId) (args : Array Value) (below : List Frame) (meth : Method) (c : Code) (Q : State → Prop) (ad : Nat → Nat) (D : va_G) (cl : List vw_C) (cA : Nat → ClassId) (A : Nat → Prop) (H0 : Heap) (tab : mm_Tab) (lay : List mm_Lay) (kb c0 s0 nL : Nat) (go : mm_Go) : Prop :=
  ∀ (rem : mm_Tab) (L : mm_Loc) (S : List Value) (hp : mm_Hp) (b : Nat), go rem L S hp b → rem <:+ tab → L.length = nL → b ≤ kb → ∀ (H : Heap) (locs : List Loc) (ls : Array Slot), mm_Wd D cl ad cA lay A H0 hp H locs → mm_Ls ad ls L →
    W p l e R s m args below meth c H locs (c0 + b) (s0 + b * 6) Q (F0 m (mm_pc rem) ls (S.map (mm_V ad)))
theorem mm_if_ok {H : Heap} {locs : List Loc} {cells slots : Nat} {pc tgt : Nat} {ls : Array Slot} {r : List Value} {cd : ClassFile.Cond} {off : Int} {x : Int32} {PA PB : Prop} (hx : p.tables.exec = Jvm.exec) (hb : c.code = cc) (h : mm_br cd x 0 PA PB) (hd : decode cc pc = .ok (.ifCond cd off, 3)) (ht : (pc : Int) + off = (tgt : Int))
    (kt : PA → W p l e R s m args below meth c H locs cells slots Q (F0 m tgt ls r)) (kf : PB → W p l e R s m args below meth c H locs cells slots Q (F0 m (pc + 3) ls r)) : W p l e R s m args below meth c H locs cells slots Q (F0 m pc ls (.int x :: r)) := by
  cases cd with
  | eq => exact lv_if_eq hx hb hd ht (fun q => kt (h.1 q)) (fun q => kf (h.2 q))
  | ne => exact lv_if_ne hx hb hd ht (fun q => kt (h.1 q)) (fun q => kf (h.2 q))
  | lt => exact lv_if_lt hx hb hd ht (fun q => kt (h.1 q)) (fun q => kf (h.2 q))
  | ge => exact lv_if_ge hx hb hd ht (fun q => kt (h.1 q)) (fun q => kf (h.2 q))
  | gt => exact lv_if_gt hx hb hd ht (fun q => kt (h.1 q)) (fun q => kf (h.2 q))
  | le => exact lv_if_le hx hb hd ht (fun q => kt (h.1 q)) (fun q => kf (h.2 q))
theorem mm_icmp_ok {H : Heap} {locs : List Loc} {cells slots : Nat} {pc tgt : Nat} {ls : Array Slot} {r : List Value} {cd : ClassFile.Cond} {off : Int} {x y : Int32} {PA PB : Prop} (hx : p.tables.exec = Jvm.exec) (hb : c.code = cc) (h : mm_br cd x y PA PB) (hd : decode cc pc = .ok (.if_icmp cd off, 3)) (ht : (pc : Int) + off = (tgt : Int))
    (kt : PA → W p l e R s m args below meth c H locs cells slots Q (F0 m tgt ls r)) (kf : PB → W p l e R s m args below meth c H locs cells slots Q (F0 m (pc + 3) ls r)) : W p l e R s m args below meth c H locs cells slots Q (F0 m pc ls (.int y :: .int x :: r)) := by
  cases cd with
  | eq => exact lv_icmp_eq hx hb hd ht (fun q => kt (h.1 q)) (fun q => kf (h.2 q))
  | ne => exact lv_icmp_ne hx hb hd ht (fun q => kt (h.1 q)) (fun q => kf (h.2 q))
  | lt => exact lv_icmp_lt hx hb hd ht (fun q => kt (h.1 q)) (fun q => kf (h.2 q))
  | ge => exact lv_icmp_ge hx hb hd ht (fun q => kt (h.1 q)) (fun q => kf (h.2 q))
  | gt => exact lv_icmp_gt hx hb hd ht (fun q => kt (h.1 q)) (fun q => kf (h.2 q))
  | le => exact lv_icmp_le hx hb hd ht (fun q => kt (h.1 q)) (fun q => kf (h.2 q))
theorem mm_tsw_at {go : Int → Prop} {x : Int} : ∀ (os : List Int) (k : Int), mm_tsw go x os k → ∀ o, os[(x - k).toNat]? = some o → k ≤ x → go o
  | [], _, _, _, h, _ => by simp at h
  | o :: os, k, h, o', ho, hk => by
    by_cases hx : x = k
    · subst hx
      simp at ho
      subst ho
      exact h.1 rfl
    · refine mm_tsw_at os (k + 1) h.2 o' ?_ (by omega)
      have h2 : (x - k).toNat = (x - (k + 1)).toNat + 1 := by omega
      rw [h2] at ho
      simpa using ho
theorem mm_lsw_at {go : Int → Prop} {d x : Int} : ∀ (ps : List (Int × Int)), mm_lsw go d x ps → go (Op.lookupswitch.offset ps d x)
  | [], h => h
  | (k, o) :: r, h => by
    rw [Op.lookupswitch.offset_cons]
    by_cases hx : k = x
    · rw [if_pos hx]; exact h.1 hx.symm
    · rw [if_neg hx]; exact mm_lsw_at r (h.2 (fun q => hx q.symm))
theorem mm_ld_len {L L' : mm_Loc} {k : Nat} {t : Bool} {S S' : List Value} (h : mm_ld L k t S = some (L', S')) : L'.length = L.length := by rw [(mm_ld_s h).1]
theorem mm_st_len {L L' : mm_Loc} {k : Nat} {t : Bool} {S S' : List Value} (h : mm_st L k t S = some (L', S')) : L'.length = L.length := by
  obtain ⟨-, v, -, rfl, -⟩ := mm_st_s h
  exact List.length_set
theorem mm_loc_len {i : Instr} {L L' : mm_Loc} {S S' : List Value} (h : mm_loc i L S = some (L', S')) : L'.length = L.length := by
  unfold mm_loc at h
  split at h
  · exact mm_ld_len h
  · exact mm_ld_len h
  · exact mm_ld_len h
  · exact mm_ld_len h
  · exact mm_st_len h
  · exact mm_st_len h
  · exact mm_st_len h
  · exact mm_st_len h
  · unfold mm_inc at h
    split at h
    · cases h; exact List.length_set
    · cases h
  · cases h
theorem mm_after (htab : mm_tok cc X.1) {go : mm_Go} (hgo0 : ∀ L S hp b, ¬ go [] L S hp b) (hgo : mm_Sd p l e R s m args below meth c Q ad D cl cA A H0 X.1 X.2.1 kb c0 s0 nL go) {q : Nat × Instr × Nat} {nx : mm_Tab} (hsuf : (q :: nx) <:+ X.1) :
    ∀ (L' : mm_Loc) (S' : List Value) (hp' : mm_Hp) (b' : Nat), go nx L' S' hp' b' → L'.length = nL → b' ≤ kb → ∀ (H' : Heap) (locs' : List Loc) (ls' : Array Slot), mm_Wd D cl ad cA X.2.1 A H0 hp' H' locs' → mm_Ls ad ls' L' →
      W p l e R s m args below meth c H' locs' (c0 + b') (s0 + b' * 6) Q (F0 m (q.1 + q.2.2) ls' (S'.map (mm_V ad))) := by
  intro L' S' hp' b' hg hL' hb' H' locs' ls' a1 a2
  have hne : nx ≠ [] := fun q => by rw [q] at hg; exact hgo0 _ _ _ _ hg
  rw [← mm_next htab hsuf hne]
  exact hgo nx L' S' hp' b' hg ((List.suffix_cons _ _).trans hsuf) hL' hb' H' locs' ls' a1 a2
theorem mm_thrown_ok (hx : p.tables.exec = Jvm.exec) (hb : c.code = cc) (htab : mm_tok cc X.1) (hout : mm_outOk p l e R s m args below meth c ad D cl cA X.2.1 A H0 X.2.2.2.2.2.2.2.1 B.2.2.1 kb c0 s0 Q)
    (hhnd : mm_hndOk p l e R s m args below meth c X.2.2.2.2.2.2.2.1 Q) {go : mm_Go} (hgo0 : ∀ L S hp b, ¬ go [] L S hp b) (hgo : mm_Sd p l e R s m args below meth c Q ad D cl cA A H0 X.1 X.2.1 kb c0 s0 nL go)
    {pc x b : Nat} {L : mm_Loc} {hp : mm_Hp} (hkb : B.2.2.2 = kb) (hbk : b ≤ kb) (hL : L.length = nL) (h : mm_thrown X B go pc L x hp b) {H : Heap} {locs : List Loc} {ls : Array Slot} {st : List Value} {q : Addr} {ce : Cell} (hw : mm_Wd D cl ad cA X.2.1 A H0 hp H locs) (hls : mm_Ls ad ls L) (hex : mm_Ex s x H q ce) :
    vx_W p l e R s m args below meth c H locs (c0 + b + 1) (s0 + b * 6 + 6) Q (F0 m pc ls st) q := by
  unfold mm_thrown at h
  split at h
  · rename_i hn
    exact hout x pc ls st hp H locs b q ce hn h hw hex hbk
  · rename_i hh hn
    have hd9 : ∀ (y : Nat × Instr × Nat) (nx : mm_Tab), X.1.dropWhile (fun q => !(Nat.beq q.1 hh)) = y :: nx → y.1 = hh ∧ (y :: nx) <:+ X.1 := by
      intro y nx hy
      have h1 := List.head?_dropWhile_not (fun q : Nat × Instr × Nat => !(Nat.beq q.1 hh)) X.1
      rw [hy] at h1
      simp at h1
      exact ⟨h1, by rw [← hy]; exact List.dropWhile_suffix _⟩
    split at h
    · rename_i p0 k z0 nx hy
      obtain ⟨h1, h2⟩ := hd9 _ _ hy
      dsimp only at h1
      subst h1
      obtain ⟨h3, h4⟩ := mm_condP h
      have hq := htab.1 _ (h2.subset List.mem_cons_self)
      have e0 : z0 = 1 := mm_z hq.2
      subst e0
      simp only [Bool.and_eq_true] at h3
      have hk : (k : Nat) < L.length := by simpa using h3.1
      have hb1 : b + 1 ≤ kb := by rw [← hkb]; exact Nat.le_of_ble_eq_true h3.2
      refine hhnd x pc _ ls st H locs _ _ q ce hn hex ?_
      exact lv_astore_n hx hb hq.1 rfl hls.has hk rfl (fun ls' h' => by have K9 := mm_after htab hgo0 hgo h2 _ [] hp (b + 1) h4 (by rw [List.length_set]; exact hL) hb1 H locs ls' hw (hls.puto h'); rw [show c0 + b + 1 = c0 + (b + 1) by omega, show s0 + b * 6 + 6 = s0 + (b + 1) * 6 by omega]; exact K9)
    · rename_i p0 k z0 nx hy
      obtain ⟨h1, h2⟩ := hd9 _ _ hy
      dsimp only at h1
      subst h1
      obtain ⟨h3, h4⟩ := mm_condP h
      have hq := htab.1 _ (h2.subset List.mem_cons_self)
      have e0 : z0 = 2 := mm_z hq.2
      subst e0
      simp only [Bool.and_eq_true] at h3
      have hk : k < L.length := by simpa using h3.1
      have hb1 : b + 1 ≤ kb := by rw [← hkb]; exact Nat.le_of_ble_eq_true h3.2
      refine hhnd x pc _ ls st H locs _ _ q ce hn hex ?_
      exact lv_astore hx hb hq.1 hls.has hk rfl (fun ls' h' => by have K9 := mm_after htab hgo0 hgo h2 _ [] hp (b + 1) h4 (by rw [List.length_set]; exact hL) hb1 H locs ls' hw (hls.puto h'); rw [show c0 + b + 1 = c0 + (b + 1) by omega, show s0 + b * 6 + 6 = s0 + (b + 1) * 6 by omega]; exact K9)
    · exact h.elim
theorem mm_call_ok (hx : p.tables.exec = Jvm.exec) (hb : c.code = cc) (htab : mm_tok cc X.1) {st : Bool} {k : Nat} (hkb : B.2.2.2 = kb) (hRc : c0 + kb ≤ R.cells) (hRs : s0 + kb * 6 ≤ R.slots) (hRx : ∀ x hp, B.2.2.1 x hp → c0 + kb + 1 ≤ R.cells ∧ s0 + kb * 6 + 6 ≤ R.slots)
    (hcal : ∀ (ct : mm_Ct), X.2.2.2.2.2.1 st k = some ct → mm_callOk p l e R s m args below meth c cc nL ad D cl cA X.2.1 A H0 st k ct) (hout : mm_outOk p l e R s m args below meth c ad D cl cA X.2.1 A H0 X.2.2.2.2.2.2.2.1 B.2.2.1 kb c0 s0 Q)
    (hhnd : mm_hndOk p l e R s m args below meth c X.2.2.2.2.2.2.2.1 Q) {go : mm_Go} (hgo0 : ∀ L S hp b, ¬ go [] L S hp b) (hgo : mm_Sd p l e R s m args below meth c Q ad D cl cA A H0 X.1 X.2.1 kb c0 s0 nL go)
    {pc b : Nat} {L : mm_Loc} {S : List Value} {hp : mm_Hp} {nx : mm_Tab} {H : Heap} {locs : List Loc} {ls : Array Slot} (hd : decode cc pc = .ok (cond st (.invokestatic k) (.invokevirtual k), 3)) (hL : L.length = nL) (hbk : b ≤ kb) (hw : mm_Wd D cl ad cA X.2.1 A H0 hp H locs) (hls : mm_Ls ad ls L)
    (h : mm_call (X.2.2.2.2.2.1 st k) B.2.2.2 S hp b (fun r h b' => go nx L r h b') (fun x h => mm_thrown X B go pc L x h b))
    (hnx : ∀ (L' : mm_Loc) (S' : List Value) (hp' : mm_Hp) (b' : Nat), go nx L' S' hp' b' → L'.length = nL → b' ≤ kb → ∀ (H' : Heap) (locs' : List Loc) (ls' : Array Slot), mm_Wd D cl ad cA X.2.1 A H0 hp' H' locs' → mm_Ls ad ls' L' →
      W p l e R s m args below meth c H' locs' (c0 + b') (s0 + b' * 6) Q (F0 m (pc + 3) ls' (S'.map (mm_V ad)))) :
    W p l e R s m args below meth c H locs (c0 + b) (s0 + b * 6) Q (F0 m pc ls (S.map (mm_V ad))) := by
  cases hct : X.2.2.2.2.2.1 st k with
  | none => rw [hct] at h; exact h.elim
  | some ct =>
    rw [hct] at h
    obtain ⟨n, r, t, pre, tx, rv, sg⟩ := ct
    unfold mm_call at h
    dsimp only at h
    split at h
    · rename_i as rest hsplit
      obtain ⟨q1, q2, q3⟩ := mm_split_s _ _ _ _ _ hsplit
      obtain ⟨h1, hpre, hz0, hth⟩ := mm_condP h
      simp only [Bool.and_eq_true] at h1
      have a2 : rest.length ≤ 4 := Nat.le_of_ble_eq_true h1.1
      have a3 : b + t ≤ kb := by rw [← hkb]; exact Nat.le_of_ble_eq_true h1.2
      have hsp : S = as.reverse ++ rest := by rw [q2]; rfl
      have hu0 : tx as hp = 0 → mm_u (n, r, t, pre, tx, rv, sg) as hp = t := fun q => by
        show (match tx as hp with | 0 => t | _ + 1 => 1) = t
        rw [q]
      have hu1 : ∀ x, tx as hp = x + 1 → mm_u (n, r, t, pre, tx, rv, sg) as hp = 1 := fun x q => by
        show (match tx as hp with | 0 => t | _ + 1 => 1) = 1
        rw [q]
      have hroom : c0 + b + mm_u (n, r, t, pre, tx, rv, sg) as hp ≤ R.cells ∧ s0 + b * 6 + mm_u (n, r, t, pre, tx, rv, sg) as hp * 6 ≤ R.slots := by
        cases hq : tx as hp with
        | zero => rw [hu0 hq]; exact ⟨by omega, by omega⟩
        | succ x =>
          rw [hu1 x hq]
          have h9 : mm_thrown X B go pc L x (sg as hp) b := hth x hq
          unfold mm_thrown at h9
          split at h9
          · have := hRx x _ h9
            exact ⟨by omega, by omega⟩
          · split at h9
            · obtain ⟨h3, -⟩ := mm_condP h9
              simp only [Bool.and_eq_true] at h3
              have : b + 1 ≤ kb := by rw [← hkb]; exact Nat.le_of_ble_eq_true h3.2
              exact ⟨by omega, by omega⟩
            · obtain ⟨h3, -⟩ := mm_condP h9
              simp only [Bool.and_eq_true] at h3
              have : b + 1 ≤ kb := by rw [← hkb]; exact Nat.le_of_ble_eq_true h3.2
              exact ⟨by omega, by omega⟩
            · exact h9.elim
      have K := hcal _ hct pc ls as rest hp H locs (c0 + b) (s0 + b * 6) Q hd (hls.1.trans hL) a2 hw hroom.1 hroom.2 q3 hpre
        (fun h0 H' locs' hw' => by
          have h8 : go nx L (cond (Nat.beq r 0) rest (.int (rv as hp) :: rest)) (sg as hp) (b + t) := by
            have h7 := hz0 h0
            cases hr : Nat.beq r 0 with
            | true => rw [hr] at h7; exact h7
            | false => rw [hr] at h7; exact h7
          have K9 := hnx L _ _ (b + t) h8 hL a3 H' locs' ls hw' hls
          rw [hu0 h0, show c0 + b + t = c0 + (b + t) by omega, show s0 + b * 6 + t * 6 = s0 + (b + t) * 6 by omega]
          exact K9)
        (fun x hx' H' locs' q ce hw' hex => by
          rw [hu1 x hx']
          exact mm_thrown_ok hx hb htab hout hhnd hgo0 hgo hkb hbk hL (hth x hx') hw' hls hex)
      rw [← hsp] at K
      exact K
    · exact h.elim
set_option maxHeartbeats 4000000 in
/-- ONE STEP -/
theorem mm_step_ok (hx : p.tables.exec = Jvm.exec) (hb : c.code = cc) (htab : mm_tok cc X.1) (hts : ∀ w ∈ Ts, w.before args s = true) (hown : s.vm.findClass own = some m.cls) (hK : va_K D cl (mm_tys cA) s)
    (hf : mm_fldOk own cl Ts X.2.2.2.1) (hpf : mm_pflOk own cl Ts X.2.2.2.2.1) (hsc : mm_scOk ad A H0 s X.2.2.1) (hcst : ∀ k v, X.2.2.2.2.2.2.2.2 k = some v → Jvm.Cond.constant own k v ∈ Ts) (hkb : B.2.2.2 = kb) (hRc : c0 + kb ≤ R.cells) (hRs : s0 + kb * 6 ≤ R.slots) (hRx : ∀ x hp, B.2.2.1 x hp → c0 + kb + 1 ≤ R.cells ∧ s0 + kb * 6 + 6 ≤ R.slots)
    (hcal : ∀ (st : Bool) (k : Nat) (ct : mm_Ct), X.2.2.2.2.2.1 st k = some ct → mm_callOk p l e R s m args below meth c cc nL ad D cl cA X.2.1 A H0 st k ct)
    (hthr : mm_thrOk p l e R s m args below meth c cc nL ad D cl cA X.2.1 A H0 X.2.2.2.2.2.2.1 B.2.2.1 kb c0 s0 Q) (hout : mm_outOk p l e R s m args below meth c ad D cl cA X.2.1 A H0 X.2.2.2.2.2.2.2.1 B.2.2.1 kb c0 s0 Q)
    (hhnd : mm_hndOk p l e R s m args below meth c X.2.2.2.2.2.2.2.1 Q) (hret : mm_retOk p l e R s m args below meth c cc ad D cl cA X.2.1 A H0 B.2.1 kb c0 s0 Q) {go : mm_Go} (hgo0 : ∀ L S hp b, ¬ go [] L S hp b)
    (hgo : mm_Sd p l e R s m args below meth c Q ad D cl cA A H0 X.1 X.2.1 kb c0 s0 nL go) : mm_Sd p l e R s m args below meth c Q ad D cl cA A H0 X.1 X.2.1 kb c0 s0 nL (mm_step X B go) := by
  intro rem L S hp b h hsuf hL hbk H locs ls hw hls
  match rem, h, hsuf with
  | [], h, _ => exact h.elim
  | (pc, i, z) :: nx, h, hsuf =>
    have hq := htab.1 _ (hsuf.subset List.mem_cons_self)
    have hd : decode cc pc = .ok (i, z) := hq.1
    have hz : mm_len i z = true := hq.2
    have hsn : nx <:+ X.1 := (List.suffix_cons _ _).trans hsuf
    have hpn : nx ≠ [] → mm_pc nx = pc + z := mm_next htab hsuf
    have hnx : ∀ (L' : mm_Loc) (S' : List Value) (hp' : mm_Hp) (b' : Nat), go nx L' S' hp' b' → L'.length = nL → b' ≤ kb → ∀ (H' : Heap) (locs' : List Loc) (ls' : Array Slot), mm_Wd D cl ad cA X.2.1 A H0 hp' H' locs' → mm_Ls ad ls' L' →
        W p l e R s m args below meth c H' locs' (c0 + b') (s0 + b' * 6) Q (F0 m (pc + z) ls' (S'.map (mm_V ad))) := by
      intro L' S' hp' b' hg hL' hb' H' locs' ls' a1 a2
      have hne : nx ≠ [] := fun q => by rw [q] at hg; exact hgo0 _ _ _ _ hg
      rw [← hpn hne]
      exact hgo nx L' S' hp' b' hg hsn hL' hb' H' locs' ls' a1 a2
    have hjp : ∀ (off : Int) (S' : List Value), go (mm_jump X.1 pc off) L S' hp b → ∃ tgt : Nat, (pc : Int) + off = (tgt : Int) ∧ W p l e R s m args below meth c H locs (c0 + b) (s0 + b * 6) Q (F0 m tgt ls (S'.map (mm_V ad))) := by
      intro off S' hg
      cases hj : mm_jump X.1 pc off with
      | nil => rw [hj] at hg; exact absurd hg (hgo0 _ _ _ _)
      | cons q t =>
        rw [hj] at hg
        exact ⟨q.1, mm_jmp hj, hgo (q :: t) L S' hp b hg (by rw [← hj]; exact mm_jsuf _ _ _) hL hbk H locs ls hw hls⟩
    show W p l e R s m args below meth c H locs (c0 + b) (s0 + b * 6) Q (F0 m pc ls (S.map (mm_V ad)))
    unfold mm_step at h
    dsimp only at h
    cases ha : mm_alu i S with
    | some S' =>
      rw [ha] at h
      exact mm_alu_ok hx hb ha hd hz (hnx L S' hp b h hL hbk H locs ls hw hls)
    | none =>
      rw [ha] at h
      dsimp only at h
      cases hl : mm_loc i L S with
      | some q =>
        obtain ⟨L', S'⟩ := q
        rw [hl] at h
        dsimp only at h
        have hLL : L'.length = nL := by rw [mm_loc_len hl]; exact hL
        exact mm_loc_ok hx hb hls hl hd hz (fun ls' hls' => hnx L' S' hp b h hLL hbk H locs ls' hw hls')
      | none =>
        rw [hl] at h
        dsimp only at h
        clear ha hl
        unfold mm_oth at h
        split at h
        · -- goto
          obtain ⟨tgt, ht, k⟩ := hjp _ _ h
          cases mm_z hz
          exact lv_goto hx hb hd ht k
        · -- ifCond
          cases mm_z hz
          split at h
          · exact h.elim
          · rename_i q t hj
            unfold mm_if at h
            split at h
            · refine mm_if_ok hx hb h hd (mm_jmp hj) (fun h1 => ?_) (fun h1 => hnx L _ hp b h1 hL hbk H locs ls hw hls)
              exact hgo (q :: t) L _ hp b h1 (by rw [← hj]; exact mm_jsuf _ _ _) hL hbk H locs ls hw hls
            · exact h.elim
        · -- if_icmp
          cases mm_z hz
          split at h
          · exact h.elim
          · rename_i q t hj
            unfold mm_icmp at h
            split at h
            · refine mm_icmp_ok hx hb h hd (mm_jmp hj) (fun h1 => ?_) (fun h1 => hnx L _ hp b h1 hL hbk H locs ls hw hls)
              exact hgo (q :: t) L _ hp b h1 (by rw [← hj]; exact mm_jsuf _ _ _) hL hbk H locs ls hw hls
            · exact h.elim
        · -- tableswitch
          rename_i d lo hi offs
          unfold mm_tswS at h
          split at h
          · rename_i x r _
            obtain ⟨hsz, h⟩ := mm_condP h
            simp only [Bool.and_eq_true, decide_eq_true_eq] at hsz
            have hsz2 := Nat.eq_of_beq_eq_true hsz.2
            by_cases hout2 : x.toInt < lo ∨ hi < x.toInt
            · obtain ⟨tgt, ht, k⟩ := hjp _ _ (h.1 hout2)
              exact lv_tableOut hx hb hd hout2 ht k
            · have h1 : ¬ x.toInt < lo := fun q => hout2 (Or.inl q)
              have h2 : ¬ hi < x.toInt := fun q => hout2 (Or.inr q)
              cases ho : offs[(x.toInt - lo).toNat]? with
              | none =>
                have := Array.getElem?_eq_none_iff.mp ho
                omega
              | some o =>
                obtain ⟨tgt, ht, k⟩ := hjp _ _ (mm_tsw_at offs.toList lo h.2 o (by rw [Array.getElem?_toList]; exact ho) (by omega))
                exact lv_tableIn hx hb hd h1 h2 ho ht k
          · exact h.elim
        · -- lookupswitch
          rename_i d ps
          unfold mm_lswS at h
          split at h
          · rename_i x r
            obtain ⟨hp9, h⟩ := mm_condP h
            obtain ⟨tgt, ht, k⟩ := hjp _ _ (mm_lsw_at ps.toList h)
            exact lv_lookup hx hb hd hp9 rfl ht k
          · exact h.elim
        · cases mm_z hz
          exact mm_get_ok hx hb hts hown hK hf hw h hd (fun S' h1 => hnx L S' hp b h1 hL hbk H locs ls hw hls)
        · cases mm_z hz
          exact mm_put_ok hx hb hts hown hK hpf hw h hd (fun S' hp' H' locs' h1 hw' => hnx L S' hp' b h1 hL hbk H' locs' ls hw' hls)
        · cases mm_z hz
          exact mm_ald_ok hx hb hK hw hsc h (Or.inl ⟨rfl, hd⟩) (fun S' h1 => hnx L S' hp b h1 hL hbk H locs ls hw hls)
        · cases mm_z hz
          exact mm_ald_ok hx hb hK hw hsc h (Or.inr (Or.inl ⟨rfl, hd⟩)) (fun S' h1 => hnx L S' hp b h1 hL hbk H locs ls hw hls)
        · cases mm_z hz
          exact mm_ald_ok hx hb hK hw hsc h (Or.inr (Or.inr ⟨rfl, hd⟩)) (fun S' h1 => hnx L S' hp b h1 hL hbk H locs ls hw hls)
        · cases mm_z hz
          exact mm_ast_ok hx hb hK hw h (Or.inl ⟨rfl, hd⟩) (fun S' hp' H' locs' h1 hw' => hnx L S' hp' b h1 hL hbk H' locs' ls hw' hls)
        · cases mm_z hz
          exact mm_ast_ok hx hb hK hw h (Or.inr (Or.inl ⟨rfl, hd⟩)) (fun S' hp' H' locs' h1 hw' => hnx L S' hp' b h1 hL hbk H' locs' ls hw' hls)
        · cases mm_z hz
          exact mm_ast_ok hx hb hK hw h (Or.inr (Or.inr ⟨rfl, hd⟩)) (fun S' hp' H' locs' h1 hw' => hnx L S' hp' b h1 hL hbk H' locs' ls hw' hls)
        · cases mm_z hz
          exact mm_alen_ok hx hb hK hw hsc h hd (fun S' h1 => hnx L S' hp b h1 hL hbk H locs ls hw hls)
        · cases mm_z hz
          unfold mm_div at h
          split at h
          · exact lv_idiv hx hb hd h.1 (hnx L _ hp b h.2 hL hbk H locs ls hw hls)
          · exact h.elim
        · cases mm_z hz
          unfold mm_div at h
          split at h
          · exact lv_irem hx hb hd h.1 (hnx L _ hp b h.2 hL hbk H locs ls hw hls)
          · exact h.elim
        · -- invokevirtual
          cases mm_z hz
          exact mm_call_ok (st := false) hx hb htab hkb hRc hRs hRx (hcal false _) hout hhnd hgo0 hgo hd hL hbk hw hls h hnx
        · -- invokestatic
          cases mm_z hz
          exact mm_call_ok (st := true) hx hb htab hkb hRc hRs hRx (hcal true _) hout hhnd hgo0 hgo hd hL hbk hw hls h hnx
        · -- new
          unfold mm_throw at h
          split at h
          · rename_i p0 k z0 p1 z1 p2 t z2 p3 d z3 p4 z4 rr heq
            cases heq
            split at h
            · rename_i x hx9
              obtain ⟨hS, hT9⟩ := h
              subst hS
              have s1 : ((p1, Instr.dup, z1) :: (p2, .ldc t, z2) :: (p3, .invokespecial d, z3) :: (p4, .athrow, z4) :: rr) <:+ X.1 := hsn
              have s2 : ((p2, Instr.ldc t, z2) :: (p3, .invokespecial d, z3) :: (p4, .athrow, z4) :: rr) <:+ X.1 := (List.suffix_cons _ _).trans s1
              have s3 : ((p3, Instr.invokespecial d, z3) :: (p4, .athrow, z4) :: rr) <:+ X.1 := (List.suffix_cons _ _).trans s2
              have s4 : ((p4, Instr.athrow, z4) :: rr) <:+ X.1 := (List.suffix_cons _ _).trans s3
              have q1 := htab.1 _ (s1.subset List.mem_cons_self)
              have q2 := htab.1 _ (s2.subset List.mem_cons_self)
              have q3 := htab.1 _ (s3.subset List.mem_cons_self)
              have q4 := htab.1 _ (s4.subset List.mem_cons_self)
              have n1 : p1 = pc + z := mm_next htab hsuf (by simp)
              have n2 : p2 = p1 + z1 := mm_next htab s1 (by simp)
              have n3 : p3 = p2 + z2 := mm_next htab s2 (by simp)
              have n4 : p4 = p3 + z3 := mm_next htab s3 (by simp)
              have e0 : z = 3 := mm_z hz
              have e1 : z1 = 1 := mm_z q1.2
              have e2 : z2 = 2 := mm_z q2.2
              have e3 : z3 = 3 := mm_z q3.2
              have e4 : z4 = 1 := mm_z q4.2
              subst e0 e1 e2 e3 e4
              have n1 : p1 = pc + 3 := n1
              have n2 : p2 = pc + 4 := by omega
              have n3 : p3 = pc + 6 := by omega
              have n4 : p4 = pc + 9 := by omega
              subst n1 n2 n3 n4
              exact hthr _ t d x pc ls hp H locs b hx9 hd q1.1 q2.1 q3.1 q4.1 (hls.1.trans hL) hT9 hw hbk
            · exact h.elim
          · exact h.elim
        · cases mm_z hz
          unfold mm_ldc at h
          split at h
          · rename_i v hv
            exact lv_ldc hx hb hown (hts _ (hcst _ v hv)) hd (hnx L _ hp b h hL hbk H locs ls hw hls)
          · exact h.elim
        · cases mm_z hz
          unfold mm_ldc at h
          split at h
          · rename_i v hv
            exact lv_ldcw hx hb hown (hts _ (hcst _ v hv)) hd (hnx L _ hp b h hL hbk H locs ls hw hls)
          · exact h.elim
        · cases mm_z hz
          unfold mm_ret at h
          split at h
          · exact hret.1 _ pc ls hp H locs b hd h hw hbk
          · exact h.elim
        · cases mm_z hz
          unfold mm_vret at h
          split at h
          · exact hret.2 pc ls hp H locs b hd h hw hbk
          · exact h.elim
        · exact h.elim
theorem mm_go_ok (hcut : mm_cutOk p l e R s m args below meth c nL ad D cl cA X.2.1 A H0 B.1 kb c0 s0 Q) {wp : mm_Go} (hwp : mm_Sd p l e R s m args below meth c Q ad D cl cA A H0 X.1 X.2.1 kb c0 s0 nL wp) : mm_Sd p l e R s m args below meth c Q ad D cl cA A H0 X.1 X.2.1 kb c0 s0 nL (mm_go B wp) := by
  intro rem L S hp b h hsuf hL hbk H locs ls hw hls
  match rem, h, hsuf with
  | [], h, _ => exact h.elim
  | q :: nx, h, hsuf =>
    unfold mm_go at h
    dsimp only at h
    split at h
    · rename_i P hP
      obtain ⟨rfl, hPL⟩ := h
      exact W.widen (by omega) (by omega) (hcut q.1 P L ls hp H locs hP hPL hL hw hls)
    · exact hwp (q :: nx) L S hp b h hsuf hL hbk H locs ls hw hls
/-- THE SMALL MACHINE IS SOUND -/
theorem mm_sound (hx : p.tables.exec = Jvm.exec) (hb : c.code = cc) (htab : mm_tok cc X.1) (hts : ∀ w ∈ Ts, w.before args s = true) (hown : s.vm.findClass own = some m.cls) (hK : va_K D cl (mm_tys cA) s)
    (hf : mm_fldOk own cl Ts X.2.2.2.1) (hpf : mm_pflOk own cl Ts X.2.2.2.2.1) (hsc : mm_scOk ad A H0 s X.2.2.1) (hcst : ∀ k v, X.2.2.2.2.2.2.2.2 k = some v → Jvm.Cond.constant own k v ∈ Ts) (hkb : B.2.2.2 = kb) (hRc : c0 + kb ≤ R.cells) (hRs : s0 + kb * 6 ≤ R.slots) (hRx : ∀ x hp, B.2.2.1 x hp → c0 + kb + 1 ≤ R.cells ∧ s0 + kb * 6 + 6 ≤ R.slots)
    (hcal : ∀ (st : Bool) (k : Nat) (ct : mm_Ct), X.2.2.2.2.2.1 st k = some ct → mm_callOk p l e R s m args below meth c cc nL ad D cl cA X.2.1 A H0 st k ct)
    (hthr : mm_thrOk p l e R s m args below meth c cc nL ad D cl cA X.2.1 A H0 X.2.2.2.2.2.2.1 B.2.2.1 kb c0 s0 Q) (hout : mm_outOk p l e R s m args below meth c ad D cl cA X.2.1 A H0 X.2.2.2.2.2.2.2.1 B.2.2.1 kb c0 s0 Q)
    (hhnd : mm_hndOk p l e R s m args below meth c X.2.2.2.2.2.2.2.1 Q) (hret : mm_retOk p l e R s m args below meth c cc ad D cl cA X.2.1 A H0 B.2.1 kb c0 s0 Q)
    (hcut : mm_cutOk p l e R s m args below meth c nL ad D cl cA X.2.1 A H0 B.1 kb c0 s0 Q) : ∀ n, mm_Sd p l e R s m args below meth c Q ad D cl cA A H0 X.1 X.2.1 kb c0 s0 nL (mm_wp X B n)
  | 0 => fun _ _ _ _ _ h => h.elim
  | n + 1 => mm_step_ok hx hb htab hts hown hK hf hpf hsc hcst hkb hRc hRs hRx hcal hthr hout hhnd hret (fun _ _ _ _ h => h) (mm_go_ok hcut (mm_sound hx hb htab hts hown hK hf hpf hsc hcst hkb hRc hRs hRx hcal hthr hout hhnd hret hcut n))
end MMD
