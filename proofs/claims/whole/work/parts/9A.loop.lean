/-! ===== the law's loop (by wip/whole/gen9A.py) ===== -/
theorem dL_23 : decode code 23 = .ok (.iload 4, 2) := by decide +kernel
theorem dL_25 : decode code 25 = .ok (.aload_n 0, 1) := by decide +kernel
theorem dL_26 : decode code 26 = .ok (.arraylength, 1) := by decide +kernel
theorem dL_27 : decode code 27 = .ok (.iconst 5, 1) := by decide +kernel
theorem dL_28 : decode code 28 = .ok (.isub, 1) := by decide +kernel
theorem dL_29 : decode code 29 = .ok (.if_icmp .gt 1278, 3) := by decide +kernel
theorem dL_32 : decode code 32 = .ok (.aload_n 0, 1) := by decide +kernel
theorem dL_33 : decode code 33 = .ok (.iload 4, 2) := by decide +kernel
theorem dL_35 : decode code 35 = .ok (.iaload, 1) := by decide +kernel
theorem dL_36 : decode code 36 = .ok (.bipush 31, 2) := by decide +kernel
theorem dL_38 : decode code 38 = .ok (.iand, 1) := by decide +kernel
theorem dL_39 : decode code 39 = .ok (.tableswitch 1262 0 17 #[85, 165, 256, 343, 418, 474, 542, 598, 611, 679, 747, 791, 866, 946, 1014, 1106, 1150, 1206], 85) := by decide +kernel
theorem dL_637 : decode code 637 = .ok (.aload_n 1, 1) := by decide +kernel
theorem dL_638 : decode code 638 = .ok (.invokevirtual 108, 3) := by decide +kernel
theorem dL_641 : decode code 641 = .ok (.aload_n 2, 1) := by decide +kernel
theorem dL_642 : decode code 642 = .ok (.invokevirtual 111, 3) := by decide +kernel
theorem dL_645 : decode code 645 = .ok (.if_icmp .eq 656, 3) := by decide +kernel
theorem dL_1301 : decode code 1301 = .ok (.iinc 4 5, 3) := by decide +kernel
theorem dL_1304 : decode code 1304 = .ok (.goto (-1281), 3) := by decide +kernel
theorem dL_1307 : decode code 1307 = .ok (.iconst 1, 1) := by decide +kernel
theorem dL_1308 : decode code 1308 = .ok (.ireturn, 1) := by decide +kernel
theorem dL_201 : decode code 201 = .ok (.goto 1100, 3) := by decide +kernel
theorem dL_292 : decode code 292 = .ok (.goto 1009, 3) := by decide +kernel
theorem dL_379 : decode code 379 = .ok (.goto 922, 3) := by decide +kernel
theorem dL_454 : decode code 454 = .ok (.goto 847, 3) := by decide +kernel
theorem dL_510 : decode code 510 = .ok (.goto 791, 3) := by decide +kernel
theorem dL_578 : decode code 578 = .ok (.goto 723, 3) := by decide +kernel
theorem dL_634 : decode code 634 = .ok (.goto 667, 3) := by decide +kernel
theorem dL_715 : decode code 715 = .ok (.goto 586, 3) := by decide +kernel
theorem dL_783 : decode code 783 = .ok (.goto 518, 3) := by decide +kernel
theorem dL_827 : decode code 827 = .ok (.goto 474, 3) := by decide +kernel
theorem dL_902 : decode code 902 = .ok (.goto 399, 3) := by decide +kernel
theorem dL_982 : decode code 982 = .ok (.goto 319, 3) := by decide +kernel
theorem dL_1050 : decode code 1050 = .ok (.goto 251, 3) := by decide +kernel
theorem dL_1142 : decode code 1142 = .ok (.goto 159, 3) := by decide +kernel
theorem dL_1186 : decode code 1186 = .ok (.goto 115, 3) := by decide +kernel
theorem dL_1242 : decode code 1242 = .ok (.goto 59, 3) := by decide +kernel
theorem dL_1298 : decode code 1298 = .ok (.goto 3, 3) := by decide +kernel
theorem vpk {a L : Nat} (k : Nat) (h : a + k < L) (hL : L ≤ 2560) : vp_in (nI a + nI k) L := by
  rw [nI_add]
  exact nIv h (by omega)
theorem lst_le {L j : Nat} (hL : L ≤ 2560) (hj : 5 * j ≤ L) (h : ¬ Int32.ofNat L - Int32.ofInt 5 < nI (5 * j)) : 5 * j + 5 ≤ L := by
  by_cases h5 : 5 ≤ L
  · have e : Int32.ofNat L - Int32.ofInt 5 = nI (L - 5) := by
      have e2 : nI L = nI (L - 5) + nI 5 := by rw [nI_add, Nat.sub_add_cancel h5]
      show nI L - nI 5 = _
      rw [e2, Int32.add_sub_cancel]
    rw [e, nI_ltI (by omega) (by omega)] at h
    omega
  · have hj0 : j = 0 := by omega
    subst hj0
    exfalso
    apply h
    rcases (by omega : L = 0 ∨ L = 1 ∨ L = 2 ∨ L = 3 ∨ L = 4) with rfl | rfl | rfl | rfl | rfl <;> decide +kernel
section LOOP
variable {E : En} {p : Program} {e : Env} {s : State} {m : MethodId} {b : Nat} {below : List Frame} {meth : Method} {c : Code} {L : Nat} {xs : Nat → Int32}
/-- the loop's head, n rounds left at most -/
def HeadW (E : En) (p : Program) (e : Env) (s : State) (m : MethodId) (b : Nat) (below : List Frame) (meth : Method) (c : Code) (L : Nat) (n : Nat) : Prop := ∀ (j c0 s0 : Nat), L < 5 * j + n → 5 * j ≤ L → c0 = 44 + j → s0 = 5715 + 6 * j → ∀ (hp : mm_Hp) (H : Heap) (locs : List Loc) (ls : Array Slot) (o5 o6 : Option Value), Rel hp hp → WdL E s (fun q : Nat => s.heap.size ≤ q) hp H locs → mm_Ls E.2.2.1 ls (LL (nI (5 * j)) o5 o6) →
  W p E.1 e room_1 s m #[Value.ref b] below meth c H locs c0 s0 (lw_Z below #[Value.ref b] s) (F0 m 23 ls [])
theorem end_round {n j c1 s1 : Nat} (hin : LwIn E p s m b c (fun q : Nat => s.heap.size ≤ q) L xs) (ih : HeadW E p e s m b below meth c L n) (hn : L < 5 * (j + 1) + n) (hj : 5 * (j + 1) ≤ L) (h1 : c1 = 44 + (j + 1)) (h2 : s1 = 5715 + 6 * (j + 1)) : EndW E p e room_1 s m b below meth c (fun q : Nat => s.heap.size ≤ q) (lw_Z below #[Value.ref b] s) (nI (5 * j)) c1 s1 := by
  intro hp H locs ls o5 o6 R hw hl
  have hx := hin.1.1.1
  have hb := hin.1.1.2.1
  refine mm_loc_ok (i := .iinc 4 5) (L := LL (nI (5 * j)) o5 o6) (L' := LL (nI (5 * j) + Int32.ofInt 5) o5 o6) (S := []) (S' := []) hx hb hl rfl dL_1301 rfl (fun ls hl => ?_)
  refine lv_goto (tgt := 23) hx hb dL_1304 (by decide +kernel) ?_
  have ee : nI (5 * j) + Int32.ofInt 5 = nI (5 * (j + 1)) := by
    show nI (5 * j) + nI 5 = _
    rw [nI_add]
    rfl
  rw [ee] at hl
  exact ih (j + 1) c1 s1 hn hj h1 h2 hp H locs ls o5 o6 R hw hl
theorem C_chains {x : Int32} {c0 s0 : Nat} {Q : State → Prop} {A : Nat → Prop} (hE : EOk E) (hin : LwIn E p s m b c A L xs) (hEnd : EndW E p e room_1 s m b below meth c A Q x (c0 + 1) (s0 + 6)) (hRc : c0 + 1 ≤ room_1.cells) (hRs : s0 + 6 ≤ room_1.slots) {hp : mm_Hp} {H : Heap} {locs : List Loc} {ls : Array Slot} {o5 o6 : Option Value} (R : Rel hp hp) (hw : WdL E s A hp H locs) (hl : mm_Ls E.2.2.1 ls (LL x o5 o6)) :
    W p E.1 e room_1 s m #[Value.ref b] below meth c H locs c0 s0 Q (F0 m 637 ls []) := by
  have hx := hin.1.1.1
  have hb := hin.1.1.2.1
  have fc : FrC hp (hBuild hp) := hBuild_fr hp
  have fm : FrM (hBuild hp) (hCsM (hBuild hp)) := hCsM_fr _
  have R1 : Rel hp (hBuild hp) := rel_h1 (hc' := hBuild hp) R rfl fc
  obtain ⟨t1, t2⟩ := chains_same R1
  have R2 : Rel (hCsM (hBuild hp)) (hCsM (hBuild hp)) := rel_round (hc' := hBuild hp) R rfl fc fm (fun _ => t2)
  refine mm_loc_ok (i := .aload_n 1) (L := LL x o5 o6) (L' := LL x o5 o6) (S := []) (S' := [.ref 0]) hx hb hl rfl dL_637 rfl (fun ls hl => ?_)
  refine rG_chains hE p e s m #[Value.ref b] below meth c code 7 A hin.1 hin.2.1 638 ls [.ref 0] [] hp H locs c0 s0 Q dL_638 hl.1 (Nat.zero_le _) hw (by show c0 + 0 ≤ _; omega) (by show s0 + 0 * 6 ≤ _; omega) rfl ⟨rfl, R.pCn⟩ (fun _ H locs hw => ?_) (fun _ h => no0 h)
  refine mm_loc_ok (i := .aload_n 2) (L := LL x o5 o6) (L' := LL x o5 o6) (S := [.int (fChs (fBuild hp))]) (S' := [.ref 25, .int (fChs (fBuild hp))]) hx hb hl rfl dL_641 rfl (fun ls hl => ?_)
  refine rM_chains hE p e s m #[Value.ref b] below meth c code 7 A hin.1 hin.2.1 642 ls [.ref 25] [.int (fChs (fBuild hp))] (hBuild hp) H locs _ _ Q dL_642 hl.1 (by show 1 ≤ 4; omega) hw (by show c0 + 0 + 0 ≤ _; omega) (by show s0 + 0 * 6 + 0 * 6 ≤ _; omega) rfl ⟨rfl, R1.pMd⟩ (fun _ H locs hw => ?_) (fun _ h => no0 h)
  refine mm_icmp_ok (tgt := 1301) (x := fChs (fBuild hp)) (y := rCsM (hBuild hp)) (r := []) (PA := True) (PB := False) (cd := .eq) hx hb ⟨fun _ => trivial, fun h => h t1.symm⟩ dL_645 (by decide +kernel) (fun _ => ?_) (fun h => h.elim)
  exact W.widen (k := c0 + 1) (n := s0 + 6) (by show c0 + 0 + 0 ≤ _; omega) (by show s0 + 0 * 6 + 0 * 6 ≤ _; omega) (hEnd _ H locs ls o5 o6 R2 hw hl)
set_option maxHeartbeats 4000000 in
theorem one_round {j c0 s0 : Nat} (hE : EOk E) (hL : L ≤ 2560) (hin : LwIn E p s m b c (fun q : Nat => s.heap.size ≤ q) L xs) (hEnd : EndW E p e room_1 s m b below meth c (fun q : Nat => s.heap.size ≤ q) (lw_Z below #[Value.ref b] s) (nI (5 * j)) (c0 + 1) (s0 + 6)) (hj : 5 * j + 5 ≤ L) (h1 : c0 = 44 + j) (h2 : s0 = 5715 + 6 * j) (hp : mm_Hp) (H : Heap) (locs : List Loc) (ls : Array Slot) (o5 o6 : Option Value) (R : Rel hp hp) (hw : WdL E s (fun q : Nat => s.heap.size ≤ q) hp H locs) (hl : mm_Ls E.2.2.1 ls (LL (nI (5 * j)) o5 o6)) (w : Int32) :
    W p E.1 e room_1 s m #[Value.ref b] below meth c H locs c0 s0 (lw_Z below #[Value.ref b] s) (F0 m 39 ls [.int w]) := by
  have hx := hin.1.1.1
  have hb := hin.1.1.2.1
  have hRc : c0 + 1 ≤ room_1.cells := by show c0 + 1 ≤ 1085; omega
  have hRs : s0 + 6 ≤ room_1.slots := by show s0 + 6 ≤ 14009; omega
  have g1 : vp_in (nI (5 * j) + 1) L := vpk 1 (by omega) hL
  have g2 : vp_in (nI (5 * j) + 2) L := vpk 2 (by omega) hL
  have g3 : vp_in (nI (5 * j) + 3) L := vpk 3 (by omega) hL
  have g4 : vp_in (nI (5 * j) + 4) L := vpk 4 (by omega) hL
  by_cases ho : w.toInt < 0 ∨ 17 < w.toInt
  · exact lv_tableOut (tgt := 1301) hx hb dL_39 ho (by decide +kernel) (W.widen (k := c0 + 1) (n := s0 + 6) (by omega) (by omega) (hEnd hp H locs ls o5 o6 R hw hl))
  · have n1 : ¬ w.toInt < 0 := fun q => ho (Or.inl q)
    have n2 : ¬ 17 < w.toInt := fun q => ho (Or.inr q)
    obtain ⟨k, hk⟩ : ∃ k, (w.toInt - 0).toNat = k := ⟨_, rfl⟩
    have hk18 : k < 18 := by omega
    match k, hk, hk18 with
    | 0, hk, _ => exact lv_tableIn (tgt := 124) hx hb dL_39 n1 n2 (by rw [hk]; rfl) (by decide +kernel) (caseW (tab := tW_coin) hin qW_coin (rW_coin hE) hRc hRs hEnd (Or.inr ⟨_, dL_201, by decide +kernel⟩) (V_coin g1 g2 g3 R) hw hl)
    | 1, hk, _ => exact lv_tableIn (tgt := 204) hx hb dL_39 n1 n2 (by rw [hk]; rfl) (by decide +kernel) (caseW (tab := tW_doubt) hin qW_doubt (rW_doubt hE) hRc hRs hEnd (Or.inr ⟨_, dL_292, by decide +kernel⟩) (V_doubt (y := if xs (nI (5 * j) + 2).toNatClampNeg = 0 then Int32.ofInt 0 else Int32.ofInt 1) (fun h => if_pos h) (fun h => if_neg h) (by split; exact Or.inl rfl; exact Or.inr rfl) g1 g2 R) hw hl)
    | 2, hk, _ => exact lv_tableIn (tgt := 295) hx hb dL_39 n1 n2 (by rw [hk]; rfl) (by decide +kernel) (caseW (tab := tW_wear) hin qW_wear (rW_wear hE) hRc hRs hEnd (Or.inr ⟨_, dL_379, by decide +kernel⟩) (V_wear g1 g2 g3 R) hw hl)
    | 3, hk, _ => exact lv_tableIn (tgt := 382) hx hb dL_39 n1 n2 (by rw [hk]; rfl) (by decide +kernel) (caseW (tab := tW_row) hin qW_row (rW_row hE) hRc hRs hEnd (Or.inr ⟨_, dL_454, by decide +kernel⟩) (V_row g1 g2 R) hw hl)
    | 4, hk, _ => exact lv_tableIn (tgt := 457) hx hb dL_39 n1 n2 (by rw [hk]; rfl) (by decide +kernel) (caseW (tab := tW_ring) hin qW_ring (rW_ring hE) hRc hRs hEnd (Or.inr ⟨_, dL_510, by decide +kernel⟩) (V_ring g1 R) hw hl)
    | 5, hk, _ => exact lv_tableIn (tgt := 513) hx hb dL_39 n1 n2 (by rw [hk]; rfl) (by decide +kernel) (caseW (tab := tW_order) hin qW_order (rW_order hE) hRc hRs hEnd (Or.inr ⟨_, dL_578, by decide +kernel⟩) (V_order g1 g2 R) hw hl)
    | 6, hk, _ => exact lv_tableIn (tgt := 581) hx hb dL_39 n1 n2 (by rw [hk]; rfl) (by decide +kernel) (caseW (tab := tW_chain) hin qW_chain (rW_chain hE) hRc hRs hEnd (Or.inr ⟨_, dL_634, by decide +kernel⟩) (V_chain g1 R) hw hl)
    | 7, hk, _ => exact lv_tableIn (tgt := 637) hx hb dL_39 n1 n2 (by rw [hk]; rfl) (by decide +kernel) (C_chains hE hin hEnd hRc hRs R hw hl)
    | 8, hk, _ => exact lv_tableIn (tgt := 650) hx hb dL_39 n1 n2 (by rw [hk]; rfl) (by decide +kernel) (caseW (tab := tW_dies) hin qW_dies (rW_dies hE) hRc hRs hEnd (Or.inr ⟨_, dL_715, by decide +kernel⟩) (V_dies g1 g2 R) hw hl)
    | 9, hk, _ => exact lv_tableIn (tgt := 718) hx hb dL_39 n1 n2 (by rw [hk]; rfl) (by decide +kernel) (caseW (tab := tW_mean) hin qW_mean (rW_mean hE) hRc hRs hEnd (Or.inr ⟨_, dL_783, by decide +kernel⟩) (V_mean g1 g2 R) hw hl)
    | 10, hk, _ => exact lv_tableIn (tgt := 786) hx hb dL_39 n1 n2 (by rw [hk]; rfl) (by decide +kernel) (caseW (tab := tW_hoard) hin qW_hoard (rW_hoard hE) hRc hRs hEnd (Or.inr ⟨_, dL_827, by decide +kernel⟩) (V_hoard R) hw hl)
    | 11, hk, _ => exact lv_tableIn (tgt := 830) hx hb dL_39 n1 n2 (by rw [hk]; rfl) (by decide +kernel) (caseW (tab := tW_into) hin qW_into (rW_into hE) hRc hRs hEnd (Or.inr ⟨_, dL_902, by decide +kernel⟩) (V_into g1 g2 R) hw hl)
    | 12, hk, _ => exact lv_tableIn (tgt := 905) hx hb dL_39 n1 n2 (by rw [hk]; rfl) (by decide +kernel) (caseW (tab := tW_overlap) hin qW_overlap (rW_overlap hE) hRc hRs hEnd (Or.inr ⟨_, dL_982, by decide +kernel⟩) (V_overlap g1 g2 g3 R) hw hl)
    | 13, hk, _ => exact lv_tableIn (tgt := 985) hx hb dL_39 n1 n2 (by rw [hk]; rfl) (by decide +kernel) (caseW (tab := tW_linked) hin qW_linked (rW_linked hE) hRc hRs hEnd (Or.inr ⟨_, dL_1050, by decide +kernel⟩) (V_linked g1 g2 R) hw hl)
    | 14, hk, _ => exact lv_tableIn (tgt := 1053) hx hb dL_39 n1 n2 (by rw [hk]; rfl) (by decide +kernel) (caseW (tab := tW_unit) hin qW_unit (rW_unit hE) hRc hRs hEnd (Or.inr ⟨_, dL_1142, by decide +kernel⟩) (V_unit g1 g2 g3 g4 R) hw hl)
    | 15, hk, _ => exact lv_tableIn (tgt := 1145) hx hb dL_39 n1 n2 (by rw [hk]; rfl) (by decide +kernel) (caseW (tab := tW_rule) hin qW_rule (rW_rule hE) hRc hRs hEnd (Or.inr ⟨_, dL_1186, by decide +kernel⟩) (V_rule R) hw hl)
    | 16, hk, _ => exact lv_tableIn (tgt := 1189) hx hb dL_39 n1 n2 (by rw [hk]; rfl) (by decide +kernel) (caseW (tab := tW_type) hin qW_type (rW_type hE) hRc hRs hEnd (Or.inr ⟨_, dL_1242, by decide +kernel⟩) (V_type g1 R) hw hl)
    | 17, hk, _ => exact lv_tableIn (tgt := 1245) hx hb dL_39 n1 n2 (by rw [hk]; rfl) (by decide +kernel) (caseW (tab := tW_count) hin qW_count (rW_count hE) hRc hRs hEnd (Or.inr ⟨_, dL_1298, by decide +kernel⟩) (V_count g1 R) hw hl)
    | k + 18, _, h => omega
set_option maxHeartbeats 4000000 in
theorem law_loop (hE : EOk E) (hL : L ≤ 2560) (hin : LwIn E p s m b c (fun q : Nat => s.heap.size ≤ q) L xs) (hr : meth.sig.returnType = ret) (hlk : meth.locks = false) : ∀ n, HeadW E p e s m b below meth c L n
  | 0 => fun j c0 s0 hn hj => by omega
  | n + 1 => by
    intro j c0 s0 hn hj h1 h2 hp H locs ls o5 o6 R hw hl
    have ih := law_loop hE hL hin hr hlk n
    have hx := hin.1.1.1
    have hb := hin.1.1.2.1
    have hK := hin.1.2.1
    have hsc := hin.2.2
    refine mm_loc_ok (i := .iload 4) (L := LL (nI (5 * j)) o5 o6) (L' := LL (nI (5 * j)) o5 o6) (S := []) (S' := [.int (nI (5 * j))]) hx hb hl rfl dL_23 rfl (fun ls hl => ?_)
    refine mm_loc_ok (i := .aload_n 0) (L := LL (nI (5 * j)) o5 o6) (L' := LL (nI (5 * j)) o5 o6) (S := [.int (nI (5 * j))]) (S' := [.ref 1000, .int (nI (5 * j))]) hx hb hl rfl dL_25 rfl (fun ls hl => ?_)
    refine mm_alen_ok (S := [.ref 1000, .int (nI (5 * j))]) (sc := some (L, xs)) (go := fun S' => S' = [.int (Int32.ofNat L), .int (nI (5 * j))]) hx hb hK hw hsc rfl dL_26 (fun S' hS => ?_)
    subst hS
    refine mm_alu_ok (i := .iconst 5) (S := [.int (Int32.ofNat L), .int (nI (5 * j))]) (S' := [.int (Int32.ofInt 5), .int (Int32.ofNat L), .int (nI (5 * j))]) hx hb rfl dL_27 rfl ?_
    refine mm_alu_ok (i := .isub) (S := [.int (Int32.ofInt 5), .int (Int32.ofNat L), .int (nI (5 * j))]) (S' := [.int (Int32.ofNat L - Int32.ofInt 5), .int (nI (5 * j))]) hx hb rfl dL_28 rfl ?_
    refine mm_icmp_ok (tgt := 1307) (PA := Int32.ofNat L - Int32.ofInt 5 < nI (5 * j)) (PB := ¬ Int32.ofNat L - Int32.ofInt 5 < nI (5 * j)) (cd := .gt) hx hb ⟨id, id⟩ dL_29 (by decide +kernel) (fun _ => ?_) (fun hgt => ?_)
    · refine lv_iconst (v := 1) hx hb dL_1307 (by decide) ?_
      exact W.widen (k := 1085) (n := 14009) (by omega) (by omega) (va_forget (fun q hq => hw.2.2.2.2 q hq) (lw_ret hx hb hr hlk dL_1308))
    · have hle := lst_le hL hj hgt
      refine mm_loc_ok (i := .aload_n 0) (L := LL (nI (5 * j)) o5 o6) (L' := LL (nI (5 * j)) o5 o6) (S := []) (S' := [.ref 1000]) hx hb hl rfl dL_32 rfl (fun ls hl => ?_)
      refine mm_loc_ok (i := .iload 4) (L := LL (nI (5 * j)) o5 o6) (L' := LL (nI (5 * j)) o5 o6) (S := [.ref 1000]) (S' := [.int (nI (5 * j)), .ref 1000]) hx hb hl rfl dL_33 rfl (fun ls hl => ?_)
      refine mm_ald_ok (t := 0) (S := [.int (nI (5 * j)), .ref 1000]) (sc := some (L, xs)) (go := fun S' => S' = [.int (xs (nI (5 * j)).toNatClampNeg)]) hx hb hK hw hsc ⟨nIv (by omega) (by omega), rfl⟩ (Or.inl ⟨rfl, dL_35⟩) (fun S' hS => ?_)
      subst hS
      refine mm_alu_ok (i := .bipush 31) (S := [.int (xs (nI (5 * j)).toNatClampNeg)]) (S' := [.int ((Int8.ofInt 31).toInt32), .int (xs (nI (5 * j)).toNatClampNeg)]) hx hb rfl dL_36 rfl ?_
      refine mm_alu_ok (i := .iand) (S := [.int ((Int8.ofInt 31).toInt32), .int (xs (nI (5 * j)).toNatClampNeg)]) (S' := [.int (xs (nI (5 * j)).toNatClampNeg &&& (Int8.ofInt 31).toInt32)]) hx hb rfl dL_38 rfl ?_
      exact one_round hE hL hin (end_round hin ih (by omega) (by omega) (by omega) (by omega)) hle h1 h2 hp H locs ls o5 o6 R hw hl _
end LOOP
