/-! ===== DieGraphs$Coins ===== -/
def sC_size : mm_Ct := ct0 1 1 (fun _ => True) (fun _ => 0) (fun hp => hp.1 1 7) (fun hp => hp)
theorem M_C_size {E : En} (hE : EOk E) : Mt E yC_size cC_size 1 (some .int) 1 sC_size :=
  metS (n := 10) (tab := tC_size) (cals := []) hE flC_ok pfC_ok csC_ok rfl (by decide) kC_size rfl cf_nil (rt_i rfl) ct0_c (by decide) rfl (fun as hp hl h => by
    obtain ⟨rfl, h⟩ := ct0_s h
    exact ⟨rfl, rfl, rfl⟩)
def sC_dieOf : mm_Ct := ct2 1 1 (fun c _ _ => vp_in c 80) (fun _ _ _ => 0) (fun c s hp => if s = 0 then hp.1 5 c.toNatClampNeg else hp.1 6 c.toNatClampNeg) (fun _ _ hp => hp)
theorem M_C_dieOf {E : En} (hE : EOk E) : Mt E yC_dieOf cC_dieOf 3 (some .int) 1 sC_dieOf :=
  metS (n := 20) (tab := tC_dieOf) (cals := []) hE flC_ok pfC_ok csC_ok rfl (by decide) kC_dieOf rfl cf_nil (rt_i rfl) ct2_c (by decide) rfl (fun as hp hl h => by
    obtain ⟨c, s, rfl, h⟩ := ct2_s h
    refine ⟨fun hs => ⟨h, rfl, ?_, rfl⟩, fun hs => ⟨h, rfl, ?_, rfl⟩⟩
    · exact congrArg some (if_neg hs).symm
    · exact congrArg some (if_pos hs).symm)
