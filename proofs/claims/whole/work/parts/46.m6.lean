/-! ===== the reference: may ===== -/
theorem M_M_may_g {E : En} (hE : EOk E) (rs : mm_Hp → Int32) (hs : mm_Hp → mm_Hp) (hMS : Mt E yM_settle cM_settle 3 (some .boolean) 3 (ct0 25 1 msOk (fun _ => 0) rs hs)) (ht : mm_Hp → mm_Hp) (hMT : Mt E yM_tellRing cM_tellRing 6 none 3 (ct0 25 0 (fun hp => tellP (hp.1 33)) (fun _ => 0) (fun _ => 0) ht)) (hB : ∀ hp, isB (rs hp)) (sg : mm_Hp → mm_Hp) (h0 : ∀ hp, rs hp = 0 → sg hp = ht (hs hp)) (h1 : ∀ hp, ¬ rs hp = 0 → sg hp = hs hp) :
    Mt E yM_may cM_may 2 (some .boolean) 4 (ct0 25 1 (fun hp => msOk hp ∧ (rs hp = 0 → tellP ((hs hp).1 33))) (fun _ => 0) rs sg) :=
  metS (n := 60) (tab := tM_may) (cals := [(182, ct0 25 1 msOk (fun _ => 0) rs hs), (190, ct0 25 0 (fun hp => tellP (hp.1 33)) (fun _ => 0) (fun _ => 0) ht)]) hE flM_ok pfM_ok csM_ok rfl (by decide) kM_may rfl (cf_v 91 (lM_91 hMS (by decide) ct0_t rfl) (cf_v 95 (lM_95 hMT (by decide) ct0_t rfl) cf_nil)) (rt_z0 (fun hp _ => hB hp)) ct0_c (Nat.le_of_ble_eq_true rfl) rfl (fun as hp hl h => by
    obtain ⟨rfl, hP, hT⟩ := ct0_s h
    exact ⟨⟨rfl, hP⟩, fun r1 => ⟨fun c6 => ⟨rfl, rfl, (h1 hp c6).symm⟩, fun c6 => ⟨⟨rfl, hT c6⟩, fun r10 => ⟨rfl, rfl, (h0 hp c6).symm⟩, fun e10 x10 => no0 x10⟩⟩, fun e1 x1 => no0 x1⟩)
def sM_may : mm_Ct := ct0 25 1 myOk (fun _ => 0) rSe hMay
theorem M_M_may {E : En} (hE : EOk E) : Mt E yM_may cM_may 2 (some .boolean) 4 sM_may :=
  M_M_may_g hE rSe hSe (M_M_settle hE) hTl (M_M_tellRing hE) (fun hp => fGood_B _) hMay (fun hp h => if_pos h) (fun hp h => if_neg h)
