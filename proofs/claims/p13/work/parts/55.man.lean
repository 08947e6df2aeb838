/-! the contracts that are proved by hand (by program) -/
theorem o_463 : okK 188 K_463 := ⟨by decide, fun d hd _ => cOK_held (q := 70) (by decide) hd⟩
theorem o_480 : okK 200 K_480 := ⟨by decide, fun d hd _ => cOK_fc1 hd⟩
theorem o_482 : okK 188 K_482 := ⟨by decide, fun d hd _ => cOK_held (q := 73) (by decide) hd⟩
theorem o_515 : okK 200 K_515 := ⟨by decide, fun d hd _ => cOK_fc0 hd⟩
theorem o_545 : okK 210 K_545 := ⟨by decide, fun d hd _ => cOK_pd (o := 78) rfl (fun M S T sv h => m_parted_78 hd h)⟩
theorem o_562 : okK 210 K_562 := ⟨by decide, fun d hd _ => cOK_pd (o := 81) rfl (fun M S T sv h => m_parted_81 hd h)⟩
theorem o_567 : okK 210 K_567 := ⟨by decide, fun d hd _ => cOK_pd (o := 66) rfl (fun M S T sv h => m_parted_66 hd h)⟩
