/-! the contracts that are proved by hand (by program) -/
theorem o_725 : okK 200 K_725 := ⟨by decide, fun d hd _ => cOK_fc1 hd⟩
theorem o_914 : okK 210 K_914 := ⟨by decide, fun d hd _ => cOK_pd (o := 66) rfl (fun M S T sv h => m_parted_66 hd h)⟩
theorem o_962 : okK 200 K_962 := ⟨by decide, fun d hd _ => cOK_fc0 hd⟩
theorem o_992 : okK 210 K_992 := ⟨by decide, fun d hd _ => cOK_pd (o := 78) rfl (fun M S T sv h => m_parted_78 hd h)⟩
theorem o_1014 : okK 210 K_1014 := ⟨by decide, fun d hd _ => cOK_pd (o := 81) rfl (fun M S T sv h => m_parted_81 hd h)⟩
