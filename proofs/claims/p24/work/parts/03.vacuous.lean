/-! EVIDENCE THAT THE PRINTED STATEMENT IS EMPTY, no proof of the property: it follows from q24_lists alone (no launch meets the premise); nothing of the class is used, and nothing is said of it. Not handed in. -/
theorem i_vc : Claimed_1_1 ∧ Claimed_1_2 := ⟨fun l _ hL _ => absurd hL (q24_lists l), fun l _ hL _ => absurd hL (q24_lists l)⟩
