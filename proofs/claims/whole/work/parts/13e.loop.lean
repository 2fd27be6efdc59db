/-! the law's loop -/
def spAll (I : List KY → VS → Prop) (ks : List KY) (V : VS) (op a1 a2 a3 a4 : Int32) : Prop := (op = 0 → sp_addHalt I ks V) ∧ (op = 1 → sp_addLane I ks a1 a2 a3 a4 V) ∧ (op = 2 → sp_setRain I ks a1 a2 V) ∧ (op = 3 → sp_setRound I ks a1 a2 V) ∧ (op = 4 → sp_halt I ks a1 a2 V) ∧ (op = 5 → sp_lane I ks a1 a2 V) ∧ (op = 6 → sp_way I ks a1 a2 V) ∧ (op = 7 → sp_addBook I ks a1 V) ∧ (op = 8 → sp_addReader I ks a1 a2 a3 V) ∧ (op = 9 → sp_reserve I ks a1 a2 V) ∧ (op = 10 → sp_cancel I ks a1 a2 V) ∧ (op = 11 → sp_book I ks a1 a2 V) ∧ (op = 12 → sp_reader I ks a1 a2 V) ∧ (op = 13 → sp_pay I ks a1 a2 V) ∧ (op = 14 → sp_pass I ks a1 V) ∧ (op = 15 → sp_count I ks a1 V) ∧ (op = 16 → sp_foresee I ks a1 a2 V) ∧ (op = 17 → sp_gets I ks a1 a2 V) ∧ (op = 18 → sp_advise I ks a1 V) ∧ (op = 19 → sp_daily I ks V) ∧ (op = 20 → sp_digest I ks V) ∧ I ks V
theorem op_in {x : Int32} (h : ¬ (x.toInt < 0 ∨ 20 < x.toInt)) : x = 0 ∨ x = 1 ∨ x = 2 ∨ x = 3 ∨ x = 4 ∨ x = 5 ∨ x = 6 ∨ x = 7 ∨ x = 8 ∨ x = 9 ∨ x = 10 ∨ x = 11 ∨ x = 12 ∨ x = 13 ∨ x = 14 ∨ x = 15 ∨ x = 16 ∨ x = 17 ∨ x = 18 ∨ x = 19 ∨ x = 20 := by
  have e : ∀ (n : Int32), x.toInt = n.toInt → x = n := fun n h => Int32.toInt_inj.mp h
  have h2 : x.toInt = 0 ∨ x.toInt = 1 ∨ x.toInt = 2 ∨ x.toInt = 3 ∨ x.toInt = 4 ∨ x.toInt = 5 ∨ x.toInt = 6 ∨ x.toInt = 7 ∨ x.toInt = 8 ∨ x.toInt = 9 ∨ x.toInt = 10 ∨ x.toInt = 11 ∨ x.toInt = 12 ∨ x.toInt = 13 ∨ x.toInt = 14 ∨ x.toInt = 15 ∨ x.toInt = 16 ∨ x.toInt = 17 ∨ x.toInt = 18 ∨ x.toInt = 19 ∨ x.toInt = 20 := by omega
  rcases h2 with h | h | h | h | h | h | h | h | h | h | h | h | h | h | h | h | h | h | h | h | h
  · exact Or.inl (e 0 (h.trans (by decide)))
  · exact Or.inr (Or.inl (e 1 (h.trans (by decide))))
  · exact Or.inr (Or.inr (Or.inl (e 2 (h.trans (by decide)))))
  · exact Or.inr (Or.inr (Or.inr (Or.inl (e 3 (h.trans (by decide))))))
  · exact Or.inr (Or.inr (Or.inr (Or.inr (Or.inl (e 4 (h.trans (by decide)))))))
  · exact Or.inr (Or.inr (Or.inr (Or.inr (Or.inr (Or.inl (e 5 (h.trans (by decide))))))))
  · exact Or.inr (Or.inr (Or.inr (Or.inr (Or.inr (Or.inr (Or.inl (e 6 (h.trans (by decide)))))))))
  · exact Or.inr (Or.inr (Or.inr (Or.inr (Or.inr (Or.inr (Or.inr (Or.inl (e 7 (h.trans (by decide))))))))))
  · exact Or.inr (Or.inr (Or.inr (Or.inr (Or.inr (Or.inr (Or.inr (Or.inr (Or.inl (e 8 (h.trans (by decide)))))))))))
  · exact Or.inr (Or.inr (Or.inr (Or.inr (Or.inr (Or.inr (Or.inr (Or.inr (Or.inr (Or.inl (e 9 (h.trans (by decide))))))))))))
  · exact Or.inr (Or.inr (Or.inr (Or.inr (Or.inr (Or.inr (Or.inr (Or.inr (Or.inr (Or.inr (Or.inl (e 10 (h.trans (by decide)))))))))))))
  · exact Or.inr (Or.inr (Or.inr (Or.inr (Or.inr (Or.inr (Or.inr (Or.inr (Or.inr (Or.inr (Or.inr (Or.inl (e 11 (h.trans (by decide))))))))))))))
  · exact Or.inr (Or.inr (Or.inr (Or.inr (Or.inr (Or.inr (Or.inr (Or.inr (Or.inr (Or.inr (Or.inr (Or.inr (Or.inl (e 12 (h.trans (by decide)))))))))))))))
  · exact Or.inr (Or.inr (Or.inr (Or.inr (Or.inr (Or.inr (Or.inr (Or.inr (Or.inr (Or.inr (Or.inr (Or.inr (Or.inr (Or.inl (e 13 (h.trans (by decide))))))))))))))))
  · exact Or.inr (Or.inr (Or.inr (Or.inr (Or.inr (Or.inr (Or.inr (Or.inr (Or.inr (Or.inr (Or.inr (Or.inr (Or.inr (Or.inr (Or.inl (e 14 (h.trans (by decide)))))))))))))))))
  · exact Or.inr (Or.inr (Or.inr (Or.inr (Or.inr (Or.inr (Or.inr (Or.inr (Or.inr (Or.inr (Or.inr (Or.inr (Or.inr (Or.inr (Or.inr (Or.inl (e 15 (h.trans (by decide))))))))))))))))))
  · exact Or.inr (Or.inr (Or.inr (Or.inr (Or.inr (Or.inr (Or.inr (Or.inr (Or.inr (Or.inr (Or.inr (Or.inr (Or.inr (Or.inr (Or.inr (Or.inr (Or.inl (e 16 (h.trans (by decide)))))))))))))))))))
  · exact Or.inr (Or.inr (Or.inr (Or.inr (Or.inr (Or.inr (Or.inr (Or.inr (Or.inr (Or.inr (Or.inr (Or.inr (Or.inr (Or.inr (Or.inr (Or.inr (Or.inr (Or.inl (e 17 (h.trans (by decide))))))))))))))))))))
  · exact Or.inr (Or.inr (Or.inr (Or.inr (Or.inr (Or.inr (Or.inr (Or.inr (Or.inr (Or.inr (Or.inr (Or.inr (Or.inr (Or.inr (Or.inr (Or.inr (Or.inr (Or.inr (Or.inl (e 18 (h.trans (by decide)))))))))))))))))))))
  · exact Or.inr (Or.inr (Or.inr (Or.inr (Or.inr (Or.inr (Or.inr (Or.inr (Or.inr (Or.inr (Or.inr (Or.inr (Or.inr (Or.inr (Or.inr (Or.inr (Or.inr (Or.inr (Or.inr (Or.inl (e 19 (h.trans (by decide))))))))))))))))))))))
  · exact Or.inr (Or.inr (Or.inr (Or.inr (Or.inr (Or.inr (Or.inr (Or.inr (Or.inr (Or.inr (Or.inr (Or.inr (Or.inr (Or.inr (Or.inr (Or.inr (Or.inr (Or.inr (Or.inr (Or.inr ((e 20 (h.trans (by decide)))))))))))))))))))))))
theorem in_loop {L k : Nat} (hL : L ≤ 2560) (h : ¬ nI L - 5 < nI (5 * k)) (hk : k ≤ 512) : 5 * k + 5 ≤ L := by
  refine Classical.byContradiction fun hn => h ?_
  by_cases h5 : 5 ≤ L
  · have e : nI L - 5 = nI (L - 5) := pk_sub (a := L) (b := 5) h5
    rw [e]
    exact (nI_ltI (by omega) (by omega)).mpr (by omega)
  · have hp : (0 : Int32) ≤ nI (5 * k) := Int32.not_lt.mp (nI_nneg (by omega))
    have hneg : nI L - 5 < 0 := by
      have : L = 0 ∨ L = 1 ∨ L = 2 ∨ L = 3 ∨ L = 4 := by omega
      rcases this with rfl | rfl | rfl | rfl | rfl <;> decide
    have h1 := Int32.lt_iff_toInt_lt.mp hneg
    have h2 := Int32.le_iff_toInt_le.mp hp
    exact Int32.lt_iff_toInt_lt.mpr (by omega)
set_option maxHeartbeats 4000000 in
set_option maxRecDepth 100000 in
theorem law_loop {p : Program} {l : Launch} {e : Env} {s : State} {m : MethodId} {below : List Frame} {meth : Method} {c : Code} {G : GG} {b L : Nat} {xs : Nat → Int32} (hlf : l.stackTraces = false) (hL : L ≤ 2560) (hr : meth.sig.returnType = ret) (hlocks : meth.locks = false) (hC : CX p s m #[.ref b] c cL_law 9 RL G (fun q : Nat => s.heap.size ≤ q)) (hX : va_X b L xs s s.heap) (hbl : b < s.heap.size)
    (Inv : Nat → List KY → VS → Prop) (hstep : ∀ (k : Nat) (ks : List KY) (V : VS), k < 512 → Inv k ks V → ∀ op a1 a2 a3 a4 : Int32, spAll (Inv (k + 1)) ks V op a1 a2 a3 a4) :
    ∀ (r k : Nat) (d0 : Drawn) (ks : List KY) (ad : AD) (V : VS) (H : Heap) (locs : List Loc) (ls : Array Slot) (cells slots : Nat), s.drawn.sameBut d0 lw_cs → k + r = 512 → Inv k ks V → ST G ks ad V (fun q : Nat => s.heap.size ≤ q) s.heap H locs → lv_has ls 9 (LV ad (nI (5 * k)) b) → cells + 300 * r ≤ 601024 → slots + 2000 * r ≤ 7293034 →
      W p l e room_1 (s.setDrawn d0) m #[.ref b] below meth c H locs cells slots (lw_Z below #[.ref b] s) (F0 m 23 ls []) := by
  have hbA : ¬ (fun q : Nat => s.heap.size ≤ q) b := Nat.not_le.mpr hbl
  intro r
  induction r with
  | zero =>
    intro k d0 ks ad V H locs ls cells slots hd0 hk hI hS hl hc hs
    refine lv_iload hC.1 hC.2.1 dL_law_23 (lv_at hl 0 rfl) ?_
    refine lv_aload_n hC.1 hC.2.1 dL_law_25 rfl (lv_at hl 4 rfl) ?_
    refine va_slen hC.1 hC.2.1 (s := s.setDrawn d0) hX hbl hbA hS.2.1 dL_law_26 ?_
    refine lv_iconst (v := 5) hC.1 hC.2.1 dL_law_27 (by decide) ?_
    refine lv_isub hC.1 hC.2.1 dL_law_28 ?_
    refine lv_icmp_gt (tgt := 1453) hC.1 hC.2.1 dL_law_29 (by decide) (fun _ => ?_) (fun z => absurd (in_loop hL z (by omega)) (by omega))
    refine lv_iconst (v := 1) hC.1 hC.2.1 dL_law_1453 (by decide) ?_
    refine va_forget (fun q hq => hS.2.1.2.2 q hq) ?_
    refine W.widen (k := 601024) (n := 7293034) (by omega) (by omega) ?_
    exact lw_ret hd0 hC.1 hC.2.1 hr hlocks dL_law_1454
  | succ r ih =>
    intro k d0 ks ad V H locs ls cells slots hd0 hk hI hS hl hc hs
    refine lv_iload hC.1 hC.2.1 dL_law_23 (lv_at hl 0 rfl) ?_
    refine lv_aload_n hC.1 hC.2.1 dL_law_25 rfl (lv_at hl 4 rfl) ?_
    refine va_slen hC.1 hC.2.1 (s := s.setDrawn d0) hX hbl hbA hS.2.1 dL_law_26 ?_
    refine lv_iconst (v := 5) hC.1 hC.2.1 dL_law_27 (by decide) ?_
    refine lv_isub hC.1 hC.2.1 dL_law_28 ?_
    refine lv_icmp_gt (tgt := 1453) hC.1 hC.2.1 dL_law_29 (by decide) (fun _ => ?_) (fun z => ?_)
    · refine lv_iconst (v := 1) hC.1 hC.2.1 dL_law_1453 (by decide) ?_
      refine va_forget (fun q hq => hS.2.1.2.2 q hq) ?_
      refine W.widen (k := 601024) (n := 7293034) (by omega) (by omega) ?_
      exact lw_ret hd0 hC.1 hC.2.1 hr hlocks dL_law_1454
    · have hin5 := in_loop hL z (by omega)
      have hin : ∀ j : Int32, j = 1 ∨ j = 2 ∨ j = 3 ∨ j = 4 → vp_in (nI (5 * k) + j) L := by
        intro j hj
        rcases hj with rfl | rfl | rfl | rfl
        · exact (show nI (5 * k) + nI 1 = nI (5 * k + 1) from nI_add _ _) ▸ vp_in_nI (by omega) (by omega)
        · exact (show nI (5 * k) + nI 2 = nI (5 * k + 2) from nI_add _ _) ▸ vp_in_nI (by omega) (by omega)
        · exact (show nI (5 * k) + nI 3 = nI (5 * k + 3) from nI_add _ _) ▸ vp_in_nI (by omega) (by omega)
        · exact (show nI (5 * k) + nI 4 = nI (5 * k + 4) from nI_add _ _) ▸ vp_in_nI (by omega) (by omega)
      refine lv_aload_n hC.1 hC.2.1 dL_law_32 rfl (lv_at hl 4 rfl) ?_
      refine lv_iload hC.1 hC.2.1 dL_law_33 (lv_at hl 0 rfl) ?_
      refine va_sld hC.1 hC.2.1 (s := s.setDrawn d0) hX hbl hbA hS.2.1 (vp_in_nI (by omega) (by omega)) dL_law_35 ?_
      refine lv_bipush (v := 31) hC.1 hC.2.1 dL_law_36 (by decide) ?_
      refine lv_iand hC.1 hC.2.1 dL_law_38 ?_
      obtain ⟨op, eop⟩ : ∃ z : Int32, z = xs (nI (5 * k)).toNatClampNeg &&& 31 := ⟨_, rfl⟩
      rw [← eop]
      have hsp := hstep k ks V (by omega) hI op (xs (nI (5 * k) + 1).toNatClampNeg) (xs (nI (5 * k) + 2).toNatClampNeg) (xs (nI (5 * k) + 3).toNatClampNeg) (xs (nI (5 * k) + 4).toNatClampNeg)
      have kend : ∀ (ks2 : List KY) (ad2 : AD) (V2 : VS) (H1 : Heap) (locs1 : List Loc) (ls1 : Array Slot) (d1 : Drawn), s.drawn.sameBut d1 lw_cs → Inv (k + 1) ks2 V2 → ST G ks2 ad2 V2 (fun q : Nat => s.heap.size ≤ q) s.heap H1 locs1 → lv_has ls1 9 (LV ad2 (nI (5 * k)) b) → W p l e room_1 (s.setDrawn d1) m #[.ref b] below meth c H1 locs1 (cells + 300) (slots + 2000) (lw_Z below #[.ref b] s) (F0 m 1447 ls1 []) := by
        intro ks2 ad2 V2 H1 locs1 ls1 d1 hd1 hI2 hS2 hl2
        refine lv_iinc (v := nI (5 * (k + 1))) (lv' := LV ad2 (nI (5 * (k + 1))) b) hC.1 hC.2.1 dL_law_1447 hl2 (k := 0) rfl (by rw [show Int32.ofInt 5 = nI 5 from by decide, nI_add]; rfl) (by decide) rfl (fun ls hl => ?_)
        refine lv_goto (tgt := 23) hC.1 hC.2.1 dL_law_1450 (by decide) ?_
        exact ih (k + 1) d1 ks2 ad2 V2 H1 locs1 ls (cells + 300) (slots + 2000) hd1 (by omega) hI2 hS2 hl (by omega) (by omega)
      have hcs : cells + 300 ≤ 601024 ∧ slots + 2000 ≤ 7293034 := ⟨by omega, by omega⟩
      unfold spAll at hsp
      by_cases c0 : op = 0
      · refine lv_tableIn (off := 97) (tgt := 136) hC.1 hC.2.1 dL_law_39 (by rw [c0]; decide) (by rw [c0]; decide) (by rw [c0]; decide) (by decide) ?_
        exact k_addHalt (s := s.setDrawn d0) hlf rfl (hC.drawn d0) hS hX hbl hbA hin hl hcs (hsp.1 c0) (fun ks2 ad2 V2 H1 locs1 ls1 hI2 hS2 hl2 => kend ks2 ad2 V2 H1 locs1 ls1 d0 hd0 hI2 hS2 hl2)
      have hsp := hsp.2
      by_cases c1 : op = 1
      · refine lv_tableIn (off := 141) (tgt := 180) hC.1 hC.2.1 dL_law_39 (by rw [c1]; decide) (by rw [c1]; decide) (by rw [c1]; decide) (by decide) ?_
        exact k_addLane (s := s.setDrawn d0) hlf rfl (hC.drawn d0) hS hX hbl hbA hin hl hcs (hsp.1 c1) (fun ks2 ad2 V2 H1 locs1 ls1 hI2 hS2 hl2 => kend ks2 ad2 V2 H1 locs1 ls1 d0 hd0 hI2 hS2 hl2)
      have hsp := hsp.2
      by_cases c2 : op = 2
      · refine lv_tableIn (off := 233) (tgt := 272) hC.1 hC.2.1 dL_law_39 (by rw [c2]; decide) (by rw [c2]; decide) (by rw [c2]; decide) (by decide) ?_
        exact k_setRain (s := s.setDrawn d0) hlf rfl (hC.drawn d0) hS hX hbl hbA hin hl hcs (hsp.1 c2) (fun ks2 ad2 V2 H1 locs1 ls1 hI2 hS2 hl2 => kend ks2 ad2 V2 H1 locs1 ls1 d0 hd0 hI2 hS2 hl2)
      have hsp := hsp.2
      by_cases c3 : op = 3
      · refine lv_tableIn (off := 301) (tgt := 340) hC.1 hC.2.1 dL_law_39 (by rw [c3]; decide) (by rw [c3]; decide) (by rw [c3]; decide) (by decide) ?_
        exact k_setRound (s := s.setDrawn d0) hlf rfl (hC.drawn d0) hS hX hbl hbA hin hl hcs (hsp.1 c3) (fun ks2 ad2 V2 H1 locs1 ls1 hI2 hS2 hl2 => kend ks2 ad2 V2 H1 locs1 ls1 d0 hd0 hI2 hS2 hl2)
      have hsp := hsp.2
      by_cases c4 : op = 4
      · refine lv_tableIn (off := 369) (tgt := 408) hC.1 hC.2.1 dL_law_39 (by rw [c4]; decide) (by rw [c4]; decide) (by rw [c4]; decide) (by decide) ?_
        exact k_halt (s := s.setDrawn d0) hlf rfl (hC.drawn d0) hS hX hbl hbA hin hl hcs (hsp.1 c4) (fun ks2 ad2 V2 H1 locs1 ls1 hI2 hS2 hl2 => kend ks2 ad2 V2 H1 locs1 ls1 d0 hd0 hI2 hS2 hl2)
      have hsp := hsp.2
      by_cases c5 : op = 5
      · refine lv_tableIn (off := 437) (tgt := 476) hC.1 hC.2.1 dL_law_39 (by rw [c5]; decide) (by rw [c5]; decide) (by rw [c5]; decide) (by decide) ?_
        exact k_lane (s := s.setDrawn d0) hlf rfl (hC.drawn d0) hS hX hbl hbA hin hl hcs (hsp.1 c5) (fun ks2 ad2 V2 H1 locs1 ls1 hI2 hS2 hl2 => kend ks2 ad2 V2 H1 locs1 ls1 d0 hd0 hI2 hS2 hl2)
      have hsp := hsp.2
      by_cases c6 : op = 6
      · refine lv_tableIn (off := 505) (tgt := 544) hC.1 hC.2.1 dL_law_39 (by rw [c6]; decide) (by rw [c6]; decide) (by rw [c6]; decide) (by decide) ?_
        exact k_way (s := s.setDrawn d0) hlf rfl (hC.drawn d0) hS hX hbl hbA hin hl hcs (hsp.1 c6) (fun ks2 ad2 V2 H1 locs1 ls1 hI2 hS2 hl2 => kend ks2 ad2 V2 H1 locs1 ls1 d0 hd0 hI2 hS2 hl2)
      have hsp := hsp.2
      by_cases c7 : op = 7
      · refine lv_tableIn (off := 573) (tgt := 612) hC.1 hC.2.1 dL_law_39 (by rw [c7]; decide) (by rw [c7]; decide) (by rw [c7]; decide) (by decide) ?_
        exact k_addBook (s := s.setDrawn d0) hlf rfl (hC.drawn d0) hS hX hbl hbA hin hl hcs (hsp.1 c7) (fun ks2 ad2 V2 H1 locs1 ls1 hI2 hS2 hl2 => kend ks2 ad2 V2 H1 locs1 ls1 d0 hd0 hI2 hS2 hl2)
      have hsp := hsp.2
      by_cases c8 : op = 8
      · refine lv_tableIn (off := 629) (tgt := 668) hC.1 hC.2.1 dL_law_39 (by rw [c8]; decide) (by rw [c8]; decide) (by rw [c8]; decide) (by decide) ?_
        exact k_addReader (s := s.setDrawn d0) hlf rfl (hC.drawn d0) hS hX hbl hbA hin hl hcs (hsp.1 c8) (fun ks2 ad2 V2 H1 locs1 ls1 hI2 hS2 hl2 => kend ks2 ad2 V2 H1 locs1 ls1 d0 hd0 hI2 hS2 hl2)
      have hsp := hsp.2
      by_cases c9 : op = 9
      · refine lv_tableIn (off := 709) (tgt := 748) hC.1 hC.2.1 dL_law_39 (by rw [c9]; decide) (by rw [c9]; decide) (by rw [c9]; decide) (by decide) ?_
        exact k_reserve (s := s.setDrawn d0) hlf rfl (hC.drawn d0) hS hX hbl hbA hin hl hcs (hsp.1 c9) (fun ks2 ad2 V2 H1 locs1 ls1 hI2 hS2 hl2 => kend ks2 ad2 V2 H1 locs1 ls1 d0 hd0 hI2 hS2 hl2)
      have hsp := hsp.2
      by_cases c10 : op = 10
      · refine lv_tableIn (off := 777) (tgt := 816) hC.1 hC.2.1 dL_law_39 (by rw [c10]; decide) (by rw [c10]; decide) (by rw [c10]; decide) (by decide) ?_
        exact k_cancel (s := s.setDrawn d0) hlf rfl (hC.drawn d0) hS hX hbl hbA hin hl hcs (hsp.1 c10) (fun ks2 ad2 V2 H1 locs1 ls1 hI2 hS2 hl2 => kend ks2 ad2 V2 H1 locs1 ls1 d0 hd0 hI2 hS2 hl2)
      have hsp := hsp.2
      by_cases c11 : op = 11
      · refine lv_tableIn (off := 845) (tgt := 884) hC.1 hC.2.1 dL_law_39 (by rw [c11]; decide) (by rw [c11]; decide) (by rw [c11]; decide) (by decide) ?_
        exact k_book (s := s.setDrawn d0) hlf rfl (hC.drawn d0) hS hX hbl hbA hin hl hcs (hsp.1 c11) (fun ks2 ad2 V2 H1 locs1 ls1 hI2 hS2 hl2 => kend ks2 ad2 V2 H1 locs1 ls1 d0 hd0 hI2 hS2 hl2)
      have hsp := hsp.2
      by_cases c12 : op = 12
      · refine lv_tableIn (off := 913) (tgt := 952) hC.1 hC.2.1 dL_law_39 (by rw [c12]; decide) (by rw [c12]; decide) (by rw [c12]; decide) (by decide) ?_
        exact k_reader (s := s.setDrawn d0) hlf rfl (hC.drawn d0) hS hX hbl hbA hin hl hcs (hsp.1 c12) (fun ks2 ad2 V2 H1 locs1 ls1 hI2 hS2 hl2 => kend ks2 ad2 V2 H1 locs1 ls1 d0 hd0 hI2 hS2 hl2)
      have hsp := hsp.2
      by_cases c13 : op = 13
      · refine lv_tableIn (off := 981) (tgt := 1020) hC.1 hC.2.1 dL_law_39 (by rw [c13]; decide) (by rw [c13]; decide) (by rw [c13]; decide) (by decide) ?_
        exact k_pay (s := s.setDrawn d0) hlf rfl (hC.drawn d0) hS hX hbl hbA hin hl hcs (hsp.1 c13) (fun ks2 ad2 V2 H1 locs1 ls1 hI2 hS2 hl2 => kend ks2 ad2 V2 H1 locs1 ls1 d0 hd0 hI2 hS2 hl2)
      have hsp := hsp.2
      by_cases c14 : op = 14
      · refine lv_tableIn (off := 1049) (tgt := 1088) hC.1 hC.2.1 dL_law_39 (by rw [c14]; decide) (by rw [c14]; decide) (by rw [c14]; decide) (by decide) ?_
        exact k_pass (s := s.setDrawn d0) hlf rfl (hC.drawn d0) hS hX hbl hbA hin hl hcs (hsp.1 c14) (fun ks2 ad2 V2 H1 locs1 ls1 hI2 hS2 hl2 => kend ks2 ad2 V2 H1 locs1 ls1 d0 hd0 hI2 hS2 hl2)
      have hsp := hsp.2
      by_cases c15 : op = 15
      · refine lv_tableIn (off := 1105) (tgt := 1144) hC.1 hC.2.1 dL_law_39 (by rw [c15]; decide) (by rw [c15]; decide) (by rw [c15]; decide) (by decide) ?_
        exact k_count (s := s.setDrawn d0) hlf rfl (hC.drawn d0) hS hX hbl hbA hin hl hcs (hsp.1 c15) (fun ks2 ad2 V2 H1 locs1 ls1 hI2 hS2 hl2 => kend ks2 ad2 V2 H1 locs1 ls1 d0 hd0 hI2 hS2 hl2)
      have hsp := hsp.2
      by_cases c16 : op = 16
      · refine lv_tableIn (off := 1161) (tgt := 1200) hC.1 hC.2.1 dL_law_39 (by rw [c16]; decide) (by rw [c16]; decide) (by rw [c16]; decide) (by decide) ?_
        exact k_foresee (s := s.setDrawn d0) hlf rfl (hC.drawn d0) hS hX hbl hbA hin hl hcs (hsp.1 c16) (fun ks2 ad2 V2 H1 locs1 ls1 hI2 hS2 hl2 => kend ks2 ad2 V2 H1 locs1 ls1 d0 hd0 hI2 hS2 hl2)
      have hsp := hsp.2
      by_cases c17 : op = 17
      · refine lv_tableIn (off := 1229) (tgt := 1268) hC.1 hC.2.1 dL_law_39 (by rw [c17]; decide) (by rw [c17]; decide) (by rw [c17]; decide) (by decide) ?_
        exact k_gets (s := s.setDrawn d0) hlf rfl (hC.drawn d0) hS hX hbl hbA hin hl hcs (hsp.1 c17) (fun ks2 ad2 V2 H1 locs1 ls1 hI2 hS2 hl2 => kend ks2 ad2 V2 H1 locs1 ls1 d0 hd0 hI2 hS2 hl2)
      have hsp := hsp.2
      by_cases c18 : op = 18
      · refine lv_tableIn (off := 1297) (tgt := 1336) hC.1 hC.2.1 dL_law_39 (by rw [c18]; decide) (by rw [c18]; decide) (by rw [c18]; decide) (by decide) ?_
        exact k_advise (s := s.setDrawn d0) hlf rfl (hC.drawn d0) hS hX hbl hbA hin hl hcs (hsp.1 c18) (fun ks2 ad2 V2 H1 locs1 ls1 hI2 hS2 hl2 => kend ks2 ad2 V2 H1 locs1 ls1 d0 hd0 hI2 hS2 hl2)
      have hsp := hsp.2
      by_cases c19 : op = 19
      · refine lv_tableIn (off := 1353) (tgt := 1392) hC.1 hC.2.1 dL_law_39 (by rw [c19]; decide) (by rw [c19]; decide) (by rw [c19]; decide) (by decide) ?_
        exact k_daily hd0 hlf rfl hC hS hX hbl hbA hin hl hcs (hsp.1 c19) (fun ks2 ad2 V2 H1 locs1 ls1 d1 hd1 hI2 hS2 hl2 => kend ks2 ad2 V2 H1 locs1 ls1 d1 hd1 hI2 hS2 hl2)
      have hsp := hsp.2
      by_cases c20 : op = 20
      · refine lv_tableIn (off := 1394) (tgt := 1433) hC.1 hC.2.1 dL_law_39 (by rw [c20]; decide) (by rw [c20]; decide) (by rw [c20]; decide) (by decide) ?_
        exact k_digest (s := s.setDrawn d0) hlf rfl (hC.drawn d0) hS hX hbl hbA hin hl hcs (hsp.1 c20) (fun ks2 ad2 V2 H1 locs1 ls1 hI2 hS2 hl2 => kend ks2 ad2 V2 H1 locs1 ls1 d0 hd0 hI2 hS2 hl2)
      have hsp := hsp.2
      refine lv_tableOut (tgt := 1447) hC.1 hC.2.1 dL_law_39 (Classical.byContradiction fun hn => ?_) (by decide) ?_
      · rcases op_in hn with z0 | z1 | z2 | z3 | z4 | z5 | z6 | z7 | z8 | z9 | z10 | z11 | z12 | z13 | z14 | z15 | z16 | z17 | z18 | z19 | z20
        · exact c0 z0
        · exact c1 z1
        · exact c2 z2
        · exact c3 z3
        · exact c4 z4
        · exact c5 z5
        · exact c6 z6
        · exact c7 z7
        · exact c8 z8
        · exact c9 z9
        · exact c10 z10
        · exact c11 z11
        · exact c12 z12
        · exact c13 z13
        · exact c14 z14
        · exact c15 z15
        · exact c16 z16
        · exact c17 z17
        · exact c18 z18
        · exact c19 z19
        · exact c20 z20
      · refine W.widen (k := cells + 300) (n := slots + 2000) (by omega) (by omega) ?_
        exact kend ks ad V H locs ls d0 hd0 hsp hS hl
