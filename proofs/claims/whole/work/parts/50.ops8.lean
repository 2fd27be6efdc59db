/-! addReader -/
section
variable {B : Nat} {N : Nat → Nat} {S S' : Nat → Nat → Nat} {ks : List KY} {V V' : VS} {X : Nat → Nat → Nat → Int32} {w t h l b r i p q k n c a m e s K f j : Nat} {A A' : AF} {x y : Int32}
theorem WF_newR (hn : N 3 < 10) (hW : WF B N A) : WF B (nN N 3) (au A 13 (N 3) 0 0) := by
  obtain ⟨h1, h2, h3, h4, h5, h6, h7, h8⟩ := hW
  refine ⟨h1, h2, h3, fun b hb => ?_, fun b hb => ?_, fun r hr => ?_, h7, h8.1, h8.2.1, h8.2.2.1, fun r hr => h8.2.2.2 r ?_⟩
  · obtain ⟨q, hq, e, g1, g2⟩ := h4 b hb
    refine ⟨q, by rw [nN_K]; omega, e, fun k hk => ?_, g2⟩
    obtain ⟨r, hr, e2⟩ := g1 k hk
    exact ⟨r, by rw [nN_K]; omega, e2⟩
  · rcases h5 b hb with z | ⟨⟨r, hr, e⟩, z⟩
    · exact Or.inl z
    · exact Or.inr ⟨⟨r, by rw [nN_K]; omega, e⟩, z⟩
  · rw [nN_K] at hr
    by_cases c : r = N 3
    · subst c
      have e : ct (N 2) (fun b => A 5 b 0 == nI (N 3)) = 0 := ct_zero (fun b hb => by
        rcases h5 b hb with z | ⟨⟨r, hr, e⟩, -⟩
        · rw [z.1]; exact beq_eq_false_iff_ne.mpr (Ne.symm (nI_m1 (by omega)))
        · rw [e]; exact beq_eq_false_iff_ne.mpr (fun z => by have := nI_inj (by omega) (by omega) z; omega))
      show ct (N 2) (fun b => A 5 b 0 == nI (N 3)) ≤ 3 ∧ au A 13 (N 3) 0 0 13 (N 3) 0 = nI (ct (N 2) (fun b => A 5 b 0 == nI (N 3)))
      rw [e, au_at]
      exact ⟨by decide, rfl⟩
    · have := h6 r (by omega)
      show ct (N 2) (fun b => A 5 b 0 == nI r) ≤ 3 ∧ au A 13 (N 3) 0 0 13 r 0 = nI (ct (N 2) (fun b => A 5 b 0 == nI r))
      rw [au_i c]
      exact this
  · rw [nN_K] at hr; omega
theorem up3e {f : Nat → Int32} {y0 y1 y2 : Int32} : ∃ F : Nat → Int32, upd (upd (upd f (0 : Int32).toNatClampNeg y0) (1 : Int32).toNatClampNeg y1) (2 : Int32).toNatClampNeg y2 = F ∧ F 0 = y0 ∧ F 1 = y1 ∧ F 2 = y2 := by
  refine ⟨_, rfl, ?_, ?_, ?_⟩
  · exact congrFun up3 0
  · exact congrFun up3 1
  · exact congrFun up3 2
theorem o_addReader {a1 a2 a3 : Int32} (hI : IV B N S A ks V) (hk : B ≤ 60 * k) : sp_addReader (Inv k) ks a1 a2 a3 V := by
  have hN := hI.1.n
  have h01 : (0 : Nat) ≤ 1 := Nat.zero_le _
  have hB := hI.1
  have h1 := fun {x : Int32} => (hI.th (x := x)).1
  rcases in_kind (y := a1) (N 0) (by omega) with ha1 | ⟨i1, hi1, rfl⟩
  · exact ⟨hB.k0, hB.k34, hB.k0, v_halt0 hB ha1 (Or.inl ⟨rfl, hB.k15, hB.k15, fun _ e => by subst e; exact u_halt0 h1 ha1 ⟨fun _ => u_no hI.th hk rfl (by decide), fun z => absurd rfl z⟩⟩)⟩
  refine ⟨hB.k0, hB.k34, hB.k0, v_halt1 hB hi1 ?_⟩
  by_cases c3 : a2 < 0 ∨ (5 : Int32) < a2
  · exact v_inX c3 ⟨fun _ => Or.inr (Or.inl ⟨rfl, hB.k15, hB.k15, fun _ e => by subst e; exact u_halt1 h1 hi1 ⟨fun z => absurd z (by decide), fun _ => u_inX c3 ⟨fun _ => u_no hI.th hk rfl (by decide), fun z => absurd rfl z⟩⟩⟩), fun z => absurd rfl z⟩
  refine v_inO c3 ⟨fun z => absurd z (by decide), fun _ => ?_⟩
  by_cases c4 : a3 < 1 ∨ (30 : Int32) < a3
  · exact v_inX c4 ⟨fun _ => Or.inr (Or.inl ⟨rfl, hB.k15, hB.k15, fun _ e => by subst e; exact u_halt1 h1 hi1 ⟨fun z => absurd z (by decide), fun _ => u_inO c3 ⟨fun z => absurd z (by decide), fun _ => u_inX c4 ⟨fun _ => u_no hI.th hk rfl (by decide), fun z => absurd rfl z⟩⟩⟩⟩), fun z => absurd rfl z⟩
  refine v_inO c4 ⟨fun z => absurd z (by decide), fun _ => ⟨hB.k1 h01, hB.k2 h01 (by decide), ?_⟩⟩
  rintro _ rfl
  rw [hB.sz h01 (by decide)]
  refine pk_lt (y := 10) (N 3) 10 (fun c5 => ⟨N 3, add_ok1 hB (by decide) (by omega), ?_⟩) (fun c5 => Or.inr (Or.inr ⟨rfl, hB.k15, hB.k15, fun _ e => by
    subst e
    refine u_halt1 h1 hi1 ⟨fun z => absurd z (by decide), fun _ => u_inO c3 ⟨fun z => absurd z (by decide), fun _ => u_inO c4 ⟨fun z => absurd z (by decide), fun _ => ?_⟩⟩⟩
    rw [h1.m8, show N 3 = 10 by omega]
    exact ⟨fun _ => u_no hI.th hk rfl (by decide), fun z => absurd rfl z⟩⟩))
  rintro _ rfl
  refine ⟨add_up hB.k0, add_up (hB.k1 (Nat.le_refl _)), N 3, add_ok2 hB (by decide) (by omega), ?_⟩
  rintro _ rfl
  obtain ⟨l, hl, rfl⟩ := days_of (m0 := 30) (by decide) c4
  have hl1 : 1 ≤ l := Nat.not_lt.mp (fun z => c4 (Or.inl (nI_lt (b := 1) z (by decide))))
  obtain ⟨cl, hcl, rfl⟩ : ∃ a, a ≤ 5 ∧ a2 = nI a := nI_of2 (M := 5) (n := 5) (by decide) (fun z => c3 (Or.inl z)) (Int32.not_lt.mp (fun z => c3 (Or.inr z)))
  have hks := ks2_live hB (K := 3) (by decide)
  have ky : ∀ {x : KY}, x ∈ ks → x ∈ ks2 ks 3 (N 3) := fun hx => add_up (add_up hx)
  refine ⟨ky hB.k34, ky hB.k15, ky hB.k15, ?_⟩
  rintro _ rfl
  show wp_X10_isHalt (ks2 ks 3 (N 3)) (nI i1) (vup (vup (W2 V 3 (N 3) (fldX 7 [nI (N 3), nI i1, nI cl, nI l, 0, 0, 0, 0])) 34 0 0 0 0 (nI (N 3))) 15 0 0 0 0 0) _
  have hV : ∀ k w i f j, k ≠ 34 → ¬ (k = 15 ∧ f = 0) → vup (vup (W2 V 3 (N 3) (fldX 7 [nI (N 3), nI i1, nI cl, nI l, 0, 0, 0, 0])) 34 0 0 0 0 (nI (N 3))) 15 0 0 0 0 0 k w i f j = W2 V 3 (N 3) (fldX 7 [nI (N 3), nI i1, nI cl, nI l, 0, 0, 0, 0]) k w i f j := fun k w i f j h1 h2 => by
    refine (if_neg (fun z => h2 ⟨z.1, z.2.2.2.1⟩)).trans ?_
    rw [vup_ne (fun z => h1 z.1)]
  have e15 : vup (vup (W2 V 3 (N 3) (fldX 7 [nI (N 3), nI i1, nI cl, nI l, 0, 0, 0, 0])) 34 0 0 0 0 (nI (N 3))) 15 0 0 0 0 0 15 0 0 0 0 = 0 := vup_th
  have e34 : vup (vup (W2 V 3 (N 3) (fldX 7 [nI (N 3), nI i1, nI cl, nI l, 0, 0, 0, 0])) 34 0 0 0 0 (nI (N 3))) 15 0 0 0 0 0 34 0 0 0 0 = nI (N 3) := ot34
  generalize vup (vup (W2 V 3 (N 3) (fldX 7 [nI (N 3), nI i1, nI cl, nI l, 0, 0, 0, 0])) 34 0 0 0 0 (nI (N 3))) 15 0 0 0 0 0 = V2 at hV e15 e34
  have hm : ∀ k w i f j, 9 < k → k ≠ 34 → ¬ (k = 15 ∧ f = 0) → V2 k w i f j = V k w i f j := fun k w i f j h1 h2 h3 => (hV k w i f j h2 h3).trans (W2_ne (by decide) (by omega) (by omega))
  have em1 : V2 15 0 0 1 0 = nI (N 0) := (hm 15 0 0 1 0 (by decide) (by decide) (by decide)).trans hB.m1
  have em8 : V2 15 0 0 8 0 = nI (N 3) := (hm 15 0 0 8 0 (by decide) (by decide) (by decide)).trans hB.m8
  refine ⟨ky hB.k15, u_nO (n := N 0) hi1 (by omega) em1 ⟨Or.inr rfl, fun z => absurd z (by decide), fun _ => u_inO c3 ⟨fun z => absurd z (by decide), fun _ => u_inO c4 ⟨fun z => absurd z (by decide), fun _ => ?_⟩⟩⟩⟩
  obtain ⟨F, eF, F0, F1, F2⟩ := up3e (f := fun _ => (0 : Int32)) (y0 := nI i1) (y1 := nI cl) (y2 := nI l)
  rw [em8, ix3, eF]
  refine pk_eq (y := 10) (N 3) 10 (fun z => by omega) (fun _ => ⟨ky hB.k20, ⟨by decide, nI_pos (by omega), by decide, by decide, ?_⟩, ?_⟩)
  · rw [nI_clamp (by omega), cl3]
    show 3 * N 3 + 3 ≤ 30
    omega
  rw [nI_clamp (by omega), cl0, cl3]
  rintro _ rfl
  rw [vrow_ne (by decide), em8, nI_1]
  rintro _ rfl
  rw [show vup (vrow V2 20 0 0 (va_cpy F (V2 20 0 0 0) 0 (3 * N 3) 3)) 15 0 0 8 0 (nI (N 3 + 1)) 15 0 0 8 0 = nI (N 3 + 1) from vup_eq, nI_pred]
  have hU : ∀ k w i f j, ¬ (k = 15 ∧ f = 8) → ¬ (k = 20) → vup (vrow V2 20 0 0 (va_cpy F (V2 20 0 0 0) 0 (3 * N 3) 3)) 15 0 0 8 0 (nI (N 3 + 1)) k w i f j = V2 k w i f j := fun k w i f j h1 h2 => by
    refine (if_neg (fun z => h1 ⟨z.1, z.2.2.2.1⟩)).trans ?_
    rw [vrow_ne (fun z => h2 z.1)]
  have h20 : ∀ p, vup (vrow V2 20 0 0 (va_cpy F (V2 20 0 0 0) 0 (3 * N 3) 3)) 15 0 0 8 0 (nI (N 3 + 1)) 20 0 0 0 p = va_cpy F (V2 20 0 0 0) 0 (3 * N 3) 3 p := fun p => by
    rw [vup_ne (by decide), vrow_eq]
  have f15 := (hU 15 0 0 0 0 (by decide) (by decide)).trans e15
  have f34 := (hU 34 0 0 0 0 (by decide) (by decide)).trans e34
  have e8 : vup (vrow V2 20 0 0 (va_cpy F (V2 20 0 0 0) 0 (3 * N 3) 3)) 15 0 0 8 0 (nI (N 3 + 1)) 15 0 0 8 0 = nI (N 3 + 1) := vup_eq
  generalize vup (vrow V2 20 0 0 (va_cpy F (V2 20 0 0 0) 0 (3 * N 3) 3)) 15 0 0 8 0 (nI (N 3 + 1)) = V5 at hU h20 f15 f34 e8
  have hc : ∀ k w i f j, k < 15 → V5 k w i f j = W2 V 3 (N 3) (fldX 7 [nI (N 3), nI i1, nI cl, nI l, 0, 0, 0, 0]) k w i f j := fun k w i f j h1 => (hU k w i f j (by omega) (by omega)).trans (hV k w i f j (by omega) (by omega))
  have hmm : ∀ k w i f j, 9 < k → k ≠ 34 → k ≠ 20 → ¬ (k = 15 ∧ (f = 0 ∨ f = 8)) → V5 k w i f j = V k w i f j := fun k w i f j h1 h2 h4 h3 => (hU k w i f j (by omega) h4).trans (hm k w i f j h1 h2 (by omega))
  have ho : ∀ k w i f j, k < 15 → k ≠ 2 → ¬ (k = 7 ∧ i = N 3) → V5 k w i f j = V k w i f j := fun k w i f j h1 h2 h3 => (hc k w i f j h1).trans (W2_o (fun z => h2 z.1) (fun z => by omega))
  have o20 : ∀ p, p < 3 * N 3 → V5 20 0 0 0 p = V 20 0 0 0 p := fun p hp => by
    rw [h20, pk_cpy_out (Or.inl hp)]; exact hm 20 0 0 0 p (by decide) (by decide) (by decide)
  have n20 : ∀ u, u < 3 → V5 20 0 0 0 (3 * N 3 + u) = F u := fun u hu => by
    rw [h20, pk_cpy_in (by omega) (by omega), show 0 + (3 * N 3 + u - 3 * N 3) = u by omega]
  have sN : ∀ {f : Nat}, setS S (N 3) 25 i1 26 cl 27 l 99 0 f (N 3) = (if f = 25 then i1 else if f = 26 then cl else if f = 27 then l else if f = 99 then 0 else S f (N 3)) := if_pos rfl
  have sO : ∀ {f i : Nat}, i ≠ N 3 → setS S (N 3) 25 i1 26 cl 27 l 99 0 f i = S f i := fun h => if_neg h
  have sF : ∀ {f i : Nat}, ¬ (f = 25 ∨ f = 26 ∨ f = 27 ∨ f = 99) → setS S (N 3) 25 i1 26 cl 27 l 99 0 f i = S f i := fun {f i} h => by
    unfold setS
    by_cases c : i = N 3
    · rw [if_pos c, if_neg (by omega), if_neg (by omega), if_neg (by omega), if_neg (by omega)]
    · rw [if_neg c]
  have d9 := hI.2.1.2.2.2.2.2.2.2.2.2.2 (N 3) (Nat.le_refl _)
  have hI2 : IV B (nN N 3) (setS S (N 3) 25 i1 26 cl 27 l 99 0) (au A 13 (N 3) 0 0) (ks2 ks 3 (N 3)) V5 := by
    refine ⟨⟨⟨hN.1, hN.2.1, hN.2.2.1, by rw [nN_K]; omega⟩, hks, fun w K hw hK => (hc 2 w K 2 0 (by decide)).trans (W2_sz hB hw hK), ⟨(hmm 15 0 0 1 0 (by decide) (by decide) (by decide) (by decide)).trans hB.m1, (hmm 15 0 0 2 0 (by decide) (by decide) (by decide) (by decide)).trans hB.m2, (hmm 15 0 0 6 0 (by decide) (by decide) (by decide) (by decide)).trans hB.m6, e8⟩, fun w i hw hi => ?_, fun w i hw hi => ?_, fun w i hw hi => ?_, fun i hi => ?_, fun i hi => ?_, fun i hi => ?_, ⟨fun d hd => ?_, ?_, ?_⟩, fun i hi => ?_, fun i hi => ?_, fun i hi => ?_, fun d hd => ?_, ?_⟩, WF_newR c5 hI.2.1, ?_, ?_⟩
    · rw [ho _ _ _ _ _ (by decide) (by decide) (by omega), ho _ _ _ _ _ (by decide) (by decide) (by omega), ho _ _ _ _ _ (by decide) (by decide) (by omega), ho _ _ _ _ _ (by decide) (by decide) (by omega), sF (by decide), sF (by decide), sF (by decide), sF (by decide)]; exact hB.ln hw hi
    · rw [ho _ _ _ _ _ (by decide) (by decide) (by omega), ho _ _ _ _ _ (by decide) (by decide) (by omega), sF (by decide)]; exact hB.bk hw hi
    · by_cases e : i = N 3
      · subst e
        rw [hc _ _ _ _ _ (by decide), hc _ _ _ _ _ (by decide), hc _ _ _ _ _ (by decide), hc _ _ _ _ _ (by decide), W2_n hw (Or.inl rfl), W2_n hw (Or.inl rfl), W2_n hw (Or.inl rfl), W2_n hw (Or.inl rfl), sN, sN, sN]
        exact ⟨rfl, rfl, rfl, rfl⟩
      · rw [nN_K] at hi
        rw [ho _ _ _ _ _ (by decide) (by decide) (fun z => e z.2), ho _ _ _ _ _ (by decide) (by decide) (fun z => e z.2), ho _ _ _ _ _ (by decide) (by decide) (fun z => e z.2), ho _ _ _ _ _ (by decide) (by decide) (fun z => e z.2), sO e, sO e, sO e]
        exact hB.rd hw (by omega)
    · rw [hmm _ _ _ _ _ (by decide) (by decide) (by decide) (by decide), hmm _ _ _ _ _ (by decide) (by decide) (by decide) (by decide), hmm _ _ _ _ _ (by decide) (by decide) (by decide) (by decide), hmm _ _ _ _ _ (by decide) (by decide) (by decide) (by decide), sF (by decide), sF (by decide), sF (by decide), sF (by decide)]; exact hB.mln hi
    · rw [hmm _ _ _ _ _ (by decide) (by decide) (by decide) (by decide), sF (by decide)]; exact hB.mbk hi
    · by_cases e : i = N 3
      · subst e
        rw [sN, sN, sN]
        exact ⟨(n20 0 (by decide)).trans F0, (n20 1 (by decide)).trans F1, (n20 2 (by decide)).trans F2⟩
      · rw [nN_K] at hi
        rw [o20 _ (by omega), o20 _ (by omega), o20 _ (by omega), sO e, sO e, sO e]
        exact hB.mrd (by omega)
    · rw [hmm _ _ _ _ _ (by decide) (by decide) (by decide) (by decide), hmm _ _ _ _ _ (by decide) (by decide) (by decide) (by decide), sF (by decide)]; exact ⟨hB.mrain hd, hB.rn.1 d hd⟩
    · rw [hmm _ _ _ _ _ (by decide) (by decide) (by decide) (by decide), sF (by decide)]; exact hB.mmin
    · rw [hmm _ _ _ _ _ (by decide) (by decide) (by decide) (by decide), sF (by decide)]; exact hB.rn.2
    · rw [sF (by decide), sF (by decide), sF (by decide), sF (by decide)]; exact hB.sln hi
    · rw [sF (by decide)]; exact hB.sbk hi
    · by_cases e : i = N 3
      · subst e
        rw [sN, sN, sN]
        exact ⟨hi1, hcl, hl1, hl⟩
      · rw [nN_K] at hi
        rw [sO e, sO e, sO e]
        exact hB.srd (by omega)
    · rw [sF (by decide)]; exact hB.srain hd
    · rw [sF (by decide)]; exact hB.smin
    · refine isC_new (by decide) hI.2.2.1 (fun k i f j hf => hc k 0 i f j (by have := cfld_low hf; omega)) (fun k f i j hf hok => ?_) (fun k f j hf hk hj _ => ?_)
      · by_cases e : i = N 3
        · have c13 : cfld k f ≠ 13 := fun z => by
            obtain rfl := (cfld_inj (k := 7) (f := 4) (k' := k) (f' := f) (by decide) z).1
            have := (of_decide_eq_true hok).1
            omega
          rw [au_f c13]
        · rw [au_i e]
      · obtain rfl : k = 7 := by omega
        obtain rfl := hj (by decide)
        rcases (cf_in hf).2.2.2.1 rfl with rfl | rfl | rfl | rfl
        · exact (au_at : au A 13 (N 3) 0 0 13 (N 3) 0 = 0).symm
        · exact d9.1.symm
        · exact d9.2.1.symm
        · exact d9.2.2.symm
    · intro k f j hf hok
      have hh := mfld_high hf
      have c13 : mfld k f ≠ 13 := fun z => by
        unfold mfld at z
        split at z <;> exact absurd z (by decide)
      rw [hmm _ _ _ _ _ (by omega) (by omega) (by omega) (by omega), au_f c13]
      exact hI.2.2.2 k f j hf hok
  exact u_alike hI2 hk f15 f34 rfl
end
