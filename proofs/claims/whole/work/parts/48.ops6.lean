/-! addLane -/
def setS (S : Nat → Nat → Nat) (n f0 x0 f1 x1 f2 x2 f3 x3 : Nat) : Nat → Nat → Nat := fun f i => if i = n then (if f = f0 then x0 else if f = f1 then x1 else if f = f2 then x2 else if f = f3 then x3 else S f i) else S f i
section
variable {B : Nat} {N : Nat → Nat} {S S' : Nat → Nat → Nat} {ks : List KY} {V V' : VS} {X : Nat → Nat → Nat → Int32} {w t h l b r i p q k n c a m e s K f j : Nat} {A A' : AF} {x y : Int32}
theorem up4 {f : Nat → Int32} {y0 y1 y2 y3 : Int32} : upd (upd (upd (upd f (0 : Int32).toNatClampNeg y0) (1 : Int32).toNatClampNeg y1) (2 : Int32).toNatClampNeg y2) (3 : Int32).toNatClampNeg y3 = fun j => match j with | 0 => y0 | 1 => y1 | 2 => y2 | 3 => y3 | j => f j := by
  rw [cl0, cl1, cl2, cl3]
  funext j
  unfold upd
  rcases j with _ | _ | _ | _ | j <;> simp
theorem up3 {f : Nat → Int32} {y0 y1 y2 : Int32} : upd (upd (upd f (0 : Int32).toNatClampNeg y0) (1 : Int32).toNatClampNeg y1) (2 : Int32).toNatClampNeg y2 = fun j => match j with | 0 => y0 | 1 => y1 | 2 => y2 | j => f j := by
  rw [cl0, cl1, cl2]
  funext j
  unfold upd
  rcases j with _ | _ | _ | j <;> simp
theorem o_addLane {a1 a2 a3 a4 : Int32} (hI : IV B N S A ks V) (hk : B ≤ 60 * k) : sp_addLane (Inv k) ks a1 a2 a3 a4 V := by
  have hN := hI.1.n
  have h01 : (0 : Nat) ≤ 1 := Nat.zero_le _
  have hB := hI.1
  have h1 := fun {x : Int32} => (hI.th (x := x)).1
  rcases in_kind (y := a1) (N 0) (by omega) with ha1 | ⟨i1, hi1, rfl⟩
  · exact ⟨hB.k0, hB.k34, hB.k0, v_halt0 hB ha1 (Or.inl ⟨rfl, hB.k15, hB.k15, fun _ e => by subst e; exact u_halt0 h1 ha1 ⟨fun _ => u_no hI.th hk rfl (by decide), fun z => absurd rfl z⟩⟩)⟩
  rcases in_kind (y := a2) (N 0) (by omega) with ha2 | ⟨i2, hi2, rfl⟩
  · exact ⟨hB.k0, hB.k34, hB.k0, v_halt1 hB hi1 (v_halt0 hB ha2 (Or.inl ⟨rfl, hB.k15, hB.k15, fun _ e => by subst e; exact u_halt1 h1 hi1 ⟨fun z => absurd z (by decide), fun _ => u_halt0 h1 ha2 ⟨fun _ => u_no hI.th hk rfl (by decide), fun z => absurd rfl z⟩⟩⟩))⟩
  refine ⟨hB.k0, hB.k34, hB.k0, v_halt1 hB hi1 (v_halt1 hB hi2 ?_)⟩
  refine pk_eq i1 i2 (fun c => Or.inr (Or.inl ⟨rfl, hB.k15, hB.k15, fun _ e => by subst e; exact u_halt1 h1 hi1 ⟨fun z => absurd z (by decide), fun _ => u_halt1 h1 hi2 ⟨fun z => absurd z (by decide), fun _ => ⟨fun _ => u_no hI.th hk rfl (by decide), fun z => absurd (by rw [c]) z⟩⟩⟩⟩)) (fun c => ?_)
  have cI : ¬ nI i1 = nI i2 := fun z => c (nI_inj (by omega) (by omega) z)
  by_cases c3 : a3 < 1 ∨ (30 : Int32) < a3
  · exact v_inX c3 ⟨fun _ => Or.inr (Or.inl ⟨rfl, hB.k15, hB.k15, fun _ e => by subst e; exact u_halt1 h1 hi1 ⟨fun z => absurd z (by decide), fun _ => u_halt1 h1 hi2 ⟨fun z => absurd z (by decide), fun _ => ⟨fun z => absurd z cI, fun _ => u_inX c3 ⟨fun _ => u_no hI.th hk rfl (by decide), fun z => absurd rfl z⟩⟩⟩⟩⟩), fun z => absurd rfl z⟩
  refine v_inO c3 ⟨fun z => absurd z (by decide), fun _ => ?_⟩
  by_cases c4 : a4 < 0 ∨ (9 : Int32) < a4
  · exact v_inX c4 ⟨fun _ => Or.inr (Or.inl ⟨rfl, hB.k15, hB.k15, fun _ e => by subst e; exact u_halt1 h1 hi1 ⟨fun z => absurd z (by decide), fun _ => u_halt1 h1 hi2 ⟨fun z => absurd z (by decide), fun _ => ⟨fun z => absurd z cI, fun _ => u_inO c3 ⟨fun z => absurd z (by decide), fun _ => u_inX c4 ⟨fun _ => u_no hI.th hk rfl (by decide), fun z => absurd rfl z⟩⟩⟩⟩⟩⟩), fun z => absurd rfl z⟩
  refine v_inO c4 ⟨fun z => absurd z (by decide), fun _ => ⟨hB.k1 h01, hB.k2 h01 (by decide), ?_⟩⟩
  rintro _ rfl
  rw [hB.sz h01 (by decide)]
  refine pk_lt (y := 16) (N 1) 16 (fun c5 => ⟨N 1, add_ok1 hB (by decide) (by omega), ?_⟩) (fun c5 => Or.inr (Or.inr ⟨rfl, hB.k15, hB.k15, fun _ e => by
    subst e
    refine u_halt1 h1 hi1 ⟨fun z => absurd z (by decide), fun _ => u_halt1 h1 hi2 ⟨fun z => absurd z (by decide), fun _ => ⟨fun z => absurd z cI, fun _ => u_inO c3 ⟨fun z => absurd z (by decide), fun _ => u_inO c4 ⟨fun z => absurd z (by decide), fun _ => ?_⟩⟩⟩⟩⟩
    rw [h1.m2, show N 1 = 16 by omega]
    exact ⟨fun _ => u_no hI.th hk rfl (by decide), fun z => absurd rfl z⟩⟩))
  rintro _ rfl
  refine ⟨add_up hB.k0, add_up (hB.k1 (Nat.le_refl _)), N 1, add_ok2 hB (by decide) (by omega), ?_⟩
  rintro _ rfl
  obtain ⟨l, hl, rfl⟩ := days_of (m0 := 30) (by decide) c3
  have hl1 : 1 ≤ l := Nat.not_lt.mp (fun z => c3 (Or.inl (nI_lt (b := 1) z (by decide))))
  obtain ⟨cl, hcl, rfl⟩ : ∃ a, a ≤ 9 ∧ a4 = nI a := nI_of2 (M := 9) (n := 9) (by decide) (fun z => c4 (Or.inl z)) (Int32.not_lt.mp (fun z => c4 (Or.inr z)))
  have hks := ks2_live hB (K := 1) (by decide)
  have ky : ∀ {x : KY}, x ∈ ks → x ∈ ks2 ks 1 (N 1) := fun hx => add_up (add_up hx)
  refine ⟨ky hB.k34, ky hB.k15, ky hB.k15, ?_⟩
  rintro _ rfl
  show wp_X10_isHalt (ks2 ks 1 (N 1)) (nI i1) (vup (vup (W2 V 1 (N 1) (fldX 5 [nI i1, nI i2, nI l, nI cl, 0])) 34 0 0 0 0 (nI (N 1))) 15 0 0 0 0 0) _
  have hV : ∀ k w i f j, k ≠ 34 → ¬ (k = 15 ∧ f = 0) → vup (vup (W2 V 1 (N 1) (fldX 5 [nI i1, nI i2, nI l, nI cl, 0])) 34 0 0 0 0 (nI (N 1))) 15 0 0 0 0 0 k w i f j = W2 V 1 (N 1) (fldX 5 [nI i1, nI i2, nI l, nI cl, 0]) k w i f j := fun k w i f j h1 h2 => by
    refine (if_neg (fun z => h2 ⟨z.1, z.2.2.2.1⟩)).trans ?_
    rw [vup_ne (fun z => h1 z.1)]
  have e15 : vup (vup (W2 V 1 (N 1) (fldX 5 [nI i1, nI i2, nI l, nI cl, 0])) 34 0 0 0 0 (nI (N 1))) 15 0 0 0 0 0 15 0 0 0 0 = 0 := vup_th
  have e34 : vup (vup (W2 V 1 (N 1) (fldX 5 [nI i1, nI i2, nI l, nI cl, 0])) 34 0 0 0 0 (nI (N 1))) 15 0 0 0 0 0 34 0 0 0 0 = nI (N 1) := ot34
  generalize vup (vup (W2 V 1 (N 1) (fldX 5 [nI i1, nI i2, nI l, nI cl, 0])) 34 0 0 0 0 (nI (N 1))) 15 0 0 0 0 0 = V2 at hV e15 e34
  have hm : ∀ k w i f j, 9 < k → k ≠ 34 → ¬ (k = 15 ∧ f = 0) → V2 k w i f j = V k w i f j := fun k w i f j h1 h2 h3 => (hV k w i f j h2 h3).trans (W2_ne (by decide) (by omega) (by omega))
  have em1 : V2 15 0 0 1 0 = nI (N 0) := (hm 15 0 0 1 0 (by decide) (by decide) (by decide)).trans hB.m1
  have em2 : V2 15 0 0 2 0 = nI (N 1) := (hm 15 0 0 2 0 (by decide) (by decide) (by decide)).trans hB.m2
  refine ⟨ky hB.k15, u_nO (n := N 0) hi1 (by omega) em1 ⟨Or.inr rfl, fun z => absurd z (by decide), fun _ => ⟨ky hB.k15, u_nO (n := N 0) hi2 (by omega) em1 ⟨Or.inr rfl, fun z => absurd z (by decide), fun _ => ⟨fun z => absurd z cI, fun _ => u_inO c3 ⟨fun z => absurd z (by decide), fun _ => u_inO c4 ⟨fun z => absurd z (by decide), fun _ => ?_⟩⟩⟩⟩⟩⟩⟩
  rw [em2, ix4, up4]
  refine pk_eq (y := 16) (N 1) 16 (fun z => by omega) (fun _ => ⟨ky hB.k17, ⟨by decide, nI_pos (by omega), by decide, by decide, ?_⟩, ?_⟩)
  · rw [nI_clamp (by omega), cl4]
    show 4 * N 1 + 4 ≤ 64
    omega
  rw [nI_clamp (by omega), cl0, cl4]
  rintro _ rfl
  rw [vrow_ne (by decide), em2, nI_1]
  rintro _ rfl
  rw [show vup (vrow V2 17 0 0 (va_cpy (fun j => match j with | 0 => nI i1 | 1 => nI i2 | 2 => nI l | 3 => nI cl | _ => (0 : Int32)) (V2 17 0 0 0) 0 (4 * N 1) 4)) 15 0 0 2 0 (nI (N 1 + 1)) 15 0 0 2 0 = nI (N 1 + 1) from vup_eq, nI_pred]
  have hU : ∀ k w i f j, ¬ (k = 15 ∧ f = 2) → ¬ (k = 17) → vup (vrow V2 17 0 0 (va_cpy (fun j => match j with | 0 => nI i1 | 1 => nI i2 | 2 => nI l | 3 => nI cl | _ => (0 : Int32)) (V2 17 0 0 0) 0 (4 * N 1) 4)) 15 0 0 2 0 (nI (N 1 + 1)) k w i f j = V2 k w i f j := fun k w i f j h1 h2 => by
    refine (if_neg (fun z => h1 ⟨z.1, z.2.2.2.1⟩)).trans ?_
    rw [vrow_ne (fun z => h2 z.1)]
  have h17 : ∀ p, vup (vrow V2 17 0 0 (va_cpy (fun j => match j with | 0 => nI i1 | 1 => nI i2 | 2 => nI l | 3 => nI cl | _ => (0 : Int32)) (V2 17 0 0 0) 0 (4 * N 1) 4)) 15 0 0 2 0 (nI (N 1 + 1)) 17 0 0 0 p = va_cpy (fun j => match j with | 0 => nI i1 | 1 => nI i2 | 2 => nI l | 3 => nI cl | _ => (0 : Int32)) (V2 17 0 0 0) 0 (4 * N 1) 4 p := fun p => by
    rw [vup_ne (by decide), vrow_eq]
  have f15 := (hU 15 0 0 0 0 (by decide) (by decide)).trans e15
  have f34 := (hU 34 0 0 0 0 (by decide) (by decide)).trans e34
  have e2 : vup (vrow V2 17 0 0 (va_cpy (fun j => match j with | 0 => nI i1 | 1 => nI i2 | 2 => nI l | 3 => nI cl | _ => (0 : Int32)) (V2 17 0 0 0) 0 (4 * N 1) 4)) 15 0 0 2 0 (nI (N 1 + 1)) 15 0 0 2 0 = nI (N 1 + 1) := vup_eq
  generalize vup (vrow V2 17 0 0 (va_cpy (fun j => match j with | 0 => nI i1 | 1 => nI i2 | 2 => nI l | 3 => nI cl | _ => (0 : Int32)) (V2 17 0 0 0) 0 (4 * N 1) 4)) 15 0 0 2 0 (nI (N 1 + 1)) = V5 at hU h17 f15 f34 e2
  have hc : ∀ k w i f j, k < 15 → V5 k w i f j = W2 V 1 (N 1) (fldX 5 [nI i1, nI i2, nI l, nI cl, 0]) k w i f j := fun k w i f j h1 => (hU k w i f j (by omega) (by omega)).trans (hV k w i f j (by omega) (by omega))
  have hmm : ∀ k w i f j, 9 < k → k ≠ 34 → k ≠ 17 → ¬ (k = 15 ∧ (f = 0 ∨ f = 2)) → V5 k w i f j = V k w i f j := fun k w i f j h1 h2 h4 h3 => (hU k w i f j (by omega) h4).trans (hm k w i f j h1 h2 (by omega))
  have ho : ∀ k w i f j, k < 15 → k ≠ 2 → ¬ (k = 5 ∧ i = N 1) → V5 k w i f j = V k w i f j := fun k w i f j h1 h2 h3 => (hc k w i f j h1).trans (W2_o (fun z => h2 z.1) (fun z => by omega))
  have o17 : ∀ p, p < 4 * N 1 → V5 17 0 0 0 p = V 17 0 0 0 p := fun p hp => by
    rw [h17, pk_cpy_out (Or.inl hp)]; exact hm 17 0 0 0 p (by decide) (by decide) (by decide)
  have n17 : ∀ u, u < 4 → V5 17 0 0 0 (4 * N 1 + u) = (match u with | 0 => nI i1 | 1 => nI i2 | 2 => nI l | 3 => nI cl | _ => (0 : Int32)) := fun u hu => by
    rw [h17, pk_cpy_in (by omega) (by omega), show 0 + (4 * N 1 + u - 4 * N 1) = u by omega]
  have sN : ∀ {f : Nat}, setS S (N 1) 20 i1 21 i2 22 l 23 cl f (N 1) = (if f = 20 then i1 else if f = 21 then i2 else if f = 22 then l else if f = 23 then cl else S f (N 1)) := if_pos rfl
  have sO : ∀ {f i : Nat}, i ≠ N 1 → setS S (N 1) 20 i1 21 i2 22 l 23 cl f i = S f i := fun h => if_neg h
  have sF : ∀ {f i : Nat}, 24 ≤ f → setS S (N 1) 20 i1 21 i2 22 l 23 cl f i = S f i := fun {f i} h => by
    unfold setS
    split
    · rw [if_neg (by omega), if_neg (by omega), if_neg (by omega), if_neg (by omega)]
    · rfl
  have hI2 : IV B (nN N 1) (setS S (N 1) 20 i1 21 i2 22 l 23 cl) A (ks2 ks 1 (N 1)) V5 := by
    refine ⟨⟨⟨hN.1, by rw [nN_K]; omega, hN.2.2.1, hN.2.2.2⟩, hks, fun w K hw hK => (hc 2 w K 2 0 (by decide)).trans (W2_sz hB hw hK), ⟨(hmm 15 0 0 1 0 (by decide) (by decide) (by decide) (by decide)).trans hB.m1, e2, (hmm 15 0 0 6 0 (by decide) (by decide) (by decide) (by decide)).trans hB.m6, (hmm 15 0 0 8 0 (by decide) (by decide) (by decide) (by decide)).trans hB.m8⟩, fun w i hw hi => ?_, fun w i hw hi => ?_, fun w i hw hi => ?_, fun i hi => ?_, fun i hi => ?_, fun i hi => ?_, ⟨fun d hd => ?_, ?_, ?_⟩, fun i hi => ?_, fun i hi => ?_, fun i hi => ?_, fun d hd => ?_, ?_⟩, ?_, ?_, ?_⟩
    · by_cases e : i = N 1
      · subst e
        rw [hc _ _ _ _ _ (by decide), hc _ _ _ _ _ (by decide), hc _ _ _ _ _ (by decide), hc _ _ _ _ _ (by decide), W2_n hw (Or.inl rfl), W2_n hw (Or.inl rfl), W2_n hw (Or.inl rfl), W2_n hw (Or.inl rfl), sN, sN, sN, sN]
        exact ⟨rfl, rfl, rfl, rfl⟩
      · rw [nN_K] at hi
        rw [ho _ _ _ _ _ (by decide) (by decide) (fun z => e z.2), ho _ _ _ _ _ (by decide) (by decide) (fun z => e z.2), ho _ _ _ _ _ (by decide) (by decide) (fun z => e z.2), ho _ _ _ _ _ (by decide) (by decide) (fun z => e z.2), sO e, sO e, sO e, sO e]
        exact hB.ln hw (by omega)
    · rw [ho _ _ _ _ _ (by decide) (by decide) (by omega), ho _ _ _ _ _ (by decide) (by decide) (by omega), sF (by decide)]; exact hB.bk hw hi
    · rw [ho _ _ _ _ _ (by decide) (by decide) (by omega), ho _ _ _ _ _ (by decide) (by decide) (by omega), ho _ _ _ _ _ (by decide) (by decide) (by omega), ho _ _ _ _ _ (by decide) (by decide) (by omega), sF (by decide), sF (by decide), sF (by decide)]; exact hB.rd hw hi
    · by_cases e : i = N 1
      · subst e
        rw [sN, sN, sN, sN]
        exact ⟨n17 0 (by decide), n17 1 (by decide), n17 2 (by decide), n17 3 (by decide)⟩
      · rw [nN_K] at hi
        rw [o17 _ (by omega), o17 _ (by omega), o17 _ (by omega), o17 _ (by omega), sO e, sO e, sO e, sO e]
        exact hB.mln (by omega)
    · rw [hmm _ _ _ _ _ (by decide) (by decide) (by decide) (by decide), sF (by decide)]; exact hB.mbk hi
    · rw [hmm _ _ _ _ _ (by decide) (by decide) (by decide) (by decide), hmm _ _ _ _ _ (by decide) (by decide) (by decide) (by decide), hmm _ _ _ _ _ (by decide) (by decide) (by decide) (by decide), sF (by decide), sF (by decide), sF (by decide)]; exact hB.mrd hi
    · rw [hmm _ _ _ _ _ (by decide) (by decide) (by decide) (by decide), hmm _ _ _ _ _ (by decide) (by decide) (by decide) (by decide), sF (by decide)]; exact ⟨hB.mrain hd, hB.rn.1 d hd⟩
    · rw [hmm _ _ _ _ _ (by decide) (by decide) (by decide) (by decide), sF (by decide)]; exact hB.mmin
    · rw [hmm _ _ _ _ _ (by decide) (by decide) (by decide) (by decide), sF (by decide)]; exact hB.rn.2
    · by_cases e : i = N 1
      · subst e
        rw [sN, sN, sN, sN]
        exact ⟨hi1, hi2, c, hl1, hl, hcl⟩
      · rw [nN_K] at hi
        rw [sO e, sO e, sO e, sO e]
        exact hB.sln (by omega)
    · rw [sF (by decide)]; exact hB.sbk hi
    · rw [sF (by decide), sF (by decide), sF (by decide)]; exact hB.srd hi
    · rw [sF (by decide)]; exact hB.srain hd
    · rw [sF (by decide)]; exact hB.smin
    · obtain ⟨h1, h2, h3, h4, h5, h6, h7, h8⟩ := hI.2.1
      refine ⟨h1, fun i hi => ?_, h3, h4, h5, h6, h7, fun i hi => h8.1 i ?_, h8.2⟩
      · rw [nN_K] at hi
        by_cases e : i = N 1
        · exact ⟨0, by decide, h8.1 i (by omega)⟩
        · exact h2 i (by omega)
      · rw [nN_K] at hi; omega
    · refine isC_new (by decide) hI.2.2.1 (fun k i f j hf => hc k 0 i f j (by have := cfld_low hf; omega)) (fun _ _ _ _ _ _ => rfl) (fun k f j hf hk hj _ => ?_)
      obtain rfl : k = 5 := by omega
      obtain rfl := hj (by decide)
      obtain rfl := (cf_in hf).2.1 rfl
      exact (hI.2.1.2.2.2.2.2.2.2.1 (N 1) (Nat.le_refl _)).symm
    · exact fun k f j hf hok => by
        have hh := mfld_high hf
        rw [hmm _ _ _ _ _ (by omega) (by omega) (by omega) (by omega)]
        exact hI.2.2.2 k f j hf hok
  exact u_alike hI2 hk f15 f34 rfl
end
