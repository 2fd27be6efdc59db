/-! addBook, addReader -/
section
variable {B : Nat} {N : Nat → Nat} {S S' : Nat → Nat → Nat} {ks : List KY} {V V' : VS} {X : Nat → Nat → Nat → Int32} {w t h l b r i p q k n c a m e s K f j : Nat} {A A' : AF} {x y : Int32}
theorem WF_newB (hn : N 3 ≤ 10) (hW : WF B N A) : WF B (nN N 2) (au (au A 5 (N 2) 0 (-1)) 6 (N 2) 0 (-1)) := by
  obtain ⟨h1, h2, h3, h4, h5, h6, h7, h8⟩ := hW
  have e5 : ∀ b, b ≠ N 2 → au (au A 5 (N 2) 0 (-1)) 6 (N 2) 0 (-1) 5 b 0 = A 5 b 0 := fun b hb => (au_f (by decide)).trans (au_i hb)
  have e6 : ∀ b, b ≠ N 2 → au (au A 5 (N 2) 0 (-1)) 6 (N 2) 0 (-1) 6 b 0 = A 6 b 0 := fun b hb => (au_i hb).trans (au_f (by decide))
  have n5 : au (au A 5 (N 2) 0 (-1)) 6 (N 2) 0 (-1) 5 (N 2) 0 = -1 := (au_f (by decide)).trans au_at
  have n6 : au (au A 5 (N 2) 0 (-1)) 6 (N 2) 0 (-1) 6 (N 2) 0 = -1 := au_at
  refine ⟨h1, h2, h3, fun b hb => ?_, fun b hb => ?_, fun r hr => ?_, ?_, h8.1, h8.2.1, fun b hb => h8.2.2.1 b ?_, h8.2.2.2⟩
  · rw [nN_K] at hb
    by_cases c : b = N 2
    · subst c
      exact ⟨0, Nat.zero_le _, (h8.2.2.1 (N 2) (Nat.le_refl _)).2.1, fun k hk => absurd hk (Nat.not_lt_zero _), fun k k' _ hk => absurd hk (Nat.not_lt_zero _)⟩
    · exact h4 b (by omega)
  · rw [nN_K] at hb
    by_cases c : b = N 2
    · subst c; exact Or.inl ⟨n5, n6⟩
    · rw [e5 b c, e6 b c]
      exact h5 b (by omega)
  · have e : ct (nN N 2 2) (fun b => au (au A 5 (N 2) 0 (-1)) 6 (N 2) 0 (-1) 5 b 0 == nI r) = ct (N 2) (fun b => A 5 b 0 == nI r) := by
      rw [nN_K]
      show ct (N 2) _ + (if (au (au A 5 (N 2) 0 (-1)) 6 (N 2) 0 (-1) 5 (N 2) 0 == nI r) = true then 1 else 0) = _
      have hr : r < N 3 := hr
      rw [n5, if_neg (fun z => nI_m1 (a := r) (by omega) (beq_iff_eq.mp z).symm)]
      exact ct_congr (fun i hi => by rw [e5 i (by omega)])
    rw [e]
    exact h6 r hr
  · show A 16 0 0 = sm (nN N 2 2) (fun b => A 7 b 0)
    rw [nN_K]
    show A 16 0 0 = sm (N 2) (fun b => A 7 b 0) + A 7 (N 2) 0
    rw [(h8.2.2.1 (N 2) (Nat.le_refl _)).1, Int32.add_zero]
    exact h7
  · rw [nN_K] at hb; omega
theorem o_addBook {a1 : Int32} (hI : IV B N S A ks V) (hk : B ≤ 60 * k) : sp_addBook (Inv k) ks a1 V := by
  have hN := hI.1.n
  have h01 : (0 : Nat) ≤ 1 := Nat.zero_le _
  have hB := hI.1
  have h1 := fun {x : Int32} => (hI.th (x := x)).1
  by_cases c1 : a1 < 0 ∨ (5 : Int32) < a1
  · exact ⟨hB.k0, hB.k34, v_inX c1 ⟨fun _ => Or.inl ⟨rfl, hB.k15, hB.k15, fun _ e => by subst e; exact u_inX c1 ⟨fun _ => u_no hI.th hk rfl (by decide), fun z => absurd rfl z⟩⟩, fun z => absurd rfl z⟩⟩
  refine ⟨hB.k0, hB.k34, v_inO c1 ⟨fun z => absurd z (by decide), fun _ => ⟨hB.k0, hB.k1 h01, hB.k2 h01 (by decide), ?_⟩⟩⟩
  rintro _ rfl
  rw [hB.sz h01 (by decide)]
  refine pk_lt (y := 24) (N 2) 24 (fun c5 => ⟨N 2, add_ok1 hB (by decide) c5, ?_⟩) (fun c5 => Or.inr ⟨rfl, hB.k15, hB.k15, fun _ e => by
    subst e
    refine u_inO c1 ⟨fun z => absurd z (by decide), fun _ => ?_⟩
    rw [h1.m6, show N 2 = 24 by omega]
    exact ⟨fun _ => u_no hI.th hk rfl (by decide), fun z => absurd rfl z⟩⟩)
  rintro _ rfl
  refine ⟨add_up hB.k0, add_up (hB.k1 (Nat.le_refl _)), N 2, add_ok2 hB (by decide) c5, ?_⟩
  rintro _ rfl
  obtain ⟨cl, hcl, rfl⟩ : ∃ a, a ≤ 5 ∧ a1 = nI a := nI_of2 (M := 5) (n := 5) (by decide) (fun z => c1 (Or.inl z)) (Int32.not_lt.mp (fun z => c1 (Or.inr z)))
  have hks := ks2_live hB (K := 2) (by decide)
  have ky : ∀ {x : KY}, x ∈ ks → x ∈ ks2 ks 2 (N 2) := fun hx => add_up (add_up hx)
  refine ⟨ky hB.k34, ky hB.k15, ky hB.k15, ?_⟩
  rintro _ rfl
  show wp_X10_isIn (ks2 ks 2 (N 2)) (nI cl) 0 5 (vup (vup (W2 V 2 (N 2) (fldX 6 [nI (N 2), nI cl, 0, (-1), (-1), 0])) 34 0 0 0 0 (nI (N 2))) 15 0 0 0 0 0) _
  have hV : ∀ k w i f j, k ≠ 34 → ¬ (k = 15 ∧ f = 0) → vup (vup (W2 V 2 (N 2) (fldX 6 [nI (N 2), nI cl, 0, (-1), (-1), 0])) 34 0 0 0 0 (nI (N 2))) 15 0 0 0 0 0 k w i f j = W2 V 2 (N 2) (fldX 6 [nI (N 2), nI cl, 0, (-1), (-1), 0]) k w i f j := fun k w i f j h1 h2 => by
    refine (if_neg (fun z => h2 ⟨z.1, z.2.2.2.1⟩)).trans ?_
    rw [vup_ne (fun z => h1 z.1)]
  have e15 : vup (vup (W2 V 2 (N 2) (fldX 6 [nI (N 2), nI cl, 0, (-1), (-1), 0])) 34 0 0 0 0 (nI (N 2))) 15 0 0 0 0 0 15 0 0 0 0 = 0 := vup_th
  have e34 : vup (vup (W2 V 2 (N 2) (fldX 6 [nI (N 2), nI cl, 0, (-1), (-1), 0])) 34 0 0 0 0 (nI (N 2))) 15 0 0 0 0 0 34 0 0 0 0 = nI (N 2) := ot34
  generalize vup (vup (W2 V 2 (N 2) (fldX 6 [nI (N 2), nI cl, 0, (-1), (-1), 0])) 34 0 0 0 0 (nI (N 2))) 15 0 0 0 0 0 = V2 at hV e15 e34
  have hm : ∀ k w i f j, 9 < k → k ≠ 34 → ¬ (k = 15 ∧ f = 0) → V2 k w i f j = V k w i f j := fun k w i f j h1 h2 h3 => (hV k w i f j h2 h3).trans (W2_ne (by decide) (by omega) (by omega))
  have em6 : V2 15 0 0 6 0 = nI (N 2) := (hm 15 0 0 6 0 (by decide) (by decide) (by decide)).trans hB.m6
  refine u_inO c1 ⟨fun z => absurd z (by decide), fun _ => ?_⟩
  rw [em6]
  refine pk_eq (y := 24) (N 2) 24 (fun z => by omega) (fun _ => ⟨ky hB.k19, pk_in (N 2) 24 c5, ?_⟩)
  rw [nI_clamp (by omega)]
  rintro _ rfl
  rw [vup_ne (by decide), em6]
  refine ⟨ky (hB.k16 h01), ky (hB.km (by decide) (by decide) h01), pk_in (N 2) 24 c5, ?_⟩
  rw [nI_clamp (by omega)]
  rintro _ rfl
  rw [vup_ne (by decide), vup_ne (by decide), em6, nI_1]
  rintro _ rfl
  rw [show vup (vup (vup V2 19 0 0 0 (N 2) (nI cl)) 26 0 0 0 (N 2) (-1)) 15 0 0 6 0 (nI (N 2 + 1)) 15 0 0 6 0 = nI (N 2 + 1) from vup_eq, nI_pred]
  have hU : ∀ k w i f j, ¬ (k = 15 ∧ f = 6) → k ≠ 19 → k ≠ 26 → vup (vup (vup V2 19 0 0 0 (N 2) (nI cl)) 26 0 0 0 (N 2) (-1)) 15 0 0 6 0 (nI (N 2 + 1)) k w i f j = V2 k w i f j := fun k w i f j h1 h2 h3 => by
    refine (if_neg (fun z => h1 ⟨z.1, z.2.2.2.1⟩)).trans ?_
    rw [vup_ne (fun z => h3 z.1), vup_ne (fun z => h2 z.1)]
  have h19 : ∀ p, vup (vup (vup V2 19 0 0 0 (N 2) (nI cl)) 26 0 0 0 (N 2) (-1)) 15 0 0 6 0 (nI (N 2 + 1)) 19 0 0 0 p = if p = N 2 then nI cl else V2 19 0 0 0 p := fun p => by
    rw [vup_ne (by decide), vup_ne (by decide)]
    by_cases c : p = N 2
    · rw [if_pos c, c]; exact vup_eq
    · rw [if_neg c]; exact if_neg (fun z => c z.2.2.2.2)
  have h26 : ∀ p, vup (vup (vup V2 19 0 0 0 (N 2) (nI cl)) 26 0 0 0 (N 2) (-1)) 15 0 0 6 0 (nI (N 2 + 1)) 26 0 0 0 p = if p = N 2 then -1 else V2 26 0 0 0 p := fun p => by
    rw [vup_ne (by decide)]
    by_cases c : p = N 2
    · rw [if_pos c, c]; exact vup_eq
    · rw [if_neg c]
      refine (if_neg (fun z => c z.2.2.2.2)).trans ?_
      rw [vup_ne (by decide)]
  have f15 := (hU 15 0 0 0 0 (by decide) (by decide) (by decide)).trans e15
  have f34 := (hU 34 0 0 0 0 (by decide) (by decide) (by decide)).trans e34
  have e6 : vup (vup (vup V2 19 0 0 0 (N 2) (nI cl)) 26 0 0 0 (N 2) (-1)) 15 0 0 6 0 (nI (N 2 + 1)) 15 0 0 6 0 = nI (N 2 + 1) := vup_eq
  generalize vup (vup (vup V2 19 0 0 0 (N 2) (nI cl)) 26 0 0 0 (N 2) (-1)) 15 0 0 6 0 (nI (N 2 + 1)) = V5 at hU h19 h26 f15 f34 e6
  have hc : ∀ k w i f j, k < 15 → V5 k w i f j = W2 V 2 (N 2) (fldX 6 [nI (N 2), nI cl, 0, (-1), (-1), 0]) k w i f j := fun k w i f j h1 => (hU k w i f j (by omega) (by omega) (by omega)).trans (hV k w i f j (by omega) (by omega))
  have hmm : ∀ k w i f j, 9 < k → k ≠ 34 → k ≠ 19 → k ≠ 26 → ¬ (k = 15 ∧ (f = 0 ∨ f = 6)) → V5 k w i f j = V k w i f j := fun k w i f j h1 h2 h4 h5 h3 => (hU k w i f j (by omega) h4 h5).trans (hm k w i f j h1 h2 (by omega))
  have ho : ∀ k w i f j, k < 15 → k ≠ 2 → ¬ ((k = 6 ∨ k = 8 ∨ k = 9) ∧ i = N 2) → V5 k w i f j = V k w i f j := fun k w i f j h1 h2 h3 => (hc k w i f j h1).trans (W2_o (fun z => h2 z.1) (fun z => by omega))
  have sN : setS S (N 2) 24 cl 99 0 99 0 99 0 24 (N 2) = cl := (if_pos rfl).trans (if_pos rfl)
  have sO : ∀ {i : Nat}, i ≠ N 2 → setS S (N 2) 24 cl 99 0 99 0 99 0 24 i = S 24 i := fun h => if_neg h
  have sF : ∀ {f i : Nat}, f ≠ 24 → f < 99 → setS S (N 2) 24 cl 99 0 99 0 99 0 f i = S f i := fun {f i} h h2 => by
    unfold setS
    by_cases c : i = N 2
    · rw [if_pos c, if_neg h, if_neg (by omega), if_neg (by omega), if_neg (by omega)]
    · rw [if_neg c]
  have d9 := hI.2.1.2.2.2.2.2.2.2.2.2.1 (N 2) (Nat.le_refl _)
  have hI2 : IV B (nN N 2) (setS S (N 2) 24 cl 99 0 99 0 99 0) (au (au A 5 (N 2) 0 (-1)) 6 (N 2) 0 (-1)) (ks2 ks 2 (N 2)) V5 := by
    refine ⟨⟨⟨hN.1, hN.2.1, by rw [nN_K]; omega, hN.2.2.2⟩, hks, fun w K hw hK => (hc 2 w K 2 0 (by decide)).trans (W2_sz hB hw hK), ⟨(hmm 15 0 0 1 0 (by decide) (by decide) (by decide) (by decide) (by decide)).trans hB.m1, (hmm 15 0 0 2 0 (by decide) (by decide) (by decide) (by decide) (by decide)).trans hB.m2, e6, (hmm 15 0 0 8 0 (by decide) (by decide) (by decide) (by decide) (by decide)).trans hB.m8⟩, fun w i hw hi => ?_, fun w i hw hi => ?_, fun w i hw hi => ?_, fun i hi => ?_, fun i hi => ?_, fun i hi => ?_, ⟨fun d hd => ?_, ?_, ?_⟩, fun i hi => ?_, fun i hi => ?_, fun i hi => ?_, fun d hd => ?_, ?_⟩, WF_newB hN.2.2.2 hI.2.1, ?_, ?_⟩
    · rw [ho _ _ _ _ _ (by decide) (by decide) (by omega), ho _ _ _ _ _ (by decide) (by decide) (by omega), ho _ _ _ _ _ (by decide) (by decide) (by omega), ho _ _ _ _ _ (by decide) (by decide) (by omega), sF (by decide) (by decide), sF (by decide) (by decide), sF (by decide) (by decide), sF (by decide) (by decide)]; exact hB.ln hw hi
    · by_cases e : i = N 2
      · subst e
        rw [hc _ _ _ _ _ (by decide), hc _ _ _ _ _ (by decide), W2_n hw (Or.inl rfl), W2_n hw (Or.inl rfl), sN]
        exact ⟨rfl, rfl⟩
      · rw [nN_K] at hi
        rw [ho _ _ _ _ _ (by decide) (by decide) (fun z => e z.2), ho _ _ _ _ _ (by decide) (by decide) (fun z => e z.2), sO e]
        exact hB.bk hw (by omega)
    · rw [ho _ _ _ _ _ (by decide) (by decide) (by omega), ho _ _ _ _ _ (by decide) (by decide) (by omega), ho _ _ _ _ _ (by decide) (by decide) (by omega), ho _ _ _ _ _ (by decide) (by decide) (by omega), sF (by decide) (by decide), sF (by decide) (by decide), sF (by decide) (by decide)]; exact hB.rd hw hi
    · rw [hmm _ _ _ _ _ (by decide) (by decide) (by decide) (by decide) (by decide), hmm _ _ _ _ _ (by decide) (by decide) (by decide) (by decide) (by decide), hmm _ _ _ _ _ (by decide) (by decide) (by decide) (by decide) (by decide), hmm _ _ _ _ _ (by decide) (by decide) (by decide) (by decide) (by decide), sF (by decide) (by decide), sF (by decide) (by decide), sF (by decide) (by decide), sF (by decide) (by decide)]; exact hB.mln hi
    · by_cases e : i = N 2
      · subst e
        rw [h19, if_pos rfl, sN]
      · rw [nN_K] at hi
        rw [h19, if_neg e, hm _ _ _ _ _ (by decide) (by decide) (by decide), sO e]; exact hB.mbk (by omega)
    · rw [hmm _ _ _ _ _ (by decide) (by decide) (by decide) (by decide) (by decide), hmm _ _ _ _ _ (by decide) (by decide) (by decide) (by decide) (by decide), hmm _ _ _ _ _ (by decide) (by decide) (by decide) (by decide) (by decide), sF (by decide) (by decide), sF (by decide) (by decide), sF (by decide) (by decide)]; exact hB.mrd hi
    · rw [hmm _ _ _ _ _ (by decide) (by decide) (by decide) (by decide) (by decide), hmm _ _ _ _ _ (by decide) (by decide) (by decide) (by decide) (by decide), sF (by decide) (by decide)]; exact ⟨hB.mrain hd, hB.rn.1 d hd⟩
    · rw [hmm _ _ _ _ _ (by decide) (by decide) (by decide) (by decide) (by decide), sF (by decide) (by decide)]; exact hB.mmin
    · rw [hmm _ _ _ _ _ (by decide) (by decide) (by decide) (by decide) (by decide), sF (by decide) (by decide)]; exact hB.rn.2
    · rw [sF (by decide) (by decide), sF (by decide) (by decide), sF (by decide) (by decide), sF (by decide) (by decide)]; exact hB.sln hi
    · by_cases e : i = N 2
      · subst e; rw [sN]; exact hcl
      · rw [nN_K] at hi
        rw [sO e]; exact hB.sbk (by omega)
    · rw [sF (by decide) (by decide), sF (by decide) (by decide), sF (by decide) (by decide)]; exact hB.srd hi
    · rw [sF (by decide) (by decide)]; exact hB.srain hd
    · rw [sF (by decide) (by decide)]; exact hB.smin
    · refine isC_new (by decide) hI.2.2.1 (fun k i f j hf => hc k 0 i f j (by have := cfld_low hf; omega)) (fun k f i j hf hok => ?_) (fun k f j hf hk hj hj9 => ?_)
      · by_cases e : i = N 2
        · have k6 : ¬ k = 6 := fun z => by
            subst z
            have := (of_decide_eq_true hok).1
            omega
          have c5 : cfld k f ≠ 5 := fun z => k6 (cfld_inj (k := 6) (f := 3) (k' := k) (f' := f) (by decide) z).1
          have c6 : cfld k f ≠ 6 := fun z => k6 (cfld_inj (k := 6) (f := 4) (k' := k) (f' := f) (by decide) z).1
          rw [au_f c6, au_f c5]
        · rw [au_i e, au_i e]
      · rcases (by omega : k = 6 ∨ k = 8 ∨ k = 9) with rfl | rfl | rfl
        · obtain rfl := hj (by decide)
          rcases (cf_in hf).2.2.1 rfl with rfl | rfl | rfl
          · exact ((au_f (by decide)).trans au_at : au (au A 5 (N 2) 0 (-1)) 6 (N 2) 0 (-1) 5 (N 2) 0 = -1).symm
          · exact (au_at : au (au A 5 (N 2) 0 (-1)) 6 (N 2) 0 (-1) 6 (N 2) 0 = -1).symm
          · exact d9.1.symm
        · obtain rfl := hj (by decide)
          obtain rfl := (cf_in hf).2.2.2.2.1 rfl
          exact d9.2.1.symm
        · obtain rfl := (cf_in hf).2.2.2.2.2 rfl
          exact (d9.2.2 j (hj9 rfl)).symm
    · intro k f j hf hok
      have hh := mfld_high hf
      by_cases e : k = 26
      · subst e
        have hf0 : f = 0 := by
          have := mfld_inv hf
          refine Classical.byContradiction fun z => hf ?_
          unfold mfld
          split <;> first | rfl | omega
        subst hf0
        rw [h26]
        show _ = au (au A 5 (N 2) 0 (-1)) 6 (N 2) 0 (-1) 5 j 0
        rw [au_f (by decide)]
        by_cases e2 : j = N 2
        · rw [if_pos e2, e2]; exact au_at.symm
        · rw [if_neg e2, au_i e2, hm _ _ _ _ _ (by decide) (by decide) (by decide)]
          exact hI.2.2.2 26 0 j hf hok
      · have c5 : mfld k f ≠ 5 := fun z => e (mfld_inj (k := 26) (f := 0) (k' := k) (f' := f) (by decide) z).1
        have c6 : mfld k f ≠ 6 := fun z => by
          unfold mfld at z
          split at z <;> exact absurd z (by decide)
        rw [hmm _ _ _ _ _ (by omega) (by omega) (by omega) e (by omega), au_f c6, au_f c5]
        exact hI.2.2.2 k f j hf hok
  exact u_alike hI2 hk f15 f34 rfl
end
