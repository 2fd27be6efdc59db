/-! addHalt, addLane -/
section
variable {B : Nat} {N : Nat → Nat} {S S' : Nat → Nat → Nat} {ks : List KY} {V V' : VS} {X : Nat → Nat → Nat → Int32} {w t h l b r i p q k n c a m e s K f j : Nat} {A A' : AF} {x y : Int32}
theorem cf_in {k f : Nat} (h : cfld k f ≠ 99) : (k = 4 → f = 0 ∨ f = 1) ∧ (k = 5 → f = 4) ∧ (k = 6 → f = 3 ∨ f = 4 ∨ f = 5) ∧ (k = 7 → f = 4 ∨ f = 5 ∨ f = 6 ∨ f = 7) ∧ (k = 8 → f = 1) ∧ (k = 9 → f = 0) := by
  unfold cfld at h
  split at h <;> first | exact absurd rfl h | omega
theorem W2_ne {k w i f j : Nat} (hK : K ≤ 3) (h2 : k ≠ 2) (h : k < 4 ∨ 9 < k) : W2 V K n X k w i f j = V k w i f j := W2_o (fun z => h2 z.1) (fun z => by omega)
theorem W2_sz (hB : Bs N S ks V) (hw : w ≤ 1) (hi : i ≤ 3) : W2 V K (N K) X 2 w i 2 0 = nI (nN N K i) := by
  by_cases c : i = K
  · subst c; rw [W2_2 hw, nN_K]
  · rw [W2_o (fun z => c z.2.1) (fun z => by omega), nN_o c]; exact hB.sz hw hi
theorem cok_new {k i j : Nat} (hK : K ≤ 3) (h : cok (nN N K) k i j = true) : cok N k i j = true ∨ (i = N K ∧ (k = 4 + K ∨ (K = 2 ∧ (k = 8 ∨ k = 9))) ∧ (k ≠ 9 → j = 0) ∧ (k = 9 → j < 10)) := by
  have lt : ∀ {K' : Nat}, i < nN N K K' → i < N K' ∨ (i = N K ∧ K' = K) := fun {K'} z => by
    by_cases c : K' = K
    · subst c; rw [nN_K] at z; omega
    · rw [nN_o c] at z; exact Or.inl z
  unfold cok at h ⊢
  split at h
  · exact Or.inl h
  · have h := of_decide_eq_true h
    rcases lt h.1 with z | z
    · exact Or.inl (decide_eq_true ⟨z, h.2⟩)
    · exact Or.inr ⟨z.1, by omega, by omega, by omega⟩
  · have h := of_decide_eq_true h
    rcases lt h.1 with z | z
    · exact Or.inl (decide_eq_true ⟨z, h.2⟩)
    · exact Or.inr ⟨z.1, by omega, by omega, by omega⟩
  · have h := of_decide_eq_true h
    rcases lt h.1 with z | z
    · exact Or.inl (decide_eq_true ⟨z, h.2⟩)
    · exact Or.inr ⟨z.1, by omega, by omega, by omega⟩
  · have h := of_decide_eq_true h
    rcases lt h.1 with z | z
    · exact Or.inl (decide_eq_true ⟨z, h.2⟩)
    · exact Or.inr ⟨z.1, by omega, by omega, by omega⟩
  · have h := of_decide_eq_true h
    rcases lt h.1 with z | z
    · exact Or.inl (decide_eq_true ⟨z, h.2⟩)
    · exact Or.inr ⟨z.1, by omega, by omega, by omega⟩
  · have h := of_decide_eq_true h
    rcases lt h.1 with z | z
    · exact Or.inl (decide_eq_true ⟨z, h.2⟩)
    · exact Or.inr ⟨z.1, by omega, by omega, by omega⟩
  · exact Or.inl h
  · exact Or.inl h
  · exact absurd h (by decide)
theorem cok_lt {k f i j : Nat} (h : cok N k i j = true) (hf : cfld k f ≠ 99) (hK : k = 4 + K ∨ (K = 2 ∧ (k = 8 ∨ k = 9))) (h3 : K ≤ 3) : i < N K := by
  rcases (by omega : (k = 4 ∧ K = 0) ∨ (k = 5 ∧ K = 1) ∨ (k = 6 ∧ K = 2) ∨ (k = 7 ∧ K = 3) ∨ (k = 8 ∧ K = 2) ∨ (k = 9 ∧ K = 2)) with ⟨rfl, rfl⟩ | ⟨rfl, rfl⟩ | ⟨rfl, rfl⟩ | ⟨rfl, rfl⟩ | ⟨rfl, rfl⟩ | ⟨rfl, rfl⟩ <;> exact (of_decide_eq_true h).1
/-- the class's fields with one thing more -/
theorem isC_new (hK : K ≤ 3) (hC : isC N 0 A V) (hV : ∀ k i f j, cfld k f ≠ 99 → V' k 0 i f j = W2 V K (N K) X k 0 i f j) (ho : ∀ k f i j, cfld k f ≠ 99 → cok N k i j = true → A' (cfld k f) i j = A (cfld k f) i j)
    (hn : ∀ k f j, cfld k f ≠ 99 → (k = 4 + K ∨ (K = 2 ∧ (k = 8 ∨ k = 9))) → (k ≠ 9 → j = 0) → (k = 9 → j < 10) → X k f j = A' (cfld k f) (N K) j) : isC (nN N K) 0 A' V' := by
  intro k i f j hf hc
  rw [hV k i f j hf]
  have hl := cfld_low hf
  rcases cok_new hK hc with z | ⟨rfl, hk, hj⟩
  · have hne : ¬ (i = N K ∧ (k = 4 + K ∨ (K = 2 ∧ (k = 8 ∨ k = 9)))) := fun q => by
      have := cok_lt z hf q.2 hK
      omega
    rw [W2_o (fun q => by omega) hne, hC k i f j hf z, ho k f i j hf z]
  · rw [W2_n (Nat.zero_le _) hk]
    exact hn k f j hf hk hj.1 hj.2
theorem o_addHalt (hI : IV B N S A ks V) (hk : B ≤ 60 * k) : sp_addHalt (Inv k) ks V := by
  have hN := hI.1.n
  have h01 : (0 : Nat) ≤ 1 := Nat.zero_le _
  have hB := hI.1
  refine ⟨hB.k0, hB.k34, hB.k0, hB.k1 h01, hB.k2 h01 (by decide), ?_⟩
  rintro _ rfl
  rw [hB.sz h01 (by decide)]
  refine pk_lt (y := 8) (N 0) 8 (fun c => ⟨N 0, add_ok1 hB (by decide) (by omega), ?_⟩) (fun c => ⟨rfl, hB.k15, hB.k15, ?_⟩)
  · rintro _ rfl
    refine ⟨add_up hB.k0, add_up (hB.k1 (Nat.le_refl _)), N 0, add_ok2 hB (by decide) (by omega), ?_⟩
    rintro _ rfl
    have hks := ks2_live hB (K := 0) (by decide)
    have ky : ∀ {x : KY}, x ∈ ks → x ∈ ks2 ks 0 (N 0) := fun hx => add_up (add_up hx)
    refine ⟨ky hB.k34, ky hB.k15, ky hB.k15, ?_⟩
    rintro _ rfl
    show _ ∧ _
    have hV : ∀ k w i f j, k ≠ 34 → ¬ (k = 15 ∧ f = 0) → vup (vup (W2 V 0 (N 0) (fldX 4 [0, 0])) 34 0 0 0 0 (nI (N 0))) 15 0 0 0 0 0 k w i f j = W2 V 0 (N 0) (fldX 4 [0, 0]) k w i f j := fun k w i f j h1 h2 => by
      refine (if_neg (fun z => h2 ⟨z.1, z.2.2.2.1⟩)).trans ?_
      rw [vup_ne (fun z => h1 z.1)]
    have e15 : vup (vup (W2 V 0 (N 0) (fldX 4 [0, 0])) 34 0 0 0 0 (nI (N 0))) 15 0 0 0 0 0 15 0 0 0 0 = 0 := vup_th
    have e34 : vup (vup (W2 V 0 (N 0) (fldX 4 [0, 0])) 34 0 0 0 0 (nI (N 0))) 15 0 0 0 0 0 34 0 0 0 0 = nI (N 0) := ot34
    show (vup (vup (W2 V 0 (N 0) (fldX 4 [0, 0])) 34 0 0 0 0 (nI (N 0))) 15 0 0 0 0 0 15 0 0 1 0 = 8 → _) ∧ (¬ vup (vup (W2 V 0 (N 0) (fldX 4 [0, 0])) 34 0 0 0 0 (nI (N 0))) 15 0 0 0 0 0 15 0 0 1 0 = 8 → ∀ V5 : VS, V5 = vup (vup (vup (W2 V 0 (N 0) (fldX 4 [0, 0])) 34 0 0 0 0 (nI (N 0))) 15 0 0 0 0 0) 15 0 0 1 0 (vup (vup (W2 V 0 (N 0) (fldX 4 [0, 0])) 34 0 0 0 0 (nI (N 0))) 15 0 0 0 0 0 15 0 0 1 0 + 1) → _)
    generalize vup (vup (W2 V 0 (N 0) (fldX 4 [0, 0])) 34 0 0 0 0 (nI (N 0))) 15 0 0 0 0 0 = V2 at hV e15 e34
    have hm : ∀ k w i f j, 9 < k → k ≠ 34 → ¬ (k = 15 ∧ f = 0) → V2 k w i f j = V k w i f j := fun k w i f j h1 h2 h3 => (hV k w i f j h2 h3).trans (W2_ne (by decide) (by omega) (by omega))
    rw [show V2 15 0 0 1 0 = nI (N 0) from (hm 15 0 0 1 0 (by decide) (by decide) (by decide)).trans hB.m1]
    refine pk_eq (y := 8) (N 0) 8 (fun z => by omega) (fun _ => ?_)
    rw [nI_1]
    rintro _ rfl
    rw [show vup V2 15 0 0 1 0 (nI (N 0 + 1)) 15 0 0 1 0 = nI (N 0 + 1) from vup_eq, nI_pred]
    have hU : ∀ k w i f j, ¬ (k = 15 ∧ f = 1) → vup V2 15 0 0 1 0 (nI (N 0 + 1)) k w i f j = V2 k w i f j := fun k w i f j h1 => if_neg (fun z => h1 ⟨z.1, z.2.2.2.1⟩)
    have f15 := (hU 15 0 0 0 0 (by decide)).trans e15
    have f34 := (hU 34 0 0 0 0 (by decide)).trans e34
    have e1 : vup V2 15 0 0 1 0 (nI (N 0 + 1)) 15 0 0 1 0 = nI (N 0 + 1) := vup_eq
    generalize vup V2 15 0 0 1 0 (nI (N 0 + 1)) = V5 at hU f15 f34 e1
    have hc : ∀ k w i f j, k < 15 → V5 k w i f j = W2 V 0 (N 0) (fldX 4 [0, 0]) k w i f j := fun k w i f j h1 => (hU k w i f j (by omega)).trans (hV k w i f j (by omega) (by omega))
    have hmm : ∀ k w i f j, 9 < k → k ≠ 34 → ¬ (k = 15 ∧ f < 2) → V5 k w i f j = V k w i f j := fun k w i f j h1 h2 h3 => (hU k w i f j (by omega)).trans (hm k w i f j h1 h2 (by omega))
    have ho : ∀ k w i f j, k < 15 → k ≠ 2 → k ≠ 4 → V5 k w i f j = V k w i f j := fun k w i f j h1 h2 h3 => (hc k w i f j h1).trans (W2_o (fun z => h2 z.1) (fun z => by omega))
    have hI2 : IV B (nN N 0) S A (ks2 ks 0 (N 0)) V5 := by
      refine ⟨⟨⟨by rw [nN_K]; omega, hN.2.1, hN.2.2.1, hN.2.2.2⟩, hks, fun w K hw hK => (hc 2 w K 2 0 (by decide)).trans (W2_sz hB hw hK), ⟨e1, (hmm 15 0 0 2 0 (by decide) (by decide) (by decide)).trans hB.m2, (hmm 15 0 0 6 0 (by decide) (by decide) (by decide)).trans hB.m6, (hmm 15 0 0 8 0 (by decide) (by decide) (by decide)).trans hB.m8⟩, fun w i hw hi => ?_, fun w i hw hi => ?_, fun w i hw hi => ?_, fun i hi => ?_, fun i hi => ?_, fun i hi => ?_, ⟨fun d hd => ?_, ?_, ?_⟩, fun i hi => ?_, fun i hi => hB.sbk hi, fun i hi => ?_, fun d hd => hB.srain hd, hB.smin⟩, ?_, ?_, ?_⟩
      · rw [ho _ _ _ _ _ (by decide) (by decide) (by decide), ho _ _ _ _ _ (by decide) (by decide) (by decide), ho _ _ _ _ _ (by decide) (by decide) (by decide), ho _ _ _ _ _ (by decide) (by decide) (by decide)]; exact hB.ln hw hi
      · rw [ho _ _ _ _ _ (by decide) (by decide) (by decide), ho _ _ _ _ _ (by decide) (by decide) (by decide)]; exact hB.bk hw hi
      · rw [ho _ _ _ _ _ (by decide) (by decide) (by decide), ho _ _ _ _ _ (by decide) (by decide) (by decide), ho _ _ _ _ _ (by decide) (by decide) (by decide), ho _ _ _ _ _ (by decide) (by decide) (by decide)]; exact hB.rd hw hi
      · rw [hmm _ _ _ _ _ (by decide) (by decide) (by decide), hmm _ _ _ _ _ (by decide) (by decide) (by decide), hmm _ _ _ _ _ (by decide) (by decide) (by decide), hmm _ _ _ _ _ (by decide) (by decide) (by decide)]; exact hB.mln hi
      · rw [hmm _ _ _ _ _ (by decide) (by decide) (by decide)]; exact hB.mbk hi
      · rw [hmm _ _ _ _ _ (by decide) (by decide) (by decide), hmm _ _ _ _ _ (by decide) (by decide) (by decide), hmm _ _ _ _ _ (by decide) (by decide) (by decide)]; exact hB.mrd hi
      · rw [hmm _ _ _ _ _ (by decide) (by decide) (by decide), hmm _ _ _ _ _ (by decide) (by decide) (by decide)]; exact ⟨hB.mrain hd, hB.rn.1 d hd⟩
      · rw [hmm _ _ _ _ _ (by decide) (by decide) (by decide)]; exact hB.mmin
      · rw [hmm _ _ _ _ _ (by decide) (by decide) (by decide)]; exact hB.rn.2
      · have := hB.sln hi
        rw [nN_K]; omega
      · have := hB.srd hi
        rw [nN_K]; omega
      · obtain ⟨h1, h2, ⟨z, hz, ez, hz2⟩, h4, h5, h6, h7, h8⟩ := hI.2.1
        refine ⟨h1, h2, ⟨z, hz, ez, fun j hj => ?_⟩, h4, h5, h6, h7, h8.1, fun i hi => h8.2.1 i ?_, h8.2.2⟩
        · obtain ⟨h, hh, e⟩ := hz2 j hj
          exact ⟨h, by rw [nN_K]; omega, e⟩
        · rw [nN_K] at hi; omega
      · refine isC_new (by decide) hI.2.2.1 (fun k i f j hf => hc k 0 i f j (by have := cfld_low hf; omega)) (fun _ _ _ _ _ _ => rfl) (fun k f j hf hk hj _ => ?_)
        obtain rfl : k = 4 := by omega
        obtain rfl := hj (by decide)
        have hz := hI.2.1.2.2.2.2.2.2.2.2.1 (N 0) (Nat.le_refl _)
        rcases (cf_in hf).1 rfl with rfl | rfl
        · exact hz.1.symm
        · exact hz.2.symm
      · exact fun k f j hf hok => by
          have hh := mfld_high hf
          rw [hmm _ _ _ _ _ (by omega) (by omega) (by omega)]
          exact hI.2.2.2 k f j hf hok
    exact u_alike hI2 hk f15 f34 rfl
  · rintro _ rfl
    rw [show vup V 15 0 0 0 0 0 15 0 0 1 0 = nI (N 0) from (if_neg (by omega)).trans hB.m1, show N 0 = 8 by omega]
    exact ⟨fun _ => u_no hI.th hk rfl (by decide), fun z => absurd rfl z⟩
end
