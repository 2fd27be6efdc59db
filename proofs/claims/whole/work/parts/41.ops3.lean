/-! calls that change a little -/
section
variable {B : Nat} {N : Nat → Nat} {S S' : Nat → Nat → Nat} {ks : List KY} {V V' X : VS} {w t h l b r i p q k n c a : Nat} {A : AF} {D T : Nat → Int32} {x : Int32} {d : Int64}
theorem Bs_S (h : Bs N S ks V) (hS : ∀ f i, f < 28 → S' f i = S f i) (hV : ∀ k w i f j, stat k w f = true → ¬ (k = 14 ∨ k = 18 ∨ k = 12 ∨ (k = 15 ∧ f = 5)) → V' k w i f j = V k w i f j)
    (h28 : ∀ d, d < 7 → V' 18 0 0 0 d = nI (S' 28 d) ∧ V' 14 0 0 0 d = nI (S' 28 d)) (h29 : V' 15 0 0 5 0 = nI (S' 29 0) ∧ V' 12 0 0 2 0 = nI (S' 29 0)) (b28 : ∀ d, d < 7 → S' 28 d ≤ 9) (b29 : 10 ≤ S' 29 0 ∧ S' 29 0 ≤ 300) : Bs N S' ks V' := by
  obtain ⟨h1, h2, h3, h4, h5, h6, h7, h8, h9, h10, h11, h12⟩ := h
  refine ⟨h1, h2, fun w K hw hK => by rw [hV _ _ _ _ _ rfl (by omega)]; exact h3 w K hw hK, ?_, fun w i hw hi => ?_, fun w i hw hi => ?_, fun w i hw hi => ?_, fun i hi => ?_, fun i hi => by rw [hV _ _ _ _ _ rfl (by omega), hS _ _ (by decide)]; exact h9 i hi, fun i hi => ?_, ⟨h28, h29⟩, ?_⟩
  · rw [hV _ _ _ _ _ rfl (by omega), hV _ _ _ _ _ rfl (by omega), hV _ _ _ _ _ rfl (by omega), hV _ _ _ _ _ rfl (by omega)]; exact h4
  · rw [hV _ _ _ _ _ rfl (by omega), hV _ _ _ _ _ rfl (by omega), hV _ _ _ _ _ rfl (by omega), hV _ _ _ _ _ rfl (by omega), hS _ _ (by decide), hS _ _ (by decide), hS _ _ (by decide), hS _ _ (by decide)]; exact h5 w i hw hi
  · rw [hV _ _ _ _ _ rfl (by omega), hV _ _ _ _ _ rfl (by omega), hS _ _ (by decide)]; exact h6 w i hw hi
  · rw [hV _ _ _ _ _ rfl (by omega), hV _ _ _ _ _ rfl (by omega), hV _ _ _ _ _ rfl (by omega), hV _ _ _ _ _ rfl (by omega), hS _ _ (by decide), hS _ _ (by decide), hS _ _ (by decide)]; exact h7 w i hw hi
  · rw [hV _ _ _ _ _ rfl (by omega), hV _ _ _ _ _ rfl (by omega), hV _ _ _ _ _ rfl (by omega), hV _ _ _ _ _ rfl (by omega), hS _ _ (by decide), hS _ _ (by decide), hS _ _ (by decide), hS _ _ (by decide)]; exact h8 i hi
  · rw [hV _ _ _ _ _ rfl (by omega), hV _ _ _ _ _ rfl (by omega), hV _ _ _ _ _ rfl (by omega), hS _ _ (by decide), hS _ _ (by decide), hS _ _ (by decide)]; exact h10 i hi
  · refine ⟨fun i hi => ?_, fun i hi => ?_, fun i hi => ?_, b28, b29⟩
    · rw [hS _ _ (by decide), hS _ _ (by decide), hS _ _ (by decide), hS _ _ (by decide)]; exact h12.1 i hi
    · rw [hS _ _ (by decide)]; exact h12.2.1 i hi
    · rw [hS _ _ (by decide), hS _ _ (by decide), hS _ _ (by decide)]; exact h12.2.2.1 i hi
theorem WF_mono {B' : Nat} (hb : B ≤ B') (hW : WF B N A) : WF B' N A := by
  obtain ⟨⟨d, hd, e⟩, h2⟩ := hW
  exact ⟨⟨d, Nat.le_trans hd hb, e⟩, h2⟩
theorem o_setRain {a1 a2 : Int32} (hI : IV B N S A ks V) (hk : B ≤ 60 * k) : sp_setRain (Inv k) ks a1 a2 V := by
  have hn := hI.1.n
  have h01 : (0 : Nat) ≤ 1 := Nat.zero_le _
  rcases in_kind (y := a1) 7 (by decide) with ha1 | ⟨i, hi, rfl⟩
  · exact ⟨hI.1.k0, hI.1.k34, v_kX ha1 (Or.inl ⟨rfl, hI.1.k15, hI.1.k15, fun _ e => by subst e; exact u_nX (n := 7) (z := 7) (by decide) rfl ha1 ⟨fun _ => u_no hI.th hk rfl (by decide), fun z => absurd rfl z⟩⟩)⟩
  by_cases c2 : a2 < 0 ∨ (9 : Int32) < a2
  · exact ⟨hI.1.k0, hI.1.k34, v_kO hi (by decide) rfl (v_inX c2 ⟨fun _ => Or.inr ⟨rfl, hI.1.k15, hI.1.k15, fun _ e => by subst e; exact u_nO (n := 7) (z := 7) hi (by decide) rfl ⟨fun z => absurd z (by decide), fun _ => u_inX c2 ⟨fun _ => u_no hI.th hk rfl (by decide), fun z => absurd rfl z⟩⟩⟩, fun z => absurd rfl z⟩)⟩
  have c2' := c2
  obtain ⟨a, ha, rfl⟩ : ∃ a, a ≤ 9 ∧ a2 = nI a := nI_of2 (M := 9) (n := 9) (by decide) (fun z => c2 (Or.inl z)) (Int32.not_lt.mp (fun z => c2 (Or.inr z)))
  refine ⟨hI.1.k0, hI.1.k34, v_kO hi (by decide) rfl (v_inO c2 ⟨fun z => absurd z (by decide), fun _ => ⟨hI.1.k0, hI.1.k1 h01, fun z => absurd z (nI_pos (by omega)), fun _ => ⟨hI.1.k1 h01, hI.1.k14 h01, pk_lt (y := 7) i 7 (fun _ => ⟨pk_in i 7 hi, ?_⟩) (fun z => absurd hi (by omega))⟩⟩⟩)⟩
  rw [nI_clamp (by omega), (hI.1.rn).1 i hi]
  rintro _ rfl _ rfl
  refine ⟨hI.1.k15, hI.1.k15, ?_⟩
  rintro _ rfl
  refine u_nO (n := 7) (z := 7) hi (by decide) rfl ⟨fun z => absurd z (by decide), fun _ => u_inO c2' ⟨fun z => absurd z (by decide), fun _ => ⟨hI.1.k18, pk_in i 7 hi, ?_⟩⟩⟩
  rw [nI_clamp (by omega)]
  have e18 : vup (vup (vup V 14 0 0 0 i (nI a)) 34 0 0 0 0 (nI (S 28 i))) 15 0 0 0 0 0 18 0 0 0 i = nI (S 28 i) := by
    rw [vup_ne (by decide), vup_ne (by decide), vup_ne (by decide)]; exact hI.1.mrain hi
  rw [e18]
  rintro _ rfl _ rfl
  have hV : ∀ k w i' f j, ¬ (k = 14 ∨ k = 18 ∨ k = 34) → ¬ (k = 15 ∧ f = 0) → vup (vup (vup (vup V 14 0 0 0 i (nI a)) 34 0 0 0 0 (nI (S 28 i))) 15 0 0 0 0 0) 18 0 0 0 i (nI a) k w i' f j = V k w i' f j := by
    intro k w i' f j h1 h2
    rw [vup_ne (by omega)]
    have e : vup (vup (vup V 14 0 0 0 i (nI a)) 34 0 0 0 0 (nI (S 28 i))) 15 0 0 0 0 0 k w i' f j = vup (vup V 14 0 0 0 i (nI a)) 34 0 0 0 0 (nI (S 28 i)) k w i' f j := if_neg (fun z => h2 ⟨z.1, z.2.2.2.1⟩)
    rw [e, vup_ne (by omega), vup_ne (by omega)]
  have hI2 : IV B N (fun f j => if f = 28 ∧ j = i then a else S f j) A ks (vup (vup (vup (vup V 14 0 0 0 i (nI a)) 34 0 0 0 0 (nI (S 28 i))) 15 0 0 0 0 0) 18 0 0 0 i (nI a)) := by
    refine ⟨Bs_S hI.1 (fun f j hf => if_neg (fun z => by omega)) (fun k w i' f j hs hk2 => hV k w i' f j (fun z => by
        rcases z with z | z | z
        · omega
        · omega
        · exact (stat_k hs).2.2.1 z) (fun z => (stat_k hs).2.2.2 z.1 z.2)) (fun d hd => ?_) ?_ (fun d hd => ?_) ?_, hI.2.1, ?_, ?_⟩
    · by_cases e : d = i
      · subst e
        rw [if_pos ⟨rfl, rfl⟩]
        refine ⟨vup_eq, ?_⟩
        rw [vup_ne (by decide), vup_ne (by decide), vup_ne (by decide)]; exact vup_eq
      · rw [if_neg (fun z => e z.2)]
        have h1 := hI.1.mrain hd
        have h2 := hI.1.rn.1 d hd
        constructor
        · exact (if_neg (fun z => e z.2.2.2.2)).trans (by rw [vup_ne (by decide), vup_ne (by decide), vup_ne (by decide)]; exact h1)
        · rw [vup_ne (by decide), vup_ne (by decide), vup_ne (by decide)]
          exact (if_neg (fun z => e z.2.2.2.2)).trans h2
    · rw [hV _ _ _ _ _ (by omega) (by omega), hV _ _ _ _ _ (by omega) (by omega), if_neg (by omega)]
      exact ⟨hI.1.mmin, hI.1.rn.2⟩
    · split
      · exact ha
      · exact hI.1.srain hd
    · rw [if_neg (by omega)]; exact hI.1.smin
    · intro k i' f j hf ho
      have hl := cfld_low hf
      rw [hV _ _ _ _ _ (by omega) (by omega)]
      exact hI.2.2.1 k i' f j hf ho
    · intro k f j hf ho
      have hl := mfld_high hf
      rw [hV _ _ _ _ _ (by omega) (by omega)]
      exact hI.2.2.2 k f j hf ho
  refine u_alike hI2 hk ?_ ?_ rfl
  · rw [vup_ne (by decide)]; exact vup_eq
  · rw [vup_ne (by decide), vup_ne (by decide)]; exact vup_eq
theorem WF_a11 (hr : r < N 3) (hW : WF B N A) : WF B N (au A 11 r 0 x) := by
  obtain ⟨h1, h2, h3, h4, h5, h6, h7, h8⟩ := hW
  refine ⟨h1, h2, h3, h4, h5, h6, h7, h8.1, h8.2.1, h8.2.2.1, fun i hi => ?_⟩
  refine ⟨(h8.2.2.2 i hi).1, ?_, (h8.2.2.2 i hi).2.2⟩
  rw [au_i (by omega)]; exact (h8.2.2.2 i hi).2.1
theorem o_pay {a1 a2 : Int32} (hI : IV B N S A ks V) (hk : B ≤ 60 * k) : sp_pay (Inv k) ks a1 a2 V := by
  have hn := hI.1.n
  have h01 : (0 : Nat) ≤ 1 := Nat.zero_le _
  have h1 := fun {x : Int32} => (hI.th (x := x)).1
  rcases in_kind (y := a1) (N 3) (by omega) with ha1 | ⟨i, hi, rfl⟩
  · exact ⟨hI.1.k0, hI.1.k34, hI.1.k0, v_reader0 hI.1 ha1 (Or.inl ⟨rfl, hI.1.k15, hI.1.k15, fun _ e => by subst e; exact u_reader0 h1 ha1 ⟨fun _ => u_no hI.th hk rfl (by decide), fun z => absurd rfl z⟩⟩)⟩
  refine ⟨hI.1.k0, hI.1.k34, hI.1.k0, v_reader1 hI.1 hi ⟨hI.1.k1 h01, hI.1.k2 h01 (by decide), lget hI.1 h01 (by decide) hi ⟨hI.1.k7 h01 hi, ?_⟩⟩⟩
  have e11 : V 7 0 i 6 0 = A 11 i 0 := hI.2.2.1 7 i 6 0 (by decide) (decide_eq_true ⟨hi, rfl⟩)
  rw [e11]
  have m32 : ∀ {x : Int32}, vup V 15 0 0 0 0 x 32 0 0 0 i = A 11 i 0 := by
    intro x
    rw [vup_ne (by decide)]
    exact hI.2.2.2 32 0 i (by decide) (decide_eq_true (Or.inr (show i < 10 by omega)))
  by_cases c2 : a2 < 1 ∨ A 11 i 0 < a2
  · refine v_inX c2 ⟨fun _ => Or.inr ⟨rfl, hI.1.k15, hI.1.k15, fun _ e => ?_⟩, fun z => absurd rfl z⟩
    subst e
    refine u_reader1 h1 hi ⟨fun z => absurd z (by decide), fun _ => ⟨hI.1.k16 h01, hI.1.km (by decide) (by decide) h01, pk_in i 10 (by omega), ?_⟩⟩
    rw [nI_clamp (by omega), m32]
    exact u_inX c2 ⟨fun _ => u_no hI.th hk rfl (by decide), fun z => absurd rfl z⟩
  refine v_inO c2 ⟨fun z => absurd z (by decide), fun _ => ?_⟩
  rintro _ rfl
  rw [e11]
  rw [show vup V 7 0 i 6 0 (A 11 i 0 - a2) 7 0 i 6 0 = A 11 i 0 - a2 from vup_eq]
  refine ⟨hI.1.k15, hI.1.k15, ?_⟩
  rintro _ rfl
  have eV : vup V 7 0 i 6 0 (A 11 i 0 - a2) = cput N 0 (au A 11 i 0 (A 11 i 0 - a2)) (V 11 0 0 0) V := by
    have := cw11 (N := N) (w := 0) (A := A) (D := V 11 0 0 0) (V := V) (x := A 11 i 0 - a2) hi
    rw [← hI.2.2.1.eq] at this
    exact this
  rw [eV]
  have hI1 : Bs N S ks (cput N 0 (au A 11 i 0 (A 11 i 0 - a2)) (V 11 0 0 0) V) := hI.1.c
  have hC1 : isC N 0 (au A 11 i 0 (A 11 i 0 - a2)) (vup (vup (cput N 0 (au A 11 i 0 (A 11 i 0 - a2)) (V 11 0 0 0) V) 34 0 0 0 0 (A 11 i 0 - a2)) 15 0 0 0 0 0) := isC_v (by decide) (isC_v (by decide) isC_put)
  have hM1 : isM 0 A (vup (vup (cput N 0 (au A 11 i 0 (A 11 i 0 - a2)) (V 11 0 0 0) V) 34 0 0 0 0 (A 11 i 0 - a2)) 15 0 0 0 0 0) := isM_v (Or.inl rfl) (isM_v (Or.inr rfl) (isM_c hI.2.2.2))
  have hB1 := (hI1.of (SF.out (x := A 11 i 0 - a2))).of (SF.th (x := 0))
  have e15 : vup (vup (cput N 0 (au A 11 i 0 (A 11 i 0 - a2)) (V 11 0 0 0) V) 34 0 0 0 0 (A 11 i 0 - a2)) 15 0 0 0 0 0 15 0 0 0 0 = 0 := vup_th
  have e34 : vup (vup (cput N 0 (au A 11 i 0 (A 11 i 0 - a2)) (V 11 0 0 0) V) 34 0 0 0 0 (A 11 i 0 - a2)) 15 0 0 0 0 0 34 0 0 0 0 = A 11 i 0 - a2 := ot34
  generalize vup (vup (cput N 0 (au A 11 i 0 (A 11 i 0 - a2)) (V 11 0 0 0) V) 34 0 0 0 0 (A 11 i 0 - a2)) 15 0 0 0 0 0 = V2 at hC1 hM1 hB1 e15 e34
  refine u_reader1 hB1 hi ⟨fun z => absurd z (by decide), fun _ => ⟨hI.1.k16 h01, hI.1.km (by decide) (by decide) h01, pk_in i 10 (by omega), ?_⟩⟩
  have e32 : V2 32 0 0 0 i = A 11 i 0 := hM1 32 0 i (by decide) (decide_eq_true (Or.inr (show i < 10 by omega)))
  rw [nI_clamp (by omega), e32]
  refine u_inO c2 ⟨fun z => absurd z (by decide), fun _ => ?_⟩
  rintro _ rfl
  rw [e32, show vup V2 32 0 0 0 i (A 11 i 0 - a2) 32 0 0 0 i = A 11 i 0 - a2 from vup_eq]
  have eM : vup V2 32 0 0 0 i (A 11 i 0 - a2) = mput 0 (au A 11 i 0 (A 11 i 0 - a2)) (V2 21 0 0 0) V2 := by
    have := mw11 (t := 0) (A := A) (T := V2 21 0 0 0) (V := V2) (i := i) (x := A 11 i 0 - a2) (by omega)
    rw [← hM1.eq] at this
    exact this
  rw [eM]
  exact u_alike ⟨hB1.m, WF_a11 hi hI.2.1, isC_m hC1, isM_put⟩ hk ((mput_o rfl (by decide)).trans e15) ((mput_o rfl (by decide)).trans e34) rfl
end
