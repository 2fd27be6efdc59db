/-! the class lends the others; a halt served -/
section
variable {B : Nat} {N : Nat → Nat} {S : Nat → Nat → Nat} {ks : List KY} {V X : VS} {w h b r i p q : Nat} {A : AF} {D : Nat → Int32}
theorem t_choose {post : VS → Prop} (hB : Bs N S ks V) (hw : w ≤ 1) (hW : WF B N A) (hr : r < N 3) (hp : post (cput N w (choA N S r A) D V)) : wp_X7_lendOtherBookTo ks w w r (cput N w A D V) post := by
  have hn := hB.n
  have hX : Bs N S ks (cput N w A D V) := hB.c
  refine ⟨fun n x V' => ∃ i, i + n = N 2 ∧ x = nI i ∧ (∀ j, j < i → okc S A r j = false) ∧ V' = cput N w A D V, ⟨N 2, 0, by omega, rfl, fun j hj => absurd hj (Nat.not_lt_zero _), rfl⟩, ?_⟩
  rintro n _ _ ⟨i, hi, rfl, hno, rfl⟩
  refine ⟨hB.k1 hw, hB.k2 hw (by decide), ?_⟩
  rw [hX.sz hw (by decide)]
  refine pk_le (N 2) i (fun c => ?_) (fun c => ?_)
  · have : i = N 2 := by omega
    subst this
    unfold choA at hp
    rw [fnd_none hno, if_neg (Nat.lt_irrefl _)] at hp
    exact hp
  · have key : okc S A r i = false → ∀ y : Int32, y = nI i + 1 → ∃ n', n' < n ∧ ∃ i', i' + n' = N 2 ∧ y = nI i' ∧ (∀ j, j < i' → okc S A r j = false) ∧ cput N w A D V = cput N w A D V := by
      rintro hf _ rfl
      exact ⟨n - 1, by omega, i + 1, by omega, nI_1 i, fun j hj => by
        by_cases e : j = i
        · rw [e]; exact hf
        · exact hno j (by omega), rfl⟩
    have hsz := hX.sz hw (K := 2) (by decide)
    have hbk := hX.bk hw c
    have hrd := hX.rd hw hr
    have hs1 := hB.sbk c
    have hs2 := hB.srd hr
    have hq8 := WF_q hW hn.2.2.2 c
    rw [← hsz]
    refine lget hX hw (by decide) c ⟨hB.k6 hw c, t_onVan hB hw c (fun h5 => ⟨fun z => absurd z (by decide), fun _ => ⟨hB.k7 hw hr, ?_⟩⟩) (fun h5 => ⟨fun _ => key ?_, fun z => absurd rfl z⟩)⟩
    · rw [hbk.2, hrd.2.2.1]
      refine pk_eq (S 24 i) (S 26 r) (fun c1 => ⟨hB.k8 hw c, t_size hB hw c ?_⟩) (fun c1 => key (by unfold okc; rw [beq_eq_false_iff_ne.mpr c1]; simp))
      rw [hq8.1]
      rw [hbk.1]
      refine pk_eq (qN A i) 0 (fun c2 => t_hasRead hB hw hr (fun c3 => ⟨fun z => absurd z (by decide), fun _ => key ?_⟩) (fun c3 => ⟨fun _ => ?_, fun z => absurd rfl z⟩)) (fun c2 => key (by unfold okc; rw [beq_eq_false_iff_ne.mpr c2]; simp))
      · unfold okc; rw [c3]; simp
      · have hok : okc S A r i = true := by
          unfold okc; rw [h5, c1, c2, beq_eq_false_iff_ne.mpr c3]; simp
        rw [cr0]
        refine t_lendTo hB hw c hr ?_
        unfold choA at hp
        rw [fnd_at c hok hno, if_pos c] at hp
        exact hp
    · unfold okc; rw [beq_eq_false_iff_ne.mpr h5]; simp
theorem t_oth {post : VS → Prop} (hB : Bs N S ks V) (hw : w ≤ 1) (hW : WF B N A) (hh : h < 8) (hp : post (cput N w (itn (othS N S h) (N 3) A) D V)) : wp_X7_lendOtherBooks ks w (nI h) (cput N w A D V) post := by
  have hn := hB.n
  refine ⟨fun n x V' => ∃ i, i + n = N 3 ∧ x = nI i ∧ WF B N (itn (othS N S h) i A) ∧ V' = cput N w (itn (othS N S h) i A) D V, ⟨N 3, 0, by omega, rfl, hW, rfl⟩, ?_⟩
  rintro n _ _ ⟨i, hi, rfl, hWi, rfl⟩
  have hX : Bs N S ks (cput N w (itn (othS N S h) i A) D V) := hB.c
  refine ⟨hB.k1 hw, hB.k2 hw (by decide), ?_⟩
  rw [hX.sz hw (by decide)]
  refine pk_le (N 3) i (fun c => ?_) (fun c => ?_)
  · have : i = N 3 := by omega
    subst this
    exact hp
  · have key : ∀ (V9 : VS), V9 = cput N w (othS N S h i (itn (othS N S h) i A)) D V → ∀ y : Int32, y = nI i + 1 → ∃ n', n' < n ∧ ∃ i', i' + n' = N 3 ∧ y = nI i' ∧ WF B N (itn (othS N S h) i' A) ∧ V9 = cput N w (itn (othS N S h) i' A) D V := by
      rintro _ rfl _ rfl
      exact ⟨n - 1, by omega, i + 1, by omega, nI_1 i, WF_oth hWi hn.2.2.2 c, rfl⟩
    have hsz := hX.sz hw (K := 3) (by decide)
    rw [← hsz]
    have hs2 := hB.srd c
    refine lget hX hw (by decide) c ⟨hB.k7 hw c, ?_⟩
    rw [(hX.rd hw c).2.1]
    refine pk_eq (S 25 i) h (fun c1 => t_more hB hw c (fun c3 => ⟨fun _ => key _ ?_, fun z => absurd rfl z⟩) (fun c3 => ⟨fun z => absurd z (by decide), fun _ => ?_⟩)) (fun c1 => key _ ?_)
    · unfold othS; rw [if_neg (fun z => z.2 c3)]
    · refine t_choose hB hw hWi c (key _ ?_)
      unfold othS; rw [if_pos ⟨c1, c3⟩]
    · unfold othS; rw [if_neg (fun z => c1 z.1)]
theorem t_note {post : VS → Prop} (hB : Bs N S ks V) (hw : w ≤ 1) (hh : h < N 0) {x : Int32} (hp : post (cput N w (if x = 0 then au A 4 h 0 (A 4 h 0 + 1) else au A 3 h 0 (A 3 h 0 + 1)) D V)) : wp_X7_noteVisit ks w (nI h) x (cput N w A D V) post := by
  have hn := hB.n
  have hX : Bs N S ks (cput N w A D V) := hB.c
  refine ⟨fun z => absurd z (nI_pos (by omega)), fun _ => ⟨hB.k1 hw, hB.k2 hw (by decide), ?_⟩⟩
  have hsz := hX.sz hw (K := 0) (by decide)
  rw [hsz]
  refine pk_lt h (N 0) (fun _ => ?_) (fun z => absurd hh (by omega))
  rw [← hsz]
  refine lget hX hw (by decide) hh ⟨hB.k4 hw hh, fun c => ?_, fun c => ?_⟩
  · rintro _ rfl
    rw [cr4 hh, cw4 hh]; rw [if_pos c] at hp; exact hp
  · rintro _ rfl
    rw [cr3 hh, cw3 hh]; rw [if_neg c] at hp; exact hp
end
