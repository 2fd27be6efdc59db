/-! the model's trial state becomes the one that is -/
def vM (V : VS) (t : Nat) : AF := fun a i j => V (minv a).1 t 0 (minv a).2 (if (minv a).1 = 16 ∨ (minv a).1 = 23 then j else if (minv a).1 = 29 then 10 * i + j else i)
def mixF (L : List Nat) (A A2 : AF) : AF := fun f i j => if f ∈ L then A f i j else A2 f i j
section
variable {B : Nat} {N : Nat → Nat} {S : Nat → Nat → Nat} {ks : List KY} {V X : VS} {w t h b r i p q x n m : Nat} {A A1 A2 : AF} {D T : Nat → Int32}
theorem isM_v0 : isM t (vM V t) V := fun k f j h _ => by
  unfold vM
  rw [mfld_inv h]
  unfold mi mj
  by_cases c : k = 16 ∨ k = 23
  · rw [if_pos c, if_pos c]
  · rw [if_neg c, if_neg c, if_neg c]
    by_cases c2 : k = 29
    · rw [if_pos c2, if_pos c2, if_pos c2, Nat.div_add_mod]
    · rw [if_neg c2, if_neg c2]
theorem mput_live (h : ∀ k f j, mfld k f ≠ 99 → mok k j = true → A (mfld k f) (mi k j) (mj k j) = A2 (mfld k f) (mi k j) (mj k j)) : mput t A T V = mput t A2 T V := by
  funext k w' i f j
  unfold mput
  by_cases c : w' = t ∧ i = 0 ∧ mfld k f ≠ 99 ∧ mok k j = true
  · rw [if_pos c, if_pos c, h k f j c.2.2.1 c.2.2.2]
  · rw [if_neg c, if_neg c]
theorem m_copy {post : VS → Prop} {L : List Nat} {k a : Nat} (hB : Bs N S ks V) (hM : isM 0 A V) (hk : 22 ≤ k) (hk2 : k < 34) (ha : a ≠ 99) (hka : mfld k 0 = a) (h0 : 0 < aLen k) (h1 : aLen k < 1000) (hp : post (mput 1 (mixF (a :: L) A A2) T V)) : wp_X9_copy ks 1 k 0 0 k 1 0 (mput 1 (mixF L A A2) T V) post := by
  refine ⟨hB.km hk hk2 (Nat.zero_le _), h0, hB.km hk hk2 (Nat.le_refl _), h0, ⟨by decide, by decide, nI_pos (by omega), ?_, ?_⟩, ?_⟩
  · rw [nI_clamp (by omega)]; exact Nat.le_of_eq (Nat.zero_add _)
  · rw [nI_clamp (by omega)]; exact Nat.le_of_eq (Nat.zero_add _)
  rintro _ rfl
  have e : vrow (mput 1 (mixF L A A2) T V) k 1 0 (va_cpy (mput 1 (mixF L A A2) T V k 0 0 0) (mput 1 (mixF L A A2) T V k 1 0 0) (0 : Int32).toNatClampNeg (0 : Int32).toNatClampNeg (nI (aLen k)).toNatClampNeg) = mput 1 (mixF (a :: L) A A2) T V := by
    rw [nI_clamp (by omega), show (0 : Int32).toNatClampNeg = 0 from rfl]
    funext k' w' i' f' j'
    unfold vrow
    by_cases c : k' = k ∧ w' = 1 ∧ i' = 0 ∧ f' = 0
    · obtain ⟨rfl, rfl, rfl, rfl⟩ := c
      rw [if_pos ⟨rfl, rfl, rfl, rfl⟩]
      by_cases c2 : j' < aLen k'
      · have ho : mok k' j' = true := decide_eq_true (Or.inr c2)
        rw [pk_cpy_in (Nat.zero_le _) (by omega), Nat.sub_zero, Nat.zero_add, mput_ne (by decide) (by omega), hM _ _ _ (by rw [hka]; exact ha) ho, mput_r (a := a) ha hka ho rfl rfl, hka]
        exact (if_pos List.mem_cons_self).symm
      · have ho : ¬ mok k' j' = true := fun z => by have := of_decide_eq_true z; omega
        rw [pk_cpy_out (by omega)]
        have q9 : ∀ A9 : AF, mput 1 A9 T V k' 1 0 0 j' = V k' 1 0 0 j' := fun A9 => by
          unfold mput
          rw [if_neg (fun z => ho z.2.2.2), if_neg (fun z => by omega)]
        rw [q9, q9]
    · rw [if_neg c]
      unfold mput
      by_cases c2 : w' = 1 ∧ i' = 0 ∧ mfld k' f' ≠ 99 ∧ mok k' j' = true
      · rw [if_pos c2, if_pos c2]
        unfold mixF
        have hne : mfld k' f' ≠ a := fun z => by
          have := mfld_inj (k := k) (f := 0) (by rw [hka]; exact ha) (z.trans hka.symm)
          exact c ⟨this.1, c2.1, c2.2.1, this.2⟩
        by_cases c3 : mfld k' f' ∈ L
        · rw [if_pos c3, if_pos (List.mem_cons_of_mem _ c3)]
        · rw [if_neg c3, if_neg (fun z => by rcases List.mem_cons.mp z with q | q; exact hne q; exact c3 q)]
      · rw [if_neg c2, if_neg c2]
  rw [e]
  exact hp
theorem m_become {post : VS → Prop} (hB : Bs N S ks V) (hM : isM 0 A V) (hp : post (mput 1 A (V 21 0 0 0) V)) : wp_X9_become ks 1 0 V post := by
  have h01 : (0 : Nat) ≤ 1 := Nat.zero_le _
  have h11 : (1 : Nat) ≤ 1 := Nat.le_refl _
  have e1 : V = mput 1 (vM V 1) (V 21 0 0 0) V := isM_v0.eq
  generalize V 21 0 0 0 = T at hp e1
  have rd : ∀ {A2 : AF} {k f a : Nat}, k ≠ 21 → a ≠ 99 → mfld k f = a → mok k 0 = true → mi k 0 = 0 → mj k 0 = 0 → mput 1 A2 T V k 0 0 f 0 = A a 0 0 := fun hk ha e h2 h3 h4 => by
    rw [mput_ne (by decide) hk]
    subst e
    have := hM _ _ _ ha h2
    rw [h3, h4] at this
    exact this
  have goal : wp_X9_become ks 1 0 (mput 1 (vM V 1) T V) post := by
    refine ⟨hB.k16 h01, hB.k16 h11, ?_⟩
    rw [mw0, rd (a := 0) (by decide) (by decide) rfl rfl rfl rfl]
    rintro _ rfl
    rw [mw1, rd (a := 1) (by decide) (by decide) rfl rfl rfl rfl]
    rintro _ rfl
    rw [mw16, rd (a := 16) (by decide) (by decide) rfl rfl rfl rfl]
    rintro _ rfl
    rw [mw15, rd (a := 15) (by decide) (by decide) rfl rfl rfl rfl]
    rintro _ rfl
    have hA2 : ∀ a, a = 0 ∨ a = 1 ∨ a = 16 ∨ a = 15 → au (au (au (au (vM V 1) 0 0 0 (A 0 0 0)) 1 0 0 (A 1 0 0)) 16 0 0 (A 16 0 0)) 15 0 0 (A 15 0 0) a 0 0 = A a 0 0 := by
      intro a ha
      rcases ha with rfl | rfl | rfl | rfl <;> rfl
    generalize au (au (au (au (vM V 1) 0 0 0 (A 0 0 0)) 1 0 0 (A 1 0 0)) 16 0 0 (A 16 0 0)) 15 0 0 (A 15 0 0) = A2 at hA2
    rw [show mput 1 A2 T V = mput 1 (mixF [] A A2) T V from mput_live (fun k f j _ _ => (if_neg (List.not_mem_nil)).symm)]
    refine m_copy (a := 2) hB hM (by decide) (by decide) (by decide) rfl (by decide) (by decide) ?_
    refine m_copy (a := 14) hB hM (by decide) (by decide) (by decide) rfl (by decide) (by decide) ?_
    refine m_copy (a := 3) hB hM (by decide) (by decide) (by decide) rfl (by decide) (by decide) ?_
    refine m_copy (a := 4) hB hM (by decide) (by decide) (by decide) rfl (by decide) (by decide) ?_
    refine m_copy (a := 5) hB hM (by decide) (by decide) (by decide) rfl (by decide) (by decide) ?_
    refine m_copy (a := 17) hB hM (by decide) (by decide) (by decide) rfl (by decide) (by decide) ?_
    refine m_copy (a := 7) hB hM (by decide) (by decide) (by decide) rfl (by decide) (by decide) ?_
    refine m_copy (a := 9) hB hM (by decide) (by decide) (by decide) rfl (by decide) (by decide) ?_
    refine m_copy (a := 8) hB hM (by decide) (by decide) (by decide) rfl (by decide) (by decide) ?_
    refine m_copy (a := 10) hB hM (by decide) (by decide) (by decide) rfl (by decide) (by decide) ?_
    refine m_copy (a := 11) hB hM (by decide) (by decide) (by decide) rfl (by decide) (by decide) ?_
    refine m_copy (a := 12) hB hM (by decide) (by decide) (by decide) rfl (by decide) (by decide) ?_
    rw [mput_live (A2 := A) (fun k f j h h2 => ?_)]
    · exact hp
    · unfold mixF
      by_cases c : mfld k f ∈ [12, 11, 10, 8, 9, 7, 17, 5, 4, 3, 14, 2]
      · rw [if_pos c]
      · rw [if_neg c]
        have key : (mfld k f = 0 ∨ mfld k f = 1 ∨ mfld k f = 16 ∨ mfld k f = 15) ∧ k = 16 := by
          unfold mfld at h c ⊢
          split at h <;> first | exact absurd rfl h | (revert c; decide)
        obtain ⟨k1, rfl⟩ := key
        have hj : j = 0 := by
          rcases of_decide_eq_true h2 with z | z
          · exact z.2
          · exact absurd z (Nat.not_lt_zero _)
        subst hj
        exact hA2 _ k1
  rw [← e1] at goal
  exact goal
end
