/-! the model serves a halt -/
section
variable {B : Nat} {N : Nat → Nat} {S : Nat → Nat → Nat} {ks : List KY} {V X : VS} {t h b r i p q : Nat} {A : AF} {T : Nat → Int32} {Q : Nat → Bool}
theorem m_many {post : Int32 → VS → Prop} {y : Int32} (hB : Bs N S ks V) (ht : t ≤ 1) (hp : post (nI (ct (N 2) (fun b => A 5 b 0 == y))) (mput t A T V)) : wp_X9_many ks t y (mput t A T V) post := by
  have hn := hB.n
  have hX : Bs N S ks (mput t A T V) := hB.m
  refine ⟨fun n x2 x3 V' => ∃ i, i + n = N 2 ∧ x3 = nI i ∧ x2 = nI (ct i (fun b => A 5 b 0 == y)) ∧ V' = mput t A T V, ⟨N 2, 0, by omega, rfl, rfl, rfl⟩, ?_⟩
  rintro n _ _ _ ⟨i, hi, rfl, rfl, rfl⟩
  refine ⟨hB.k16 ht, hB.k15, ?_⟩
  rw [hX.m6]
  refine pk_le (N 2) i (fun c => ?_) (fun c => ⟨hB.km (by decide) (by decide) ht, pk_in i 24 (by omega), ?_⟩)
  · have : i = N 2 := by omega
    subst this
    exact hp
  · rw [nI_clamp (by omega), mr5 (by omega)]
    refine ⟨fun c2 => ?_, fun c2 => ?_⟩
    · rintro _ rfl _ rfl
      refine ⟨n - 1, by omega, i + 1, by omega, nI_1 i, ?_, rfl⟩
      show _ = nI (ct i _ + (if (A 5 i 0 == y) = true then 1 else 0))
      rw [if_pos (beq_iff_eq.mpr c2), nI_1]
    · rintro _ rfl _ rfl
      refine ⟨n - 1, by omega, i + 1, by omega, nI_1 i, ?_, rfl⟩
      show _ = nI (ct i _ + (if (A 5 i 0 == y) = true then 1 else 0))
      rw [if_neg (fun z => c2 (beq_iff_eq.mp z))]
      exact Int32.add_zero _
theorem shA_d2 (hq : qN A b = q) : shA (au A 8 b 0 (A 8 b 0 - 1)) b p (q - 1) = dropA A b p := by
  rw [← shA_d hq]
  funext f i j
  by_cases c : f = 8
  · subst c
    rw [shA_f (by decide)]
    exact au_c (shA_f (by decide)).symm rfl
  · rw [au_f c]
    unfold shA
    rw [au_f c, au_f (by decide)]
theorem m_strike {post : VS → Prop} (hB : Bs N S ks V) (ht : t ≤ 1) (hb : b < N 2) (h8 : A 8 b 0 = nI (qN A b)) (hq : qN A b ≤ 10) (hp : p < qN A b) (hpo : post (mput t (dropA A b p) T V)) : wp_X9_strike ks t (nI b) (nI p) (mput t A T V) post := by
  have hn := hB.n
  rw [← shA_d2 rfl] at hpo
  generalize qN A b = q at h8 hq hp hpo
  refine ⟨hB.k16 ht, hB.km (by decide) (by decide) ht, pk_in b 24 (by omega), ?_⟩
  rw [nI_clamp (by omega), mr8 (by omega), mw8 (by omega)]
  rintro _ rfl
  have e8 : A 8 b 0 - 1 = nI (q - 1) := by rw [h8]; exact pk_sub (a := q) (b := 1) (by omega)
  have e8' : au A 8 b 0 (A 8 b 0 - 1) 8 b 0 = nI (q - 1) := au_at.trans e8
  generalize au A 8 b 0 (A 8 b 0 - 1) = A1 at hpo e8'
  rintro _ rfl
  rw [ix10]
  refine ⟨fun n x V' => ∃ i, p ≤ i ∧ i + n = q - 1 ∧ x = nI (10 * b + i) ∧ V' = mput t (shA A1 b p i) T V, ⟨q - 1 - p, p, by omega, by omega, rfl, by rw [shA_p]⟩, ?_⟩
  rintro n _ _ ⟨i, hpi, hi, rfl, rfl⟩
  refine ⟨hB.k16 ht, hB.km (by decide) (by decide) ht, pk_in b 24 (by omega), ?_⟩
  rw [nI_clamp (n := b) (by omega), mr8 (by omega), shA_f (by decide), e8', ix10]
  refine pk_le (10 * b + (q - 1)) (10 * b + i) (fun c => ?_) (fun c => ?_)
  · have : i = q - 1 := by omega
    subst this
    exact hpo
  · rw [nI_1]
    refine ⟨hB.km (by decide) (by decide) ht, pk_in (10 * b + i + 1) 240 (by omega), pk_in (10 * b + i) 240 (by omega), ?_⟩
    rw [nI_clamp (by omega), nI_clamp (by omega), Nat.add_assoc, mr9 (by omega) (by omega), shA_r (by omega), mw9 (by omega) (by omega), shA_s hpi]
    rintro _ rfl _ rfl
    exact ⟨n - 1, by omega, i + 1, by omega, by omega, rfl, rfl⟩
theorem m_lend {post : VS → Prop} (hB : Bs N S ks V) (ht : t ≤ 1) (hb : b < N 2) (hr : r < N 3) (hp : post (mput t (lendA A r b) T V)) : wp_X9_lend ks t (nI r) (nI b) (mput t A T V) post := by
  have hn := hB.n
  refine ⟨hB.k16 ht, hB.km (by decide) (by decide) ht, pk_in b 24 (by omega), ?_⟩
  rw [nI_clamp (by omega), mw5 (by omega)]
  rintro _ rfl
  refine ⟨hB.km (by decide) (by decide) ht, ?_⟩
  rw [mr0, mw17 (by omega), au_f (by decide)]
  rintro _ rfl
  refine ⟨hB.km (by decide) (by decide) ht, ?_⟩
  rw [mr7 (by omega), mw7 (by omega), au_f (by decide), au_f (by decide)]
  rintro _ rfl
  refine ⟨hB.km (by decide) (by decide) ht, pk_in r 10 (by omega), ?_⟩
  rw [nI_clamp (by omega), mr12 (by omega), mw12 (by omega), au_f (by decide), au_f (by decide), au_f (by decide)]
  rintro _ rfl
  refine ⟨hB.km (by decide) (by decide) ht, ?_⟩
  rw [mr10 (by omega), mw10 (by omega), au_f (by decide), au_f (by decide), au_f (by decide), au_f (by decide)]
  rintro _ rfl
  rw [mr16, mw16, au_f (by decide), au_f (by decide), au_f (by decide), au_f (by decide), au_f (by decide)]
  rintro _ rfl
  rw [mput_ext (A' := lendA A r b) (fun f i j h6 h13 => ?_)]
  · exact hp
  · by_cases c : f ∈ [5, 7, 10, 12, 16, 17]
    · simp only [List.mem_cons, List.not_mem_nil, or_false] at c
      rcases c with rfl | rfl | rfl | rfl | rfl | rfl <;> rfl
    · simp only [List.mem_cons, List.not_mem_nil, or_false, not_or] at c
      rw [lend_o (by simp [h6, h13, c]), au_f c.2.2.2.2.1, au_f c.2.2.1, au_f c.2.2.2.1, au_f c.2.1, au_f c.2.2.2.2.2, au_f c.1]
theorem m_choose {post : VS → Prop} (hB : Bs N S ks V) (ht : t ≤ 1) (hW : WF B N A) (hr : r < N 3) (hp : post (mput t (choA N S r A) T V)) : wp_X9_choose ks t (nI r) (mput t A T V) post := by
  have hn := hB.n
  have hX : Bs N S ks (mput t A T V) := hB.m
  refine ⟨fun n x V' => ∃ i, i + n = N 2 ∧ x = nI i ∧ (∀ j, j < i → okc S A r j = false) ∧ V' = mput t A T V, ⟨N 2, 0, by omega, rfl, fun j hj => absurd hj (Nat.not_lt_zero _), rfl⟩, ?_⟩
  rintro n _ _ ⟨i, hi, rfl, hno, rfl⟩
  refine ⟨hB.k16 ht, hB.k15, ?_⟩
  rw [hX.m6]
  refine pk_le (N 2) i (fun c => ?_) (fun c => ?_)
  · have : i = N 2 := by omega
    subst this
    unfold choA at hp
    rw [fnd_none hno, if_neg (Nat.lt_irrefl _)] at hp
    exact hp
  · have key : okc S A r i = false → ∀ y : Int32, y = nI i + 1 → ∃ n', n' < n ∧ ∃ i', i' + n' = N 2 ∧ y = nI i' ∧ (∀ j, j < i' → okc S A r j = false) ∧ mput t A T V = mput t A T V := by
      rintro hf _ rfl
      exact ⟨n - 1, by omega, i + 1, by omega, nI_1 i, fun j hj => by
        by_cases e : j = i
        · rw [e]; exact hf
        · exact hno j (by omega), rfl⟩
    have hs1 := hB.sbk c
    have hs2 := hB.srd hr
    have hq8 := WF_q hW hn.2.2.2 c
    refine ⟨hB.km (by decide) (by decide) ht, pk_in i 24 (by omega), ?_⟩
    rw [nI_clamp (by omega), mr5 (by omega), ix31]
    refine ⟨fun h5 => ⟨hB.k19, hB.k20, pk_in (3 * r + 1) 30 (by omega), ?_⟩, fun h5 => key ?_⟩
    · rw [nI_clamp (by omega), hX.mbk c, (hX.mrd hr).2.1]
      refine pk_eq (S 24 i) (S 26 r) (fun c1 => ⟨hB.km (by decide) (by decide) ht, ?_⟩) (fun c1 => key (by unfold okc; rw [beq_eq_false_iff_ne.mpr c1]; simp))
      rw [mr8 (by omega), hq8.1]
      refine pk_lt (x := 0) 0 (qN A i) (fun c2 => key (by unfold okc; rw [beq_eq_false_iff_ne.mpr (by omega : qN A i ≠ 0)]; simp)) (fun c2 => ⟨hB.km (by decide) (by decide) ht, pk_in r 10 (by omega), ?_⟩)
      rw [nI_clamp (by omega), mr10 (by omega)]
      refine ⟨fun c3 => key (by unfold okc; rw [c3]; simp), fun c3 => m_lend hB ht c hr ?_⟩
      have hok : okc S A r i = true := by
        unfold okc; rw [h5, c1, (by omega : qN A i = 0), beq_eq_false_iff_ne.mpr c3]; simp
      unfold choA at hp
      rw [fnd_at c hok hno, if_pos c] at hp
      exact hp
    · unfold okc; rw [beq_eq_false_iff_ne.mpr h5]; simp
theorem pen_eq {x : Int32} {k : Nat} (h1 : 1 ≤ k) (h2 : k ≤ 30) (h : nI k ≤ x) : (if (0 : Int32) < x - 14 then x - 14 else 0) = if x ≤ 14 then 0 else x - 14 := by
  have h0 : ¬ x < 0 := by
    have a := Int32.le_iff_toInt_le.mp h
    rw [nI_toInt (by omega)] at a
    intro z
    have b := Int32.lt_iff_toInt_lt.mp z
    have c : (0 : Int32).toInt = 0 := by decide
    omega
  obtain ⟨j, hj, rfl⟩ := nI_of h0
  by_cases c : j ≤ 14
  · rw [if_pos (show nI j ≤ 14 from nI_le (b := 14) c (by decide))]
    by_cases c2 : j = 14
    · subst c2; decide
    · rw [if_neg (fun z => ?_)]
      have := pk_sneg (a := j) (b := 14) (by decide) (by omega)
      have a := Int32.lt_iff_toInt_lt.mp this
      have b := Int32.lt_iff_toInt_lt.mp z
      have c : (0 : Int32).toInt = 0 := by decide
      have d : nI j - 14 = nI j - nI 14 := rfl
      rw [d] at b
      omega
  · rw [if_neg (show ¬ nI j ≤ 14 from nI_ge (a := 14) (by omega) hj), show nI j - 14 = nI (j - 14) from pk_sub (a := j) (b := 14) (by omega), if_pos (show (0 : Int32) < nI (j - 14) from nI_lt (a := 0) (by omega) (by omega))]
end
