/-! a new thing in both worlds of the class -/
def nN (N : Nat → Nat) (K : Nat) : Nat → Nat := fun j => if j = K then N K + 1 else N j
def W2 (V : VS) (K n : Nat) (X : Nat → Nat → Nat → Int32) : VS := VN (VN V K 0 n X) K 1 n X
def ks2 (ks : List KY) (K n : Nat) : List KY := ksN (ksN ks K 0 n) K 1 n
section
variable {B : Nat} {N : Nat → Nat} {S S' : Nat → Nat → Nat} {ks : List KY} {V V' : VS} {X : Nat → Nat → Nat → Int32} {w t h l b r i p q k n c a m e s K f j : Nat} {A A' : AF}
theorem nN_K : nN N K K = N K + 1 := if_pos rfl
theorem nN_o (h : i ≠ K) : nN N K i = N i := if_neg h
theorem mem_ksN {x : KY} : x ∈ ksN ks K w n ↔ (n = 0 ∧ x = (3, w, K)) ∨ x ∈ newL K w n ∨ x ∈ ks := by
  unfold ksN
  rw [List.mem_append, List.mem_append]
  by_cases c : n = 0
  · rw [if_pos c, List.mem_singleton]
    exact ⟨fun z => z.imp (fun q => ⟨c, q⟩) id, fun z => z.imp (fun q => q.2) id⟩
  · rw [if_neg c]
    exact ⟨fun z => z.elim (fun q => absurd q List.not_mem_nil) Or.inr, fun z => z.elim (fun q => absurd q.1 c) Or.inr⟩
theorem VN_r (h2 : ¬ (k = 2 ∧ w = b ∧ i = K ∧ f = 2 ∧ j = 0)) (hn : ¬ (w = b ∧ i = n ∧ (k = 4 + K ∨ (K = 2 ∧ (k = 8 ∨ k = 9))))) : VN V K b n X k w i f j = V k w i f j := by
  unfold VN
  rw [if_neg h2, if_neg hn]
theorem W2_o (h2 : ¬ (k = 2 ∧ i = K ∧ f = 2 ∧ j = 0)) (hn : ¬ (i = n ∧ (k = 4 + K ∨ (K = 2 ∧ (k = 8 ∨ k = 9))))) : W2 V K n X k w i f j = V k w i f j := by
  unfold W2
  rw [VN_r (fun z => h2 ⟨z.1, z.2.2⟩) (fun z => hn z.2), VN_r (fun z => h2 ⟨z.1, z.2.2⟩) (fun z => hn z.2)]
theorem W2_n (hw : w ≤ 1) (hk : k = 4 + K ∨ (K = 2 ∧ (k = 8 ∨ k = 9))) : W2 V K n X k w n f j = X k f j := by
  unfold W2
  rcases (by omega : w = 0 ∨ w = 1) with rfl | rfl
  · rw [VN_r (by omega) (by omega)]
    unfold VN
    rw [if_neg (by omega), if_pos ⟨rfl, rfl, hk⟩]
  · unfold VN
    rw [if_neg (by omega), if_pos ⟨rfl, rfl, hk⟩]
theorem W2_2 (hw : w ≤ 1) : W2 V K n X 2 w K 2 0 = nI (n + 1) := by
  unfold W2
  rcases (by omega : w = 0 ∨ w = 1) with rfl | rfl
  · rw [VN_r (by omega) (by omega)]
    unfold VN
    rw [if_pos ⟨rfl, rfl, rfl, rfl, rfl⟩]
  · unfold VN
    rw [if_pos ⟨rfl, rfl, rfl, rfl, rfl⟩]
theorem live_hi {N' : Nat → Nat} (hk : 10 ≤ k) : live N (k, w, i) = live N' (k, w, i) := by
  unfold live
  split <;> first | rfl | (rename_i hh; simp at hh; omega)
theorem lv4 : live N (4, w, i) = true ↔ w ≤ 1 ∧ i < N 0 := ⟨fun h => of_decide_eq_true h, fun h => decide_eq_true h⟩
theorem lv5 : live N (5, w, i) = true ↔ w ≤ 1 ∧ i < N 1 := ⟨fun h => of_decide_eq_true h, fun h => decide_eq_true h⟩
theorem lv6 : live N (6, w, i) = true ↔ w ≤ 1 ∧ i < N 2 := ⟨fun h => of_decide_eq_true h, fun h => decide_eq_true h⟩
theorem lv7 : live N (7, w, i) = true ↔ w ≤ 1 ∧ i < N 3 := ⟨fun h => of_decide_eq_true h, fun h => decide_eq_true h⟩
theorem lv8 : live N (8, w, i) = true ↔ w ≤ 1 ∧ i < N 2 := ⟨fun h => of_decide_eq_true h, fun h => decide_eq_true h⟩
theorem lv9 : live N (9, w, i) = true ↔ w ≤ 1 ∧ i < N 2 := ⟨fun h => of_decide_eq_true h, fun h => decide_eq_true h⟩
theorem lv3 : live N (3, w, i) = true ↔ w ≤ 1 ∧ i ≤ 3 ∧ N i ≠ 0 := ⟨fun h => of_decide_eq_true h, fun h => decide_eq_true h⟩
theorem live_new (hK : K ≤ 3) : live (nN N K) (k, w, i) = true ↔ (w ≤ 1 ∧ ((N K = 0 ∧ k = 3 ∧ i = K) ∨ (i = N K ∧ (k = 4 + K ∨ (K = 2 ∧ (k = 8 ∨ k = 9)))))) ∨ live N (k, w, i) = true := by
  by_cases hk : 10 ≤ k
  · rw [live_hi (N' := N) hk]
    exact ⟨Or.inr, fun z => z.elim (fun q => by omega) id⟩
  · rcases (by omega : k = 0 ∨ k = 1 ∨ k = 2 ∨ k = 3 ∨ k = 4 ∨ k = 5 ∨ k = 6 ∨ k = 7 ∨ k = 8 ∨ k = 9) with rfl | rfl | rfl | rfl | rfl | rfl | rfl | rfl | rfl | rfl
    · simp [live]; omega
    · simp [live]; omega
    · simp [live]; omega
    · rw [lv3, lv3]
      by_cases c : i = K
      · subst c; rw [nN_K]; omega
      · rw [nN_o c]; omega
    · rw [lv4, lv4]
      by_cases c : K = 0
      · subst c; rw [nN_K]; omega
      · rw [nN_o (Ne.symm c)]; omega
    · rw [lv5, lv5]
      by_cases c : K = 1
      · subst c; rw [nN_K]; omega
      · rw [nN_o (Ne.symm c)]; omega
    · rw [lv6, lv6]
      by_cases c : K = 2
      · subst c; rw [nN_K]; omega
      · rw [nN_o (Ne.symm c)]; omega
    · rw [lv7, lv7]
      by_cases c : K = 3
      · subst c; rw [nN_K]; omega
      · rw [nN_o (Ne.symm c)]; omega
    · rw [lv8, lv8]
      by_cases c : K = 2
      · subst c; rw [nN_K]; omega
      · rw [nN_o (Ne.symm c)]; omega
    · rw [lv9, lv9]
      by_cases c : K = 2
      · subst c; rw [nN_K]; omega
      · rw [nN_o (Ne.symm c)]; omega
theorem ks2_live (hB : Bs N S ks V) (hK : K ≤ 3) (x : KY) : x ∈ ks2 ks K (N K) ↔ live (nN N K) x = true := by
  obtain ⟨k, w, i⟩ := x
  unfold ks2
  rw [live_new hK, mem_ksN, mem_ksN, newL_iff, newL_iff, hB.2.1 (k, w, i)]
  unfold isNew
  simp only [Prod.mk.injEq]
  constructor
  · rintro (⟨h0, h1, h2, h3⟩ | ⟨h1, h2, h3⟩ | ⟨h0, h1, h2, h3⟩ | ⟨h1, h2, h3⟩ | h)
    · exact Or.inl ⟨by omega, Or.inl ⟨h0, h1, h3⟩⟩
    · exact Or.inl ⟨by omega, Or.inr ⟨h2, h3⟩⟩
    · exact Or.inl ⟨by omega, Or.inl ⟨h0, h1, h3⟩⟩
    · exact Or.inl ⟨by omega, Or.inr ⟨h2, h3⟩⟩
    · exact Or.inr h
  · rintro (⟨hw, ⟨h0, h1, h2⟩ | ⟨h1, h2⟩⟩ | h)
    · rcases (by omega : w = 0 ∨ w = 1) with rfl | rfl
      · exact Or.inr (Or.inr (Or.inl ⟨h0, h1, rfl, h2⟩))
      · exact Or.inl ⟨h0, h1, rfl, h2⟩
    · rcases (by omega : w = 0 ∨ w = 1) with rfl | rfl
      · exact Or.inr (Or.inr (Or.inr (Or.inl ⟨rfl, h1, h2⟩)))
      · exact Or.inr (Or.inl ⟨rfl, h1, h2⟩)
    · exact Or.inr (Or.inr (Or.inr (Or.inr h)))
theorem add_fresh (hB : Bs N S ks V) (hK : K ≤ 3) (hi : i = N K) (hk : k = 4 + K ∨ (K = 2 ∧ (k = 8 ∨ k = 9))) : (k, w, i) ∉ ks := by
  intro hx
  have h := (hB.2.1 _).mp hx
  rcases (by omega : K = 0 ∨ K = 1 ∨ K = 2 ∨ K = 3) with rfl | rfl | rfl | rfl
  · obtain rfl : k = 4 := by omega
    have := of_decide_eq_true h
    dsimp only at this
    omega
  · obtain rfl : k = 5 := by omega
    have := of_decide_eq_true h
    dsimp only at this
    omega
  · rcases (by omega : k = 6 ∨ k = 8 ∨ k = 9) with rfl | rfl | rfl <;> · have := of_decide_eq_true h; dsimp only at this; omega
  · obtain rfl : k = 7 := by omega
    have := of_decide_eq_true h
    dsimp only at this
    omega
theorem add_old (hB : Bs N S ks V) (hK : K ≤ 3) (hw : w ≤ 1) (hi : i < N K) : (4 + K, w, i) ∈ ks := by
  rcases (by omega : K = 0 ∨ K = 1 ∨ K = 2 ∨ K = 3) with rfl | rfl | rfl | rfl
  · exact hB.k4 hw hi
  · exact hB.k5 hw hi
  · exact hB.k6 hw hi
  · exact hB.k7 hw hi
theorem k3_iff (hB : Bs N S ks V) : (3, w, i) ∈ ks ↔ w ≤ 1 ∧ i ≤ 3 ∧ N i ≠ 0 := by
  rw [hB.2.1]
  exact ⟨fun h => of_decide_eq_true h, fun h => decide_eq_true h⟩
theorem add_ok1 (hB : Bs N S ks V) (hK : K ≤ 3) (hn : N K < 24) : AddOK ks V 0 K (N K) := by
  refine ⟨hn, hK, hB.sz (Nat.zero_le _) hK, hB.k2 (Nat.zero_le _) hK, fun h0 => (k3_iff hB).mpr ⟨Nat.zero_le _, hK, h0⟩, fun h0 z => ((k3_iff hB).mp z).2.2 h0, fun j hj => add_old hB hK (Nat.zero_le _) hj, fun x hx => ?_, fun w' i h => ((k3_iff hB).mp h).2.1⟩
  obtain ⟨k, w', i⟩ := x
  have := newL_iff.mp hx
  exact add_fresh hB hK this.2.1 this.2.2
theorem add_ok2 (hB : Bs N S ks V) (hK : K ≤ 3) (hn : N K < 24) : AddOK (ksN ks K 0 (N K)) (VN V K 0 (N K) X) 1 K (N K) := by
  have h11 : (1 : Nat) ≤ 1 := Nat.le_refl _
  have up : ∀ {x : KY}, x ∈ ks → x ∈ ksN ks K 0 (N K) := fun h => mem_ksN.mpr (Or.inr (Or.inr h))
  refine ⟨hn, hK, ?_, up (hB.k2 h11 hK), fun h0 => up ((k3_iff hB).mpr ⟨h11, hK, h0⟩), fun h0 z => ?_, fun j hj => up (add_old hB hK h11 hj), fun x hx z => ?_, fun w' i h => ?_⟩
  · rw [VN_r (by omega) (by omega)]; exact hB.sz h11 hK
  · rcases mem_ksN.mp z with q | q | q
    · have := q.2
      simp only [Prod.mk.injEq] at this
      omega
    · have := newL_iff.mp q
      have := this.1
      omega
    · exact ((k3_iff hB).mp q).2.2 h0
  · obtain ⟨k, w', i⟩ := x
    have h1 := newL_iff.mp hx
    rcases mem_ksN.mp z with q | q | q
    · have := q.2
      simp only [Prod.mk.injEq] at this
      have := h1.1
      omega
    · have := (newL_iff.mp q).1
      have := h1.1
      omega
    · exact add_fresh hB hK h1.2.1 h1.2.2 q
  · rcases mem_ksN.mp h with q | q | q
    · have := q.2
      simp only [Prod.mk.injEq] at this
      omega
    · have := (newL_iff.mp q).2.2
      omega
    · exact ((k3_iff hB).mp q).2.1
theorem add_up {x : KY} (h : x ∈ ks) : x ∈ ksN ks K w n := mem_ksN.mpr (Or.inr (Or.inr h))
end
