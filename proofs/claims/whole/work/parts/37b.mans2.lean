/-! the model's answers: readers, counts -/
section
variable {B : Nat} {N : Nat → Nat} {S : Nat → Nat → Nat} {ks : List KY} {V X : VS} {t h l b r i p q k n c a : Nat} {A : AF} {T : Nat → Int32} {x : Int32}
theorem m_readerTold {post : Int32 → VS → Prop} (hB : Bs N S ks V) (hW : WF B N A) (hr : r < N 3) (ha : a < 8) (hp : post (ansR N S A r a) (mput 0 A T V)) : wp_X10_readerTold ks (nI r) (nI a) (mput 0 A T V) post := by
  have hn := hB.n
  have h01 : (0 : Nat) ≤ 1 := Nat.zero_le _
  have hX : Bs N S ks (mput 0 A T V) := hB.m
  have hmr := hX.mrd hr
  refine pk_le (x := 3) 3 a (fun c3 => ?_) (fun c3 => ⟨hX.k15, hX.k20, ?_⟩)
  · refine ⟨fun n x3 x4 V' => ∃ i, i + n = N 2 ∧ x4 = nI i ∧ x3 = nI (ct i (fun b => decide (plc A b r < qN A b))) ∧ V' = mput 0 A T V, ⟨N 2, 0, by omega, rfl, rfl, rfl⟩, ?_⟩
    rintro n _ _ _ ⟨i, hi, rfl, rfl, rfl⟩
    refine ⟨hX.k15, ?_⟩
    rw [hX.m6]
    refine pk_le (N 2) i (fun c => ?_) (fun c => ⟨hX.k16 h01, ?_⟩)
    · have : i = N 2 := by omega
      subst this
      refine pk_eq (y := 3) a 3 (fun z => ⟨hX.k16 h01, m_many hB h01 ?_⟩) (fun z3 => pk_eq (y := 4) a 4 (fun z => ⟨hX.k16 h01, hX.km (by decide) (by decide) h01, pk_in r 10 (by omega), ?_⟩) (fun z4 => pk_eq (y := 5) a 5 (fun z => ⟨hX.k16 h01, hX.km (by decide) (by decide) h01, pk_in r 10 (by omega), ?_⟩) (fun z5 => pk_eq (y := 6) a 6 (fun z => ?_) (fun z6 => ⟨hX.k16 h01, hX.km (by decide) (by decide) h01, pk_in r 10 (by omega), ?_⟩))))
      · subst z
        have hp : post (A 13 r 0) (mput 0 A T V) := hp
        rw [(hW.lt hr).2] at hp
        exact hp
      · subst z
        rw [nI_clamp (by omega), mr10 (by omega)]
        exact t_bits hp
      · subst z
        rw [nI_clamp (by omega), mr11 (by omega)]
        exact hp
      · subst z
        exact hp
      · obtain rfl : a = 7 := by omega
        rw [nI_clamp (by omega), mr12 (by omega)]
        exact hp
    · have hq8 := WF_q hW hn.2.2.2 c
      refine m_placeOf hB h01 c hq8.1 (by omega) ⟨fun c2 => ?_, fun c2 => ?_⟩
      · rw [plI_m1 (by omega)] at c2
        rintro _ rfl _ rfl
        exact ⟨n - 1, by omega, i + 1, by omega, nI_1 i, ct_f0 (p := fun b => decide (plc A b r < qN A b)) (decide_eq_false c2), rfl⟩
      · rw [plI_m1 (by omega)] at c2
        rintro _ rfl _ rfl
        exact ⟨n - 1, by omega, i + 1, by omega, nI_1 i, ct_t (p := fun b => decide (plc A b r < qN A b)) (decide_eq_true (Classical.byContradiction c2)), rfl⟩
  · have e : (3 : Int32) * nI r + nI a = nI (3 * r + a) := by rw [ix3, nI_add]
    rw [e]
    refine ⟨pk_in (3 * r + a) 30 (by omega), ?_⟩
    rw [nI_clamp (by omega)]
    rcases (by omega : a = 0 ∨ a = 1 ∨ a = 2) with rfl | rfl | rfl
    · rw [Nat.add_zero, hmr.1]; exact hp
    · rw [hmr.2.1]; exact hp
    · rw [hmr.2.2]; exact hp
theorem m_counted {post : Int32 → VS → Prop} (hB : Bs N S ks V) (hW : WF B N A) (ha : a < 10) (hp : post (ansC N A a) (mput 0 A T V)) : wp_X10_counted ks (nI a) (mput 0 A T V) post := by
  have hn := hB.n
  have h01 : (0 : Nat) ≤ 1 := Nat.zero_le _
  have hX : Bs N S ks (mput 0 A T V) := hB.m
  refine ⟨fun n x2 x3 V' => ∃ i, i + n = N 1 ∧ x3 = nI i ∧ x2 = nI (ct i (fun l => !useL A l)) ∧ V' = mput 0 A T V, ⟨N 1, 0, by omega, rfl, rfl, rfl⟩, ?_⟩
  rintro n _ _ _ ⟨i, hi, rfl, rfl, rfl⟩
  refine ⟨hX.k15, ?_⟩
  rw [hX.m2]
  refine pk_le (N 1) i (fun c => ?_) (fun c => ⟨hX.k16 h01, ?_⟩)
  · have : i = N 1 := by omega
    subst this
    refine ⟨hX.k16 h01, m_many hB h01 (m_owed hB h01 ⟨pk_in a 10 ha, ?_⟩)⟩
    rw [nI_clamp (n := a) (by omega), mr0, hX.m1, hX.m6, hX.m8, mr16, mr1]
    simp only [up10]
    rcases (by omega : a = 0 ∨ a = 1 ∨ a = 2 ∨ a = 3 ∨ a = 4 ∨ a = 5 ∨ a = 6 ∨ a = 7 ∨ a = 8 ∨ a = 9) with rfl | rfl | rfl | rfl | rfl | rfl | rfl | rfl | rfl | rfl
    · exact hp
    · exact hp
    · exact hp
    · exact hp
    · exact hp
    · exact hp
    · have hp : post (lentS N A) (mput 0 A T V) := hp
      rw [show lentS N A = A 16 0 0 from hW.2.2.2.2.2.2.1.symm] at hp
      exact hp
    · exact hp
    · exact hp
    · exact hp
  · refine t_mmin hB h01 hW.2.1 c ?_
    have hcs : cst S A i ≤ 60 := by have := m_mud hW.2.1 c; have := hB.sln c; unfold cst; omega
    by_cases cu : useL A i = true
    · rw [if_pos cu]
      refine ⟨fun z => absurd z (nI_m1 (by omega)), fun _ => ?_⟩
      rintro _ rfl _ rfl
      exact ⟨n - 1, by omega, i + 1, by omega, nI_1 i, ct_f0 (p := fun l => !useL A l) (by rw [cu]; rfl), rfl⟩
    · rw [if_neg cu]
      refine ⟨fun _ => ?_, fun z => absurd rfl z⟩
      rintro _ rfl _ rfl
      exact ⟨n - 1, by omega, i + 1, by omega, nI_1 i, ct_t (p := fun l => !useL A l) (by rw [Bool.eq_false_iff.mpr cu]; rfl), rfl⟩
end
