/-! the model serves a halt: readers one by one -/
def Qb (N : Nat → Nat) (S : Nat → Nat → Nat) (A : AF) (h r i x : Nat) : Bool := due N S A h x && (decide (hN A x < r) || ((hN A x == r) && decide (x < i)))
def Qv (N : Nat → Nat) (S : Nat → Nat → Nat) (A : AF) (h r i x : Nat) : Bool := Lb N S A h x && (decide (fr A x < r) || ((fr A x == r) && decide (x < i)))
section
variable {B : Nat} {N : Nat → Nat} {S : Nat → Nat → Nat} {ks : List KY} {V X : VS} {t h b r i p q x n : Nat} {A : AF} {T : Nat → Int32} {Q : Nat → Bool}
theorem qz {P : Bool} {a r i x : Nat} (h : ¬ (P = true ∧ a = r ∧ x = i)) : (P && (decide (a < r) || ((a == r) && decide (x < i + 1)))) = (P && (decide (a < r) || ((a == r) && decide (x < i)))) := by
  by_cases c1 : P = true
  · by_cases c2 : a = r
    · rw [show decide (x < i + 1) = decide (x < i) from decide_eq_decide.mpr (by have : x ≠ i := fun z => h ⟨c1, c2, z⟩; omega)]
    · rw [beq_eq_false_iff_ne.mpr c2, Bool.false_and, Bool.false_and]
  · rw [Bool.eq_false_iff.mpr c1, Bool.false_and, Bool.false_and]
theorem qs {P : Bool} {a r i x : Nat} (hx : x ≠ i) : (P && (decide (a < r) || ((a == r) && decide (x < i + 1)))) = ((P && (decide (a < r) || ((a == r) && decide (x < i)))) || x == i) := by
  rw [beq_eq_false_iff_ne.mpr hx, Bool.or_false]
  exact qz (fun z => hx z.2.2)
theorem qe {P : Bool} {a r n x : Nat} (hx : P = true → x < n) : (P && (decide (a < r) || ((a == r) && decide (x < n)))) = (P && (decide (a < r + 1) || ((a == r + 1) && decide (x < 0)))) := by
  by_cases c1 : P = true
  · rw [decide_eq_true (hx c1), decide_eq_false (Nat.not_lt_zero x), Bool.and_false, Bool.or_false, Bool.and_true]
    congr 1
    by_cases c : a = r
    · subst c; rw [beq_self_eq_true, Bool.or_true, decide_eq_true (Nat.lt_succ_self _)]
    · rw [beq_eq_false_iff_ne.mpr c, Bool.or_false]
      exact decide_eq_decide.mpr (by omega)
  · rw [Bool.eq_false_iff.mpr c1, Bool.false_and, Bool.false_and]
theorem qn {P : Bool} {a r x : Nat} (hx : P = true → a ≠ r) : (P && (decide (a < r) || ((a == r) && decide (x < 0)))) = (P && (decide (a < r + 1) || ((a == r + 1) && decide (x < 0)))) := by
  by_cases c1 : P = true
  · rw [decide_eq_false (Nat.not_lt_zero x), Bool.and_false, Bool.and_false, Bool.or_false, Bool.or_false]
    congr 1
    have := hx c1
    exact decide_eq_decide.mpr (by omega)
  · rw [Bool.eq_false_iff.mpr c1, Bool.false_and, Bool.false_and]
theorem m_bring {post : VS → Prop} (hB : Bs N S ks V) (ht : t ≤ 1) (hW : WF B N A) (hr : r < N 3) (hh : S 25 r = h) (hW0 : WF B N (bkA N A (Qb N S A h r 0))) (hp : WF B N (bkA N A (Qb N S A h (r + 1) 0)) → post (mput t (bkA N A (Qb N S A h (r + 1) 0)) T V)) : wp_X9_bringBack ks t (nI r) (mput t (bkA N A (Qb N S A h r 0)) T V) post := by
  have hn := hB.n
  refine ⟨fun n x V' => ∃ i, i + n = N 2 ∧ x = nI i ∧ WF B N (bkA N A (Qb N S A h r i)) ∧ V' = mput t (bkA N A (Qb N S A h r i)) T V, ⟨N 2, 0, by omega, rfl, hW0, rfl⟩, ?_⟩
  rintro n _ _ ⟨i, hi, rfl, hWi, rfl⟩
  have hX : Bs N S ks (mput t (bkA N A (Qb N S A h r i)) T V) := hB.m
  refine ⟨hB.k16 ht, hB.k15, ?_⟩
  rw [hX.m6]
  refine pk_le (N 2) i (fun c => ?_) (fun c => ?_)
  · have : i = N 2 := by omega
    subst this
    have e : bkA N A (Qb N S A h r (N 2)) = bkA N A (Qb N S A h (r + 1) 0) := bk_congr (fun x => qe (fun z => (due_h hW hn.2.2.2 z).1))
    rw [e] at hWi ⊢
    exact hp hWi
  have key : ∀ V9, WF B N (bkA N A (Qb N S A h r (i + 1))) → V9 = mput t (bkA N A (Qb N S A h r (i + 1))) T V → ∀ y : Int32, y = nI i + 1 → ∃ n', n' < n ∧ ∃ i', i' + n' = N 2 ∧ y = nI i' ∧ WF B N (bkA N A (Qb N S A h r i')) ∧ V9 = mput t (bkA N A (Qb N S A h r i')) T V := by
    rintro _ h9 rfl _ rfl
    exact ⟨n - 1, by omega, i + 1, by omega, nI_1 i, h9, rfl⟩
  have keyN : ¬ (due N S A h i = true ∧ hN A i = r) → ∀ y : Int32, y = nI i + 1 → ∃ n', n' < n ∧ ∃ i', i' + n' = N 2 ∧ y = nI i' ∧ WF B N (bkA N A (Qb N S A h r i')) ∧ mput t (bkA N A (Qb N S A h r i)) T V = mput t (bkA N A (Qb N S A h r i')) T V := fun c => by
    have e : bkA N A (Qb N S A h r (i + 1)) = bkA N A (Qb N S A h r i) := bk_congr (fun x => qz (fun z => c (by rw [← z.2.2]; exact ⟨z.1, z.2.1⟩)))
    exact key _ (by rw [e]; exact hWi) (by rw [e])
  refine ⟨hB.km (by decide) (by decide) ht, pk_in i 24 (by omega), ?_⟩
  rintro _ rfl
  refine ⟨hB.km (by decide) (by decide) ht, ?_⟩
  rw [nI_clamp (by omega), mr5 (by omega), mr0, mr17 (by omega), bk5, bkf (by decide), bkf (by decide)]
  by_cases cQ : Qb N S A h r i i = true
  · have hr9 : hN A i < r ∧ due N S A h i = true := by
      unfold Qb at cQ
      rw [Bool.and_eq_true, decide_eq_false (Nat.lt_irrefl i), Bool.and_false, Bool.or_false, decide_eq_true_eq] at cQ
      exact ⟨cQ.2, cQ.1⟩
    rw [if_pos ⟨rfl, cQ⟩]
    exact ⟨fun z => absurd z.symm (nI_m1 (by omega)), fun _ => keyN (fun z => by omega)⟩
  · have hQ : Qb N S A h r i i = false := Bool.eq_false_iff.mpr cQ
    rw [if_neg (fun z => cQ z.2)]
    refine ⟨fun c5 => ?_, fun c5 => keyN (fun z => c5 (by have := (due_h hW hn.2.2.2 z.1).2.1; rw [this, z.2]))⟩
    have hhn : hN A i = r := by unfold hN; rw [c5]; exact nI_clamp (by omega)
    have h17 : A 17 i 0 = A 6 i 0 := by
      rcases hW.2.2.2.2.1 i c with z | z
      · rw [z.1] at c5; exact absurd c5.symm (nI_m1 (by omega))
      · exact z.2
    have hs := hB.srd hr
    rw [ix32]
    refine ⟨hB.k20, pk_in (3 * r + 2) 30 (by omega), ?_⟩
    rw [nI_clamp (by omega), (hX.mrd hr).2.2, h17]
    have hdue : due N S A h i = !decide (A 0 0 0 - A 6 i 0 < nI (S 27 r)) := by
      unfold due
      rw [hhn, decide_eq_true c, decide_eq_true (show A 5 i 0 ≠ -1 by rw [c5]; exact nI_m1 (by omega)), hh, beq_self_eq_true]; rfl
    refine ⟨fun c27 => ?_, fun c27 => keyN (fun z => by rw [hdue, decide_eq_true (Int32.not_le.mp c27)] at z; exact Bool.noConfusion z.1)⟩
    have hd : due N S A h i = true := by rw [hdue, decide_eq_false (Int32.not_lt.mpr c27)]; rfl
    obtain ⟨es, hWs⟩ := bk_step (Q' := Qb N S A h r (i + 1)) hn.2.2.2 hW hWi hd hQ (fun x => by
      by_cases e : x = i
      · subst e
        unfold Qb
        rw [hd, hhn, beq_self_eq_true, beq_self_eq_true, decide_eq_true (Nat.lt_succ_self x)]; simp
      · exact qs e)
    rintro _ rfl
    refine ⟨hB.km (by decide) (by decide) ht, pk_in r 10 (by omega), ?_⟩
    rw [nI_clamp (by omega), mw5 (by omega), mr11 (by omega), mw11 (by omega), au_f (by decide), pen_eq hs.2.2.1 hs.2.2.2 c27]
    rintro _ rfl
    refine key _ hWs ?_
    rw [es, hhn]
    unfold backA pen
    refine mput_ext (fun f i' j h6 h13 => au_c ?_ rfl)
    rw [au_f h13, au_f h6]
end
