/-! pure: which reserved books are lent; the others; serving a halt -/
theorem ct_cut {n i : Nat} {p : Nat → Bool} (hi : i ≤ n) : ct n (fun x => decide (x < i) && p x) = ct i p := by
  induction n with
  | zero => rw [show i = 0 by omega]; rfl
  | succ n ih =>
    by_cases c : i = n + 1
    · rw [c]
      exact ct_congr (fun x hx => by rw [decide_eq_true hx, Bool.true_and])
    · show ct n _ + (if (decide (n < i) && p n) = true then 1 else 0) = ct i p
      rw [ih (by omega), decide_eq_false (by omega), Bool.false_and]
      rfl
def can (N : Nat → Nat) (S : Nat → Nat → Nat) (A : AF) (h b : Nat) : Bool := decide (b < N 2) && (A 5 b 0 == -1) && decide (0 < qN A b) && (S 25 (fr A b) == h)
def hc (A : AF) (r : Nat) : Nat := (A 13 r 0).toNatClampNeg
def rl (N : Nat → Nat) (S : Nat → Nat → Nat) (A : AF) (h : Nat) : Nat → Nat → Nat
  | 0, _ => 0
  | b + 1, r => rl N S A h b r + (if (can N S A h b && (fr A b == r) && decide (hc A r + rl N S A h b r < 3)) = true then 1 else 0)
def Lb (N : Nat → Nat) (S : Nat → Nat → Nat) (A : AF) (h b : Nat) : Bool := can N S A h b && decide (hc A (fr A b) + rl N S A h b (fr A b) < 3)
section
variable {B : Nat} {N : Nat → Nat} {A : AF} {Q Q' : Nat → Bool} {i j b r h : Nat} {S : Nat → Nat → Nat}
theorem rl_ct : rl N S A h i r = ct i (fun b => Lb N S A h b && (fr A b == r)) := by
  induction i with
  | zero => rfl
  | succ i ih =>
    show rl N S A h i r + (if (can N S A h i && (fr A i == r) && decide (hc A r + rl N S A h i r < 3)) = true then 1 else 0) = ct i (fun b => Lb N S A h b && (fr A b == r)) + (if (Lb N S A h i && (fr A i == r)) = true then 1 else 0)
    rw [← ih]
    congr 1
    by_cases c : fr A i = r
    · subst c
      unfold Lb
      rw [beq_self_eq_true, Bool.and_true, Bool.and_true]
    · rw [beq_eq_false_iff_ne.mpr c, Bool.and_false, Bool.false_and, Bool.and_false]
theorem Lb_can (hL : Lb N S A h b = true) : b < N 2 ∧ A 5 b 0 = -1 ∧ 0 < qN A b ∧ S 25 (fr A b) = h ∧ hc A (fr A b) + rl N S A h b (fr A b) < 3 := by
  unfold Lb can at hL
  simp only [Bool.and_eq_true, decide_eq_true_eq, beq_iff_eq] at hL
  exact ⟨hL.1.1.1.1, hL.1.1.1.2, hL.1.1.2, hL.1.2, hL.2⟩
theorem WF_fr (hW : WF B N A) (hn : N 3 ≤ 10) (hb : b < N 2) (hq : 0 < qN A b) : A 9 b 0 = nI (fr A b) ∧ fr A b < N 3 := by
  obtain ⟨q, hq2, e, g1, -⟩ := hW.2.2.2.1 b hb
  have eq : qN A b = q := by unfold qN; rw [e]; exact nI_clamp (by omega)
  obtain ⟨r, hr, er⟩ := g1 0 (by omega)
  have : fr A b = r := by unfold fr; rw [er]; exact nI_clamp (by omega)
  rw [this]
  exact ⟨er, hr⟩
theorem WF_hc (hW : WF B N A) (hr : r < N 3) : A 13 r 0 = nI (hc A r) ∧ hc A r ≤ 3 ∧ hc A r = ct (N 2) (fun b => A 5 b 0 == nI r) := by
  have h0 := hW.lt hr
  have e : hc A r = ct (N 2) (fun b => A 5 b 0 == nI r) := by unfold hc; rw [h0.2]; exact nI_clamp (by omega)
  rw [e]
  exact ⟨h0.2, h0.1, rfl⟩
theorem rv_has (hW : WF B N A) (hr : r < N 3) (hq : ct (N 2) (fun x => Q x && (fr A x == r)) = j) : rvA N A Q 13 r 0 = nI (hc A r + j) := by
  rw [rv13, if_pos ⟨rfl, hr⟩, hq, (WF_hc hW hr).1, nI_add]
theorem rv_step (hn : N 3 ≤ 10) (hn2 : N 2 ≤ 24) (hW : WF B N A) (hX : WF B N (rvA N A Q)) (hL : Lb N S A h b = true) (hQ : Q b = false) (hQ' : ∀ x, Q' x = (Q x || x == b)) (hq : ct (N 2) (fun x => Q x && (fr A x == fr A b)) = rl N S A h b (fr A b)) :
    rvA N A Q' = lendA (dropA (rvA N A Q) b 0) (fr A b) b ∧ WF B N (rvA N A Q') := by
  obtain ⟨hb, h5, h8, h25, h3⟩ := Lb_can hL
  obtain ⟨e9, hr⟩ := WF_fr hW hn hb h8
  have e := rv_s hb hr e9 rfl hQ hQ'
  refine ⟨e, ?_⟩
  rw [e]
  have hqx : qN (rvA N A Q) b = qN A b := rv_q hQ
  have hD := hX.drop hn hb (p := 0) (by rw [hqx]; exact h8)
  have h13 : dropA (rvA N A Q) b 0 13 (fr A b) 0 = nI (hc A (fr A b) + rl N S A h b (fr A b)) := by
    rw [dropA_f (by decide) (by decide)]; exact rv_has hW hr hq
  have h0 := hD.lt hr
  refine hD.lend hn hb hr ?_ ?_
  · rw [dropA_f (by decide) (by decide), rv5, if_neg (fun z => by rw [hQ] at z; exact Bool.noConfusion z.2)]; exact h5
  · have e2 := h0.2
    rw [h13] at e2
    have := nI_inj (by omega) (by omega) e2
    omega
theorem due_h (hW : WF B N A) (hn : N 3 ≤ 10) (hd : due N S A h b = true) : b < N 2 ∧ A 5 b 0 = nI (hN A b) ∧ hN A b < N 3 ∧ S 25 (hN A b) = h ∧ ¬ (A 0 0 0 - A 6 b 0 < nI (S 27 (hN A b))) := by
  unfold due at hd
  simp only [Bool.and_eq_true, decide_eq_true_eq, beq_iff_eq, Bool.not_eq_true', decide_eq_false_iff_not] at hd
  obtain ⟨⟨⟨hb, h5⟩, h25⟩, h27⟩ := hd
  rcases hW.2.2.2.2.1 b hb with z | ⟨⟨r, hr, e⟩, -⟩
  · exact absurd z.1 h5
  · have : hN A b = r := by unfold hN; rw [e]; exact nI_clamp (by omega)
    rw [this] at h25 h27 ⊢
    exact ⟨hb, e, hr, h25, h27⟩
theorem bk_step (hn : N 3 ≤ 10) (hW : WF B N A) (hX : WF B N (bkA N A Q)) (hd : due N S A h b = true) (hQ : Q b = false) (hQ' : ∀ x, Q' x = (Q x || x == b)) :
    bkA N A Q' = backA (bkA N A Q) b (hN A b) (pen A b) ∧ WF B N (bkA N A Q') := by
  obtain ⟨hb, e5, hr, -, -⟩ := due_h hW hn hd
  have e := bk_s hb hr rfl hQ hQ'
  refine ⟨e, ?_⟩
  rw [e]
  exact hX.back hn hb hr (by rw [bk5, if_neg (fun z => by rw [hQ] at z; exact Bool.noConfusion z.2)]; exact e5)
end
def okc (S : Nat → Nat → Nat) (A : AF) (r b : Nat) : Bool := (A 5 b 0 == -1) && (S 24 b == S 26 r) && (qN A b == 0) && !(((A 10 r 0 >>> (nI b &&& 31)) &&& 1) == 1)
def choA (N : Nat → Nat) (S : Nat → Nat → Nat) (r : Nat) (A : AF) : AF := if fnd (N 2) (okc S A r) < N 2 then lendA A r (fnd (N 2) (okc S A r)) else A
def othS (N : Nat → Nat) (S : Nat → Nat → Nat) (h r : Nat) (A : AF) : AF := if S 25 r = h ∧ ¬ ((3 : Int32) ≤ A 13 r 0) then choA N S r A else A
def bkAll (N : Nat → Nat) (S : Nat → Nat → Nat) (h : Nat) (A : AF) : AF := bkA N A (due N S A h)
def rvAll (N : Nat → Nat) (S : Nat → Nat → Nat) (h : Nat) (A : AF) : AF := rvA N A (Lb N S A h)
def srvA (N : Nat → Nat) (S : Nat → Nat → Nat) (h : Nat) (A : AF) : AF := itn (othS N S h) (N 3) (rvAll N S h (bkAll N S h A))
section
variable {B : Nat} {N : Nat → Nat} {A : AF} {Q Q' : Nat → Bool} {i j b r h : Nat} {S : Nat → Nat → Nat}
theorem WF_bk (hW : WF B N A) (hn : N 3 ≤ 10) : WF B N (bkAll N S h A) := by
  have key : ∀ i, WF B N (bkA N A (fun x => decide (x < i) && due N S A h x)) := by
    intro i
    induction i with
    | zero => rw [bk_congr (Q := fun _ => false) (fun x => by rw [decide_eq_false (Nat.not_lt_zero _), Bool.false_and]), bk_0]; exact hW
    | succ i ih =>
      by_cases c : due N S A h i = true
      · refine (bk_step hn hW ih c (by rw [decide_eq_false (Nat.lt_irrefl _), Bool.false_and]) (fun x => ?_)).2
        by_cases e : x = i
        · subst e; rw [decide_eq_true (Nat.lt_succ_self _), c, beq_self_eq_true, Bool.or_true]; rfl
        · rw [beq_eq_false_iff_ne.mpr e, Bool.or_false]
          congr 1
          exact decide_eq_decide.mpr (by omega)
      · rw [bk_congr (Q := fun x => decide (x < i) && due N S A h x) (fun x => ?_)]
        · exact ih
        · by_cases e : x = i
          · subst e; rw [Bool.eq_false_iff.mpr c, Bool.and_false, Bool.and_false]
          · congr 1
            exact decide_eq_decide.mpr (by omega)
  have := key (N 2)
  rw [bk_congr (Q := due N S A h) (fun x => ?_)] at this
  · exact this
  · by_cases e : x < N 2
    · rw [decide_eq_true e, Bool.true_and]
    · rw [decide_eq_false e, Bool.false_and]; unfold due; rw [decide_eq_false e]; rfl
theorem cl_cnt (hi : i ≤ N 2) : ct (N 2) (fun x => (decide (x < i) && Lb N S A h x) && (fr A x == r)) = rl N S A h i r := by
  rw [rl_ct, ← ct_cut (p := fun b => Lb N S A h b && (fr A b == r)) hi]
  exact ct_congr (fun x _ => Bool.and_assoc _ _ _)
theorem WF_rv (hW : WF B N A) (hn : N 3 ≤ 10) (hn2 : N 2 ≤ 24) : WF B N (rvAll N S h A) := by
  have key : ∀ i, i ≤ N 2 → WF B N (rvA N A (fun x => decide (x < i) && Lb N S A h x)) := by
    intro i
    induction i with
    | zero => intro _; rw [rv_congr (Q := fun _ => false) (fun x => by rw [decide_eq_false (Nat.not_lt_zero _), Bool.false_and]), rv_0]; exact hW
    | succ i ih =>
      intro hi
      by_cases c : Lb N S A h i = true
      · refine (rv_step hn hn2 hW (ih (by omega)) c (by rw [decide_eq_false (Nat.lt_irrefl _), Bool.false_and]) (fun x => ?_) (cl_cnt (by omega))).2
        by_cases e : x = i
        · subst e; rw [decide_eq_true (Nat.lt_succ_self _), c, beq_self_eq_true, Bool.or_true]; rfl
        · rw [beq_eq_false_iff_ne.mpr e, Bool.or_false]
          congr 1
          exact decide_eq_decide.mpr (by omega)
      · rw [rv_congr (Q := fun x => decide (x < i) && Lb N S A h x) (fun x => ?_)]
        · exact ih (by omega)
        · by_cases e : x = i
          · subst e; rw [Bool.eq_false_iff.mpr c, Bool.and_false, Bool.and_false]
          · congr 1
            exact decide_eq_decide.mpr (by omega)
  have := key (N 2) (Nat.le_refl _)
  rw [rv_congr (Q := Lb N S A h) (fun x => ?_)] at this
  · exact this
  · by_cases e : x < N 2
    · rw [decide_eq_true e, Bool.true_and]
    · rw [decide_eq_false e, Bool.false_and]; unfold Lb can; rw [decide_eq_false e]; rfl
theorem WF_oth (hW : WF B N A) (hn : N 3 ≤ 10) (hr : r < N 3) : WF B N (othS N S h r A) := by
  unfold othS
  split
  · next c =>
    unfold choA
    split
    · next c2 =>
      have ht := fnd_tt c2
      unfold okc at ht
      simp only [Bool.and_eq_true, beq_iff_eq] at ht
      have h0 := WF_hc hW hr
      refine hW.lend hn c2 hr ht.1.1.1 ?_
      rw [← h0.2.2]
      refine Nat.not_le.mp (fun z => c.2 ?_)
      rw [h0.1]
      exact nI_le (a := 3) z (by omega)
    · exact hW
  · exact hW
theorem WF_srv (hW : WF B N A) (hn : N 3 ≤ 10) (hn2 : N 2 ≤ 24) : WF B N (srvA N S h A) := by
  have key : ∀ i, i ≤ N 3 → WF B N (itn (othS N S h) i (rvAll N S h (bkAll N S h A))) := by
    intro i
    induction i with
    | zero => intro _; exact WF_rv (WF_bk hW hn) hn hn2
    | succ i ih => intro hi; exact WF_oth (ih (by omega)) hn (by omega)
  exact key _ (Nat.le_refl _)
end
