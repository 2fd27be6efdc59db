/-! the class serves a halt -/
section
variable {B : Nat} {N : Nat → Nat} {S : Nat → Nat → Nat} {ks : List KY} {V X : VS} {w h b r i : Nat} {A : AF} {D : Nat → Int32}
theorem t_rw0 {post : Option Nat → VS → Prop} (hp : post none X) : wp_X7_readerWith ks w (-1) X post := ⟨fun _ => hp, fun z => absurd (by decide) z⟩
theorem t_rw1 {post : Option Nat → VS → Prop} (hX : Bs N S ks X) (hw : w ≤ 1) (hr : r < N 3) (hp : post (some r) X) : wp_X7_readerWith ks w (nI r) X post := by
  have hn := hX.n
  refine ⟨fun z => absurd z (nI_pos (by omega)), fun _ => ⟨hX.k1 hw, hX.k2 hw (by decide), ?_⟩⟩
  rw [hX.sz hw (by decide)]
  exact pk_le (N 3) r (fun z => absurd hr (by omega)) (fun _ => by
    have := lget (P := fun j => (7, w, j) ∈ ks ∧ post (some j) X) hX hw (K := 3) (by decide) hr ⟨hX.k7 hw hr, hp⟩
    rw [hX.sz hw (by decide)] at this
    exact this)
theorem t_come {post : VS → Prop} (hB : Bs N S ks V) (hw : w ≤ 1) (hb : b < N 2) (hr : r < N 3) {x : Int32} (hp : post (cput N w (backA A b r (if x ≤ 14 then 0 else x - 14)) D V)) : wp_X0_comeBackFrom ks w b w r x (cput N w A D V) post := by
  refine ⟨hB.k6 hw hb, ?_⟩
  rintro _ rfl _ rfl
  refine ⟨hB.k7 hw hr, ?_⟩
  rintro _ rfl
  rw [cw5 hb, cw6 hb, cr13 hr, cw13 hr, au_f (by decide), au_f (by decide)]
  unfold backA at hp
  constructor
  · intro c
    rw [if_pos c, show A 11 r 0 + 0 = A 11 r 0 from Int32.add_zero _] at hp
    have e := au_self (A := au (au (au A 5 b 0 (-1)) 6 b 0 (-1)) 13 r 0 (A 13 r 0 - 1)) (f := 11) (i := r) (j := 0) (x := A 11 r 0) rfl
    rw [e] at hp
    exact hp
  · intro c
    rintro _ rfl
    rw [cr11 hr, cw11 hr, au_f (by decide), au_f (by decide), au_f (by decide)]
    rw [if_neg c] at hp
    exact hp
theorem t_back {post : VS → Prop} (hB : Bs N S ks V) (hw : w ≤ 1) (hW : WF B N A) (hh : h < 8) (hp : post (cput N w (bkAll N S h A) D V)) : wp_X7_takeBooksBack ks w (nI h) (cput N w A D V) post := by
  have hn := hB.n
  refine ⟨fun n x V' => ∃ i, i + n = N 2 ∧ x = nI i ∧ V' = cput N w (bkA N A (fun x => decide (x < i) && due N S A h x)) D V, ⟨N 2, 0, by omega, rfl, ?_⟩, ?_⟩
  · rw [bk_congr (Q := fun _ => false) (fun x => by rw [decide_eq_false (Nat.not_lt_zero _), Bool.false_and]), bk_0]
  rintro n _ _ ⟨i, hi, rfl, rfl⟩
  have hX : Bs N S ks (cput N w (bkA N A (fun x => decide (x < i) && due N S A h x)) D V) := hB.c
  have hQ : (decide (i < i) && due N S A h i) = false := by
    rw [decide_eq_false (Nat.lt_irrefl _), Bool.false_and]
  refine ⟨hB.k1 hw, hB.k2 hw (by decide), ?_⟩
  rw [hX.sz hw (by decide)]
  refine pk_le (N 2) i (fun c => ?_) (fun c => ?_)
  · have : i = N 2 := by omega
    subst this
    have e : bkA N A (fun x => decide (x < N 2) && due N S A h x) = bkAll N S h A := bk_congr (fun x => by
      by_cases e : x < N 2
      · rw [decide_eq_true e, Bool.true_and]
      · rw [decide_eq_false e, Bool.false_and]; unfold due; rw [decide_eq_false e]; rfl)
    rw [e]; exact hp
  · have key : ∀ (V9 : VS), V9 = cput N w (bkA N A (fun x => decide (x < i + 1) && due N S A h x)) D V → ∀ y : Int32, y = nI i + 1 → ∃ n', n' < n ∧ ∃ i', i' + n' = N 2 ∧ y = nI i' ∧ V9 = cput N w (bkA N A (fun x => decide (x < i') && due N S A h x)) D V := by
      rintro _ rfl _ rfl
      exact ⟨n - 1, by omega, i + 1, by omega, nI_1 i, rfl⟩
    have keyN : due N S A h i = false → bkA N A (fun x => decide (x < i + 1) && due N S A h x) = bkA N A (fun x => decide (x < i) && due N S A h x) := fun c => bk_congr (fun x => by
      by_cases e : x = i
      · subst e; rw [c, Bool.and_false, Bool.and_false]
      · congr 1
        exact decide_eq_decide.mpr (by omega))
    have hsz := hX.sz hw (K := 2) (by decide)
    rw [← hsz]
    refine lget hX hw (by decide) c ⟨hB.k6 hw c, ?_⟩
    rw [cr5 c, bk5, if_neg (fun z => by rw [hQ] at z; exact Bool.noConfusion z.2)]
    rcases hW.2.2.2.2.1 i c with z | ⟨⟨r, hr, e⟩, -⟩
    · rw [z.1]
      refine t_rw0 ⟨fun _ => key _ (by rw [keyN (by unfold due; rw [z.1]; simp)]), fun j z => by cases z⟩
    · rw [e]
      have hhn : hN A i = r := by unfold hN; rw [e]; exact nI_clamp (by omega)
      refine t_rw1 hX hw hr ⟨fun z => (by cases z), fun j z => ?_⟩
      obtain rfl := Option.some.inj z
      have hrd := hX.rd hw hr
      refine ⟨hB.k7 hw hr, ?_⟩
      have hs25 := (hB.srd hr).1
      rw [hrd.2.1, hrd.2.2.2, cr0, cr6 c, bkf (by decide), bk6, if_neg (fun z => by rw [hQ] at z; exact Bool.noConfusion z.2)]
      have h5 : decide (A 5 i 0 ≠ -1) = true := decide_eq_true (by rw [e]; exact nI_m1 (by omega))
      refine pk_eq (S 25 r) h (fun c1 => ⟨fun c2 => ?_, fun c2 => ?_⟩) (fun c1 => ?_)
      · refine key _ ?_
        rw [keyN (by unfold due; rw [hhn, decide_eq_true c2]; simp)]
      · have hd : due N S A h i = true := by
          unfold due
          rw [hhn, h5, decide_eq_true c, c1, beq_self_eq_true, decide_eq_false c2]; rfl
        have es : bkA N A (fun x => decide (x < i + 1) && due N S A h x) = backA (bkA N A (fun x => decide (x < i) && due N S A h x)) i r (pen A i) := bk_s c hr hhn hQ (fun x => by
          by_cases e : x = i
          · subst e; rw [decide_eq_true (Nat.lt_succ_self _), hd, beq_self_eq_true, Bool.or_true]; rfl
          · rw [beq_eq_false_iff_ne.mpr e, Bool.or_false]
            congr 1
            exact decide_eq_decide.mpr (by omega))
        exact t_come hB hw c hr (key _ (by rw [es]; rfl))
      · refine key _ ?_
        rw [keyN (by unfold due; rw [hhn, beq_eq_false_iff_ne.mpr c1]; simp)]
end
