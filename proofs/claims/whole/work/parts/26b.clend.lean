/-! the class lends -/
def shA (A : AF) (b p i : Nat) : AF := fun f' i' j' => if f' = 9 ∧ i' = b ∧ p ≤ j' ∧ j' < i then A 9 b (j' + 1) else A f' i' j'
section
variable {B : Nat} {N : Nat → Nat} {S : Nat → Nat → Nat} {ks : List KY} {V X : VS} {w h b r i p q : Nat} {A : AF} {D : Nat → Int32}
theorem shA_p : shA A b p p = A := by
  funext f i j
  exact if_neg (fun z => by omega)
theorem shA_s (hp : p ≤ i) : au (shA A b p i) 9 b i (A 9 b (i + 1)) = shA A b p (i + 1) := by
  funext f i' j
  unfold au shA
  by_cases c : f = 9 ∧ i' = b ∧ j = i
  · rw [if_pos c, if_pos ⟨c.1, c.2.1, by omega, by omega⟩, c.2.2]
  · rw [if_neg c]
    by_cases c2 : f = 9 ∧ i' = b ∧ p ≤ j ∧ j < i
    · rw [if_pos c2, if_pos ⟨c2.1, c2.2.1, c2.2.2.1, by omega⟩]
    · rw [if_neg c2, if_neg (fun z => c2 ⟨z.1, z.2.1, z.2.2.1, by by_cases e : j = i; exact absurd ⟨z.1, z.2.1, e⟩ c; omega⟩)]
theorem shA_r {j : Nat} (hj : i ≤ j) : shA A b p i 9 b j = A 9 b j := if_neg (fun z => by omega)
theorem shA_f {f j i' : Nat} (hf : f ≠ 9) : shA A b p i f i' j = A f i' j := if_neg (fun z => hf z.1)
theorem shA_d (hq : qN A b = q) : au (shA A b p (q - 1)) 8 b 0 (A 8 b 0 - 1) = dropA A b p := by
  funext f i' j
  unfold au dropA
  by_cases c : f = 8 ∧ i' = b ∧ j = 0
  · rw [if_pos c, if_pos c]
  · rw [if_neg c, if_neg c]
    unfold shA
    rw [hq]
    by_cases c2 : f = 9 ∧ i' = b ∧ p ≤ j ∧ j < q - 1
    · rw [if_pos c2, if_pos ⟨c2.1, c2.2.1, c2.2.2.1, by omega⟩]
    · rw [if_neg c2, if_neg (fun z => c2 ⟨z.1, z.2.1, z.2.2.1, by omega⟩)]
theorem WF_q (hW : WF B N A) (hn : N 3 ≤ 10) (hb : b < N 2) : A 8 b 0 = nI (qN A b) ∧ qN A b ≤ N 3 := by
  obtain ⟨q, hq, e, -, -⟩ := hW.2.2.2.1 b hb
  have : qN A b = q := by unfold qN; rw [e]; exact nI_clamp (by omega)
  rw [this]
  exact ⟨e, hq⟩
theorem t_drop {post : VS → Prop} (hB : Bs N S ks V) (hw : w ≤ 1) (hb : b < N 2) (h8 : A 8 b 0 = nI (qN A b)) (hq : qN A b ≤ 10) (hp : p < qN A b) (hpo : post (cput N w (dropA A b p) D V)) : wp_X3_dropPlace ks w b (nI p) (cput N w A D V) post := by
  generalize e : qN A b = q at h8 hq hp
  refine ⟨fun z => absurd z (nI_pos (by omega)), fun _ => ⟨hB.k8 hw hb, ?_⟩⟩
  rw [cr8 hb, h8]
  refine pk_lt p q (fun _ => ?_) (fun z => absurd hp (by omega))
  refine ⟨fun n x V' => ∃ i, p ≤ i ∧ i + n = q - 1 ∧ x = nI i ∧ V' = cput N w (shA A b p i) D V, ⟨q - 1 - p, p, by omega, by omega, rfl, by rw [shA_p]⟩, ?_⟩
  rintro n _ _ ⟨i, hpi, hi, rfl, rfl⟩
  have fin : i = q - 1 → wb_X3_dropPlace_56 ks w b (nI p) post (cput N w (shA A b p i) D V) := by
    intro ei
    refine ⟨hB.k8 hw hb, ?_⟩
    rintro _ rfl
    rw [cr8 hb, cw8 hb, shA_f (by decide), ei, shA_d e]
    exact hpo
  refine ⟨hB.k8 hw hb, ?_⟩
  rw [cr8 hb, shA_f (by decide), h8, nI_1]
  refine pk_le q (i + 1) (fun c => fin (by omega)) (fun c => ⟨hB.k9 hw hb, ?_⟩)
  refine pk_le (x := 10) 10 (i + 1) (fun c2 => absurd c (by omega)) (fun c2 => ⟨pk_in (i + 1) 10 (by omega), pk_in i 10 (by omega), ?_⟩)
  rintro _ rfl _ rfl
  rw [nI_clamp (by omega), nI_clamp (by omega), cr9 hb (by omega), shA_r (by omega), cw9 hb (by omega), shA_s hpi]
  exact ⟨n - 1, by omega, i + 1, by omega, by omega, rfl, rfl⟩
theorem t_drop0 {post : VS → Prop} (hp : post X) : wp_X3_dropPlace ks w b (-1) X post := ⟨fun _ => hp, fun z => absurd (by decide) z⟩
theorem t_first {post : Int32 → VS → Prop} (hB : Bs N S ks V) (hw : w ≤ 1) (hb : b < N 2) (h8 : A 8 b 0 = nI (qN A b)) (hq : qN A b ≤ 10) (hp : post (if qN A b = 0 then -1 else A 9 b 0) (cput N w A D V)) : wp_X3_first ks w b (cput N w A D V) post := by
  refine ⟨hB.k8 hw hb, ?_⟩
  rw [cr8 hb, h8]
  refine pk_le (qN A b) 0 (fun c => ?_) (fun c => ⟨hB.k9 hw hb, fun z => absurd z (by decide), fun _ => ?_⟩)
  · rw [if_pos (by omega)] at hp; exact hp
  · rw [if_neg (by omega)] at hp
    rw [cr9 hb (by decide)]; exact hp
theorem t_size {post : Int32 → VS → Prop} (hB : Bs N S ks V) (hw : w ≤ 1) (hb : b < N 2) (hp : post (A 8 b 0) (cput N w A D V)) : wp_X3_size ks w b (cput N w A D V) post := by
  refine ⟨hB.k8 hw hb, ?_⟩
  rw [cr8 hb]; exact hp
theorem t_onVan {post : Int32 → VS → Prop} (hB : Bs N S ks V) (hw : w ≤ 1) (hb : b < N 2) (h1 : A 5 b 0 = -1 → post 1 (cput N w A D V)) (h0 : A 5 b 0 ≠ -1 → post 0 (cput N w A D V)) : wp_X0_isOnVan ks w b (cput N w A D V) post := by
  refine ⟨hB.k6 hw hb, ?_⟩
  rw [cr5 hb]
  exact ⟨h1, h0⟩
theorem t_more {post : Int32 → VS → Prop} (hB : Bs N S ks V) (hw : w ≤ 1) (hr : r < N 3) (h0 : (3 : Int32) ≤ A 13 r 0 → post 0 (cput N w A D V)) (h1 : ¬ (3 : Int32) ≤ A 13 r 0 → post 1 (cput N w A D V)) : wp_X4_takesMore ks w r (cput N w A D V) post := by
  refine ⟨hB.k7 hw hr, ?_⟩
  rw [cr13 hr]
  exact ⟨h0, h1⟩
theorem t_hasRead {post : Int32 → VS → Prop} (hB : Bs N S ks V) (hw : w ≤ 1) (hr : r < N 3) {x : Int32} (h1 : ((A 10 r 0 >>> (x &&& 31)) &&& 1) = 1 → post 1 (cput N w A D V)) (h0 : ¬ ((A 10 r 0 >>> (x &&& 31)) &&& 1) = 1 → post 0 (cput N w A D V)) : wp_X4_hasRead ks w r x (cput N w A D V) post := by
  refine ⟨hB.k7 hw hr, ?_⟩
  rw [cr10 hr]
  exact ⟨h1, h0⟩
theorem t_lendTo {post : VS → Prop} (hB : Bs N S ks V) (hw : w ≤ 1) (hb : b < N 2) (hr : r < N 3) (hp : post (cput N w (lendA A r b) D V)) : wp_X0_lendTo ks w b w r (A 0 0 0) (cput N w A D V) post := by
  have hX : ∀ {A' : AF}, Bs N S ks (cput N w A' D V) := hB.c
  refine ⟨hB.k7 hw hr, hB.k6 hw hb, ?_⟩
  rw [(hX.rd hw hr).1, cw5 hb]
  rintro _ rfl
  rw [cw6 hb]
  rintro _ rfl
  rw [cr7 hb, cw7 hb, au_f (by decide), au_f (by decide)]
  rintro _ rfl
  rw [cr13 hr, cw13 hr, au_f (by decide), au_f (by decide), au_f (by decide)]
  rintro _ rfl
  rw [cr10 hr, cw10 hr, (hX.bk hw hb).1, au_f (by decide), au_f (by decide), au_f (by decide), au_f (by decide)]
  rintro _ rfl
  rw [cr12 hr, cw12 hr, au_f (by decide), au_f (by decide), au_f (by decide), au_f (by decide), au_f (by decide)]
  rintro _ rfl
  rw [cput_ext (A' := lendA A r b) (fun f i j h16 h17 => by unfold lendA; rw [au_f h16, au_f h17])]
  exact hp
theorem t_res {post : VS → Prop} (hB : Bs N S ks V) (hw : w ≤ 1) (hW : WF B N A) (hh : h < 8) (hp : post (cput N w (rvAll N S h A) D V)) : wp_X7_lendReservedBooks ks w (nI h) (cput N w A D V) post := by
  have hn := hB.n
  refine ⟨fun n x V' => ∃ i, i + n = N 2 ∧ x = nI i ∧ WF B N (rvA N A (fun x => decide (x < i) && Lb N S A h x)) ∧ V' = cput N w (rvA N A (fun x => decide (x < i) && Lb N S A h x)) D V, ⟨N 2, 0, by omega, rfl, ?_⟩, ?_⟩
  · rw [rv_congr (Q := fun _ => false) (fun x => by rw [decide_eq_false (Nat.not_lt_zero _), Bool.false_and]), rv_0]
    exact ⟨hW, rfl⟩
  rintro n _ _ ⟨i, hi, rfl, hWi, rfl⟩
  have hX : Bs N S ks (cput N w (rvA N A (fun x => decide (x < i) && Lb N S A h x)) D V) := hB.c
  have hQ : (decide (i < i) && Lb N S A h i) = false := by
    rw [decide_eq_false (Nat.lt_irrefl _), Bool.false_and]
  have hQn : ∀ {P : Prop}, ¬ (P ∧ (decide (i < i) && Lb N S A h i) = true) := fun z => by rw [hQ] at z; exact Bool.noConfusion z.2
  refine ⟨hB.k1 hw, hB.k2 hw (by decide), ?_⟩
  rw [hX.sz hw (by decide)]
  refine pk_le (N 2) i (fun c => ?_) (fun c => ?_)
  · have : i = N 2 := by omega
    subst this
    have e : rvA N A (fun x => decide (x < N 2) && Lb N S A h x) = rvAll N S h A := rv_congr (fun x => by
      by_cases e : x < N 2
      · rw [decide_eq_true e, Bool.true_and]
      · rw [decide_eq_false e, Bool.false_and]; unfold Lb can; rw [decide_eq_false e]; rfl)
    rw [e]; exact hp
  · have key : ∀ (V9 : VS), WF B N (rvA N A (fun x => decide (x < i + 1) && Lb N S A h x)) → V9 = cput N w (rvA N A (fun x => decide (x < i + 1) && Lb N S A h x)) D V → ∀ y : Int32, y = nI i + 1 → ∃ n', n' < n ∧ ∃ i', i' + n' = N 2 ∧ y = nI i' ∧ WF B N (rvA N A (fun x => decide (x < i') && Lb N S A h x)) ∧ V9 = cput N w (rvA N A (fun x => decide (x < i') && Lb N S A h x)) D V := by
      rintro _ h9 rfl _ rfl
      exact ⟨n - 1, by omega, i + 1, by omega, nI_1 i, h9, rfl⟩
    have keyN : Lb N S A h i = false → ∀ y : Int32, y = nI i + 1 → ∃ n', n' < n ∧ ∃ i', i' + n' = N 2 ∧ y = nI i' ∧ WF B N (rvA N A (fun x => decide (x < i') && Lb N S A h x)) ∧ cput N w (rvA N A (fun x => decide (x < i) && Lb N S A h x)) D V = cput N w (rvA N A (fun x => decide (x < i') && Lb N S A h x)) D V := fun c => by
      have e : rvA N A (fun x => decide (x < i + 1) && Lb N S A h x) = rvA N A (fun x => decide (x < i) && Lb N S A h x) := rv_congr (fun x => by
        by_cases e : x = i
        · subst e; rw [c, Bool.and_false, Bool.and_false]
        · congr 1
          exact decide_eq_decide.mpr (by omega))
      exact key _ (by rw [e]; exact hWi) (by rw [e])
    have hq8 := WF_q hW hn.2.2.2 c
    have eqq : qN (rvA N A (fun x => decide (x < i) && Lb N S A h x)) i = qN A i := rv_q hQ
    have e9 : rvA N A (fun x => decide (x < i) && Lb N S A h x) 9 i 0 = A 9 i 0 := by rw [rv9, if_neg (fun z => by rw [hQ] at z; exact Bool.noConfusion z.1)]
    have e8 : rvA N A (fun x => decide (x < i) && Lb N S A h x) 8 i 0 = A 8 i 0 := by rw [rv8, if_neg hQn]
    have hsz := hX.sz hw (K := 2) (by decide)
    rw [← hsz]
    refine lget hX hw (by decide) c ⟨hB.k6 hw c, t_onVan hB hw c (fun h5 => ⟨fun z => absurd z (by decide), fun _ => ⟨hB.k8 hw c, ?_⟩⟩) (fun h5 => ⟨fun _ => keyN ?_, fun z => absurd rfl z⟩)⟩
    · rw [rv5, if_neg hQn] at h5
      refine t_first hB hw c (by rw [e8, eqq]; exact hq8.1) (by rw [eqq]; omega) ?_
      rw [eqq, e9]
      by_cases c0 : qN A i = 0
      · rw [if_pos c0]
        refine t_rw0 ⟨fun _ => keyN (by unfold Lb can; rw [c0]; simp), fun j z => by cases z⟩
      · rw [if_neg c0]
        obtain ⟨ef, hr⟩ := WF_fr hW hn.2.2.2 c (by omega)
        rw [ef]
        refine t_rw1 hX hw hr ⟨fun z => (by cases z), fun j z => ?_⟩
        obtain rfl := Option.some.inj z
        refine ⟨hB.k7 hw hr, ?_⟩
        have hs25 := (hB.srd hr).1
        rw [(hX.rd hw hr).2.1]
        have hhc := WF_hc hW hr
        have hcan : S 25 (fr A i) = h → can N S A h i = true := fun e => by
          unfold can
          rw [decide_eq_true c, h5, decide_eq_true (by omega : 0 < qN A i), e]; simp
        have hrl : rl N S A h i (fr A i) ≤ 24 := by rw [rl_ct]; exact Nat.le_trans (ct_le _ _) (by omega)
        have e13 : rvA N A (fun x => decide (x < i) && Lb N S A h x) 13 (fr A i) 0 = nI (hc A (fr A i) + rl N S A h i (fr A i)) := rv_has hW hr (cl_cnt (by omega))
        refine pk_eq (S 25 (fr A i)) h (fun c1 => ?_) (fun c1 => keyN (by unfold Lb can; rw [beq_eq_false_iff_ne.mpr c1]; simp))
        refine t_more hB hw hr (fun c3 => ⟨fun _ => keyN ?_, fun z => absurd rfl z⟩) (fun c3 => ⟨fun z => absurd z (by decide), fun _ => ?_⟩)
        · rw [e13] at c3
          unfold Lb
          rw [hcan c1, Bool.true_and]
          refine decide_eq_false (fun z => nI_ge (b := 3) z (by omega) c3)
        · rw [e13] at c3
          have hL : Lb N S A h i = true := by
            unfold Lb
            rw [hcan c1, Bool.true_and]
            exact decide_eq_true (Nat.not_le.mp (fun z => c3 (nI_le (a := 3) z (by omega))))
          obtain ⟨es, hWs⟩ := rv_step (Q' := fun x => decide (x < i + 1) && Lb N S A h x) hn.2.2.2 hn.2.2.1 hW hWi hL hQ (fun x => by
            by_cases e : x = i
            · subst e; rw [decide_eq_true (Nat.lt_succ_self _), hL, beq_self_eq_true, Bool.or_true]; rfl
            · rw [beq_eq_false_iff_ne.mpr e, Bool.or_false]
              congr 1
              exact decide_eq_decide.mpr (by omega)) (cl_cnt (by omega))
          refine t_drop (p := 0) hB hw c (by rw [e8, eqq]; exact hq8.1) (by rw [eqq]; omega) (by rw [eqq]; omega) ?_
          rw [cr0]
          refine t_lendTo hB hw c hr ?_
          rw [← es]
          exact key _ hWs rfl
    · rw [rv5, if_neg hQn] at h5
      unfold Lb can
      rw [beq_eq_false_iff_ne.mpr h5]; simp
end
