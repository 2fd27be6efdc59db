/-! the model lends the reserved books, and the others -/
section
variable {B : Nat} {N : Nat → Nat} {S : Nat → Nat → Nat} {ks : List KY} {V X : VS} {t h b r i p q x n : Nat} {A : AF} {T : Nat → Int32} {Q : Nat → Bool} {a1 : Int32}
theorem qv_cnt (hi : i ≤ N 2) : ct (N 2) (fun x => Qv N S A h r i x && (fr A x == r)) = rl N S A h i r := by
  rw [rl_ct, ← ct_cut (p := fun b => Lb N S A h b && (fr A b == r)) hi]
  refine ct_congr (fun x _ => ?_)
  unfold Qv
  by_cases c : fr A x = r
  · rw [c, decide_eq_false (Nat.lt_irrefl r), beq_self_eq_true, Bool.and_true, Bool.and_true, Bool.false_or, Bool.true_and, Bool.and_comm]
  · rw [beq_eq_false_iff_ne.mpr c, Bool.and_false, Bool.and_false, Bool.and_false]
theorem m_res1 {post : VS → Prop} {B51 : Int32 → VS → Prop} (hB : Bs N S ks V) (ht : t ≤ 1) (hW : WF B N A) (hr : r < N 3) (hh : h < 8) (hW0 : WF B N (rvA N A (Qv N S A h r 0))) (hp : WF B N (rvA N A (Qv N S A h (r + 1) 0)) → ∀ y : Int32, y = nI r + 1 → B51 y (mput t (rvA N A (Qv N S A h (r + 1) 0)) T V)) : wl_X9_serve_64 ks t a1 post B51 (nI h) (nI r) 0 (mput t (rvA N A (Qv N S A h r 0)) T V) := by
  have hn := hB.n
  have hs := hB.srd hr
  refine ⟨fun n x V' => ∃ i, i + n = N 2 ∧ (i ≠ 0 → S 25 r = h) ∧ x = nI i ∧ WF B N (rvA N A (Qv N S A h r i)) ∧ V' = mput t (rvA N A (Qv N S A h r i)) T V, ⟨N 2, 0, by omega, fun z => absurd rfl z, rfl, hW0, rfl⟩, ?_⟩
  rintro n _ _ ⟨i, hi, hne, rfl, hWi, rfl⟩
  have hX : Bs N S ks (mput t (rvA N A (Qv N S A h r i)) T V) := hB.m
  refine ⟨hB.k16 ht, hB.k15, ?_⟩
  rw [hX.m6]
  refine pk_le (N 2) i (fun c => ?_) (fun c => ?_)
  · have : i = N 2 := by omega
    subst this
    have e : rvA N A (Qv N S A h r (N 2)) = rvA N A (Qv N S A h (r + 1) 0) := rv_congr (fun x => qe (fun z => (Lb_can z).1))
    rw [e] at hWi ⊢
    exact hp hWi
  refine ⟨hB.k20, ?_⟩
  rw [ix3]
  refine ⟨pk_in (3 * r) 30 (by omega), ?_⟩
  rw [nI_clamp (by omega), (hX.mrd hr).1]
  refine pk_eq (S 25 r) h (fun c1 => ?_) (fun c1 => ?_)
  · have key : ∀ V9, WF B N (rvA N A (Qv N S A h r (i + 1))) → V9 = mput t (rvA N A (Qv N S A h r (i + 1))) T V → ∀ y : Int32, y = nI i + 1 → ∃ n', n' < n ∧ ∃ i', i' + n' = N 2 ∧ (i' ≠ 0 → S 25 r = h) ∧ y = nI i' ∧ WF B N (rvA N A (Qv N S A h r i')) ∧ V9 = mput t (rvA N A (Qv N S A h r i')) T V := by
      rintro _ h9 rfl _ rfl
      exact ⟨n - 1, by omega, i + 1, by omega, fun _ => c1, nI_1 i, h9, rfl⟩
    have keyN : ¬ (Lb N S A h i = true ∧ fr A i = r) → ∀ y : Int32, y = nI i + 1 → ∃ n', n' < n ∧ ∃ i', i' + n' = N 2 ∧ (i' ≠ 0 → S 25 r = h) ∧ y = nI i' ∧ WF B N (rvA N A (Qv N S A h r i')) ∧ mput t (rvA N A (Qv N S A h r i)) T V = mput t (rvA N A (Qv N S A h r i')) T V := fun c => by
      have e : rvA N A (Qv N S A h r (i + 1)) = rvA N A (Qv N S A h r i) := rv_congr (fun x => qz (fun z => c (by rw [← z.2.2]; exact ⟨z.1, z.2.1⟩)))
      exact key _ (by rw [e]; exact hWi) (by rw [e])
    refine ⟨hB.km (by decide) (by decide) ht, pk_in i 24 (by omega), ?_⟩
    rw [nI_clamp (by omega), mr5 (by omega), rv5]
    by_cases cQ : Qv N S A h r i i = true
    · have hr9 : fr A i < r ∧ Lb N S A h i = true := by
        unfold Qv at cQ
        rw [Bool.and_eq_true, decide_eq_false (Nat.lt_irrefl i), Bool.and_false, Bool.or_false, decide_eq_true_eq] at cQ
        exact ⟨cQ.2, cQ.1⟩
      obtain ⟨_, _, hq0, _, _⟩ := Lb_can hr9.2
      have h9 := WF_fr hW hn.2.2.2 c hq0
      rw [if_pos ⟨rfl, cQ⟩, h9.1]
      exact ⟨fun z => absurd z (nI_m1 (by omega)), fun _ => keyN (fun z => by omega)⟩
    · have hQ : Qv N S A h r i i = false := Bool.eq_false_iff.mpr cQ
      have hQn : ∀ {P : Prop}, ¬ (P ∧ Qv N S A h r i i = true) := fun z => cQ z.2
      rw [if_neg hQn]
      have hq8 := WF_q hW hn.2.2.2 c
      have e8 : rvA N A (Qv N S A h r i) 8 i 0 = A 8 i 0 := by rw [rv8, if_neg hQn]
      have eqq : qN (rvA N A (Qv N S A h r i)) i = qN A i := rv_q hQ
      have e9 : rvA N A (Qv N S A h r i) 9 i 0 = A 9 i 0 := by rw [rv9, if_neg (fun z => cQ z.1)]
      refine ⟨fun h5 => ⟨hB.km (by decide) (by decide) ht, ?_⟩, fun h5 => keyN (fun z => h5 (Lb_can z.1).2.1)⟩
      rw [mr8 (by omega), e8, hq8.1]
      refine pk_eq (qN A i) 0 (fun c0 => keyN (fun z => by have := (Lb_can z.1).2.2.1; omega)) (fun c0 => ?_)
      obtain ⟨ef, hfr⟩ := WF_fr hW hn.2.2.2 c (by omega)
      rw [ix10']
      refine ⟨hB.km (by decide) (by decide) ht, pk_in (10 * i) 240 (by omega), ?_⟩
      rw [nI_clamp (by omega), show (10 * i) = 10 * i + 0 from rfl, mr9 (by omega) (by decide), e9, ef]
      refine pk_eq (fr A i) r (fun c2 => m_many hB ht ?_) (fun c2 => keyN (fun z => c2 z.2))
      have hxc := WF_hc hWi hr
      have e13 : rvA N A (Qv N S A h r i) 13 r 0 = nI (hc A r + rl N S A h i r) := rv_has hW hr (qv_cnt (by omega))
      have hrl : rl N S A h i r ≤ 24 := by rw [rl_ct]; exact Nat.le_trans (ct_le _ _) (by omega)
      have hhc := WF_hc hW hr
      have ect : ct (N 2) (fun b => rvA N A (Qv N S A h r i) 5 b 0 == nI r) = hc A r + rl N S A h i r := by
        rw [← hxc.2.2]
        exact nI_inj (by omega) (by omega) (hxc.1.symm.trans e13)
      have hle := (hWi.lt hr).1
      rw [ect] at hle ⊢
      have hcan : can N S A h i = true := by
        unfold can
        rw [decide_eq_true c, h5, decide_eq_true (by omega : 0 < qN A i), c2, c1]; simp
      refine pk_eq (y := 3) (hc A r + rl N S A h i r) 3 (fun c3 => keyN (fun z => by have := (Lb_can z.1).2.2.2.2; rw [c2] at this; omega)) (fun c3 => ?_)
      have hL : Lb N S A h i = true := by
        unfold Lb
        rw [hcan, c2, Bool.true_and]
        exact decide_eq_true (by omega)
      obtain ⟨es, hWs⟩ := rv_step (Q' := Qv N S A h r (i + 1)) hn.2.2.2 hn.2.2.1 hW hWi hL hQ (fun x => by
        by_cases e : x = i
        · subst e
          unfold Qv
          rw [hL, c2, beq_self_eq_true, beq_self_eq_true, decide_eq_true (Nat.lt_succ_self x)]; simp
        · exact qs e) (by rw [c2]; exact qv_cnt (by omega))
      rw [c2] at es
      refine m_strike (p := 0) hB ht c (by rw [e8, eqq]; exact hq8.1) (by rw [eqq]; omega) (by rw [eqq]; omega) ?_
      refine m_lend hB ht c hr ?_
      rw [← es]
      exact key _ hWs rfl
  · have hi0 : i = 0 := by
      refine Classical.byContradiction fun z => c1 (hne z)
    subst hi0
    have e : rvA N A (Qv N S A h r 0) = rvA N A (Qv N S A h (r + 1) 0) := rv_congr (fun x => qn (fun z q => c1 (by rw [← q]; exact (Lb_can z).2.2.2.1)))
    rw [e] at hWi ⊢
    exact hp hWi
theorem m_res {post : VS → Prop} (hB : Bs N S ks V) (ht : t ≤ 1) (hW : WF B N A) (hh : h < 8) (hp : wl_X9_serve_160 ks t a1 post (nI h) 0 (mput t (rvAll N S h A) T V)) : wl_X9_serve_51 ks t a1 post (nI h) 0 (mput t A T V) := by
  have hn := hB.n
  refine ⟨fun n x V' => ∃ r, r + n = N 3 ∧ x = nI r ∧ WF B N (rvA N A (Qv N S A h r 0)) ∧ V' = mput t (rvA N A (Qv N S A h r 0)) T V, ⟨N 3, 0, by omega, rfl, ?_⟩, ?_⟩
  · rw [rv_congr (Q := fun _ => false) (fun x => by unfold Qv; rw [decide_eq_false (Nat.not_lt_zero _), decide_eq_false (Nat.not_lt_zero _), Bool.and_false, Bool.or_false, Bool.and_false]), rv_0]
    exact ⟨hW, rfl⟩
  rintro n _ _ ⟨r, hr, rfl, hWr, rfl⟩
  have hX : Bs N S ks (mput t (rvA N A (Qv N S A h r 0)) T V) := hB.m
  refine ⟨hB.k16 ht, hB.k15, ?_⟩
  rw [hX.m8]
  refine pk_le (N 3) r (fun c => ?_) (fun c => ?_)
  · have : r = N 3 := by omega
    subst this
    have e : rvA N A (Qv N S A h (N 3) 0) = rvAll N S h A := rv_congr (fun x => by
      unfold Qv
      by_cases c : Lb N S A h x = true
      · obtain ⟨h1, _, h2, _, _⟩ := Lb_can c
        rw [c, decide_eq_true (WF_fr hW hn.2.2.2 h1 h2).2]; rfl
      · rw [Bool.eq_false_iff.mpr c, Bool.false_and])
    rw [e]; exact hp
  · refine m_res1 hB ht hW c hh hWr (fun h9 => ?_)
    rintro _ rfl
    exact ⟨n - 1, by omega, r + 1, by omega, nI_1 r, h9, rfl⟩
theorem m_oth {post : VS → Prop} (hB : Bs N S ks V) (ht : t ≤ 1) (hW : WF B N A) (hh : h < 8) (hp : post (mput t (itn (othS N S h) (N 3) A) T V)) : wl_X9_serve_160 ks t a1 post (nI h) 0 (mput t A T V) := by
  have hn := hB.n
  refine ⟨fun n x V' => ∃ i, i + n = N 3 ∧ x = nI i ∧ WF B N (itn (othS N S h) i A) ∧ V' = mput t (itn (othS N S h) i A) T V, ⟨N 3, 0, by omega, rfl, hW, rfl⟩, ?_⟩
  rintro n _ _ ⟨i, hi, rfl, hWi, rfl⟩
  have hX : Bs N S ks (mput t (itn (othS N S h) i A) T V) := hB.m
  refine ⟨hB.k16 ht, hB.k15, ?_⟩
  rw [hX.m8]
  refine pk_le (N 3) i (fun c => ?_) (fun c => ?_)
  · have : i = N 3 := by omega
    subst this
    exact hp
  have key : ∀ (V9 : VS), V9 = mput t (othS N S h i (itn (othS N S h) i A)) T V → ∀ y : Int32, y = nI i + 1 → ∃ n', n' < n ∧ ∃ i', i' + n' = N 3 ∧ y = nI i' ∧ WF B N (itn (othS N S h) i' A) ∧ V9 = mput t (itn (othS N S h) i' A) T V := by
    rintro _ rfl _ rfl
    exact ⟨n - 1, by omega, i + 1, by omega, nI_1 i, WF_oth hWi hn.2.2.2 c, rfl⟩
  have hs2 := hB.srd c
  rw [ix3]
  refine ⟨hB.k20, pk_in (3 * i) 30 (by omega), ?_⟩
  rw [nI_clamp (by omega), (hX.mrd c).1]
  have h0 := hWi.lt c
  refine pk_eq (S 25 i) h (fun c1 => m_many hB ht ?_) (fun c1 => key _ ?_)
  · rw [← h0.2]
    refine ⟨fun c3 => key _ ?_, fun c3 => m_choose hB ht hWi c (key _ ?_)⟩
    · unfold othS; rw [if_neg (fun z => z.2 c3)]
    · unfold othS; rw [if_pos ⟨c1, c3⟩]
  · unfold othS; rw [if_neg (fun z => c1 z.1)]
theorem m_serve {post : VS → Prop} (hB : Bs N S ks V) (ht : t ≤ 1) (hW : WF B N A) (hh : h < N 0) (hp : post (mput t (au (srvA N S h A) 3 h 0 (A 3 h 0 + 1)) T V)) : wp_X9_serve ks t (nI h) (mput t A T V) post := by
  have hn := hB.n
  refine ⟨hB.k16 ht, hB.km (by decide) (by decide) ht, pk_in h 8 (by omega), ?_⟩
  rw [nI_clamp (by omega), mr3 (by omega), mw3 (by omega)]
  rw [← srv_au (Or.inr rfl)] at hp
  rintro _ rfl
  have hW1 : WF B N (au A 3 h 0 (A 3 h 0 + 1)) := WF_a3 hh hW
  generalize au A 3 h 0 (A 3 h 0 + 1) = A at hp hW1
  refine ⟨fun n x V' => ∃ r, r + n = N 3 ∧ x = nI r ∧ WF B N (bkA N A (Qb N S A h r 0)) ∧ V' = mput t (bkA N A (Qb N S A h r 0)) T V, ⟨N 3, 0, by omega, rfl, ?_⟩, ?_⟩
  · rw [bk_congr (Q := fun _ => false) (fun x => by unfold Qb; rw [decide_eq_false (Nat.not_lt_zero _), decide_eq_false (Nat.not_lt_zero _), Bool.and_false, Bool.or_false, Bool.and_false]), bk_0]
    exact ⟨hW1, rfl⟩
  rintro n _ _ ⟨r, hr, rfl, hWr, rfl⟩
  have hX : Bs N S ks (mput t (bkA N A (Qb N S A h r 0)) T V) := hB.m
  refine ⟨hB.k16 ht, hB.k15, ?_⟩
  rw [hX.m8]
  refine pk_le (N 3) r (fun c => ?_) (fun c => ?_)
  · have : r = N 3 := by omega
    subst this
    have e : bkA N A (Qb N S A h (N 3) 0) = bkAll N S h A := bk_congr (fun x => by
      unfold Qb
      by_cases c : due N S A h x = true
      · rw [c, decide_eq_true (due_h hW1 hn.2.2.2 c).2.2.1]; rfl
      · rw [Bool.eq_false_iff.mpr c, Bool.false_and])
    rw [e]
    have hWb := WF_bk (S := S) (h := h) hW1 hn.2.2.2
    exact m_res hB ht hWb (by omega) (m_oth hB ht (WF_rv hWb hn.2.2.2 hn.2.2.1) (by omega) hp)
  · have hs := hB.srd c
    rw [ix3]
    refine ⟨hB.k20, pk_in (3 * r) 30 (by omega), ?_⟩
    rw [nI_clamp (by omega), (hX.mrd c).1]
    refine pk_eq (S 25 r) h (fun c1 => m_bring hB ht hW1 c c1 hWr (fun h9 => ?_)) (fun c1 => ?_)
    · rintro _ rfl
      exact ⟨n - 1, by omega, r + 1, by omega, nI_1 r, h9, rfl⟩
    · rintro _ rfl
      have e : bkA N A (Qb N S A h r 0) = bkA N A (Qb N S A h (r + 1) 0) := bk_congr (fun x => qn (fun z q => c1 (by rw [← q]; exact (due_h hW1 hn.2.2.2 z).2.2.2.1)))
      exact ⟨n - 1, by omega, r + 1, by omega, nI_1 r, by rw [← e]; exact hWr, by rw [e]⟩
end
