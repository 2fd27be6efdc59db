/-! the model: days -/
section
variable {B : Nat} {N : Nat → Nat} {S : Nat → Nat → Nat} {ks : List KY} {V X : VS} {t h b r i p q x n m : Nat} {A : AF} {T : Nat → Int32} {Q : Nat → Bool} {a1 : Int32}
theorem au_comm {f f' i i' j j' : Nat} {x y : Int32} (h : f ≠ f') : au (au A f i j x) f' i' j' y = au (au A f' i' j' y) f i j x := by
  funext f0 i0 j0
  unfold au
  by_cases c : f0 = f ∧ i0 = i ∧ j0 = j
  · rw [if_pos c, if_neg (fun z => h (c.1.symm.trans z.1)), if_pos c]
  · rw [if_neg c, if_neg c]
theorem au_tw {f i j : Nat} {x y : Int32} : au (au A f i j x) f i j y = au A f i j y := by
  funext f0 i0 j0
  unfold au
  by_cases c : f0 = f ∧ i0 = i ∧ j0 = j
  · rw [if_pos c, if_pos c]
  · rw [if_neg c, if_neg c, if_neg c]
theorem m_round {post : Int32 → VS → Prop} {y0 y1 : Int32} (hB : Bs N S ks V) (ht : t ≤ 1) (hW : WF B N A) (hT0 : T 0 = nI 0) (hT : ∀ x y, x < N 0 → y < N 0 → T (8 * x + y) = nI (dt N S A x y))
    (hp : post ((goF N S A) 16 0 0 - y0) (mput t (au (goF N S A) 0 0 0 (A 0 0 0 + 1)) T V)) : wl_X9_pass_108 ks t post y0 0 0 (mput t (au A 1 0 0 0) T V) := by
  have hn := hB.n
  have hsm := hB.smin
  have hne : ∀ l, l < N 1 → S 20 l ≠ S 21 l := fun l hl => (hB.sln hl).2.2.1
  have hSd : Sy (dt N S A) := Sy_dt hne
  have hz := WF_zN hW hn.1
  refine ⟨fun n x3 x4 V' => ∃ k, k + n = zN A ∧ x4 = nI k ∧ x3 = nI (rndF N S A k).1 ∧ V' = mput t (au (rndF N S A k).2.2 1 0 0 (nI (rndF N S A k).2.1)) T V, ⟨zN A, 0, by omega, rfl, rfl, rfl⟩, ?_⟩
  rintro n _ _ _ ⟨k, hk, rfl, rfl, rfl⟩
  obtain ⟨g1, g2, g3, g4⟩ := rnd_inv hn hsm.2 hW k (by omega)
  have hX : ∀ {A' : AF}, Bs N S ks (mput t A' T V) := hB.m
  have e15 : (rndF N S A k).2.2 15 0 0 = nI (zN A) := by rw [rnd_o (by decide)]; exact hz.1
  refine ⟨hB.k16 ht, ?_⟩
  rw [mr15, au_f (by decide), e15, mr1, au_at]
  refine pk_le (zN A) k (fun c => ?_) (fun c => ?_)
  · have : k = zN A := by omega
    subst this
    have hat : (rndF N S A (zN A)).1 < 8 := by omega
    rw [ix8']
    refine ⟨hB.k15, hB.k21, pk_in (8 * (rndF N S A (zN A)).1) 64 (by omega), ?_⟩
    rw [nI_clamp (by omega), mput_t, mw1, au_tw]
    rintro _ rfl
    rw [mr0, mw0, au_f (by decide)]
    rintro _ rfl
    rw [mr16, au_f (by decide)]
    have eu : nI (rndF N S A (zN A)).2.1 + T (8 * (rndF N S A (zN A)).1) = nI (usdF N S A) := by
      unfold usdF
      by_cases c2 : (rndF N S A (zN A)).2.1 = 0
      · rw [if_pos c2, c2, g4 c2, show 8 * 0 = 0 from rfl, hT0]; rfl
      · have ha : (rndF N S A (zN A)).1 < N 0 ∧ 0 < N 0 := by
          have hz0 : 0 < zN A := by
            refine Nat.pos_of_ne_zero (fun z => ?_)
            have e0 : (rndF N S A (zN A)).2.1 = 0 := by rw [z]; rfl
            omega
          have := (hz.2.2 0 hz0).2
          omega
        rw [if_neg c2, show T (8 * (rndF N S A (zN A)).1) = nI (dt N S A (rndF N S A (zN A)).1 0) from hT _ 0 ha.1 ha.2, nI_add]
    rw [eu, rnd_o (f := 0) (by decide)]
    exact hp
  · have hzk := hz.2.2 k c
    have e14 : hA (rndF N S A k).2.2 k = hA A k := by unfold hA; rw [rnd_o (by decide)]
    have at14 : (rndF N S A k).2.2 14 0 k = nI (hA A k) := by rw [rnd_o (by decide)]; exact hzk.1
    have hat : (rndF N S A k).1 < N 0 := by have := hzk.2; omega
    refine ⟨hB.km (by decide) (by decide) ht, pk_in k 8 (by omega), ?_⟩
    rw [nI_clamp (by omega), mr14 (by omega), au_f (by decide), at14]
    rintro _ rfl
    rw [ix8, ix8']
    refine ⟨hB.k15, hB.k21, pk_in (8 * (rndF N S A k).1 + hA A k) 64 (by omega), pk_in (8 * hA A k) 64 (by omega), ?_⟩
    rw [nI_clamp (by omega), nI_clamp (by omega), mput_t, mput_t, hT _ _ hat hzk.2, show T (8 * hA A k) = nI (dt N S A (hA A k) 0) from hT _ 0 hzk.2 (by omega), hX.mmin]
    rintro _ rfl
    have b1 := hSd.2.2 (rndF N S A k).1 (hA A k)
    have b2 := hSd.2.2 (hA A k) 0
    have es : rndF N S A (k + 1) = rst (dt N S A) N S k (rndF N S A k) := rfl
    unfold rst at es
    rw [e14] at es
    have fin : ∀ V9 : VS, V9 = mput t (au (rndF N S A (k + 1)).2.2 1 0 0 (nI (rndF N S A (k + 1)).2.1)) T V → ∀ y : Int32, y = nI k + 1 → ∃ n', n' < n ∧ ∃ k', k' + n' = zN A ∧ y = nI k' ∧ nI (rndF N S A (k + 1)).1 = nI (rndF N S A k').1 ∧ V9 = mput t (au (rndF N S A k').2.2 1 0 0 (nI (rndF N S A k').2.1)) T V := by
      rintro _ rfl _ rfl
      exact ⟨n - 1, by omega, k + 1, by omega, nI_1 k, rfl, rfl⟩
    rw [es] at fin
    generalize rndF N S A k = q at g1 g2 g3 g4 e15 e14 at14 hat b1 fin
    generalize e1 : dt N S A q.1 (hA A k) = d1 at b1 fin
    generalize e2 : dt N S A (hA A k) 0 = d2 at b2 fin
    rw [nI_add, show nI (q.2.1 + d1) + 5 = nI (q.2.1 + d1 + 5) from nI_add _ 5, nI_add, show nI q.2.1 + (nI d1 + 5) = nI (q.2.1 + d1 + 5) by rw [show nI d1 + 5 = nI (d1 + 5) from nI_add _ 5, nI_add, Nat.add_assoc]]
    refine pk_le (q.2.1 + d1 + 5 + d2) (S 29 0) (fun c3 => ?_) (fun c3 => ⟨hB.km (by decide) (by decide) ht, pk_in (hA A k) 8 (by omega), ?_⟩)
    · rw [if_pos c3] at fin
      rw [mw1, au_tw]
      rintro _ rfl
      refine m_serve hB ht (WF_a1 g1) hzk.2 ?_
      rw [srv_au (Or.inl rfl), au_f (by decide), au_comm (by decide)]
      exact fin _ rfl
    · rw [if_neg (by omega)] at fin
      rw [nI_clamp (by omega), mr4 (by omega), mw4 (by omega), au_f (by decide), au_comm (by decide)]
      rintro _ rfl
      exact fin _ rfl
theorem m_pass {post : Int32 → VS → Prop} (hB : Bs N S ks V) (ht : t ≤ 1) (hBd : B < 2 ^ 31) (hW : WF B N A) (hp : ∀ T', post ((dayF N S A) 16 0 0 - A 16 0 0) (mput t (dayF N S A) T' V)) : wp_X9_pass ks t (mput t A T V) post := by
  have hn := hB.n
  have hd := WF_dN hW hBd
  have hX0 : Bs N S ks (mput t A T V) := hB.m
  refine ⟨hB.k16 ht, ?_⟩
  rw [mr16, mr0, hd.1, show nI (dN A) - nI (dN A) / 7 * 7 = nI (dN A % 7) from pk_rem (d := 7) (by omega) (by decide) (by decide)]
  rintro _ rfl
  refine ⟨hB.k15, hB.k18, pk_in (dN A % 7) 7 (by omega), ?_⟩
  rw [nI_clamp (by omega), hX0.mrain (by omega)]
  rintro _ rfl
  have hr9 := hB.srain (d := dN A % 7) (by omega)
  have hsb := hB.sb
  have hWw := WF_weaF (N := N) (S := S) hsb.2.2.1 hsb.2.2.2 hW
  have e0 : weaF N S A 0 0 0 = A 0 0 0 := wea_o (by decide)
  have ed : dayF N S A = au (goF N S (weaF N S A)) 0 0 0 (weaF N S A 0 0 0 + 1) := by rw [e0]; rfl
  rw [ed] at hp
  unfold weaF at hp hWw
  generalize S 28 (dN A % 7) = rr at hp hr9 hWw
  refine ⟨fun n x V' => ∃ i, i + n = N 1 ∧ x = nI i ∧ V' = mput t (weaA S (nI rr) i A) T V, ⟨N 1, 0, by omega, rfl, by rw [weaA_0]⟩, ?_⟩
  rintro n _ _ ⟨i, hi, rfl, rfl⟩
  have hX : Bs N S ks (mput t (weaA S (nI rr) i A) T V) := hB.m
  refine ⟨hB.k16 ht, hB.k15, ?_⟩
  rw [hX.m2]
  refine pk_le (N 1) i (fun c => ?_) (fun c => ?_)
  · have : i = N 1 := by omega
    subst this
    refine t_find hB ht hWw.2.1 (fun T2 h0 hT2 => ?_)
    rw [mw1]
    rintro _ rfl
    exact m_round (y1 := 0) hB ht hWw h0 hT2 (hp T2)
  have key : ∀ V9, V9 = mput t (weaA S (nI rr) (i + 1) A) T V → ∀ y : Int32, y = nI i + 1 → ∃ n', n' < n ∧ ∃ i', i' + n' = N 1 ∧ y = nI i' ∧ V9 = mput t (weaA S (nI rr) i' A) T V := by
    rintro _ rfl _ rfl
    exact ⟨n - 1, by omega, i + 1, by omega, nI_1 i, rfl⟩
  refine ⟨fun c2 => ⟨hB.km (by decide) (by decide) ht, pk_in i 16 (by omega), ?_⟩, fun c2 => ⟨hB.km (by decide) (by decide) ht, pk_in i 16 (by omega), hB.k17, ?_⟩⟩
  · rw [nI_clamp (by omega), mr2 (by omega), mw2 (by omega), weaA_r]
    rintro _ rfl
    refine key _ ?_
    rw [← weaA_s]
    unfold wm
    rw [if_pos c2]
  · rw [ix43]
    refine ⟨pk_in (4 * i + 3) 64 (by omega), ?_⟩
    rw [nI_clamp (by omega), nI_clamp (by omega), mr2 (by omega), mw2 (by omega), weaA_r, (hX.mln c).2.2.2]
    rintro _ rfl
    refine key _ ?_
    rw [← weaA_s]
    unfold wm
    rw [if_neg c2]
theorem m_days {post : Int32 → VS → Prop} (hB : Bs N S ks V) (ht : t ≤ 1) (hBd : B + m < 2 ^ 31) (hW : WF B N A) (hp : ∀ T', post ((daysF N S m A) 16 0 0 - A 16 0 0) (mput t (daysF N S m A) T' V)) : wp_X10_pass ks t (nI m) (mput t A T V) post := by
  have hsb := hB.sb
  refine ⟨fun n x2 x3 V' => ∃ i T', i + n = m ∧ x3 = nI i ∧ x2 = (daysF N S i A) 16 0 0 - A 16 0 0 ∧ V' = mput t (daysF N S i A) T' V, ⟨m, 0, T, by omega, rfl, (Int32.sub_self _).symm, rfl⟩, ?_⟩
  rintro n _ _ _ ⟨i, T1, hi, rfl, rfl, rfl⟩
  refine pk_le m i (fun c => ?_) (fun c => ⟨hB.k16 ht, ?_⟩)
  · have : i = m := by omega
    subst this
    exact hp T1
  · refine m_pass hB ht (by omega) (WF_days hsb i (by omega) hW) (fun T2 => ?_)
    rintro _ rfl _ rfl
    refine ⟨n - 1, by omega, i + 1, T2, by omega, nI_1 i, ?_, rfl⟩
    show _ = dayF N S (daysF N S i A) 16 0 0 - A 16 0 0
    grind
end
