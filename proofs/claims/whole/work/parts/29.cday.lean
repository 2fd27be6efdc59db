/-! the class: days -/
section
variable {B : Nat} {N : Nat → Nat} {S : Nat → Nat → Nat} {ks : List KY} {V X : VS} {w h b r i p q k n : Nat} {A : AF} {D : Nat → Int32} {x : Int32}
theorem t_fmod {post : Int32 → VS → Prop} {d : Nat} (hd : d < 2 ^ 31) (hp : post (nI (d % 7)) X) : wp_J9_floorMod_7cf53 ks (nI d) 7 X post := by
  refine ⟨by decide, ?_⟩
  rintro _ rfl
  rw [show nI d - nI d / 7 * 7 = nI (d % 7) from pk_rem (d := 7) hd (by decide) (by decide)]
  exact ⟨fun _ => hp, fun z => absurd (nI_xor7 hd) z⟩
theorem t_rainOf {post : Int32 → VS → Prop} (hX : Bs N S ks X) (hR : Rn S w X) (hw : w ≤ 1) (hi : i < 7) (hp : post (nI (S 28 i)) X) : wp_X7_rainOf ks w (nI i) X post := by
  refine ⟨fun z => absurd z (nI_pos (by omega)), fun _ => ⟨hX.k1 hw, hX.k14 hw, ?_⟩⟩
  refine pk_le (x := 7) 7 i (fun z => absurd z (by omega)) (fun _ => ⟨pk_in i 7 hi, ?_⟩)
  rw [nI_clamp (by omega), hR.1 i hi]; exact hp
theorem t_wea {post : VS → Prop} (hB : Bs N S ks V) (hR : Rn S w V) (hw : w ≤ 1) (hBd : B < 2 ^ 31) (hW : WF B N A) (hp : post (cput N w (weaF N S A) D V)) : wp_X7_weather ks w (cput N w A D V) post := by
  have hn := hB.n
  have hd := WF_dN hW hBd
  refine ⟨hB.k1 hw, ?_⟩
  rw [cr0, hd.1]
  refine t_fmod (by omega) (t_rainOf hB.c hR.c hw (by omega) ?_)
  have hr9 := hB.srain (d := dN A % 7) (by omega)
  unfold weaF at hp
  generalize S 28 (dN A % 7) = rr at hp hr9
  refine ⟨fun n x V' => ∃ i, i + n = N 1 ∧ x = nI i ∧ V' = cput N w (weaA S (nI rr) i A) D V, ⟨N 1, 0, by omega, rfl, by rw [weaA_0]⟩, ?_⟩
  rintro n _ _ ⟨i, hi, rfl, rfl⟩
  have hX : Bs N S ks (cput N w (weaA S (nI rr) i A) D V) := hB.c
  refine ⟨hB.k1 hw, hB.k2 hw (by decide), ?_⟩
  have hsz := hX.sz hw (K := 1) (by decide)
  rw [hsz]
  refine pk_le (N 1) i (fun c => ?_) (fun c => ?_)
  · have : i = N 1 := by omega
    subst this
    exact hp
  have key : ∀ V9, V9 = cput N w (weaA S (nI rr) (i + 1) A) D V → ∀ y : Int32, y = nI i + 1 → ∃ n', n' < n ∧ ∃ i', i' + n' = N 1 ∧ y = nI i' ∧ V9 = cput N w (weaA S (nI rr) i' A) D V := by
    rintro _ rfl _ rfl
    exact ⟨n - 1, by omega, i + 1, by omega, nI_1 i, rfl⟩
  rw [← hsz]
  refine lget hX hw (by decide) c ⟨hB.k5 hw c, fun c2 => ⟨hB.k5 hw c, ?_⟩, fun c2 => ⟨hB.k5 hw c, ?_⟩⟩
  · rintro _ rfl
    refine key _ ?_
    rw [cr2 c, cw2 c, weaA_r, ← weaA_s]
    unfold wm
    rw [if_pos c2]
  · rintro _ rfl
    refine key _ ?_
    rw [cr2 c, cw2 c, weaA_r, ← weaA_s, (hX.ln hw c).2.2.2]
    unfold wm
    rw [if_neg c2]
theorem t_haltAt {post : Int32 → VS → Prop} (hX : Bs N S ks X) (hw : w ≤ 1) (hi : i < 8) (hp : post (X 13 w 0 0 i) X) : wp_X5_haltAt ks w (nI i) X post := by
  refine ⟨fun z => absurd z (nI_pos (by omega)), fun _ => ⟨hX.k12 hw, hX.k13 hw, ?_⟩⟩
  refine pk_le (x := 8) 8 i (fun z => absurd z (by omega)) (fun _ => ⟨pk_in i 8 hi, ?_⟩)
  rw [nI_clamp (by omega)]; exact hp
theorem t_no {post : VS → Prop} {B24 : Int32 → Int32 → Int32 → VS → Prop} {x1 x2 x5 : Int32} (hB : Bs N S ks V) (hw : w ≤ 1) (hh : h < N 0) (hk : ∀ y : Int32, y = nI k + 1 → B24 x1 x2 y (cput N w (au A 4 h 0 (A 4 h 0 + 1)) D V)) : wb_X7_goRound_107 ks w post B24 x1 x2 (nI k) (nI h) x5 0 (cput N w A D V) :=
  ⟨fun _ => ⟨hB.k1 hw, t_note hB hw hh (by rw [if_pos rfl]; exact hk)⟩, fun z => absurd rfl z⟩
theorem t_yes {post : VS → Prop} {B24 : Int32 → Int32 → Int32 → VS → Prop} {x1 x2 x5 : Int32} (hB : Bs N S ks V) (hw : w ≤ 1) (hW : WF B N A) (hh : h < N 0) (hk : ∀ y : Int32, y = nI k + 1 → B24 (nI h) (x2 + (x5 + 5)) y (cput N w (au (srvA N S h A) 3 h 0 (A 3 h 0 + 1)) D V)) : wb_X7_goRound_107 ks w post B24 x1 x2 (nI k) (nI h) x5 1 (cput N w A D V) := by
  have hn := hB.n
  refine ⟨fun z => absurd z (by decide), fun _ => ?_⟩
  rintro _ rfl
  have e : srvA N S h A 3 h 0 = A 3 h 0 := srv_o (by decide)
  refine ⟨hB.k1 hw, t_back hB hw hW (by omega) (t_res hB hw (WF_bk hW hn.2.2.2) (by omega) (t_oth hB hw (WF_rv (WF_bk hW hn.2.2.2) hn.2.2.2 hn.2.2.1) (by omega) ⟨hB.k1 hw, t_note hB hw hh ?_⟩))⟩
  rw [if_neg (by decide), show itn (othS N S h) (N 3) (rvAll N S h (bkAll N S h A)) = srvA N S h A from rfl, e]
  exact hk
theorem t_go {post : VS → Prop} (hB : Bs N S ks V) (hR : Rn S w V) (hw : w ≤ 1) (hW : WF B N A) (hp : ∀ D', post (cput N w (goF N S A) D' V)) : wp_X7_goRound ks w (cput N w A D V) post := by
  have hn := hB.n
  have hsm := hB.smin
  have hX0 : Bs N S ks (cput N w A D V) := hB.c
  have hne : ∀ l, l < N 1 → S 20 l ≠ S 21 l := fun l hl => (hB.sln hl).2.2.1
  have hSd : Sy (dt N S A) := Sy_dt hne
  have hz := WF_zN hW hn.1
  refine ⟨hB.k1 hw, hB.k2 hw (by decide), hB.k10 hw, ?_⟩
  rw [hX0.sz hw (by decide)]
  refine t_meas hB hw hW.2.1 (fun D2 hD2 => ?_)
  refine ⟨fun n x1 x2 x3 V' => ∃ k, k + n = zN A ∧ x3 = nI k ∧ x1 = nI (rndF N S A k).1 ∧ x2 = nI (rndF N S A k).2.1 ∧ V' = cput N w (rndF N S A k).2.2 D2 V, ⟨zN A, 0, by omega, rfl, rfl, rfl, rfl⟩, ?_⟩
  rintro n _ _ _ _ ⟨k, hk, rfl, rfl, rfl, rfl⟩
  obtain ⟨g1, g2, g3, g4⟩ := rnd_inv hn hsm.2 hW k (by omega)
  have e15 : (rndF N S A k).2.2 15 0 0 = nI (zN A) := by rw [rnd_o (by decide)]; exact hz.1
  refine ⟨hB.k1 hw, hB.k12 hw, hB.k12 hw, ?_⟩
  rw [cr15, e15]
  refine pk_le (zN A) k (fun c => ?_) (fun c => ?_)
  · have : k = zN A := by omega
    subst this
    have hu := hp D2
    unfold goF usdF at hu
    refine pk_le (rndF N S A (zN A)).2.1 0 (fun c2 => ?_) (fun c2 => ⟨hB.k10 hw, ?_⟩)
    · rintro _ rfl
      rw [if_pos (by omega)] at hu
      rw [cw1]; exact hu
    · rw [if_neg (by omega)] at hu
      have ha : (rndF N S A (zN A)).1 < N 0 ∧ 0 < N 0 := by
        have hz0 : 0 < zN A := by
          refine Nat.pos_of_ne_zero (fun z => ?_)
          have e0 : (rndF N S A (zN A)).2.1 = 0 := by rw [z]; rfl
          omega
        have := (hz.2.2 0 hz0).2
        omega
      refine t_timeE (y := 0) hB hw ha.1 ha.2 hn.1 (hSd.2.1 _) hD2 ?_
      rintro _ rfl
      rw [cw1, nI_add]; exact hu
  · have hzk := hz.2.2 k c
    have e14 : hA (rndF N S A k).2.2 k = hA A k := by unfold hA; rw [rnd_o (by decide)]
    have at14 : (rndF N S A k).2.2 14 0 k = nI (hA A k) := by rw [rnd_o (by decide)]; exact hzk.1
    have hX : ∀ {A' : AF}, Bs N S ks (cput N w A' D2 V) := hB.c
    refine t_haltAt hX hw (by omega) ?_
    rw [cr14 (by omega), at14]
    have hat : (rndF N S A k).1 < N 0 := by have := hzk.2; omega
    refine ⟨hB.k10 hw, t_timeE hB hw hat hzk.2 hn.1 (hSd.2.1 _) hD2 (t_timeE (y := 0) hB hw hzk.2 (by omega) hn.1 (hSd.2.1 _) hD2 ?_)⟩
    have b1 := hSd.2.2 (rndF N S A k).1 (hA A k)
    have b2 := hSd.2.2 (hA A k) 0
    have es : rndF N S A (k + 1) = rst (dt N S A) N S k (rndF N S A k) := rfl
    unfold rst at es
    rw [e14] at es
    have fin : ∀ V9 : VS, V9 = cput N w (rndF N S A (k + 1)).2.2 D2 V → ∀ y : Int32, y = nI k + 1 → ∃ n', n' < n ∧ ∃ k', k' + n' = zN A ∧ y = nI k' ∧ nI (rndF N S A (k + 1)).1 = nI (rndF N S A k').1 ∧ nI (rndF N S A (k + 1)).2.1 = nI (rndF N S A k').2.1 ∧ V9 = cput N w (rndF N S A k').2.2 D2 V := by
      rintro _ rfl _ rfl
      exact ⟨n - 1, by omega, k + 1, by omega, nI_1 k, rfl, rfl, rfl⟩
    rw [es] at fin
    generalize rndF N S A k = q at g1 g2 g3 g4 e15 e14 at14 hat b1 fin
    generalize e1 : dt N S A q.1 (hA A k) = d1 at b1 fin
    generalize e2 : dt N S A (hA A k) 0 = d2 at b2 fin
    refine pk_le (x := 1000000) 1000000 d1 (fun c1 => t_no hB hw hzk.2 (by rw [if_neg (show ¬ (q.2.1 + d1 + 5 + d2 ≤ S 29 0) by omega)] at fin; exact fun y hy => fin _ rfl y hy)) (fun c1 => pk_le (x := 1000000) 1000000 d2 (fun c2 => t_no hB hw hzk.2 (by rw [if_neg (show ¬ (q.2.1 + d1 + 5 + d2 ≤ S 29 0) by omega)] at fin; exact fun y hy => fin _ rfl y hy)) (fun c2 => ?_))
    rw [hR.c.2, nI_add, show nI (q.2.1 + d1) + 5 = nI (q.2.1 + d1 + 5) from nI_add _ 5, nI_add]
    refine pk_lt (S 29 0) (q.2.1 + d1 + 5 + d2) (fun c3 => t_no hB hw hzk.2 (by rw [if_neg (show ¬ (q.2.1 + d1 + 5 + d2 ≤ S 29 0) by omega)] at fin; exact fun y hy => fin _ rfl y hy)) (fun c3 => ?_)
    rw [if_pos c3] at fin
    refine t_yes hB hw g1 hzk.2 (fun y hy => ?_)
    rw [show nI q.2.1 + (nI d1 + 5) = nI (q.2.1 + d1 + 5) by rw [show nI d1 + 5 = nI (d1 + 5) from nI_add _ 5, nI_add, Nat.add_assoc]]
    exact fin _ rfl y hy
theorem t_days {post : VS → Prop} {m : Nat} (hB : Bs N S ks V) (hR : Rn S w V) (hw : w ≤ 1) (hBd : B + m < 2 ^ 31) (hW : WF B N A) (hp : ∀ D', post (cput N w (daysF N S m A) D' V)) : wp_X7_passDays ks w (nI m) (cput N w A D V) post := by
  refine ⟨fun n x V' => ∃ i D', i + n = m ∧ x = nI i ∧ V' = cput N w (daysF N S i A) D' V, ⟨m, 0, D, by omega, rfl, rfl⟩, ?_⟩
  rintro n _ _ ⟨i, D1, hi, rfl, rfl⟩
  have hsb := hB.sb
  refine pk_le m i (fun c => ?_) (fun c => ⟨hB.k1 hw, ?_⟩)
  · have : i = m := by omega
    subst this
    exact hp D1
  · have hWi := WF_days hsb i (by omega) hW
    refine t_wea hB hR hw (by omega) hWi ?_
    refine t_go hB hR hw (WF_weaF hsb.2.2.1 hsb.2.2.2 hWi) (fun D2 => ?_)
    rintro _ rfl _ rfl
    refine ⟨n - 1, by omega, i + 1, D2, by omega, nI_1 i, ?_⟩
    have e0 : goF N S (weaF N S (daysF N S i A)) 0 0 0 = daysF N S i A 0 0 0 := by
      unfold goF
      rw [au_f (by decide), rnd_o (by decide), wea_o (by decide)]
    rw [cr0, cw0, e0]
    rfl
end
