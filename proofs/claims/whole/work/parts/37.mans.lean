/-! the model's answers -/
section
variable {B : Nat} {N : Nat → Nat} {S : Nat → Nat → Nat} {ks : List KY} {V X : VS} {t h l b r i p q k n c a : Nat} {A : AF} {T : Nat → Int32} {x : Int32}
theorem m_owed {post : Int32 → VS → Prop} (hB : Bs N S ks V) (ht : t ≤ 1) (hp : post (oweS N A) (mput t A T V)) : wp_X9_owed ks t (mput t A T V) post := by
  have hn := hB.n
  have hX : Bs N S ks (mput t A T V) := hB.m
  refine ⟨fun n x2 x3 V' => ∃ i, i + n = N 3 ∧ x3 = nI i ∧ x2 = sm i (fun b => A 11 b 0) ∧ V' = mput t A T V, ⟨N 3, 0, by omega, rfl, rfl, rfl⟩, ?_⟩
  rintro n _ _ _ ⟨i, hi, rfl, rfl, rfl⟩
  refine ⟨hX.k16 ht, hX.k15, ?_⟩
  rw [hX.m8]
  refine pk_le (N 3) i (fun c => ?_) (fun c => ⟨hX.km (by decide) (by decide) ht, pk_in i 10 (by omega), ?_⟩)
  · have : i = N 3 := by omega
    subst this
    exact hp
  rw [nI_clamp (by omega), mr11 (by omega)]
  rintro _ rfl _ rfl
  exact ⟨n - 1, by omega, i + 1, by omega, nI_1 i, rfl, rfl⟩
theorem m_missed {post : Int32 → VS → Prop} (hB : Bs N S ks V) (ht : t ≤ 1) (hp : post (missS N A) (mput t A T V)) : wp_X9_missedOnes ks t (mput t A T V) post := by
  have hn := hB.n
  have hX : Bs N S ks (mput t A T V) := hB.m
  refine ⟨fun n x2 x3 V' => ∃ i, i + n = N 0 ∧ x3 = nI i ∧ x2 = sm i (fun b => A 4 b 0) ∧ V' = mput t A T V, ⟨N 0, 0, by omega, rfl, rfl, rfl⟩, ?_⟩
  rintro n _ _ _ ⟨i, hi, rfl, rfl, rfl⟩
  refine ⟨hX.k16 ht, hX.k15, ?_⟩
  rw [hX.m1]
  refine pk_le (N 0) i (fun c => ?_) (fun c => ⟨hX.km (by decide) (by decide) ht, pk_in i 8 (by omega), ?_⟩)
  · have : i = N 0 := by omega
    subst this
    exact hp
  rw [nI_clamp (by omega), mr4 (by omega)]
  rintro _ rfl _ rfl
  exact ⟨n - 1, by omega, i + 1, by omega, nI_1 i, rfl, rfl⟩
theorem m_placeOf {post : Int32 → VS → Prop} (hB : Bs N S ks V) (ht : t ≤ 1) (hb : b < N 2) (h8 : A 8 b 0 = nI (qN A b)) (hq : qN A b ≤ 10) (hp : post (plI A b r) (mput t A T V)) : wp_X9_placeOf ks t (nI r) (nI b) (mput t A T V) post := by
  have hn := hB.n
  unfold plI plc at hp
  generalize qN A b = q at h8 hq hp
  refine ⟨fun n x2 V' => ∃ i, i + n = q ∧ x2 = nI i ∧ (∀ j, j < i → (A 9 b j == nI r) = false) ∧ V' = mput t A T V, ⟨q, 0, by omega, rfl, fun j hj => absurd hj (Nat.not_lt_zero _), rfl⟩, ?_⟩
  rintro n _ _ ⟨i, hi, rfl, hno, rfl⟩
  refine ⟨hB.k16 ht, hB.km (by decide) (by decide) ht, pk_in b 24 (by omega), ?_⟩
  rw [nI_clamp (by omega), mr8 (by omega), h8, ix10]
  refine pk_le q i (fun c => ?_) (fun c => ⟨hB.km (by decide) (by decide) ht, pk_in (10 * b + i) 240 (by omega), ?_⟩)
  · have : i = q := by omega
    subst this
    rw [fnd_none hno, if_neg (Nat.lt_irrefl _)] at hp
    exact hp
  rw [nI_clamp (by omega), mr9 (by omega) (by omega)]
  refine ⟨fun c2 => ?_, fun c2 => ?_⟩
  · rw [fnd_at (p := fun k => A 9 b k == nI r) c (beq_iff_eq.mpr c2) hno, if_pos c] at hp
    exact hp
  · rintro _ rfl
    refine ⟨n - 1, by omega, i + 1, by omega, nI_1 i, fun j hj => ?_, rfl⟩
    by_cases e : j = i
    · rw [e]; exact beq_eq_false_iff_ne.mpr c2
    · exact hno j (by omega)
theorem ct_f0 {i : Nat} {p : Nat → Bool} (h : p i = false) : nI (ct i p) + 0 = nI (ct (i + 1) p) := (Int32.add_zero _).trans (ct_f h)
theorem m_haltTold {post : Int32 → VS → Prop} (hB : Bs N S ks V) (hW : WF B N A) (hh : h < N 0) (ha : a < 5) (hp : post (ansH N S A h a) (mput 0 A T V)) : wp_X10_haltTold ks (nI h) (nI a) (mput 0 A T V) post := by
  have hn := hB.n
  have h01 : (0 : Nat) ≤ 1 := Nat.zero_le _
  have hX : Bs N S ks (mput 0 A T V) := hB.m
  have hz := WF_zN hW hn.1
  have L106 : wl_X10_haltTold_106 ks (nI h) (nI a) post (nI h) (nI a) (nI (ct (N 3) (fun r => S 25 r == h))) (nI (ct (N 1) (fun l => (S 20 l == h) || (S 21 l == h)))) 0 0 (mput 0 A T V) := by
    refine ⟨fun n x5 x6 V' => ∃ i, i + n = zN A ∧ x6 = nI i ∧ x5 = nI (ct i (fun k => A 14 0 k == nI h)) ∧ V' = mput 0 A T V, ⟨zN A, 0, by omega, rfl, rfl, rfl⟩, ?_⟩
    rintro n _ _ _ ⟨i, hi, rfl, rfl, rfl⟩
    refine ⟨hX.k15, hX.k16 h01, ?_⟩
    rw [mr15, hz.1]
    refine pk_le (zN A) i (fun c => ?_) (fun c => ⟨hX.km (by decide) (by decide) h01, pk_in i 8 (by omega), ?_⟩)
    · have : i = zN A := by omega
      subst this
      refine pk_eq (y := 0) a 0 (fun z => by subst z; exact hp) (fun z0 => pk_eq (y := 1) a 1 (fun z => by subst z; exact hp) (fun z1 => pk_eq (y := 2) a 2 (fun z => by subst z; exact hp) (fun z2 => pk_eq (y := 3) a 3 (fun z => ?_) (fun z3 => ?_))))
      · subst z
        refine ⟨hX.km (by decide) (by decide) h01, pk_in h 8 (by omega), ?_⟩
        rw [nI_clamp (by omega), mr3 (by omega)]; exact hp
      · obtain rfl : a = 4 := by omega
        refine ⟨hX.km (by decide) (by decide) h01, pk_in h 8 (by omega), ?_⟩
        rw [nI_clamp (by omega), mr4 (by omega)]; exact hp
    · rw [nI_clamp (by omega), mr14 (by omega)]
      refine ⟨fun c2 => ?_, fun c2 => ?_⟩
      · rintro _ rfl _ rfl
        exact ⟨n - 1, by omega, i + 1, by omega, nI_1 i, ct_t (p := fun k => A 14 0 k == nI h) (beq_iff_eq.mpr c2), rfl⟩
      · rintro _ rfl _ rfl
        exact ⟨n - 1, by omega, i + 1, by omega, nI_1 i, ct_f0 (p := fun k => A 14 0 k == nI h) (beq_eq_false_iff_ne.mpr c2), rfl⟩
  have L50 : wl_X10_haltTold_50 ks (nI h) (nI a) post (nI h) (nI a) (nI (ct (N 3) (fun r => S 25 r == h))) 0 0 0 (mput 0 A T V) := by
    refine ⟨fun n x4 x6 V' => ∃ i, i + n = N 1 ∧ x6 = nI i ∧ x4 = nI (ct i (fun l => (S 20 l == h) || (S 21 l == h))) ∧ V' = mput 0 A T V, ⟨N 1, 0, by omega, rfl, rfl, rfl⟩, ?_⟩
    rintro n _ _ _ ⟨i, hi, rfl, rfl, rfl⟩
    refine ⟨hX.k15, ?_⟩
    rw [hX.m2, ix41, ix4]
    refine pk_le (N 1) i (fun c => ?_) (fun c => ⟨hX.k17, pk_in (4 * i) 64 (by omega), ?_⟩)
    · have : i = N 1 := by omega
      subst this
      exact L106
    have hs := hX.sln c
    rw [nI_clamp (by omega), nI_clamp (by omega), (hX.mln c).1, (hX.mln c).2.1]
    refine pk_eq (S 20 i) h (fun c2 => ?_) (fun c2 => ⟨pk_in (4 * i + 1) 64 (by omega), pk_eq (S 21 i) h (fun c3 => ?_) (fun c3 => ?_)⟩)
    · rintro _ rfl _ rfl
      exact ⟨n - 1, by omega, i + 1, by omega, nI_1 i, ct_t (p := fun l => (S 20 l == h) || (S 21 l == h)) (by rw [beq_iff_eq.mpr c2]; rfl), rfl⟩
    · rintro _ rfl _ rfl
      exact ⟨n - 1, by omega, i + 1, by omega, nI_1 i, ct_t (p := fun l => (S 20 l == h) || (S 21 l == h)) (by rw [beq_iff_eq.mpr c3, Bool.or_true]), rfl⟩
    · rintro _ rfl _ rfl
      exact ⟨n - 1, by omega, i + 1, by omega, nI_1 i, ct_f0 (p := fun l => (S 20 l == h) || (S 21 l == h)) (by rw [beq_eq_false_iff_ne.mpr c2, beq_eq_false_iff_ne.mpr c3]; rfl), rfl⟩
  refine ⟨fun n x3 x6 V' => ∃ i, i + n = N 3 ∧ x6 = nI i ∧ x3 = nI (ct i (fun r => S 25 r == h)) ∧ V' = mput 0 A T V, ⟨N 3, 0, by omega, rfl, rfl, rfl⟩, ?_⟩
  rintro n _ _ _ ⟨i, hi, rfl, rfl, rfl⟩
  refine ⟨hX.k15, ?_⟩
  rw [hX.m8, ix3]
  refine pk_le (N 3) i (fun c => ?_) (fun c => ⟨hX.k20, pk_in (3 * i) 30 (by omega), ?_⟩)
  · have : i = N 3 := by omega
    subst this
    exact L50
  have hs := hX.srd c
  rw [nI_clamp (by omega), (hX.mrd c).1]
  refine pk_eq (S 25 i) h (fun c2 => ?_) (fun c2 => ?_)
  · rintro _ rfl _ rfl
    exact ⟨n - 1, by omega, i + 1, by omega, nI_1 i, ct_t (p := fun r => S 25 r == h) (beq_iff_eq.mpr c2), rfl⟩
  · rintro _ rfl _ rfl
    exact ⟨n - 1, by omega, i + 1, by omega, nI_1 i, ct_f0 (p := fun r => S 25 r == h) (beq_eq_false_iff_ne.mpr c2), rfl⟩
theorem m_laneTold {post : Int32 → VS → Prop} (hB : Bs N S ks V) (hW : WF B N A) (hl : l < N 1) (ha : a < 6) (hp : post (ansL S A l a) (mput 0 A T V)) : wp_X10_laneTold ks (nI l) (nI a) (mput 0 A T V) post := by
  have hn := hB.n
  have h01 : (0 : Nat) ≤ 1 := Nat.zero_le _
  have hX : Bs N S ks (mput 0 A T V) := hB.m
  have hml := hX.mln hl
  refine pk_le (x := 4) 4 a (fun c => pk_eq (y := 4) a 4 (fun z => ⟨hX.k15, hX.k16 h01, hX.km (by decide) (by decide) h01, pk_in l 16 (by omega), ?_⟩) (fun z => ⟨hX.k15, hX.k16 h01, t_mmin hB h01 hW.2.1 hl ?_⟩)) (fun c => ⟨hX.k15, hX.k17, ?_⟩)
  · subst z
    rw [nI_clamp (by omega), mr2 (by omega)]; exact hp
  · obtain rfl : a = 5 := by omega
    exact hp
  · have e : (4 : Int32) * nI l + nI a = nI (4 * l + a) := by rw [ix4, nI_add]
    rw [e]
    refine ⟨pk_in (4 * l + a) 64 (by omega), ?_⟩
    rw [nI_clamp (by omega)]
    rcases (by omega : a = 0 ∨ a = 1 ∨ a = 2 ∨ a = 3) with rfl | rfl | rfl | rfl
    · rw [Nat.add_zero, hml.1]; exact hp
    · rw [hml.2.1]; exact hp
    · rw [hml.2.2.1]; exact hp
    · rw [hml.2.2.2]; exact hp
theorem cl0 : (0 : Int32).toNatClampNeg = 0 := by decide
theorem cl1 : (1 : Int32).toNatClampNeg = 1 := by decide
theorem cl2 : (2 : Int32).toNatClampNeg = 2 := by decide
theorem cl3 : (3 : Int32).toNatClampNeg = 3 := by decide
theorem cl4 : (4 : Int32).toNatClampNeg = 4 := by decide
theorem cl5 : (5 : Int32).toNatClampNeg = 5 := by decide
theorem cl6 : (6 : Int32).toNatClampNeg = 6 := by decide
theorem cl7 : (7 : Int32).toNatClampNeg = 7 := by decide
theorem cl8 : (8 : Int32).toNatClampNeg = 8 := by decide
theorem cl9 : (9 : Int32).toNatClampNeg = 9 := by decide
theorem up7 {f : Nat → Int32} {y0 y1 y2 y3 y4 y5 y6 : Int32} : upd (upd (upd (upd (upd (upd (upd f (0 : Int32).toNatClampNeg y0) (1 : Int32).toNatClampNeg y1) (2 : Int32).toNatClampNeg y2) (3 : Int32).toNatClampNeg y3) (4 : Int32).toNatClampNeg y4) (5 : Int32).toNatClampNeg y5) (6 : Int32).toNatClampNeg y6 = fun j => match j with | 0 => y0 | 1 => y1 | 2 => y2 | 3 => y3 | 4 => y4 | 5 => y5 | 6 => y6 | j => f j := by
  rw [cl0, cl1, cl2, cl3, cl4, cl5, cl6]
  funext j
  unfold upd
  rcases j with _ | _ | _ | _ | _ | _ | _ | j <;> simp
theorem up10 {f : Nat → Int32} {y0 y1 y2 y3 y4 y5 y6 y7 y8 y9 : Int32} : upd (upd (upd (upd (upd (upd (upd (upd (upd (upd f (0 : Int32).toNatClampNeg y0) (1 : Int32).toNatClampNeg y1) (2 : Int32).toNatClampNeg y2) (3 : Int32).toNatClampNeg y3) (4 : Int32).toNatClampNeg y4) (5 : Int32).toNatClampNeg y5) (6 : Int32).toNatClampNeg y6) (7 : Int32).toNatClampNeg y7) (8 : Int32).toNatClampNeg y8) (9 : Int32).toNatClampNeg y9 = fun j => match j with | 0 => y0 | 1 => y1 | 2 => y2 | 3 => y3 | 4 => y4 | 5 => y5 | 6 => y6 | 7 => y7 | 8 => y8 | 9 => y9 | j => f j := by
  rw [cl0, cl1, cl2, cl3, cl4, cl5, cl6, cl7, cl8, cl9]
  funext j
  unfold upd
  rcases j with _ | _ | _ | _ | _ | _ | _ | _ | _ | _ | j <;> simp
theorem and1 (y : Int32) : y &&& 1 = 0 ∨ y &&& 1 = 1 := by
  obtain ⟨j, hj, e⟩ := pk_andE y (m := 1) 1 (by decide)
  rw [e]
  rcases (by omega : j = 0 ∨ j = 1) with rfl | rfl
  · exact Or.inl rfl
  · exact Or.inr rfl
theorem rd_s {i : Nat} : nI (ct i (rdB A b)) + ((A 10 i 0 >>> (nI b &&& 31)) &&& 1) = nI (ct (i + 1) (rdB A b)) := by
  rcases and1 (A 10 i 0 >>> (nI b &&& 31)) with z | z
  · rw [z]
    exact ct_f0 (beq_eq_false_iff_ne.mpr (by rw [z]; decide))
  · rw [z]
    exact ct_t (beq_iff_eq.mpr z)
theorem m_bookTold {post : Int32 → VS → Prop} (hB : Bs N S ks V) (hW : WF B N A) (hb : b < N 2) (ha : a < 7) (hp : post (ansB N S A b a) (mput 0 A T V)) : wp_X10_bookTold ks (nI b) (nI a) (mput 0 A T V) post := by
  have hn := hB.n
  have h01 : (0 : Nat) ≤ 1 := Nat.zero_le _
  have hX : Bs N S ks (mput 0 A T V) := hB.m
  have hq8 := WF_q hW hn.2.2.2 hb
  have L25 : ∀ s0 : Int32, (s0 = 0 → A 5 b 0 ≠ -1) → (¬ s0 = 0 → A 5 b 0 = -1) → wl_X10_bookTold_25 ks (nI b) (nI a) post (nI b) (nI a) s0 0 0 (mput 0 A T V) := by
    intro s0 hs0 hs1
    refine ⟨fun n x4 x5 V' => ∃ i, i + n = N 3 ∧ x5 = nI i ∧ x4 = nI (ct i (rdB A b)) ∧ V' = mput 0 A T V, ⟨N 3, 0, by omega, rfl, rfl, rfl⟩, ?_⟩
    rintro n _ _ _ ⟨i, hi, rfl, rfl, rfl⟩
    refine ⟨hX.k15, ?_⟩
    rw [hX.m8]
    refine pk_le (N 3) i (fun c => ?_) (fun c => ⟨hX.k16 h01, hX.km (by decide) (by decide) h01, pk_in i 10 (by omega), ?_⟩)
    · have : i = N 3 := by omega
      subst this
      refine ⟨hX.k19, pk_in b 24 (by omega), hX.k16 h01, hX.km (by decide) (by decide) h01, ?_⟩
      rw [nI_clamp (n := b) (by omega), nI_clamp (n := a) (by omega), hX.mbk hb, mr5 (by omega), mr8 (by omega), hq8.1, mr7 (by omega), ix10', nI_clamp (n := 10 * b) (by omega), show (10 * b) = 10 * b + 0 from rfl, mr9 (by omega) (by decide), mr17 (by omega)]
      simp only [up7]
      have e2 : ∀ s : Int32, (A 5 b 0 = -1 → s = -1) → (A 5 b 0 ≠ -1 → s = A 17 b 0) → s = A 6 b 0 := by
        intro s g1 g2
        rcases hW.2.2.2.2.1 b hb with z | ⟨⟨r9, hr9, z⟩, z2⟩
        · rw [g1 z.1, z.2]
        · rw [g2 (by rw [z]; exact nI_m1 (by omega)), z2]
      have fin : ∀ y2 y4 : Int32, y2 = A 6 b 0 → y4 = (if qN A b = 0 then -1 else A 9 b 0) → post ((fun j => match j with | 0 => nI (S 24 b) | 1 => A 5 b 0 | 2 => y2 | 3 => nI (qN A b) | 4 => y4 | 5 => A 7 b 0 | 6 => nI (ct (N 3) (rdB A b)) | j => 0 : Nat → Int32) a) (mput 0 A T V) := by
        rintro _ _ rfl rfl
        rcases (by omega : a = 0 ∨ a = 1 ∨ a = 2 ∨ a = 3 ∨ a = 4 ∨ a = 5 ∨ a = 6) with rfl | rfl | rfl | rfl | rfl | rfl | rfl
        · exact hp
        · exact hp
        · exact hp
        · have hp : post (A 8 b 0) (mput 0 A T V) := hp
          rw [hq8.1] at hp; exact hp
        · exact hp
        · exact hp
        · exact hp
      refine ⟨fun c0 => ⟨hX.km (by decide) (by decide) h01, hX.km (by decide) (by decide) h01, ?_⟩, fun c0 => ⟨hX.km (by decide) (by decide) h01, ?_⟩⟩
      · refine pk_eq (y := 0) (qN A b) 0 (fun c1 => ⟨hX.km (by decide) (by decide) h01, pk_in a 7 ha, fin _ _ (e2 _ (fun z => absurd z (hs0 c0)) (fun _ => rfl)) (if_pos c1).symm⟩) (fun c1 => ⟨hX.km (by decide) (by decide) h01, pk_in (10 * b) 240 (by omega), hX.km (by decide) (by decide) h01, pk_in a 7 ha, fin _ _ (e2 _ (fun z => absurd z (hs0 c0)) (fun _ => rfl)) (if_neg c1).symm⟩)
      · refine pk_eq (y := 0) (qN A b) 0 (fun c1 => ⟨hX.km (by decide) (by decide) h01, pk_in a 7 ha, fin _ _ (e2 _ (fun _ => rfl) (fun z => absurd (hs1 c0) z)) (if_pos c1).symm⟩) (fun c1 => ⟨hX.km (by decide) (by decide) h01, pk_in (10 * b) 240 (by omega), hX.km (by decide) (by decide) h01, pk_in a 7 ha, fin _ _ (e2 _ (fun _ => rfl) (fun z => absurd (hs1 c0) z)) (if_neg c1).symm⟩)
    · rw [nI_clamp (by omega), mr10 (by omega)]
      rintro _ rfl _ rfl
      exact ⟨n - 1, by omega, i + 1, by omega, nI_1 i, rd_s, rfl⟩
  refine ⟨hX.k15, hX.k16 h01, hX.km (by decide) (by decide) h01, pk_in b 24 (by omega), ?_⟩
  rw [nI_clamp (by omega), mr5 (by omega)]
  exact ⟨fun c => L25 1 (fun z => absurd z (by decide)) (fun _ => c), fun c => L25 0 (fun _ => c) (fun z => absurd rfl z)⟩
end
