/-! further calls that only ask -/
section
variable {B : Nat} {N : Nat → Nat} {S : Nat → Nat → Nat} {ks : List KY} {V X : VS} {w t h l b r i p q k n c a : Nat} {A : AF} {D T : Nat → Int32} {x : Int32} {d : Int64}
theorem o_lane {a1 a2 : Int32} (hI : IV B N S A ks V) (hk : B ≤ 60 * k) : sp_lane (Inv k) ks a1 a2 V := by
  have hn := hI.1.n
  have h1 := fun {x : Int32} => (hI.th (x := x)).1
  refine ⟨hI.1.k0, hI.1.k34, hI.1.k0, hI.1.k1 (Nat.zero_le _), hI.1.k2 (Nat.zero_le _) (by decide), ?_⟩
  rw [hI.1.sz (Nat.zero_le _) (by decide)]
  rcases in_kind (y := a1) (N 1) (by omega) with ha1 | ⟨i, hi, rfl⟩
  · exact v_kX ha1 ⟨rfl, hI.1.k15, hI.1.k15, fun _ e => by subst e; exact u_nX (by omega) h1.m2 ha1 ⟨fun _ => u_no hI.th hk rfl (by decide), fun z => absurd rfl z⟩⟩
  rcases in_kind (y := a2) 6 (by decide) with ha2 | ⟨a, ha, rfl⟩
  · exact v_kO hi (by omega) rfl (v_kX ha2 ⟨rfl, hI.1.k15, hI.1.k15, fun _ e => by subst e; exact u_nO hi (by omega) h1.m2 ⟨fun z => absurd z (by decide), fun _ => u_nX (n := 6) (z := 6) (by decide) rfl ha2 ⟨fun _ => u_no hI.th hk rfl (by decide), fun z => absurd rfl z⟩⟩⟩)
  refine v_kO hi (by omega) rfl (v_kO ha (by decide) rfl ?_)
  refine clC (P := fun V9 => wp_X7_laneAnswer ks 0 (nI i) (nI a) V9 _) hI.2.2.1 (t_laneAns hI.1 (Nat.zero_le _) hI.2.1 hi ha ?_)
  rw [← hI.2.2.1.eq]
  refine ⟨hI.1.k15, hI.1.k15, ?_⟩
  rintro _ rfl
  have hI2 := (hI.out (x := ansL S A i a)).th (x := 0)
  refine u_nO hi (by omega) hI2.1.m2 ⟨fun z => absurd z (by decide), fun _ => u_nO (n := 6) (z := 6) ha (by decide) rfl ⟨fun z => absurd z (by decide), fun _ => ?_⟩⟩
  refine clM (P := fun V9 => wp_X10_laneTold ks (nI i) (nI a) V9 _) hI2.2.2.2 (m_laneTold hI2.1 hI2.2.1 hi ha ?_)
  rw [← hI2.2.2.2.eq]
  exact u_alike hI2 hk vup_th ot34 rfl
theorem o_book {a1 a2 : Int32} (hI : IV B N S A ks V) (hk : B ≤ 60 * k) : sp_book (Inv k) ks a1 a2 V := by
  have hn := hI.1.n
  have h1 := fun {x : Int32} => (hI.th (x := x)).1
  rcases in_kind (y := a1) (N 2) (by omega) with ha1 | ⟨i, hi, rfl⟩
  · exact ⟨hI.1.k0, hI.1.k34, hI.1.k0, v_book0 hI.1 ha1 ⟨rfl, hI.1.k15, hI.1.k15, fun _ e => by subst e; exact u_book0 h1 ha1 ⟨fun _ => u_no hI.th hk rfl (by decide), fun z => absurd rfl z⟩⟩⟩
  rcases in_kind (y := a2) 7 (by decide) with ha2 | ⟨a, ha, rfl⟩
  · exact ⟨hI.1.k0, hI.1.k34, hI.1.k0, v_book1 hI.1 hi (v_kX ha2 ⟨rfl, hI.1.k15, hI.1.k15, fun _ e => by subst e; exact u_book1 h1 hi ⟨fun z => absurd z (by decide), fun _ => u_nX (n := 7) (z := 7) (by decide) rfl ha2 ⟨fun _ => u_no hI.th hk rfl (by decide), fun z => absurd rfl z⟩⟩⟩)⟩
  refine ⟨hI.1.k0, hI.1.k34, hI.1.k0, v_book1 hI.1 hi (v_kO ha (by decide) rfl ⟨hI.1.k1 (Nat.zero_le _), ?_⟩)⟩
  refine clC (P := fun V9 => wp_X7_bookAnswer ks 0 (nI i) (nI a) V9 _) hI.2.2.1 (t_bookAns hI.1 (Nat.zero_le _) hI.2.1 hi ha ?_)
  rw [← hI.2.2.1.eq]
  refine ⟨hI.1.k15, hI.1.k15, ?_⟩
  rintro _ rfl
  have hI2 := (hI.out (x := ansB N S A i a)).th (x := 0)
  refine u_book1 hI2.1 hi ⟨fun z => absurd z (by decide), fun _ => u_nO (n := 7) (z := 7) ha (by decide) rfl ⟨fun z => absurd z (by decide), fun _ => ?_⟩⟩
  refine clM (P := fun V9 => wp_X10_bookTold ks (nI i) (nI a) V9 _) hI2.2.2.2 (m_bookTold hI2.1 hI2.2.1 hi ha ?_)
  rw [← hI2.2.2.2.eq]
  exact u_alike hI2 hk vup_th ot34 rfl
theorem o_reader {a1 a2 : Int32} (hI : IV B N S A ks V) (hk : B ≤ 60 * k) : sp_reader (Inv k) ks a1 a2 V := by
  have hn := hI.1.n
  have h1 := fun {x : Int32} => (hI.th (x := x)).1
  rcases in_kind (y := a1) (N 3) (by omega) with ha1 | ⟨i, hi, rfl⟩
  · exact ⟨hI.1.k0, hI.1.k34, hI.1.k0, v_reader0 hI.1 ha1 ⟨rfl, hI.1.k15, hI.1.k15, fun _ e => by subst e; exact u_reader0 h1 ha1 ⟨fun _ => u_no hI.th hk rfl (by decide), fun z => absurd rfl z⟩⟩⟩
  rcases in_kind (y := a2) 8 (by decide) with ha2 | ⟨a, ha, rfl⟩
  · exact ⟨hI.1.k0, hI.1.k34, hI.1.k0, v_reader1 hI.1 hi (v_kX ha2 ⟨rfl, hI.1.k15, hI.1.k15, fun _ e => by subst e; exact u_reader1 h1 hi ⟨fun z => absurd z (by decide), fun _ => u_nX (n := 8) (z := 8) (by decide) rfl ha2 ⟨fun _ => u_no hI.th hk rfl (by decide), fun z => absurd rfl z⟩⟩⟩)⟩
  refine ⟨hI.1.k0, hI.1.k34, hI.1.k0, v_reader1 hI.1 hi (v_kO ha (by decide) rfl ⟨hI.1.k1 (Nat.zero_le _), ?_⟩)⟩
  refine clC (P := fun V9 => wp_X7_readerAnswer ks 0 (nI i) (nI a) V9 _) hI.2.2.1 (t_readerAns hI.1 (Nat.zero_le _) hI.2.1 hi ha ?_)
  rw [← hI.2.2.1.eq]
  refine ⟨hI.1.k15, hI.1.k15, ?_⟩
  rintro _ rfl
  have hI2 := (hI.out (x := ansR N S A i a)).th (x := 0)
  refine u_reader1 hI2.1 hi ⟨fun z => absurd z (by decide), fun _ => u_nO (n := 8) (z := 8) ha (by decide) rfl ⟨fun z => absurd z (by decide), fun _ => ?_⟩⟩
  refine clM (P := fun V9 => wp_X10_readerTold ks (nI i) (nI a) V9 _) hI2.2.2.2 (m_readerTold hI2.1 hI2.2.1 hi ha ?_)
  rw [← hI2.2.2.2.eq]
  exact u_alike hI2 hk vup_th ot34 rfl
theorem o_count {a1 : Int32} (hI : IV B N S A ks V) (hk : B ≤ 60 * k) : sp_count (Inv k) ks a1 V := by
  have hn := hI.1.n
  have h1 := fun {x : Int32} => (hI.th (x := x)).1
  rcases in_kind (y := a1) 10 (by decide) with ha1 | ⟨a, ha, rfl⟩
  · exact ⟨hI.1.k0, hI.1.k34, v_kX ha1 ⟨rfl, hI.1.k15, hI.1.k15, fun _ e => by subst e; exact u_nX (n := 10) (z := 10) (by decide) rfl ha1 ⟨fun _ => u_no hI.th hk rfl (by decide), fun z => absurd rfl z⟩⟩⟩
  refine ⟨hI.1.k0, hI.1.k34, v_kO ha (by decide) rfl ⟨hI.1.k0, hI.1.k1 (Nat.zero_le _), ?_⟩⟩
  refine clC (P := fun V9 => wp_X7_countAnswer ks 0 (nI a) V9 _) hI.2.2.1 (t_countAns hI.1 (Nat.zero_le _) hI.2.1 ha ?_)
  rw [← hI.2.2.1.eq]
  refine ⟨hI.1.k15, hI.1.k15, ?_⟩
  rintro _ rfl
  have hI2 := (hI.out (x := ansC N A a)).th (x := 0)
  refine u_nO (n := 10) (z := 10) ha (by decide) rfl ⟨fun z => absurd z (by decide), fun _ => ?_⟩
  refine clM (P := fun V9 => wp_X10_counted ks (nI a) V9 _) hI2.2.2.2 (m_counted hI2.1 hI2.2.1 ha ?_)
  rw [← hI2.2.2.2.eq]
  exact u_alike hI2 hk vup_th ot34 rfl
theorem o_digest (hI : IV B N S A ks V) (hk : B ≤ 60 * k) : sp_digest (Inv k) ks V := by
  refine ⟨hI.1.k0, hI.1.k15, ?_⟩
  refine clC (P := fun V9 => wp_X8_digest ks V9 _) hI.2.2.1 (t_digest hI.1 hI.2.1 ?_)
  rw [← hI.2.2.1.eq]
  refine ⟨hI.1.k15, ?_⟩
  rintro _ rfl
  have hI2 := hI.th (x := 0)
  refine clM (P := fun V9 => wl_X10_digest_11 ks _ 607 0 V9) hI2.2.2.2 (m_digest hI2.1 hI2.2.1 ?_)
  rw [← hI2.2.2.2.eq]
  exact ⟨rfl, hI2.inv hk⟩
theorem o_way {a1 a2 : Int32} (hI : IV B N S A ks V) (hk : B ≤ 60 * k) : sp_way (Inv k) ks a1 a2 V := by
  have hn := hI.1.n
  have h1 := fun {x : Int32} => (hI.th (x := x)).1
  have hne : ∀ l, l < N 1 → S 20 l ≠ S 21 l := fun l hl => (hI.1.sln hl).2.2.1
  have hSd : Sy (dt N S A) := Sy_dt hne
  rcases in_kind (y := a1) (N 0) (by omega) with ha1 | ⟨i, hi, rfl⟩
  · exact ⟨hI.1.k0, hI.1.k34, hI.1.k0, v_halt0 hI.1 ha1 ⟨rfl, hI.1.k15, hI.1.k15, fun _ e => by subst e; exact u_halt0 h1 ha1 ⟨fun _ => u_no hI.th hk rfl (by decide), fun z => absurd rfl z⟩⟩⟩
  rcases in_kind (y := a2) (N 0) (by omega) with ha2 | ⟨a, ha, rfl⟩
  · exact ⟨hI.1.k0, hI.1.k34, hI.1.k0, v_halt1 hI.1 hi (v_halt0 hI.1 ha2 ⟨rfl, hI.1.k15, hI.1.k15, fun _ e => by subst e; exact u_halt1 h1 hi ⟨fun z => absurd z (by decide), fun _ => u_halt0 h1 ha2 ⟨fun _ => u_no hI.th hk rfl (by decide), fun z => absurd rfl z⟩⟩⟩)⟩
  refine ⟨hI.1.k0, hI.1.k34, hI.1.k0, v_halt1 hI.1 hi (v_halt1 hI.1 ha ⟨hI.1.k1 (Nat.zero_le _), hI.1.k1 (Nat.zero_le _), hI.1.k2 (Nat.zero_le _) (by decide), hI.1.k10 (Nat.zero_le _), ?_⟩)⟩
  rw [hI.1.sz (Nat.zero_le _) (by decide)]
  refine clC (P := fun V9 => wp_X6_measure ks 0 0 (nI (N 0)) V9 _) hI.2.2.1 (t_meas hI.1 (Nat.zero_le _) hI.2.1.2.1 (fun D2 hD2 => t_timeE hI.1 (Nat.zero_le _) hi ha hn.1 (hSd.2.1 _) hD2 ?_))
  have hb := hSd.2.2 i a
  have fin : ∀ y : Int32, y = (if 1000000 ≤ dt N S A i a then -1 else nI (dt N S A i a)) → (15, 0, 0) ∈ ks ∧ wp_X10_way ks (nI i) (nI a) (vup (cput N 0 A D2 V) 34 0 0 0 0 y) (fun b V2 => wp_X10_thrown ks V2 (fun t V3 => t = 0 ∧ ((0 : Int32) = 0 → V3 34 0 0 0 0 = b) ∧ (34, 0, 0) ∈ ks ∧ Inv k ks V3)) := by
    intro y hy
    refine ⟨hI.1.k15, hI.1.k15, ?_⟩
    rintro _ rfl
    have hI1 : IV B N S A ks (cput N 0 A D2 V) := ⟨hI.1.c, hI.2.1, isC_put, isM_c hI.2.2.2⟩
    have hI2 := (hI1.out (x := y)).th (x := 0)
    have e15 : vup (vup (cput N 0 A D2 V) 34 0 0 0 0 y) 15 0 0 0 0 0 15 0 0 0 0 = 0 := vup_th
    have e34 : vup (vup (cput N 0 A D2 V) 34 0 0 0 0 y) 15 0 0 0 0 0 34 0 0 0 0 = y := ot34
    generalize vup (vup (cput N 0 A D2 V) 34 0 0 0 0 y) 15 0 0 0 0 0 = V2 at hI2 e15 e34
    refine u_halt1 hI2.1 hi ⟨fun z => absurd z (by decide), fun _ => u_halt1 hI2.1 ha ⟨fun z => absurd z (by decide), fun _ => ⟨hI2.1.k16 (Nat.zero_le _), ?_⟩⟩⟩
    refine clM (P := fun V9 => wp_X9_find ks 0 V9 _) hI2.2.2.2 (t_find hI2.1 (Nat.zero_le _) hI2.2.1.2.1 (fun T' _ hT => ⟨hI2.1.k21, ?_⟩))
    have hI3 : IV B N S A ks (mput 0 A T' V2) := ⟨hI2.1.m, hI2.2.1, isC_m hI2.2.2.1, isM_put⟩
    have f15 : mput 0 A T' V2 15 0 0 0 0 = 0 := (mput_o rfl (by decide)).trans e15
    have f34 : mput 0 A T' V2 34 0 0 0 0 = y := (mput_o rfl (by decide)).trans e34
    rw [ix8]
    refine ⟨pk_in (8 * i + a) 64 (by omega), ?_⟩
    rw [nI_clamp (by omega), mput_t, hT i a hi ha]
    refine pk_le (x := 1000000) 1000000 (dt N S A i a) (fun c => ?_) (fun c => ?_)
    · rw [if_pos c] at hy
      exact u_alike hI3 hk f15 f34 hy.symm
    · rw [if_neg (by omega)] at hy
      exact u_alike hI3 hk f15 f34 hy.symm
  refine pk_le (x := 1000000) 1000000 (dt N S A i a) (fun c => fin _ (if_pos c).symm) (fun c => fin _ (if_neg (by omega)).symm)
end
