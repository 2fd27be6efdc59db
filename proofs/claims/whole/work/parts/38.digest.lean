/-! the digest -/
def mx (g : Nat → Int32) : Nat → Int64 → Int64
  | 0, d => d
  | n + 1, d => mx g n d * 31 + (g n).toInt64
def dgV (N : Nat → Nat) (S : Nat → Nat → Nat) (A : AF) : Int64 := mx (fun j => A 14 0 j) (zN A) (mx (fun j => nI (S 28 j)) 7 (mx (ansC N A) 10 607))
def dgH (N : Nat → Nat) (S : Nat → Nat → Nat) (A : AF) (n : Nat) (d : Int64) : Int64 := itn (fun h d => mx (ansH N S A h) 5 d) n d
def dgL (S : Nat → Nat → Nat) (A : AF) (n : Nat) (d : Int64) : Int64 := itn (fun l d => mx (ansL S A l) 6 d) n d
def dgB (N : Nat → Nat) (S : Nat → Nat → Nat) (A : AF) (n : Nat) (d : Int64) : Int64 := itn (fun b d => mx (fun j => A 9 b j) (qN A b) (mx (ansB N S A b) 7 d)) n d
def dgR (N : Nat → Nat) (S : Nat → Nat → Nat) (A : AF) (n : Nat) (d : Int64) : Int64 := itn (fun r d => mx (ansR N S A r) 8 d) n d
def dgA (N : Nat → Nat) (S : Nat → Nat → Nat) (A : AF) : Int64 := dgR N S A (N 3) (dgB N S A (N 2) (dgL S A (N 1) (dgH N S A (N 0) (dgV N S A))))
theorem mx_0 {g : Nat → Int32} {d : Int64} : mx g 0 d = d := rfl
theorem mx_s {g : Nat → Int32} {n : Nat} {d : Int64} : mx g (n + 1) d = mx g n d * 31 + (g n).toInt64 := rfl
theorem dgH_0 {N : Nat → Nat} {S : Nat → Nat → Nat} {A : AF} {d : Int64} : dgH N S A 0 d = d := rfl
theorem dgH_s {N : Nat → Nat} {S : Nat → Nat → Nat} {A : AF} {n : Nat} {d : Int64} : dgH N S A (n + 1) d = mx (ansH N S A n) 5 (dgH N S A n d) := rfl
theorem dgL_0 {S : Nat → Nat → Nat} {A : AF} {d : Int64} : dgL S A 0 d = d := rfl
theorem dgL_s {S : Nat → Nat → Nat} {A : AF} {n : Nat} {d : Int64} : dgL S A (n + 1) d = mx (ansL S A n) 6 (dgL S A n d) := rfl
theorem dgB_0 {N : Nat → Nat} {S : Nat → Nat → Nat} {A : AF} {d : Int64} : dgB N S A 0 d = d := rfl
theorem dgB_s {N : Nat → Nat} {S : Nat → Nat → Nat} {A : AF} {n : Nat} {d : Int64} : dgB N S A (n + 1) d = mx (fun j => A 9 n j) (qN A n) (mx (ansB N S A n) 7 (dgB N S A n d)) := rfl
theorem dgR_0 {N : Nat → Nat} {S : Nat → Nat → Nat} {A : AF} {d : Int64} : dgR N S A 0 d = d := rfl
theorem dgR_s {N : Nat → Nat} {S : Nat → Nat → Nat} {A : AF} {n : Nat} {d : Int64} : dgR N S A (n + 1) d = mx (ansR N S A n) 8 (dgR N S A n d) := rfl
section
variable {B : Nat} {N : Nat → Nat} {S : Nat → Nat → Nat} {ks : List KY} {V X : VS} {w t h l b r i p q k n c a : Nat} {A : AF} {D T : Nat → Int32} {x : Int32} {d : Int64}
theorem t_mixVan {post : Int64 → VS → Prop} (hB : Bs N S ks V) (hW : WF B N A) (hp : post (dgV N S A) (cput N 0 A D V)) : wp_X7_mixVan ks 0 607 (cput N 0 A D V) post := by
  have hn := hB.n
  have h01 : (0 : Nat) ≤ 1 := Nat.zero_le _
  have hX : Bs N S ks (cput N 0 A D V) := hB.c
  have hR : Rn S 0 (cput N 0 A D V) := hB.rn.c
  have hz := WF_zN hW hn.1
  unfold dgV at hp
  have L61 : ∀ d1 : Int64, post (mx (fun j => A 14 0 j) (zN A) d1) (cput N 0 A D V) → wl_X7_mixVan_61 ks 0 607 post d1 0 (cput N 0 A D V) := by
    intro d1 hp
    refine ⟨fun n x3 x5 V' => ∃ i, i + n = zN A ∧ x5 = nI i ∧ x3 = mx (fun j => A 14 0 j) i d1 ∧ V' = cput N 0 A D V, ⟨zN A, 0, by omega, rfl, mx_0.symm, rfl⟩, ?_⟩
    rintro n _ _ _ ⟨i, hi, rfl, rfl, rfl⟩
    refine ⟨hX.k1 h01, hX.k12 h01, hX.k12 h01, ?_⟩
    rw [cr15, hz.1]
    refine pk_le (zN A) i (fun c => ?_) (fun c => t_haltAt hX h01 (by omega) ?_)
    · have : i = zN A := by omega
      subst this
      exact hp
    · rw [cr14 (by omega)]
      rintro _ rfl
      exact ⟨n - 1, by omega, i + 1, by omega, nI_1 i, mx_s.symm, rfl⟩
  have L33 : ∀ d1 : Int64, post (mx (fun j => A 14 0 j) (zN A) (mx (fun j => nI (S 28 j)) 7 d1)) (cput N 0 A D V) → wl_X7_mixVan_33 ks 0 607 post d1 0 (cput N 0 A D V) := by
    intro d1 hp
    refine ⟨fun n x3 x5 V' => ∃ i, i + n = 7 ∧ x5 = nI i ∧ x3 = mx (fun j => nI (S 28 j)) i d1 ∧ V' = cput N 0 A D V, ⟨7, 0, by omega, rfl, mx_0.symm, rfl⟩, ?_⟩
    rintro n _ _ _ ⟨i, hi, rfl, rfl, rfl⟩
    refine pk_le (x := 7) 7 i (fun c => ?_) (fun c => ⟨hX.k1 h01, t_rainOf hX hR h01 c ?_⟩)
    · have : i = 7 := by omega
      subst this
      exact L61 _ hp
    · rintro _ rfl
      exact ⟨n - 1, by omega, i + 1, by omega, nI_1 i, mx_s.symm, rfl⟩
  refine ⟨fun n x3 x5 V' => ∃ i, i + n = 10 ∧ x5 = nI i ∧ x3 = mx (ansC N A) i 607 ∧ V' = cput N 0 A D V, ⟨10, 0, by omega, rfl, mx_0.symm, rfl⟩, ?_⟩
  rintro n _ _ _ ⟨i, hi, rfl, rfl, rfl⟩
  refine pk_le (x := 10) 10 i (fun c => ?_) (fun c => ⟨hX.k1 h01, t_countAns hB h01 hW c ?_⟩)
  · have : i = 10 := by omega
    subst this
    exact L33 _ hp
  · rintro _ rfl
    exact ⟨n - 1, by omega, i + 1, by omega, nI_1 i, mx_s.symm, rfl⟩
theorem t_mixHL {post : Int64 → VS → Prop} (hB : Bs N S ks V) (hW : WF B N A) (hp : post (dgL S A (N 1) (dgH N S A (N 0) d)) (cput N 0 A D V)) : wp_X7_mixHaltsAndLanes ks 0 d (cput N 0 A D V) post := by
  have hn := hB.n
  have h01 : (0 : Nat) ≤ 1 := Nat.zero_le _
  have hX : Bs N S ks (cput N 0 A D V) := hB.c
  have L55 : ∀ d1 : Int64, post (dgL S A (N 1) d1) (cput N 0 A D V) → wl_X7_mixHaltsAndLanes_55 ks 0 d post d1 0 (cput N 0 A D V) := by
    intro d1 hp
    refine ⟨fun n x3 x5 V' => ∃ i, i + n = N 1 ∧ x5 = nI i ∧ x3 = dgL S A i d1 ∧ V' = cput N 0 A D V, ⟨N 1, 0, by omega, rfl, dgL_0.symm, rfl⟩, ?_⟩
    rintro n _ _ _ ⟨i, hi, rfl, rfl, rfl⟩
    refine ⟨hX.k1 h01, hX.k2 h01 (by decide), ?_⟩
    rw [hX.sz h01 (by decide)]
    refine pk_le (N 1) i (fun c => ?_) (fun c => ?_)
    · have : i = N 1 := by omega
      subst this
      exact hp
    refine ⟨fun m y3 y6 V' => ∃ j, j + m = 6 ∧ y6 = nI j ∧ y3 = mx (ansL S A i) j (dgL S A i d1) ∧ V' = cput N 0 A D V, ⟨6, 0, by omega, rfl, mx_0.symm, rfl⟩, ?_⟩
    rintro m _ _ _ ⟨j, hj, rfl, rfl, rfl⟩
    refine pk_le (x := 6) 6 j (fun c2 => ?_) (fun c2 => ⟨hX.k1 h01, t_laneAns hB h01 hW c c2 ?_⟩)
    · rintro _ rfl
      have : j = 6 := by omega
      subst this
      exact ⟨n - 1, by omega, i + 1, by omega, nI_1 i, dgL_s.symm, rfl⟩
    · rintro _ rfl
      exact ⟨m - 1, by omega, j + 1, by omega, nI_1 j, mx_s.symm, rfl⟩
  refine ⟨fun n x3 x5 V' => ∃ i, i + n = N 0 ∧ x5 = nI i ∧ x3 = dgH N S A i d ∧ V' = cput N 0 A D V, ⟨N 0, 0, by omega, rfl, dgH_0.symm, rfl⟩, ?_⟩
  rintro n _ _ _ ⟨i, hi, rfl, rfl, rfl⟩
  refine ⟨hX.k1 h01, hX.k2 h01 (by decide), ?_⟩
  rw [hX.sz h01 (by decide)]
  refine pk_le (N 0) i (fun c => ?_) (fun c => ?_)
  · have : i = N 0 := by omega
    subst this
    exact L55 _ hp
  refine ⟨fun m y3 y6 V' => ∃ j, j + m = 5 ∧ y6 = nI j ∧ y3 = mx (ansH N S A i) j (dgH N S A i d) ∧ V' = cput N 0 A D V, ⟨5, 0, by omega, rfl, mx_0.symm, rfl⟩, ?_⟩
  rintro m _ _ _ ⟨j, hj, rfl, rfl, rfl⟩
  refine pk_le (x := 5) 5 j (fun c2 => ?_) (fun c2 => ⟨hX.k1 h01, t_haltAns hB h01 hW c c2 ?_⟩)
  · rintro _ rfl
    have : j = 5 := by omega
    subst this
    exact ⟨n - 1, by omega, i + 1, by omega, nI_1 i, dgH_s.symm, rfl⟩
  · rintro _ rfl
    exact ⟨m - 1, by omega, j + 1, by omega, nI_1 j, mx_s.symm, rfl⟩
theorem t_mixBR {post : Int64 → VS → Prop} (hB : Bs N S ks V) (hW : WF B N A) (hp : post (dgR N S A (N 3) (dgB N S A (N 2) d)) (cput N 0 A D V)) : wp_X7_mixBooksAndReaders ks 0 d (cput N 0 A D V) post := by
  have hn := hB.n
  have h01 : (0 : Nat) ≤ 1 := Nat.zero_le _
  have hX : Bs N S ks (cput N 0 A D V) := hB.c
  have L105 : ∀ d1 : Int64, post (dgR N S A (N 3) d1) (cput N 0 A D V) → wl_X7_mixBooksAndReaders_105 ks 0 d post d1 0 (cput N 0 A D V) := by
    intro d1 hp
    refine ⟨fun n x3 x5 V' => ∃ i, i + n = N 3 ∧ x5 = nI i ∧ x3 = dgR N S A i d1 ∧ V' = cput N 0 A D V, ⟨N 3, 0, by omega, rfl, dgR_0.symm, rfl⟩, ?_⟩
    rintro n _ _ _ ⟨i, hi, rfl, rfl, rfl⟩
    refine ⟨hX.k1 h01, hX.k2 h01 (by decide), ?_⟩
    rw [hX.sz h01 (by decide)]
    refine pk_le (N 3) i (fun c => ?_) (fun c => ?_)
    · have : i = N 3 := by omega
      subst this
      exact hp
    refine ⟨fun m y3 y6 V' => ∃ j, j + m = 8 ∧ y6 = nI j ∧ y3 = mx (ansR N S A i) j (dgR N S A i d1) ∧ V' = cput N 0 A D V, ⟨8, 0, by omega, rfl, mx_0.symm, rfl⟩, ?_⟩
    rintro m _ _ _ ⟨j, hj, rfl, rfl, rfl⟩
    refine pk_le (x := 8) 8 j (fun c2 => ?_) (fun c2 => ⟨hX.k1 h01, t_readerAns hB h01 hW c c2 ?_⟩)
    · rintro _ rfl
      have : j = 8 := by omega
      subst this
      exact ⟨n - 1, by omega, i + 1, by omega, nI_1 i, dgR_s.symm, rfl⟩
    · rintro _ rfl
      exact ⟨m - 1, by omega, j + 1, by omega, nI_1 j, mx_s.symm, rfl⟩
  refine ⟨fun n x3 x5 V' => ∃ i, i + n = N 2 ∧ x5 = nI i ∧ x3 = dgB N S A i d ∧ V' = cput N 0 A D V, ⟨N 2, 0, by omega, rfl, dgB_0.symm, rfl⟩, ?_⟩
  rintro n _ _ _ ⟨i, hi, rfl, rfl, rfl⟩
  refine ⟨hX.k1 h01, hX.k2 h01 (by decide), ?_⟩
  have hsz := hX.sz (w := 0) (K := 2) h01 (by decide)
  rw [hsz]
  refine pk_le (N 2) i (fun c => ?_) (fun c => ?_)
  · have : i = N 2 := by omega
    subst this
    exact L105 _ hp
  have hq8 := WF_q hW hn.2.2.2 c
  refine ⟨fun m y3 y6 V' => ∃ j, j + m = 7 ∧ y6 = nI j ∧ y3 = mx (ansB N S A i) j (dgB N S A i d) ∧ V' = cput N 0 A D V, ⟨7, 0, by omega, rfl, mx_0.symm, rfl⟩, ?_⟩
  rintro m _ _ _ ⟨j, hj, rfl, rfl, rfl⟩
  refine pk_le (x := 7) 7 j (fun c2 => ⟨hX.k1 h01, hX.k2 h01 (by decide), lget hX h01 (by decide) c ⟨hX.k6 h01 c, ?_⟩⟩) (fun c2 => ⟨hX.k1 h01, t_bookAns hB h01 hW c c2 ?_⟩)
  · have : j = 7 := by omega
    subst this
    refine ⟨fun m2 z3 z7 V' => ∃ u, u + m2 = qN A i ∧ z7 = nI u ∧ z3 = mx (fun j => A 9 i j) u (mx (ansB N S A i) 7 (dgB N S A i d)) ∧ V' = cput N 0 A D V, ⟨qN A i, 0, by omega, rfl, mx_0.symm, rfl⟩, ?_⟩
    rintro m2 _ _ _ ⟨u, hu, rfl, rfl, rfl⟩
    refine ⟨hX.k8 h01 c, t_size hB h01 c ?_⟩
    rw [hq8.1]
    refine pk_le (qN A i) u (fun c3 => ?_) (fun c3 => ?_)
    · rintro _ rfl
      have : u = qN A i := by omega
      subst this
      exact ⟨n - 1, by omega, i + 1, by omega, nI_1 i, dgB_s.symm, rfl⟩
    · refine ⟨fun z => absurd z (nI_pos (by omega)), fun _ => ⟨hX.k8 h01 c, ?_⟩⟩
      rw [cr8 c, hq8.1]
      refine pk_le (qN A i) u (fun z => absurd z (by omega)) (fun _ => ⟨hX.k9 h01 c, pk_le (x := 10) 10 u (fun z => absurd z (by omega)) (fun _ => ⟨pk_in u 10 (by omega), ?_⟩)⟩)
      rw [nI_clamp (by omega), cr9 c (by omega)]
      rintro _ rfl
      exact ⟨m2 - 1, by omega, u + 1, by omega, nI_1 u, mx_s.symm, rfl⟩
  · rintro _ rfl
    exact ⟨m - 1, by omega, j + 1, by omega, nI_1 j, mx_s.symm, rfl⟩
theorem t_digest {post : Int64 → VS → Prop} (hB : Bs N S ks V) (hW : WF B N A) (hp : post (dgA N S A) (cput N 0 A D V)) : wp_X8_digest ks (cput N 0 A D V) post :=
  ⟨hB.k0, hB.k1 (Nat.zero_le _), t_mixVan hB hW (t_mixHL hB hW (t_mixBR hB hW (by unfold dgA at hp; exact hp)))⟩
theorem m_digest {post : Int64 → VS → Prop} (hB : Bs N S ks V) (hW : WF B N A) (hp : post (dgA N S A) (mput 0 A T V)) : wl_X10_digest_11 ks post 607 0 (mput 0 A T V) := by
  have hn := hB.n
  have h01 : (0 : Nat) ≤ 1 := Nat.zero_le _
  have hX : Bs N S ks (mput 0 A T V) := hB.m
  have hz := WF_zN hW hn.1
  unfold dgA dgV at hp
  have L301 : ∀ d1 : Int64, post (dgR N S A (N 3) d1) (mput 0 A T V) → wl_X10_digest_301 ks post d1 0 (mput 0 A T V) := by
    intro d1 hp
    refine ⟨fun n x1 x3 V' => ∃ i, i + n = N 3 ∧ x3 = nI i ∧ x1 = dgR N S A i d1 ∧ V' = mput 0 A T V, ⟨N 3, 0, by omega, rfl, dgR_0.symm, rfl⟩, ?_⟩
    rintro n _ _ _ ⟨i, hi, rfl, rfl, rfl⟩
    refine ⟨hX.k15, ?_⟩
    rw [hX.m8]
    refine pk_le (N 3) i (fun c => ?_) (fun c => ?_)
    · have : i = N 3 := by omega
      subst this
      exact hp
    refine ⟨fun m y1 y4 V' => ∃ j, j + m = 8 ∧ y4 = nI j ∧ y1 = mx (ansR N S A i) j (dgR N S A i d1) ∧ V' = mput 0 A T V, ⟨8, 0, by omega, rfl, mx_0.symm, rfl⟩, ?_⟩
    rintro m _ _ _ ⟨j, hj, rfl, rfl, rfl⟩
    refine pk_le (x := 8) 8 j (fun c2 => ?_) (fun c2 => ⟨hX.k15, m_readerTold hB hW c c2 ?_⟩)
    · rintro _ rfl
      have : j = 8 := by omega
      subst this
      exact ⟨n - 1, by omega, i + 1, by omega, nI_1 i, dgR_s.symm, rfl⟩
    · rintro _ rfl _ rfl
      exact ⟨m - 1, by omega, j + 1, by omega, nI_1 j, mx_s.symm, rfl⟩
  have L208 : ∀ d1 : Int64, post (dgR N S A (N 3) (dgB N S A (N 2) d1)) (mput 0 A T V) → wl_X10_digest_208 ks post d1 0 (mput 0 A T V) := by
    intro d1 hp
    refine ⟨fun n x1 x3 V' => ∃ i, i + n = N 2 ∧ x3 = nI i ∧ x1 = dgB N S A i d1 ∧ V' = mput 0 A T V, ⟨N 2, hn.2.2.1, 0, by omega, rfl, dgB_0.symm, rfl⟩, ?_⟩
    rintro n _ _ _ ⟨i, hi, rfl, rfl, rfl⟩
    refine ⟨hX.k15, ?_⟩
    rw [hX.m6]
    refine pk_le (N 2) i (fun c => ?_) (fun c => ?_)
    · have : i = N 2 := by omega
      subst this
      exact L301 _ hp
    have hq8 := WF_q hW hn.2.2.2 c
    refine ⟨fun m y1 y4 V' => ∃ j, j + m = 7 ∧ y4 = nI j ∧ y1 = mx (ansB N S A i) j (dgB N S A i d1) ∧ V' = mput 0 A T V, ⟨7, Nat.le_refl _, 0, by omega, rfl, mx_0.symm, rfl⟩, ?_⟩
    rintro m _ _ _ ⟨j, hj, rfl, rfl, rfl⟩
    refine pk_le (x := 7) 7 j (fun c2 => ?_) (fun c2 => ⟨hX.k15, m_bookTold hB hW c c2 ?_⟩)
    · have : j = 7 := by omega
      subst this
      refine ⟨fun m2 z1 z4 V' => ∃ u, u + m2 = qN A i ∧ z4 = nI u ∧ z1 = mx (fun j => A 9 i j) u (mx (ansB N S A i) 7 (dgB N S A i d1)) ∧ V' = mput 0 A T V, ⟨qN A i, 0, by omega, rfl, mx_0.symm, rfl⟩, ?_⟩
      rintro m2 _ _ _ ⟨u, hu, rfl, rfl, rfl⟩
      refine ⟨hX.k15, hX.k16 h01, hX.km (by decide) (by decide) h01, pk_in i 24 (by omega), ?_⟩
      rw [nI_clamp (n := i) (by omega), mr8 (by omega), hq8.1, ix10]
      refine pk_le (qN A i) u (fun c3 => ?_) (fun c3 => ⟨hX.km (by decide) (by decide) h01, pk_in (10 * i + u) 240 (by omega), ?_⟩)
      · rintro _ rfl
        have : u = qN A i := by omega
        subst this
        exact ⟨n - 1, by omega, i + 1, by omega, nI_1 i, dgB_s.symm, rfl⟩
      · rw [nI_clamp (by omega), mr9 (by omega) (by omega)]
        rintro _ rfl _ rfl
        exact ⟨m2 - 1, by omega, u + 1, by omega, nI_1 u, mx_s.symm, rfl⟩
    · rintro _ rfl _ rfl
      exact ⟨m - 1, by omega, j + 1, by omega, nI_1 j, mx_s.symm, rfl⟩
  have L161 : ∀ d1 : Int64, post (dgR N S A (N 3) (dgB N S A (N 2) (dgL S A (N 1) d1))) (mput 0 A T V) → wl_X10_digest_161 ks post d1 0 (mput 0 A T V) := by
    intro d1 hp
    refine ⟨fun n x1 x3 V' => ∃ i, i + n = N 1 ∧ x3 = nI i ∧ x1 = dgL S A i d1 ∧ V' = mput 0 A T V, ⟨N 1, 0, by omega, rfl, dgL_0.symm, rfl⟩, ?_⟩
    rintro n _ _ _ ⟨i, hi, rfl, rfl, rfl⟩
    refine ⟨hX.k15, ?_⟩
    rw [hX.m2]
    refine pk_le (N 1) i (fun c => ?_) (fun c => ?_)
    · have : i = N 1 := by omega
      subst this
      exact L208 _ hp
    refine ⟨fun m y1 y4 V' => ∃ j, j + m = 6 ∧ y4 = nI j ∧ y1 = mx (ansL S A i) j (dgL S A i d1) ∧ V' = mput 0 A T V, ⟨6, 0, by omega, rfl, mx_0.symm, rfl⟩, ?_⟩
    rintro m _ _ _ ⟨j, hj, rfl, rfl, rfl⟩
    refine pk_le (x := 6) 6 j (fun c2 => ?_) (fun c2 => ⟨hX.k15, m_laneTold hB hW c c2 ?_⟩)
    · rintro _ rfl
      have : j = 6 := by omega
      subst this
      exact ⟨n - 1, by omega, i + 1, by omega, nI_1 i, dgL_s.symm, rfl⟩
    · rintro _ rfl _ rfl
      exact ⟨m - 1, by omega, j + 1, by omega, nI_1 j, mx_s.symm, rfl⟩
  have L115 : ∀ d1 : Int64, post (dgR N S A (N 3) (dgB N S A (N 2) (dgL S A (N 1) (dgH N S A (N 0) d1)))) (mput 0 A T V) → wl_X10_digest_115 ks post d1 0 (mput 0 A T V) := by
    intro d1 hp
    refine ⟨fun n x1 x3 V' => ∃ i, i + n = N 0 ∧ x3 = nI i ∧ x1 = dgH N S A i d1 ∧ V' = mput 0 A T V, ⟨N 0, 0, by omega, rfl, dgH_0.symm, rfl⟩, ?_⟩
    rintro n _ _ _ ⟨i, hi, rfl, rfl, rfl⟩
    refine ⟨hX.k15, ?_⟩
    rw [hX.m1]
    refine pk_le (N 0) i (fun c => ?_) (fun c => ?_)
    · have : i = N 0 := by omega
      subst this
      exact L161 _ hp
    refine ⟨fun m y1 y4 V' => ∃ j, j + m = 5 ∧ y4 = nI j ∧ y1 = mx (ansH N S A i) j (dgH N S A i d1) ∧ V' = mput 0 A T V, ⟨5, 0, by omega, rfl, mx_0.symm, rfl⟩, ?_⟩
    rintro m _ _ _ ⟨j, hj, rfl, rfl, rfl⟩
    refine pk_le (x := 5) 5 j (fun c2 => ?_) (fun c2 => ⟨hX.k15, m_haltTold hB hW c c2 ?_⟩)
    · rintro _ rfl
      have : j = 5 := by omega
      subst this
      exact ⟨n - 1, by omega, i + 1, by omega, nI_1 i, dgH_s.symm, rfl⟩
    · rintro _ rfl _ rfl
      exact ⟨m - 1, by omega, j + 1, by omega, nI_1 j, mx_s.symm, rfl⟩
  have L79 : ∀ d1 : Int64, post (dgR N S A (N 3) (dgB N S A (N 2) (dgL S A (N 1) (dgH N S A (N 0) (mx (fun j => A 14 0 j) (zN A) d1))))) (mput 0 A T V) → wl_X10_digest_79 ks post d1 0 (mput 0 A T V) := by
    intro d1 hp
    refine ⟨fun n x1 x3 V' => ∃ i, i + n = zN A ∧ x3 = nI i ∧ x1 = mx (fun j => A 14 0 j) i d1 ∧ V' = mput 0 A T V, ⟨zN A, 0, by omega, rfl, mx_0.symm, rfl⟩, ?_⟩
    rintro n _ _ _ ⟨i, hi, rfl, rfl, rfl⟩
    refine ⟨hX.k15, hX.k16 h01, ?_⟩
    rw [mr15, hz.1]
    refine pk_le (zN A) i (fun c => ?_) (fun c => ⟨hX.km (by decide) (by decide) h01, pk_in i 8 (by omega), ?_⟩)
    · have : i = zN A := by omega
      subst this
      exact L115 _ hp
    · rw [nI_clamp (by omega), mr14 (by omega)]
      rintro _ rfl _ rfl
      exact ⟨n - 1, by omega, i + 1, by omega, nI_1 i, mx_s.symm, rfl⟩
  have L48 : ∀ d1 : Int64, post (dgR N S A (N 3) (dgB N S A (N 2) (dgL S A (N 1) (dgH N S A (N 0) (mx (fun j => A 14 0 j) (zN A) (mx (fun j => nI (S 28 j)) 7 d1)))))) (mput 0 A T V) → wl_X10_digest_48 ks post 7 d1 0 (mput 0 A T V) := by
    intro d1 hp
    refine ⟨fun n x1 x5 V' => ∃ i, i + n = 7 ∧ x5 = nI i ∧ x1 = mx (fun j => nI (S 28 j)) i d1 ∧ V' = mput 0 A T V, ⟨7, 0, by omega, rfl, mx_0.symm, rfl⟩, ?_⟩
    rintro n _ _ _ ⟨i, hi, rfl, rfl, rfl⟩
    refine pk_le (x := 7) 7 i (fun c => ?_) (fun c => ⟨hX.k18, pk_in i 7 c, ?_⟩)
    · have : i = 7 := by omega
      subst this
      exact L79 _ hp
    · rw [nI_clamp (by omega), hX.mrain c]
      rintro _ rfl _ rfl _ rfl
      exact ⟨n - 1, by omega, i + 1, by omega, nI_1 i, mx_s.symm, rfl⟩
  refine ⟨fun n x1 x3 V' => ∃ i, i + n = 10 ∧ x3 = nI i ∧ x1 = mx (ansC N A) i 607 ∧ V' = mput 0 A T V, ⟨10, Nat.le_refl _, 0, by omega, rfl, mx_0.symm, rfl⟩, ?_⟩
  rintro n _ _ _ ⟨i, hi, rfl, rfl, rfl⟩
  refine pk_le (x := 10) 10 i (fun c => ⟨hX.k15, hX.k18, ?_⟩) (fun c => ⟨hX.k15, m_counted hB hW c ?_⟩)
  · have : i = 10 := by omega
    subst this
    exact L48 _ hp
  · rintro _ rfl _ rfl
    exact ⟨n - 1, by omega, i + 1, by omega, nI_1 i, mx_s.symm, rfl⟩
end
