/-! the class's answers -/
theorem ct_t {i : Nat} {p : Nat → Bool} (h : p i = true) : nI (ct i p) + 1 = nI (ct (i + 1) p) := by
  show _ = nI (ct i p + (if p i = true then 1 else 0))
  rw [if_pos h, nI_1]
theorem ct_f {i : Nat} {p : Nat → Bool} (h : p i = false) : nI (ct i p) = nI (ct (i + 1) p) := by
  show _ = nI (ct i p + (if p i = true then 1 else 0))
  rw [if_neg (by rw [h]; decide)]; rfl
def onVan (N : Nat → Nat) (A : AF) : Int32 := nI (ct (N 2) (fun b => A 5 b 0 == -1))
def lentS (N : Nat → Nat) (A : AF) : Int32 := sm (N 2) (fun b => A 7 b 0)
def missS (N : Nat → Nat) (A : AF) : Int32 := sm (N 0) (fun b => A 4 b 0)
def oweS (N : Nat → Nat) (A : AF) : Int32 := sm (N 3) (fun b => A 11 b 0)
def muddy (N : Nat → Nat) (A : AF) : Int32 := nI (ct (N 1) (fun l => !useL A l))
def plc (A : AF) (b r : Nat) : Nat := fnd (qN A b) (fun k => A 9 b k == nI r)
def plI (A : AF) (b r : Nat) : Int32 := if plc A b r < qN A b then nI (plc A b r) else -1
def bc (x : Int32) : Int32 :=
  let y1 := x - (((x.toUInt32 >>> ((1 : Int32).toUInt32 &&& Int32.toUInt32 31)).toInt32) &&& 1431655765)
  let y2 := (y1 &&& 858993459) + (((y1.toUInt32 >>> ((2 : Int32).toUInt32 &&& Int32.toUInt32 31)).toInt32) &&& 858993459)
  let y3 := (y2 + ((y2.toUInt32 >>> ((4 : Int32).toUInt32 &&& Int32.toUInt32 31)).toInt32)) &&& 252645135
  let y4 := y3 + ((y3.toUInt32 >>> ((8 : Int32).toUInt32 &&& Int32.toUInt32 31)).toInt32)
  let y5 := y4 + ((y4.toUInt32 >>> ((16 : Int32).toUInt32 &&& Int32.toUInt32 31)).toInt32)
  y5 &&& 63
def rdB (A : AF) (b r : Nat) : Bool := ((A 10 r 0 >>> (nI b &&& 31)) &&& 1) == 1
def ansH (N : Nat → Nat) (S : Nat → Nat → Nat) (A : AF) (h : Nat) : Nat → Int32
  | 0 => nI (ct (N 3) (fun r => S 25 r == h))
  | 1 => nI (ct (N 1) (fun l => (S 20 l == h) || (S 21 l == h)))
  | 2 => nI (ct (zN A) (fun k => A 14 0 k == nI h))
  | 3 => A 3 h 0
  | _ => A 4 h 0
def ansL (S : Nat → Nat → Nat) (A : AF) (l : Nat) : Nat → Int32
  | 0 => nI (S 20 l)
  | 1 => nI (S 21 l)
  | 2 => nI (S 22 l)
  | 3 => nI (S 23 l)
  | 4 => A 2 l 0
  | _ => if useL A l = true then nI (cst S A l) else -1
def ansB (N : Nat → Nat) (S : Nat → Nat → Nat) (A : AF) (b : Nat) : Nat → Int32
  | 0 => nI (S 24 b)
  | 1 => A 5 b 0
  | 2 => A 6 b 0
  | 3 => A 8 b 0
  | 4 => if qN A b = 0 then -1 else A 9 b 0
  | 5 => A 7 b 0
  | _ => nI (ct (N 3) (rdB A b))
def ansR (N : Nat → Nat) (S : Nat → Nat → Nat) (A : AF) (r : Nat) : Nat → Int32
  | 0 => nI (S 25 r)
  | 1 => nI (S 26 r)
  | 2 => nI (S 27 r)
  | 3 => A 13 r 0
  | 4 => bc (A 10 r 0)
  | 5 => A 11 r 0
  | 6 => nI (ct (N 2) (fun b => decide (plc A b r < qN A b)))
  | _ => A 12 r 0
def ansC (N : Nat → Nat) (A : AF) : Nat → Int32
  | 0 => A 0 0 0
  | 1 => nI (N 0)
  | 2 => nI (N 1)
  | 3 => nI (N 2)
  | 4 => nI (N 3)
  | 5 => onVan N A
  | 6 => lentS N A
  | 7 => oweS N A
  | 8 => muddy N A
  | _ => A 1 0 0
section
variable {B : Nat} {N : Nat → Nat} {S : Nat → Nat → Nat} {ks : List KY} {V X : VS} {w h l b r i p q k n c : Nat} {A : AF} {D : Nat → Int32} {x : Int32}
theorem t_readersAt {post : Int32 → VS → Prop} (hX : Bs N S ks X) (hw : w ≤ 1) (hh : h < 8) (hp : post (nI (ct (N 3) (fun r => S 25 r == h))) X) : wp_X7_readersAt ks w (nI h) X post := by
  have hn := hX.n
  refine ⟨fun n x2 x3 V' => ∃ i, i + n = N 3 ∧ x3 = nI i ∧ x2 = nI (ct i (fun r => S 25 r == h)) ∧ V' = X, ⟨N 3, 0, by omega, rfl, rfl, rfl⟩, ?_⟩
  rintro n _ _ _ ⟨i, hi, rfl, rfl, rfl⟩
  refine ⟨hX.k1 hw, hX.k2 hw (by decide), ?_⟩
  have hsz := hX.sz hw (K := 3) (by decide)
  rw [hsz]
  refine pk_le (N 3) i (fun c => ?_) (fun c => ?_)
  · have : i = N 3 := by omega
    subst this
    exact hp
  rw [← hsz]
  have hs := hX.srd c
  refine lget hX hw (by decide) c ⟨hX.k7 hw c, ?_⟩
  rw [(hX.rd hw c).2.1]
  refine pk_eq (S 25 i) h (fun c2 => ?_) (fun c2 => ?_)
  · rintro _ rfl _ rfl
    exact ⟨n - 1, by omega, i + 1, by omega, nI_1 i, ct_t (p := fun r => S 25 r == h) (beq_iff_eq.mpr c2), rfl⟩
  · rintro _ rfl
    exact ⟨n - 1, by omega, i + 1, by omega, nI_1 i, ct_f (p := fun r => S 25 r == h) (beq_eq_false_iff_ne.mpr c2), rfl⟩
theorem t_lanesAt {post : Int32 → VS → Prop} (hX : Bs N S ks X) (hw : w ≤ 1) (hh : h < 8) (hp : post (nI (ct (N 1) (fun l => (S 20 l == h) || (S 21 l == h)))) X) : wp_X7_lanesAt ks w (nI h) X post := by
  have hn := hX.n
  refine ⟨fun n x2 x3 V' => ∃ i, i + n = N 1 ∧ x3 = nI i ∧ x2 = nI (ct i (fun l => (S 20 l == h) || (S 21 l == h))) ∧ V' = X, ⟨N 1, 0, by omega, rfl, rfl, rfl⟩, ?_⟩
  rintro n _ _ _ ⟨i, hi, rfl, rfl, rfl⟩
  refine ⟨hX.k1 hw, hX.k2 hw (by decide), ?_⟩
  have hsz := hX.sz hw (K := 1) (by decide)
  rw [hsz]
  refine pk_le (N 1) i (fun c => ?_) (fun c => ?_)
  · have : i = N 1 := by omega
    subst this
    exact hp
  rw [← hsz]
  have hs := hX.sln c
  refine lget hX hw (by decide) c ⟨hX.k5 hw c, ?_⟩
  rw [(hX.ln hw c).1, (hX.ln hw c).2.1]
  refine pk_eq (S 20 i) h (fun c2 => ?_) (fun c2 => pk_eq (S 21 i) h (fun c3 => ?_) (fun c3 => ?_))
  · rintro _ rfl _ rfl
    exact ⟨n - 1, by omega, i + 1, by omega, nI_1 i, ct_t (p := fun l => (S 20 l == h) || (S 21 l == h)) (by rw [beq_iff_eq.mpr c2]; rfl), rfl⟩
  · rintro _ rfl _ rfl
    exact ⟨n - 1, by omega, i + 1, by omega, nI_1 i, ct_t (p := fun l => (S 20 l == h) || (S 21 l == h)) (by rw [beq_iff_eq.mpr c3, Bool.or_true]), rfl⟩
  · rintro _ rfl
    exact ⟨n - 1, by omega, i + 1, by omega, nI_1 i, ct_f (p := fun l => (S 20 l == h) || (S 21 l == h)) (by rw [beq_eq_false_iff_ne.mpr c2, beq_eq_false_iff_ne.mpr c3]; rfl), rfl⟩
theorem t_timesOf {post : Int32 → VS → Prop} (hB : Bs N S ks V) (hw : w ≤ 1) (hW : WF B N A) (hp : post (nI (ct (zN A) (fun k => A 14 0 k == x))) (cput N w A D V)) : wp_X5_timesOf ks w x (cput N w A D V) post := by
  have hn := hB.n
  have hz := WF_zN hW hn.1
  refine ⟨fun n x2 x3 V' => ∃ i, i + n = zN A ∧ x3 = nI i ∧ x2 = nI (ct i (fun k => A 14 0 k == x)) ∧ V' = cput N w A D V, ⟨zN A, 0, by omega, rfl, rfl, rfl⟩, ?_⟩
  rintro n _ _ _ ⟨i, hi, rfl, rfl, rfl⟩
  refine ⟨hB.k12 hw, ?_⟩
  rw [cr15, hz.1]
  refine pk_le (zN A) i (fun c => ?_) (fun c => ?_)
  · have : i = zN A := by omega
    subst this
    exact hp
  refine t_haltAt hB.c hw (by omega) ?_
  rw [cr14 (by omega)]
  refine ⟨fun c2 => ?_, fun c2 => ?_⟩
  · rintro _ rfl _ rfl
    exact ⟨n - 1, by omega, i + 1, by omega, nI_1 i, ct_t (p := fun k => A 14 0 k == x) (beq_iff_eq.mpr c2), rfl⟩
  · rintro _ rfl
    exact ⟨n - 1, by omega, i + 1, by omega, nI_1 i, ct_f (p := fun k => A 14 0 k == x) (beq_eq_false_iff_ne.mpr c2), rfl⟩
theorem t_whoRead {post : Int32 → VS → Prop} (hB : Bs N S ks V) (hw : w ≤ 1) (hp : post (nI (ct (N 3) (rdB A b))) (cput N w A D V)) : wp_X7_readersWhoRead ks w (nI b) (cput N w A D V) post := by
  have hn := hB.n
  have hX : Bs N S ks (cput N w A D V) := hB.c
  refine ⟨fun n x2 x3 V' => ∃ i, i + n = N 3 ∧ x3 = nI i ∧ x2 = nI (ct i (rdB A b)) ∧ V' = cput N w A D V, ⟨N 3, 0, by omega, rfl, rfl, rfl⟩, ?_⟩
  rintro n _ _ _ ⟨i, hi, rfl, rfl, rfl⟩
  refine ⟨hX.k1 hw, hX.k2 hw (by decide), ?_⟩
  have hsz := hX.sz hw (K := 3) (by decide)
  rw [hsz]
  refine pk_le (N 3) i (fun c => ?_) (fun c => ?_)
  · have : i = N 3 := by omega
    subst this
    exact hp
  rw [← hsz]
  refine lget hX hw (by decide) c ⟨hX.k7 hw c, t_hasRead hB hw c (fun c2 => ⟨fun z => absurd z (by decide), fun _ => ?_⟩) (fun c2 => ⟨fun _ => ?_, fun z => absurd rfl z⟩)⟩
  · rintro _ rfl _ rfl
    exact ⟨n - 1, by omega, i + 1, by omega, nI_1 i, ct_t (p := rdB A b) (beq_iff_eq.mpr c2), rfl⟩
  · rintro _ rfl
    exact ⟨n - 1, by omega, i + 1, by omega, nI_1 i, ct_f (p := rdB A b) (beq_eq_false_iff_ne.mpr c2), rfl⟩
theorem t_placeOf {post : Int32 → VS → Prop} (hB : Bs N S ks V) (hw : w ≤ 1) (hb : b < N 2) (h8 : A 8 b 0 = nI (qN A b)) (hq : qN A b ≤ 10) (hp : post (plI A b r) (cput N w A D V)) : wp_X3_placeOf ks w b (nI r) (cput N w A D V) post := by
  unfold plI plc at hp
  generalize qN A b = q at h8 hq hp
  refine ⟨fun n x2 V' => ∃ i, i + n = q ∧ x2 = nI i ∧ (∀ j, j < i → (A 9 b j == nI r) = false) ∧ V' = cput N w A D V, ⟨q, 0, by omega, rfl, fun j hj => absurd hj (Nat.not_lt_zero _), rfl⟩, ?_⟩
  rintro n _ _ ⟨i, hi, rfl, hno, rfl⟩
  refine ⟨hB.k8 hw hb, ?_⟩
  rw [cr8 hb, h8]
  refine pk_le q i (fun c => ?_) (fun c => ⟨hB.k9 hw hb, ?_⟩)
  · have : i = q := by omega
    subst this
    rw [fnd_none hno, if_neg (Nat.lt_irrefl _)] at hp
    exact hp
  refine pk_le (x := 10) 10 i (fun z => absurd z (by omega)) (fun _ => ⟨pk_in i 10 (by omega), ?_⟩)
  rw [nI_clamp (by omega), cr9 hb (by omega)]
  refine ⟨fun c2 => ?_, fun c2 => ?_⟩
  · rw [fnd_at (p := fun k => A 9 b k == nI r) c (beq_iff_eq.mpr c2) hno, if_pos c] at hp
    exact hp
  · rintro _ rfl
    refine ⟨n - 1, by omega, i + 1, by omega, nI_1 i, fun j hj => ?_, rfl⟩
    by_cases e : j = i
    · rw [e]; exact beq_eq_false_iff_ne.mpr c2
    · exact hno j (by omega)
theorem plI_m1 (hq : qN A b ≤ 10) : plI A b r = -1 ↔ ¬ plc A b r < qN A b := by
  unfold plI
  by_cases c : plc A b r < qN A b
  · rw [if_pos c]
    exact ⟨fun z => absurd z (nI_m1 (by omega)), fun z => absurd c z⟩
  · rw [if_neg c]
    exact ⟨fun _ => c, fun _ => rfl⟩
theorem t_reservedBy {post : Int32 → VS → Prop} (hB : Bs N S ks V) (hw : w ≤ 1) (hW : WF B N A) (hp : post (nI (ct (N 2) (fun b => decide (plc A b r < qN A b)))) (cput N w A D V)) : wp_X7_booksReservedBy ks w (nI r) (cput N w A D V) post := by
  have hn := hB.n
  have hX : Bs N S ks (cput N w A D V) := hB.c
  refine ⟨fun n x2 x3 V' => ∃ i, i + n = N 2 ∧ x3 = nI i ∧ x2 = nI (ct i (fun b => decide (plc A b r < qN A b))) ∧ V' = cput N w A D V, ⟨N 2, 0, by omega, rfl, rfl, rfl⟩, ?_⟩
  rintro n _ _ _ ⟨i, hi, rfl, rfl, rfl⟩
  refine ⟨hX.k1 hw, hX.k2 hw (by decide), ?_⟩
  have hsz := hX.sz hw (K := 2) (by decide)
  rw [hsz]
  refine pk_le (N 2) i (fun c => ?_) (fun c => ?_)
  · have : i = N 2 := by omega
    subst this
    exact hp
  rw [← hsz]
  have hq8 := WF_q hW hn.2.2.2 c
  refine lget hX hw (by decide) c ⟨hX.k6 hw c, hX.k8 hw c, t_placeOf hB hw c hq8.1 (by omega) ⟨fun c2 => ?_, fun c2 => ?_⟩⟩
  · rw [plI_m1 (by omega)] at c2
    rintro _ rfl
    exact ⟨n - 1, by omega, i + 1, by omega, nI_1 i, ct_f (p := fun b => decide (plc A b r < qN A b)) (decide_eq_false c2), rfl⟩
  · rw [plI_m1 (by omega)] at c2
    rintro _ rfl _ rfl
    exact ⟨n - 1, by omega, i + 1, by omega, nI_1 i, ct_t (p := fun b => decide (plc A b r < qN A b)) (decide_eq_true (Classical.byContradiction c2)), rfl⟩
theorem t_booksOnVan {post : Int32 → VS → Prop} (hB : Bs N S ks V) (hw : w ≤ 1) (hp : post (onVan N A) (cput N w A D V)) : wp_X7_booksOnVan ks w (cput N w A D V) post := by
  have hn := hB.n
  have hX : Bs N S ks (cput N w A D V) := hB.c
  refine ⟨fun n x2 x3 V' => ∃ i, i + n = N 2 ∧ x3 = nI i ∧ x2 = nI (ct i (fun b => A 5 b 0 == -1)) ∧ V' = cput N w A D V, ⟨N 2, 0, by omega, rfl, rfl, rfl⟩, ?_⟩
  rintro n _ _ _ ⟨i, hi, rfl, rfl, rfl⟩
  refine ⟨hX.k1 hw, hX.k2 hw (by decide), ?_⟩
  have hsz := hX.sz hw (K := 2) (by decide)
  rw [hsz]
  refine pk_le (N 2) i (fun c => ?_) (fun c => ?_)
  · have : i = N 2 := by omega
    subst this
    exact hp
  rw [← hsz]
  refine lget hX hw (by decide) c ⟨hX.k6 hw c, t_onVan hB hw c (fun c2 => ⟨fun z => absurd z (by decide), fun _ => ?_⟩) (fun c2 => ⟨fun _ => ?_, fun z => absurd rfl z⟩)⟩
  · rintro _ rfl _ rfl
    exact ⟨n - 1, by omega, i + 1, by omega, nI_1 i, ct_t (p := fun b => A 5 b 0 == -1) (beq_iff_eq.mpr c2), rfl⟩
  · rintro _ rfl
    exact ⟨n - 1, by omega, i + 1, by omega, nI_1 i, ct_f (p := fun b => A 5 b 0 == -1) (beq_eq_false_iff_ne.mpr c2), rfl⟩
theorem t_loans {post : Int32 → VS → Prop} (hB : Bs N S ks V) (hw : w ≤ 1) (hp : post (lentS N A) (cput N w A D V)) : wp_X7_loansOfAll ks w (cput N w A D V) post := by
  have hn := hB.n
  have hX : Bs N S ks (cput N w A D V) := hB.c
  refine ⟨fun n x2 x3 V' => ∃ i, i + n = N 2 ∧ x3 = nI i ∧ x2 = sm i (fun b => A 7 b 0) ∧ V' = cput N w A D V, ⟨N 2, 0, by omega, rfl, rfl, rfl⟩, ?_⟩
  rintro n _ _ _ ⟨i, hi, rfl, rfl, rfl⟩
  refine ⟨hX.k1 hw, hX.k2 hw (by decide), ?_⟩
  have hsz := hX.sz hw (K := 2) (by decide)
  rw [hsz]
  refine pk_le (N 2) i (fun c => ?_) (fun c => ?_)
  · have : i = N 2 := by omega
    subst this
    exact hp
  rw [← hsz]
  refine lget hX hw (by decide) c ⟨hX.k6 hw c, ?_⟩
  rw [cr7 c]
  rintro _ rfl _ rfl
  exact ⟨n - 1, by omega, i + 1, by omega, nI_1 i, rfl, rfl⟩
theorem t_misses {post : Int32 → VS → Prop} (hB : Bs N S ks V) (hw : w ≤ 1) (hp : post (missS N A) (cput N w A D V)) : wp_X7_missesOfAll ks w (cput N w A D V) post := by
  have hn := hB.n
  have hX : Bs N S ks (cput N w A D V) := hB.c
  refine ⟨fun n x2 x3 V' => ∃ i, i + n = N 0 ∧ x3 = nI i ∧ x2 = sm i (fun b => A 4 b 0) ∧ V' = cput N w A D V, ⟨N 0, 0, by omega, rfl, rfl, rfl⟩, ?_⟩
  rintro n _ _ _ ⟨i, hi, rfl, rfl, rfl⟩
  refine ⟨hX.k1 hw, hX.k2 hw (by decide), ?_⟩
  have hsz := hX.sz hw (K := 0) (by decide)
  rw [hsz]
  refine pk_le (N 0) i (fun c => ?_) (fun c => ?_)
  · have : i = N 0 := by omega
    subst this
    exact hp
  rw [← hsz]
  refine lget hX hw (by decide) c ⟨hX.k4 hw c, ?_⟩
  rw [cr4 c]
  rintro _ rfl _ rfl
  exact ⟨n - 1, by omega, i + 1, by omega, nI_1 i, rfl, rfl⟩
theorem t_pence {post : Int32 → VS → Prop} (hB : Bs N S ks V) (hw : w ≤ 1) (hp : post (oweS N A) (cput N w A D V)) : wp_X7_penceOfAll ks w (cput N w A D V) post := by
  have hn := hB.n
  have hX : Bs N S ks (cput N w A D V) := hB.c
  refine ⟨fun n x2 x3 V' => ∃ i, i + n = N 3 ∧ x3 = nI i ∧ x2 = sm i (fun b => A 11 b 0) ∧ V' = cput N w A D V, ⟨N 3, 0, by omega, rfl, rfl, rfl⟩, ?_⟩
  rintro n _ _ _ ⟨i, hi, rfl, rfl, rfl⟩
  refine ⟨hX.k1 hw, hX.k2 hw (by decide), ?_⟩
  have hsz := hX.sz hw (K := 3) (by decide)
  rw [hsz]
  refine pk_le (N 3) i (fun c => ?_) (fun c => ?_)
  · have : i = N 3 := by omega
    subst this
    exact hp
  rw [← hsz]
  refine lget hX hw (by decide) c ⟨hX.k7 hw c, ?_⟩
  rw [cr11 c]
  rintro _ rfl _ rfl
  exact ⟨n - 1, by omega, i + 1, by omega, nI_1 i, rfl, rfl⟩
theorem t_usable {post : Int32 → VS → Prop} (hB : Bs N S ks V) (hw : w ≤ 1) (hm : Wm N A) (hl : l < N 1) (h0 : useL A l = false → post 0 (cput N w A D V)) (h1 : useL A l = true → post 1 (cput N w A D V)) : wp_X2_isUsable ks w l (cput N w A D V) post := by
  have hmd := m_mud hm hl
  refine ⟨hB.k5 hw hl, ?_⟩
  rw [cr2 hl, hmd.1]
  exact pk_lt (x := 12) 12 (mN A l) (fun c => h0 (decide_eq_false (by omega))) (fun c => h1 (decide_eq_true c))
theorem t_muddy {post : Int32 → VS → Prop} (hB : Bs N S ks V) (hw : w ≤ 1) (hm : Wm N A) (hp : post (muddy N A) (cput N w A D V)) : wp_X7_lanesTooMuddy ks w (cput N w A D V) post := by
  have hn := hB.n
  have hX : Bs N S ks (cput N w A D V) := hB.c
  refine ⟨fun n x2 x3 V' => ∃ i, i + n = N 1 ∧ x3 = nI i ∧ x2 = nI (ct i (fun l => !useL A l)) ∧ V' = cput N w A D V, ⟨N 1, 0, by omega, rfl, rfl, rfl⟩, ?_⟩
  rintro n _ _ _ ⟨i, hi, rfl, rfl, rfl⟩
  refine ⟨hX.k1 hw, hX.k2 hw (by decide), ?_⟩
  have hsz := hX.sz hw (K := 1) (by decide)
  rw [hsz]
  refine pk_le (N 1) i (fun c => ?_) (fun c => ?_)
  · have : i = N 1 := by omega
    subst this
    exact hp
  rw [← hsz]
  refine lget hX hw (by decide) c ⟨hX.k5 hw c, t_usable hB hw hm c (fun c2 => ⟨fun _ => ?_, fun z => absurd rfl z⟩) (fun c2 => ⟨fun z => absurd z (by decide), fun _ => ?_⟩)⟩
  · rintro _ rfl _ rfl
    exact ⟨n - 1, by omega, i + 1, by omega, nI_1 i, ct_t (p := fun l => !useL A l) (by rw [c2]; rfl), rfl⟩
  · rintro _ rfl
    exact ⟨n - 1, by omega, i + 1, by omega, nI_1 i, ct_f (p := fun l => !useL A l) (by rw [c2]; rfl), rfl⟩
theorem t_bits {post : Int32 → VS → Prop} (hp : post (bc x) X) : wp_J6_bitCount_0f7a4 ks x X post := by
  rintro _ rfl _ rfl _ rfl _ rfl _ rfl
  exact hp
end
