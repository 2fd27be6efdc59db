/-! a new thing at the end of a list: the picture after it -/
theorem nd_single {n : Nat} : va_nd [n] = true := rfl
theorem nd_of_pairwise : ∀ (l : List Nat), l.Nodup → va_nd l = true
  | [], _ => rfl
  | a :: l, h => by
    have h1 := List.nodup_cons.mp h
    show (decide (a ∉ l) && va_nd l) = true
    rw [decide_eq_true h1.1, nd_of_pairwise l h1.2]
    rfl
theorem range_map {α : Type} (ws : List α) (x : α) : (List.range ws.length).map (fun i => (ws ++ [x])[i]?) = ws.map some := by
  apply List.ext_getElem?
  intro j
  rw [List.getElem?_map, List.getElem?_map]
  by_cases h : j < ws.length
  · rw [List.getElem?_range h, Option.map_some, List.getElem?_append_left h, List.getElem?_eq_getElem h]
    rfl
  · rw [List.getElem?_eq_none (by rw [List.length_range]; omega), List.getElem?_eq_none (by omega)]
    rfl
def newL (K w n : Nat) : List KY := if K = 2 then [(6, w, n), (8, w, n), (9, w, n)] else [(4 + K, w, n)]
abbrev isNew (K w n k w' i : Nat) : Prop := w' = w ∧ i = n ∧ (k = 4 + K ∨ (K = 2 ∧ (k = 8 ∨ k = 9)))
theorem newL_iff {K w n k w' i : Nat} : (k, w', i) ∈ newL K w n ↔ isNew K w n k w' i := by
  unfold newL isNew
  by_cases h : K = 2
  · subst h
    rw [if_pos rfl]
    simp only [List.mem_cons, List.not_mem_nil, or_false, Prod.mk.injEq]
    constructor
    · rintro (⟨h1, h2, h3⟩ | ⟨h1, h2, h3⟩ | ⟨h1, h2, h3⟩)
      · exact ⟨h2, h3, Or.inl h1⟩
      · exact ⟨h2, h3, Or.inr ⟨trivial, Or.inl h1⟩⟩
      · exact ⟨h2, h3, Or.inr ⟨trivial, Or.inr h1⟩⟩
    · rintro ⟨h2, h3, h1 | ⟨_, h1 | h1⟩⟩
      · exact Or.inl ⟨h1, h2, h3⟩
      · exact Or.inr (Or.inl ⟨h1, h2, h3⟩)
      · exact Or.inr (Or.inr ⟨h1, h2, h3⟩)
  · simp only [if_neg h, List.mem_cons, List.not_mem_nil, or_false, Prod.mk.injEq]
    omega
def ksN (ks : List KY) (K w n : Nat) : List KY := (if n = 0 then [(3, w, K)] else []) ++ (newL K w n ++ ks)
def adN (ad : AD) (K w n a : Nat) (u : Nat → Nat) : AD := fun k w' i => if k = 3 ∧ w' = w ∧ i = K then a else if isNew K w n k w' i then u k else ad k w' i
def VN (V : VS) (K w n : Nat) (X : Nat → Nat → Nat → Int32) : VS := fun k w' i f j => if k = 2 ∧ w' = w ∧ i = K ∧ f = 2 ∧ j = 0 then nI (n + 1) else if isNew K w n k w' i then X k f j else V k w' i f j
def AddOK (ks : List KY) (V : VS) (w K n : Nat) : Prop := n < 24 ∧ K ≤ 3 ∧ V 2 w K 2 0 = nI n ∧ (2, w, K) ∈ ks ∧ (n ≠ 0 → (3, w, K) ∈ ks) ∧ (n = 0 → (3, w, K) ∉ ks) ∧ (∀ j, j < n → (4 + K, w, j) ∈ ks) ∧ (∀ x ∈ newL K w n, x ∉ ks) ∧ (∀ w' i, (3, w', i) ∈ ks → i ≤ 3)
theorem adN_ne {ad : AD} {K w n a : Nat} {u : Nat → Nat} {k w' i : Nat} (hK : K ≤ 3) (h3 : k ≠ 3) (h : k < 4 ∨ 9 < k) : adN ad K w n a u k w' i = ad k w' i := by
  unfold adN isNew
  rw [if_neg (by omega), if_neg (by omega)]
theorem adN_old {ad : AD} {K w n a : Nat} {u : Nat → Nat} {k w' i : Nat} (h3 : ¬ (k = 3 ∧ w' = w ∧ i = K)) (h : ¬ isNew K w n k w' i) : adN ad K w n a u k w' i = ad k w' i := by
  unfold adN
  rw [if_neg h3, if_neg h]
theorem VN_old {V : VS} {K w n : Nat} {X : Nat → Nat → Nat → Int32} {k w' i : Nat} (h2 : ¬ (k = 2 ∧ w' = w ∧ i = K)) (h : ¬ isNew K w n k w' i) : VN V K w n X k w' i = V k w' i := by
  funext f j
  unfold VN
  rw [if_neg (by omega), if_neg h]
theorem VN_sz {V : VS} {K w n : Nat} {X : Nat → Nat → Nat → Int32} : VN V K w n X 2 w K 2 0 = nI (n + 1) := by
  unfold VN
  rw [if_pos ⟨rfl, rfl, rfl, rfl, rfl⟩]
theorem ce_adN {G : GG} {ad : AD} {V : VS} {K w n a : Nat} {u : Nat → Nat} {X : Nat → Nat → Nat → Int32} {k w' i : Nat} (hK : K ≤ 3) (hi : k = 3 → i ≤ 3) (h2 : ¬ (k = 2 ∧ w' = w ∧ i = K)) (h3 : ¬ (k = 3 ∧ w' = w ∧ i = K)) (h : ¬ isNew K w n k w' i) : cE G (adN ad K w n a u) (VN V K w n X) k w' i = cE G ad V k w' i := by
  unfold cE
  rw [VN_old h2 h]
  have hA : ∀ k' w'' i', k' ≠ 3 → (k' < 4 ∨ 9 < k') → adN ad K w n a u k' w'' i' = ad k' w'' i' := fun k' w'' i' h3 h4 => adN_ne hK h3 h4
  have hL : k = 3 → lsz (VN V K w n X) w' i = lsz V w' i := by
    intro e
    subst e
    unfold lsz
    rw [VN_old (fun z => h3 ⟨rfl, z.2⟩) (by unfold isNew; omega)]
  unfold isNew at h
  unfold cG
  split
  · simp only [hA 1 _ _ (by decide) (by decide)]
  · simp only [hA 2 _ _ (by decide) (by decide), hA 10 _ _ (by decide) (by decide), hA 12 _ _ (by decide) (by decide), hA 14 _ _ (by decide) (by decide)]
  · rw [adN_old (by omega) (by unfold isNew; omega)]
  · rw [hL rfl]
    have hf : (fun j => if j < lsz V w' i then some (adN ad K w n a u (4 + i) w' j) else none) = (fun j => if j < lsz V w' i then some (ad (4 + i) w' j) else none) := by
      funext j
      have hi3 := hi rfl
      rw [adN_old (by omega) (by unfold isNew; omega)]
    rw [hf]
  · rfl
  · rfl
  · rw [adN_old (by omega) (by unfold isNew; omega)]
  · rfl
  · rw [adN_old (by omega) (by unfold isNew; omega)]
  · rfl
  all_goals first
    | rfl
    | simp only [hA 11 _ _ (by decide) (by decide)]
    | simp only [hA 13 _ _ (by decide) (by decide)]
    | simp only [hA 17 _ _ (by decide) (by decide), hA 18 _ _ (by decide) (by decide), hA 19 _ _ (by decide) (by decide), hA 20 _ _ (by decide) (by decide), hA 21 _ _ (by decide) (by decide), hA 16 _ _ (by decide) (by decide)]
    | simp only [hA 22 _ _ (by decide) (by decide), hA 23 _ _ (by decide) (by decide), hA 24 _ _ (by decide) (by decide), hA 25 _ _ (by decide) (by decide), hA 26 _ _ (by decide) (by decide), hA 27 _ _ (by decide) (by decide), hA 28 _ _ (by decide) (by decide), hA 29 _ _ (by decide) (by decide), hA 30 _ _ (by decide) (by decide), hA 31 _ _ (by decide) (by decide), hA 32 _ _ (by decide) (by decide), hA 33 _ _ (by decide) (by decide), hA 15 _ _ (by decide) (by decide)]
/-- a picture out of a heap's cells by places -/
theorem to_pic {A : Nat → Prop} {G : GG} {ws : va_W} {ks : List KY} {ad : AD} {V : VS} {H : Heap} (hP : va_P G.1 vwCl ws H) (hD : va_D A ws) (Pos : KY → Nat → Prop) (h : ∀ x ∈ ks, ∃ p, Pos x p ∧ ws[p]? = some (ad x.1 x.2.1 x.2.2, cE G ad V x.1 x.2.1 x.2.2)) (hinj : ∀ x ∈ ks, ∀ y ∈ ks, ∀ p, Pos x p → Pos y p → x = y) (hnd : ks.Nodup) : va_P G.1 vwCl (pic G ks ad V) H ∧ Dj A ks ad := by
  refine ⟨fun k q hk => ?_, fun i j x y hx hy e => ?_, fun x hx => ?_⟩
  · obtain ⟨x, h1, rfl⟩ := pic_at hk
    obtain ⟨p, -, h2⟩ := h x (List.mem_of_getElem? h1)
    exact hP p _ h2
  · obtain ⟨p, a1, a2⟩ := h x (List.mem_of_getElem? hx)
    obtain ⟨r, b1, b2⟩ := h y (List.mem_of_getElem? hy)
    have e2 : p = r := hD.1 p r _ _ a2 b2 e
    subst e2
    have e3 := hinj x (List.mem_of_getElem? hx) y (List.mem_of_getElem? hy) p a1 b1
    subst e3
    exact (List.getElem?_inj (List.getElem?_eq_some_iff.mp hx).1 hnd).mp (hx.trans hy.symm)
  · obtain ⟨p, -, h2⟩ := h x hx
    exact hD.2 p _ h2
theorem nd_of_inj : ∀ (l : List KY), (∀ (i j : Nat) (x : KY), l[i]? = some x → l[j]? = some x → i = j) → l.Nodup
  | [], _ => List.nodup_nil
  | a :: l, h => by
    refine List.nodup_cons.mpr ⟨fun z => ?_, nd_of_inj l (fun i j x h1 h2 => ?_)⟩
    · obtain ⟨j, hj⟩ := List.getElem?_of_mem z
      have := h 0 (j + 1) a rfl hj
      omega
    · have := h (i + 1) (j + 1) x h1 h2
      omega
theorem ks_nodup {A : Nat → Prop} {ks : List KY} {ad : AD} (h : Dj A ks ad) : ks.Nodup := nd_of_inj ks (fun i j x h1 h2 => h.1 i j x x h1 h2 rfl)
theorem newL_nodup {K w n : Nat} : (newL K w n).Nodup := by
  unfold newL
  split
  · simp
  · simp
theorem ksN_nodup {ks : List KY} {V : VS} {w K n : Nat} (h : ks.Nodup) (hok : AddOK ks V w K n) : (ksN ks K w n).Nodup := by
  obtain ⟨h1, h2, h3, h4, h5, h6, h7, h8, h9⟩ := hok
  unfold ksN
  have hN : (newL K w n ++ ks).Nodup := List.nodup_append.mpr ⟨newL_nodup, h, fun a ha b hb e => h8 a ha (e ▸ hb)⟩
  by_cases hn : n = 0
  · rw [if_pos hn]
    refine List.nodup_append.mpr ⟨by simp, hN, fun a ha b hb e => ?_⟩
    have ha' : a = (3, w, K) := by simpa using ha
    subst e
    subst ha'
    rcases List.mem_append.mp hb with hb | hb
    · have := newL_iff.mp hb
      unfold isNew at this
      omega
    · exact h6 hn hb
  · rw [if_neg hn]
    exact hN
theorem add_pic {A : Nat → Prop} {G : GG} {ks : List KY} {ad : AD} {V : VS} {w K n a p3 q0 : Nat} {u : Nat → Nat} {X : Nat → Nat → Nat → Int32} {ws : va_W} {H : Heap} (hP : va_P G.1 vwCl ws H) (hD : va_D A ws) (hok : AddOK ks V w K n) (hnd : ks.Nodup)
    (hq0 : ks[q0]? = some (2, w, K))
    (ha : ∀ (p : Nat) (x : KY), ks[p]? = some x → x ≠ (2, w, K) → x ≠ (3, w, K) → ws[p]? = some (ad x.1 x.2.1 x.2.2, cE G ad V x.1 x.2.1 x.2.2))
    (hb : ws[q0]? = some (ad 2 w K, .inr (0, [.int (nI n + 1), .ref a, .int (nI (n + 1))])))
    (hc : ws[p3]? = some (a, .inl (G.2.2.1, capOf (n + 1), .inr (.inr (.inr (.inr (fun j => if j < n + 1 then some (adN ad K w n a u (4 + K) w j) else none)))))))
    (hd : ∀ (i : Nat) (x : KY), (newL K w n)[i]? = some x → ws[ks.length + i]? = some (u x.1, cE G (adN ad K w n a u) (VN V K w n X) x.1 x.2.1 x.2.2))
    (he : (∀ x : KY, ks[p3]? = some x → x = (3, w, K)) ∧ ∀ i : Nat, i < (newL K w n).length → p3 ≠ ks.length + i) :
    va_P G.1 vwCl (pic G (ksN ks K w n) (adN ad K w n a u) (VN V K w n X)) H ∧ Dj A (ksN ks K w n) (adN ad K w n a u) := by
  have hnd2 := ksN_nodup hnd hok
  obtain ⟨h1, h2, h3, h4, h5, h6, h7, h8, h9⟩ := hok
  refine to_pic hP hD (fun x p => (x = (3, w, K) ∧ p = p3) ∨ (x ≠ (3, w, K) ∧ ks[p]? = some x) ∨ ∃ i, (newL K w n)[i]? = some x ∧ p = ks.length + i) (fun x hx => ?_) (fun x hx y hy p px py => ?_) hnd2
  · by_cases e3 : x = (3, w, K)
    · refine ⟨p3, Or.inl ⟨e3, rfl⟩, ?_⟩
      subst e3
      rw [hc]
      have e1 : adN ad K w n a u 3 w K = a := by unfold adN; rw [if_pos ⟨rfl, rfl, rfl⟩]
      have e2 : lsz (VN V K w n X) w K = n + 1 := by unfold lsz; rw [VN_sz, nI_clamp (by omega)]
      show _ = some (adN ad K w n a u 3 w K, cG G (adN ad K w n a u) 3 w K _ (lsz (VN V K w n X) w K))
      rw [e1, e2]
      rfl
    · by_cases hnw : x ∈ newL K w n
      · obtain ⟨i, hi⟩ := List.getElem?_of_mem hnw
        refine ⟨ks.length + i, Or.inr (Or.inr ⟨i, hi, rfl⟩), ?_⟩
        rw [hd i x hi]
        have e1 : adN ad K w n a u x.1 x.2.1 x.2.2 = u x.1 := by
          have := newL_iff.mp hnw
          unfold adN
          rw [if_neg (fun z => by unfold isNew at this; omega), if_pos this]
        rw [e1]
      · have hx' : x ∈ ks := by
          unfold ksN at hx
          rcases List.mem_append.mp hx with hx | hx
          · by_cases hn : n = 0
            · rw [if_pos hn] at hx
              exact absurd (by simpa using hx) e3
            · rw [if_neg hn] at hx
              cases hx
          · rcases List.mem_append.mp hx with hx | hx
            · exact absurd hx hnw
            · exact hx
        obtain ⟨p, hp⟩ := List.getElem?_of_mem hx'
        refine ⟨p, Or.inr (Or.inl ⟨e3, hp⟩), ?_⟩
        have hnw' : ¬ isNew K w n x.1 x.2.1 x.2.2 := fun z => hnw (newL_iff.mpr z)
        have e3' : ¬ (x.1 = 3 ∧ x.2.1 = w ∧ x.2.2 = K) := fun z => e3 (Prod.ext z.1 (Prod.ext z.2.1 z.2.2))
        rw [adN_old e3' hnw']
        by_cases e2 : x = (2, w, K)
        · subst e2
          have : p = q0 := (List.getElem?_inj (List.getElem?_eq_some_iff.mp hp).1 hnd).mp (hp.trans hq0.symm)
          subst this
          rw [hb]
          show _ = some (ad 2 w K, (Sum.inr (0, [Value.int (VN V K w n X 2 w K 2 0), Value.ref (if VN V K w n X 2 w K 2 0 = 0 then G.2.2.2.2 else adN ad K w n a u 3 w K), Value.int (VN V K w n X 2 w K 2 0)]) : va_E))
          rw [VN_sz, if_neg (fun z => by have := (nI_eq (a := n + 1) (b := 0) (by omega) (by omega)).mp z; omega)]
          have e1 : adN ad K w n a u 3 w K = a := by unfold adN; rw [if_pos ⟨rfl, rfl, rfl⟩]
          rw [e1, show nI n + 1 = nI (n + 1) from nI_add n 1]
        · rw [ha p x hp e2 e3]
          have hi9 : x.1 = 3 → x.2.2 ≤ 3 := fun z => h9 x.2.1 x.2.2 (by rw [← z]; exact hx')
          rw [ce_adN h2 hi9 (fun z => e2 (Prod.ext z.1 (Prod.ext z.2.1 z.2.2))) e3' hnw']
  · have hlt : ∀ {z : KY}, ks[p]? = some z → p < ks.length := fun h => (List.getElem?_eq_some_iff.mp h).1
    rcases px with ⟨a1, a2⟩ | ⟨a1, a2⟩ | ⟨i, a1, a2⟩
    · rcases py with ⟨b1, b2⟩ | ⟨b1, b2⟩ | ⟨j, b1, b2⟩
      · rw [a1, b1]
      · exact absurd (he.1 y (by rw [← a2]; exact b2)) b1
      · exact absurd (a2.symm.trans b2) (he.2 j (List.getElem?_eq_some_iff.mp b1).1)
    · rcases py with ⟨b1, b2⟩ | ⟨b1, b2⟩ | ⟨j, b1, b2⟩
      · exact absurd (he.1 x (by rw [← b2]; exact a2)) a1
      · exact Option.some.inj (a2.symm.trans b2)
      · have := hlt a2; omega
    · rcases py with ⟨b1, b2⟩ | ⟨b1, b2⟩ | ⟨j, b1, b2⟩
      · exact absurd (b2.symm.trans a2) (he.2 i (List.getElem?_eq_some_iff.mp a1).1)
      · have := hlt b2; omega
      · have e : i = j := by omega
        subst e
        exact Option.some.inj (a1.symm.trans b1)
