/-! a new thing at the end of a list: the rows -/
section ADD2
variable {p : Program} {l : Launch} {e : Env} {R : Room} {s : State} {m : MethodId} {args : Array Value} {below : List Frame} {meth : Method} {c : Code} {H : Heap} {locs : List Loc} {cells slots : Nat} {Q : State → Prop}
variable {cc : ByteArray} {pc nL : Nat} {own : String} {ls : Array Slot} {rest st0 : List Value} {G : GG} {A : Nat → Prop} {H0 : Heap} {lv : List (Nat × Value)} {ws ex : va_W} {mc ms : Nat} {ks : List KY} {ad : AD} {V : VS}
theorem r_init {S : Type} {w : S → va_W} {x : Nat × va_E} (hC : CX p s m args c cc nL own G A) (hP : va_P G.1 vwCl (ws ++ [x]) H) (hD : va_D A (ws ++ [x])) (hS : va_S A s.heap H locs) (hA : ∀ q, s.heap.size ≤ q → A q)
    {y : MethodName} {cy : ByteArray} {idx maxL n mc ms : Nat} {rm : Room} {b : Nat} {As : List Value}
    (hM : Met l y (ws_ y cy maxL none) rm (rPc (.ref b :: As) G [x] H.size) (rQ w G [x] H.size) mc ms (va_A [x] H.size))
    (hlk : Cond.methodLink own idx y ∈ lw_all) (hin : Cond.instanceMethod y ∈ lw_all) (hini : Cond.initialized y.cls ∈ lw_all) (hcd : Cond.code y cy maxL none ∈ lw_all) (hnm : y.name = "<init>") (hY : mY R y maxL n rm mc ms) (hAs : As.length = n) (hl : lv_has ls nL lv) (hst : st0 = As.reverse ++ .ref b :: rest) (hrest : (rest.map fun v => v.category).sum ≤ 8)
    (hd : decode cc pc = .ok (.invokespecial idx, 3)) (hf : cells + mc ≤ R.cells ∧ slots + ms ≤ R.slots)
    (kk : ∀ (u : S) (H1 : Heap) (locs1 : List Loc), va_P G.1 vwCl (ws ++ w u) H1 → va_D A (ws ++ w u) → va_S A s.heap H1 locs1 → W p l e R s m args below meth c H1 locs1 (cells + mc) (slots + ms) Q (F0 m (pc + 3) ls rest)) : W p l e R s m args below meth c H locs cells slots Q (F0 m pc ls st0) :=
  r_callI hC hP hD hS hA [ws.length] (List.range ws.length) (by show [(ws ++ [x])[ws.length]?] = [some x]; rw [get_last]) (range_map ws x) rfl (nd_of_pairwise _ List.nodup_range) (fun i hi hj => by have := List.mem_range.mp hi; have := List.mem_singleton.mp hj; omega) hM hlk hin hini hcd hnm hY hAs hl hst hrest hd hf kk
theorem r_initN {S : Type} {w : S → va_W} {x : Nat × va_E} (hC : CX p s m args c cc nL own G A) (hP : va_P G.1 vwCl (ws ++ [x]) H) (hD : va_D A (ws ++ [x])) (hS : va_S A s.heap H locs) (hA : ∀ q, s.heap.size ≤ q → A q)
    {y : MethodName} {cy : ByteArray} {idx maxL n mc ms : Nat} {rm : Room} {b : Nat} {As : List Value} {host : String}
    (hM : Met l y (ws_ y cy maxL none) rm (rPc (.ref b :: As) G [x] H.size) (rQ w G [x] H.size) mc ms (va_A [x] H.size))
    (hlk : Cond.methodLinkNest own idx y host ∈ lw_tbl) (hin : Cond.instanceMethod y ∈ lw_all) (hini : Cond.initialized y.cls ∈ lw_all) (hcd : Cond.code y cy maxL none ∈ lw_all) (hnm : y.name = "<init>") (hY : mY R y maxL n rm mc ms) (hAs : As.length = n) (hl : lv_has ls nL lv) (hst : st0 = As.reverse ++ .ref b :: rest) (hrest : (rest.map fun v => v.category).sum ≤ 8)
    (hd : decode cc pc = .ok (.invokespecial idx, 3)) (hf : cells + mc ≤ R.cells ∧ slots + ms ≤ R.slots)
    (kk : ∀ (u : S) (H1 : Heap) (locs1 : List Loc), va_P G.1 vwCl (ws ++ w u) H1 → va_D A (ws ++ w u) → va_S A s.heap H1 locs1 → W p l e R s m args below meth c H1 locs1 (cells + mc) (slots + ms) Q (F0 m (pc + 3) ls rest)) : W p l e R s m args below meth c H locs cells slots Q (F0 m pc ls st0) :=
  r_callIN hC hP hD hS hA [ws.length] (List.range ws.length) (by show [(ws ++ [x])[ws.length]?] = [some x]; rw [get_last]) (range_map ws x) rfl (nd_of_pairwise _ List.nodup_range) (fun i hi hj => by have := List.mem_range.mp hi; have := List.mem_singleton.mp hj; omega) hM hlk hin hini hcd hnm hY hAs hl hst hrest hd hf kk
theorem pic_len {G : GG} {ks : List KY} {ad : AD} {V : VS} : (pic G ks ad V).length = ks.length := by unfold pic; rw [List.length_map]
theorem pe_old {G : GG} {ks : List KY} {ad : AD} {V : VS} {ex : va_W} {p : Nat} {x : KY} (h : ks[p]? = some x) : (pic G ks ad V ++ ex)[p]? = some (ad x.1 x.2.1 x.2.2, cE G ad V x.1 x.2.1 x.2.2) := by
  rw [List.getElem?_append_left (by rw [pic_len]; exact (List.getElem?_eq_some_iff.mp h).1), at_pic h]
theorem pe_new {G : GG} {ks : List KY} {ad : AD} {V : VS} {ex : va_W} {i : Nat} : (pic G ks ad V ++ ex)[ks.length + i]? = ex[i]? := by
  rw [List.getElem?_append_right (by rw [pic_len]; omega), pic_len, Nat.add_sub_cancel_left]
theorem get_setne2 {α : Type} {ws : List α} {y : α} {k j : Nat} (hne : k ≠ j) : (ws.set k y)[j]? = ws[j]? := List.getElem?_set_ne hne
theorem get_appl {α : Type} {ws : List α} {x : α} {k : Nat} (h : k < ws.length) : (ws ++ [x])[k]? = ws[k]? := List.getElem?_append_left h
theorem capOf_succ : ∀ n, n < 24 → n ≠ 0 → n < capOf n → capOf (n + 1) = capOf n := by decide
theorem g_ladd {w K n ce idx : Nat} {u : Nat → Nat} {X : Nat → Nat → Nat → Int32} {ve : List Value} {re : vw_C} (hC : CX p s m args c cc nL own G A) (hP : va_P G.1 vwCl (pic G ks ad V ++ ex) H) (hD : va_D A (pic G ks ad V ++ ex)) (hS : va_S A s.heap H locs) (hA : ∀ q, s.heap.size ≤ q → A q)
    (hDj : Dj A ks ad) (hok : AddOK ks V w K n)
    (hex : ∀ (a i : Nat) (x : KY), (newL K w n)[i]? = some x → ex[i]? = some (u x.1, cE G (adN ad K w n a u) (VN V K w n X) x.1 x.2.1 x.2.2)) (hxl : (newL K w n).length = ex.length)
    (he0 : ex[0]? = some (u (4 + K), .inr (ce, ve))) (hce : vwCl[ce]? = some re) (hcb : Cond.castable re.1 "java/lang/Object" ∈ lw_tbl) (hce0 : ce ≠ 0) (hel : ∀ j, ∃ vs : List Value, cE G ad V (4 + K) w j = .inr (ce, vs))
    (hlink : Cond.methodLink own idx yJx4a65c_add_9ea2d ∈ lw_all) (hl : lv_has ls nL lv) (hR : 7 ≤ R.frames ∧ 195 ≤ R.locals) (hrest : (rest.map fun v => v.category).sum ≤ 8) (hd : decode cc pc = .ok (.invokevirtual idx, 3)) (hcs : cells + 1 ≤ R.cells ∧ slots + 33 ≤ R.slots)
    (kk : ∀ (a : Nat) (H1 : Heap) (locs1 : List Loc), ST G (ksN ks K w n) (adN ad K w n a u) (VN V K w n X) A s.heap H1 locs1 → W p l e R s m args below meth c H1 locs1 (cells + 1) (slots + 33) Q (F0 m (pc + 3) ls (.int 1 :: rest))) : W p l e R s m args below meth c H locs cells slots Q (F0 m pc ls (.ref (u (4 + K)) :: .ref (ad 2 w K) :: rest)) := by
  have hok9 := hok
  obtain ⟨h1, h2, h3, h4, h5, h6, h7, h8, h9⟩ := hok
  obtain ⟨q0, hq0⟩ := List.getElem?_of_mem h4
  have hq0l := (List.getElem?_eq_some_iff.mp hq0).1
  have hnd := ks_nodup hDj
  have e2 : cE G ad V 2 w K = .inr (0, [.int (nI n), .ref (if nI n = 0 then G.2.2.2.2 else ad 3 w K), .int (nI n)]) := by
    show (.inr (0, [.int (V 2 w K 2 0), .ref (if V 2 w K 2 0 = 0 then G.2.2.2.2 else ad 3 w K), .int (V 2 w K 2 0)]) : va_E) = _
    rw [h3]
  have hq := pe_old (G := G) (ad := ad) (V := V) (ex := ex) hq0
  have hq : (pic G ks ad V ++ ex)[q0]? = some (ad 2 w K, .inr (0, [.int (nI n), .ref (if nI n = 0 then G.2.2.2.2 else ad 3 w K), .int (nI n)])) := by rw [hq]; show some (ad 2 w K, cE G ad V 2 w K) = _; rw [e2]
  have hqe : (pic G ks ad V ++ ex)[ks.length + 0]? = some (u (4 + K), .inr (ce, ve)) := by rw [pe_new]; exact he0
  have hne : ks.length + 0 ≠ q0 := by omega
  have hxl2 : 0 < ex.length := (List.getElem?_eq_some_iff.mp he0).1
  have hlen : (pic G ks ad V ++ ex).length = ks.length + ex.length := by rw [List.length_append, pic_len]
  have hadn : ∀ a j, j < n → adN ad K w n a u (4 + K) w j = ad (4 + K) w j := fun a j hj => adN_old (by omega) (by unfold isNew; omega)
  have hadn2 : ∀ a, adN ad K w n a u (4 + K) w n = u (4 + K) := fun a => by
    unfold adN
    rw [if_neg (by omega), if_pos ⟨rfl, rfl, Or.inl rfl⟩]
  have hfun : ∀ a j (f : Nat → Option Nat), (∀ j, j < n → f j = some (ad (4 + K) w j)) → (∀ j, n < j → f j = none) → va_up f n (some (u (4 + K))) j = (if j < n + 1 then some (adN ad K w n a u (4 + K) w j) else none) := by
    intro a j f hf1 hf2
    unfold va_up
    by_cases c1 : j = n
    · subst c1
      rw [if_pos rfl, if_pos (by omega), hadn2]
    · rw [if_neg c1]
      by_cases c2 : j < n
      · rw [if_pos (by omega), hf1 j c2, hadn a j c2]
      · rw [if_neg (by omega), hf2 j (by omega)]
  have hxne : ∀ (p : Nat) (x : KY), ks[p]? = some x → x ≠ (2, w, K) → q0 ≠ p := fun p x hx hn e => hn (by subst e; exact Option.some.inj (hx.symm.trans hq0))
  by_cases hn : n = 0
  · subst hn
    rw [if_pos (show nI 0 = 0 from rfl)] at hq
    refine r_calli hD hS hA (r_runV hC hP hD hS hA (q0 := q0) (n := 1) (rest := rest) (As := [.ref (u (4 + K))]) (C := RJx4a65c) (T := TJx4a65c) (N := 3) hq rfl (c_addZ l G q0 (ad 2 w K) (nI 0) (pic G ks ad V ++ ex) hq (ks.length + 0) (u (4 + K)) ce ve re hqe hce hcb hne _) (gI hlink wq_423 wq_424 wq_43 wq_425) rfl ⟨⟨by decide +kernel, by decide +kernel, by decide +kernel⟩, rfl, rfl, by show 4 + 1 ≤ _; omega, by show 8 + (2 + 11) + 174 ≤ _; omega⟩ rfl hl rfl hrest hd ⟨hcs.1, by omega⟩) (fun r a H locs h hP hD hS => ?_)
    subst h
    refine W.widen (k := cells + 1) (n := slots + 33) (Nat.le_refl _) (by omega) ?_
    obtain ⟨a1, a2⟩ := add_pic (p3 := (pic G ks ad V ++ ex).length) (q0 := q0) (a := a) (u := u) (X := X) hP hD hok9 hnd hq0
      (fun p x hx hx2 hx3 => by rw [get_appl (by rw [List.length_set, hlen]; have := (List.getElem?_eq_some_iff.mp hx).1; omega), get_setne2 (hxne p x hx hx2), pe_old hx])
      (get_app (get_set hq))
      (by
        have e := get_last (ws := (pic G ks ad V ++ ex).set q0 (ad 2 w K, .inr (0, [.int (nI 0 + 1), .ref a, .int 1]))) (x := ((a, .inl (G.2.2.1, 10, .inr (.inr (.inr (.inr (va_up (fun _ => none) 0 (some (u (4 + K))))))))) : Nat × va_E))
        rw [List.length_set] at e
        rw [e]
        have ef : (va_up (fun _ => none) 0 (some (u (4 + K))) : Nat → Option Nat) = (fun j => if j < 0 + 1 then some (adN ad K w 0 a u (4 + K) w j) else none) := by
          funext j
          exact hfun a j _ (fun j hj => absurd hj (Nat.not_lt_zero j)) (fun _ _ => rfl)
        rw [ef]
        rfl)
      (fun i x hi => by
        have hil := (List.getElem?_eq_some_iff.mp hi).1
        rw [get_appl (by rw [List.length_set, hlen]; omega), get_setne2 (by omega), pe_new]
        exact hex a i x hi)
      ⟨fun x hx => by have := (List.getElem?_eq_some_iff.mp hx).1; rw [hlen] at this; omega, fun i hi => by rw [hlen]; omega⟩
    exact kk a H locs ⟨a1, hS, a2, hA⟩
  · rw [if_neg (show ¬ nI n = (0 : Int32) from fun z => hn ((nI_eq (a := n) (b := 0) (by omega) (by omega)).mp z))] at hq
    obtain ⟨q1, hq1⟩ := List.getElem?_of_mem (h5 hn)
    have hq1l := (List.getElem?_eq_some_iff.mp hq1).1
    have hq01 : q1 ≠ q0 := fun e => by
      subst e
      have := hq1.symm.trans hq0
      injection this with this
      injection this with this
      omega
    have hlsz : lsz V w K = n := by unfold lsz; rw [h3, nI_clamp (by omega)]
    have ha1 := pe_old (G := G) (ad := ad) (V := V) (ex := ex) hq1
    have ha1 : (pic G ks ad V ++ ex)[q1]? = some (ad 3 w K, .inl (G.2.2.1, capOf n, .inr (.inr (.inr (.inr (fun j => if j < n then some (ad (4 + K) w j) else none)))))) := by
      rw [ha1]
      show some (ad 3 w K, (.inl (G.2.2.1, capOf (lsz V w K), .inr (.inr (.inr (.inr (fun j => if j < lsz V w K then some (ad (4 + K) w j) else none))))) : va_E)) = _
      rw [hlsz]
    have hcap := capOf_ge (n := n) (by omega)
    by_cases hr : n < capOf n
    · refine r_calli hD hS hA (r_runV hC hP hD hS hA (q0 := q0) (n := 1) (rest := rest) (As := [.ref (u (4 + K))]) (C := RJx4a65c) (T := TJx4a65c) (N := 3) hq rfl (c_addR l G q0 q1 (ad 2 w K) (ad 3 w K) n (capOf n) (fun j => if j < n then some (ad (4 + K) w j) else none) (nI n) (pic G ks ad V ++ ex) hq ha1 hr (by unfold capOf; split; omega; split; omega; split; omega; split; omega; omega) hq01 (ks.length + 0) (u (4 + K)) ce ve re hqe hce hcb hne _) (gI hlink wq_423 wq_424 wq_43 wq_425) rfl ⟨⟨by decide +kernel, by decide +kernel, by decide +kernel⟩, rfl, rfl, by show 1 + 1 ≤ _; omega, by show 8 + (2 + 11) + 174 ≤ _; omega⟩ rfl hl rfl hrest hd ⟨by omega, by omega⟩) (fun r a H locs h hP hD hS => ?_)
      subst h
      refine W.widen (k := cells + 1) (n := slots + 33) (by omega) (by omega) ?_
      have hcc : capOf (n + 1) = capOf n := capOf_succ n h1 hn hr
      obtain ⟨a1, a2⟩ := add_pic (p3 := q1) (q0 := q0) (a := ad 3 w K) (u := u) (X := X) hP hD hok9 hnd hq0
        (fun p x hx hx2 hx3 => by rw [get_setne2 (hxne p x hx hx2), get_setne2 (fun e => hx3 (by subst e; exact Option.some.inj (hx.symm.trans hq1))), pe_old hx])
        (get_set (get_setne hq01 hq))
        (by
          rw [get_setne hq01.symm (get_set ha1), hcc]
          have ef : va_up (fun j => if j < n then some (ad (4 + K) w j) else none) n (some (u (4 + K))) = (fun j => if j < n + 1 then some (adN ad K w n (ad 3 w K) u (4 + K) w j) else none) := by
            funext j
            exact hfun _ j _ (fun j hj => if_pos hj) (fun j hj => if_neg (by omega))
          rw [ef])
        (fun i x hi => by
          rw [get_setne2 (by omega), get_setne2 (by omega), pe_new]
          exact hex _ i x hi)
        ⟨fun x hx => Option.some.inj (hx.symm.trans hq1), fun i hi => by omega⟩
      exact kk (ad 3 w K) H locs ⟨a1, hS, a2, hA⟩
    · have hn3 : (n = 10 ∧ capOf (n + 1) = 15) ∨ (n = 15 ∧ capOf (n + 1) = 22) ∨ (n = 22 ∧ capOf (n + 1) = 33) := by
        have : n = 10 ∨ n = 15 ∨ n = 22 := by unfold capOf at hr; split at hr <;> (try split at hr) <;> (try split at hr) <;> (try split at hr) <;> omega
        rcases this with rfl | rfl | rfl
        · exact Or.inl ⟨rfl, rfl⟩
        · exact Or.inr (Or.inl ⟨rfl, rfl⟩)
        · exact Or.inr (Or.inr ⟨rfl, rfl⟩)
      have hcn : capOf n = n := by omega
      rw [hcn] at ha1
      refine r_calli hD hS hA (r_runV hC hP hD hS hA (q0 := q0) (n := 1) (rest := rest) (As := [.ref (u (4 + K))]) (C := RJx4a65c) (T := TJx4a65c) (N := 3) hq rfl (c_addF l G q0 q1 (ad 2 w K) (ad 3 w K) n (capOf (n + 1)) ce (fun j => if j < n then some (ad (4 + K) w j) else none) (nI n) (pic G ks ad V ++ ex) re hq ha1 hn3 hce hcb (fun i hi y hy => by
          rw [if_pos hi] at hy
          injection hy with hy
          obtain ⟨k, hk⟩ := List.getElem?_of_mem (h7 i hi)
          obtain ⟨vs, hvs⟩ := hel i
          refine ⟨k, vs, ?_⟩
          rw [pe_old hk, ← hy]
          show some (ad (4 + K) w i, cE G ad V (4 + K) w i) = _
          rw [hvs]) (ks.length + 0) (u (4 + K)) ce ve re hqe hce hcb hne hq01 hce0 _) (gI hlink wq_423 wq_424 wq_43 wq_425) rfl ⟨⟨by decide +kernel, by decide +kernel, by decide +kernel⟩, rfl, rfl, by show 6 + 1 ≤ _; omega, by show 8 + (2 + 11) + 174 ≤ _; omega⟩ rfl hl rfl hrest hd ⟨by omega, by omega⟩) (fun r a H locs h hP hD hS => ?_)
      subst h
      refine W.widen (k := cells + 1) (n := slots + 33) (by omega) (by omega) ?_
      obtain ⟨a1, a2⟩ := add_pic (p3 := (pic G ks ad V ++ ex).length) (q0 := q0) (a := a) (u := u) (X := X) hP hD hok9 hnd hq0
        (fun p x hx hx2 hx3 => by rw [get_appl (by rw [List.length_set, hlen]; have := (List.getElem?_eq_some_iff.mp hx).1; omega), get_setne2 (hxne p x hx hx2), pe_old hx])
        (get_app (get_set hq))
        (by
          have e := get_last (ws := (pic G ks ad V ++ ex).set q0 (ad 2 w K, .inr (0, [.int (nI n + 1), .ref a, .int (nI (n + 1))]))) (x := ((a, .inl (G.2.2.1, capOf (n + 1), .inr (.inr (.inr (.inr (va_up (va_cpy (fun j => if j < n then some (ad (4 + K) w j) else none) (fun _ => none) 0 0 n) n (some (u (4 + K))))))))) : Nat × va_E))
          rw [List.length_set] at e
          rw [e]
          have ef : va_up (va_cpy (fun j => if j < n then some (ad (4 + K) w j) else none) (fun _ => none) 0 0 n) n (some (u (4 + K))) = (fun j => if j < n + 1 then some (adN ad K w n a u (4 + K) w j) else none) := by
            funext j
            exact hfun a j _ (fun j hj => by
              rw [pk_cpy_in (Nat.zero_le _) (by omega), Nat.zero_add, Nat.sub_zero]
              exact if_pos hj) (fun j hj => pk_cpy_out (Or.inr (by omega)))
          rw [ef])
        (fun i x hi => by
          have hil := (List.getElem?_eq_some_iff.mp hi).1
          rw [get_appl (by rw [List.length_set, hlen]; omega), get_setne2 (by omega), pe_new]
          exact hex a i x hi)
        ⟨fun x hx => by have := (List.getElem?_eq_some_iff.mp hx).1; rw [hlen] at this; omega, fun i hi => by rw [hlen]; omega⟩
      exact kk a H locs ⟨a1, hS, a2, hA⟩
end ADD2
