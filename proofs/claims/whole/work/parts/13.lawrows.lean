/-! the law's cases: rows -/
def LV (ad : AD) (i : Int32) (b : Nat) : List (Nat × Value) := [(4, .int i), (3, .ref (ad 34 0 0)), (2, .ref (ad 15 0 0)), (1, .ref (ad 0 0 0)), (0, .ref b)]
theorem CX.drawn {p : Program} {s : State} {m : MethodId} {args : Array Value} {c : Code} {cc : ByteArray} {nL : Nat} {own : String} {G : GG} {A : Nat → Prop} (d : Drawn) (h : CX p s m args c cc nL own G A) : CX p (s.setDrawn d) m args c cc nL own G A :=
  ⟨h.1, h.2.1, h.2.2.1, h.2.2.2.1, dr_words h.2.2.2.2.1 d, gK.same (u := s) (U := s.setDrawn d) rfl h.2.2.2.2.2.1, gZ.go (u := s) (U := s.setDrawn d) (Vm.Alike.refl s.vm) (fun _ _ _ => rfl) (fun _ z => z) h.2.2.2.2.2.2⟩
section LAWROWS
variable {p : Program} {l : Launch} {e : Env} {R : Room} {s : State} {m : MethodId} {args : Array Value} {below : List Frame} {meth : Method} {c : Code} {H : Heap} {locs : List Loc} {cells slots : Nat} {Q : State → Prop}
variable {cc : ByteArray} {pc nL : Nat} {own : String} {ls : Array Slot} {rest st0 : List Value} {G : GG} {ks : List KY} {ad : AD} {V : VS} {A : Nat → Prop} {H0 : Heap} {lv : List (Nat × Value)} {mc ms : Nat} {a : Array Value}
theorem gIW {own : String} {idx : Nat} {y : MethodName} {cy : ByteArray} {n : Nat} {r : Option FieldType} {hh : List (Nat × Nat × Nat × Nat)} (h1 : Cond.methodLink own idx y ∈ lw_all) (h2 : Cond.static y ∈ lw_all) (h4 : Cond.initialized y.cls ∈ lw_all) (h5 : Cond.codeWith y cy n r hh ∈ lw_all) : GoodIn lw_all (va_wsS own idx y (wsH y cy n r hh)) := by
  intro w hw
  simp only [va_wsS, List.cons_append, List.nil_append, List.mem_cons] at hw
  rcases hw with rfl | rfl | rfl | rfl | hw
  · exact lw_good _ h1
  · exact lw_good _ h2
  · exact lw_good _ h4
  · exact lw_good _ h5
  · exact lw_good _ hw
theorem g_runW (hC : CX p s m args c cc nL own G A) (hS : ST G ks ad V A s.heap H locs) {y : MethodName} {cy : ByteArray} {idx maxL n mc ms : Nat} {ret : Option FieldType} {hh : List (Nat × Nat × Nat × Nat)} {rm : Room} {As : List Value} {Qc : Array Value → State → Outcome → State → Prop}
    (hM : Met l y (wsH y cy maxL ret hh) rm (mPc As G ks ad V H.size) Qc mc ms (mA ks ad H.size))
    (hG : GoodIn lw_all (va_wsS own idx y (wsH y cy maxL ret hh))) (hY : mY R y maxL n rm mc ms) (hn : As.length = n) (hl : lv_has ls nL lv) (hst : st0 = As.reverse ++ rest) (hrest : (rest.map fun v => v.category).sum ≤ 8)
    (hd : decode cc pc = .ok (.invokestatic idx, 3)) (hf : cells + mc ≤ R.cells ∧ slots + ms ≤ R.slots) :
    va_Run p l e R s m args below meth c H locs cells slots mc ms (F0 m pc ls st0) rest (Qc As.toArray) (mA ks ad H.size) :=
  vx_runSW ⟨hC.1, hC.2.1, hC.2.2.1, hC.2.2.2.1, hC.2.2.2.2.1⟩ hM (vx_cwSW n hC.2.2.2.2.1 hG rfl hY.2.1 hY.2.2.1 hY.1 hY.2.2.2) ⟨mPc_blind, g_pre hC hS⟩ rfl hn hl.1 hst (lv_room hrest) hd hf
theorem g_calliN {post : Int32 → List KY × VS → Prop} (hS : ST G ks ad V A s.heap H locs) (hr : va_Run p l e R s m args below meth c H locs cells slots mc ms (F0 m pc ls st0) rest (mQn post G ks ad H.size a) (mA ks ad H.size))
    (kk : ∀ (r : Int32) (ks1 : List KY) (ad1 : AD) (V1 : VS) (H1 : Heap) (locs1 : List Loc), post r (ks1, V1) → (∀ k w i : Nat, k ≠ 3 → (k < 4 ∨ 9 < k) → ad1 k w i = ad k w i) → ST G ks1 ad1 V1 A s.heap H1 locs1 → W p l e R s m args below meth c H1 locs1 (cells + mc) (slots + ms) Q (F0 m (pc + 3) ls (.int r :: rest))) : W p l e R s m args below meth c H locs cells slots Q (F0 m pc ls st0) :=
  va_calli hr hS.2.1 (fun q _ h => hS.callA q h) hS.callA (fun r u t H1 locs1 ht _ hp hB _ _ hS1 => by
    obtain ⟨ad1, h1, h2, h3⟩ := hB
    exact kk r u.1 ad1 u.2 H1 locs1 hp h3 ⟨by rw [← ht]; exact h1, hS1, h2.wk hS.callA, hS.2.2.2⟩)
theorem g_outld (hC : CX p s m args c cc nL own G A) (hS : ST G ks ad V A H0 H locs) (hk : (34, 0, 0) ∈ ks) (hd : decode cc pc = .ok (.laload, 1))
    (kk : W p l e R s m args below meth c H locs cells slots Q (F0 m (pc + 1) ls (.long (V 34 0 0 0 0).toInt64 :: rest))) : W p l e R s m args below meth c H locs cells slots Q (F0 m pc ls (.int 0 :: .ref (ad 34 0 0) :: rest)) := by
  obtain ⟨q0, hq⟩ := List.getElem?_of_mem hk
  have he := at_pic (G := G) (ad := ad) (V := V) hq
  rw [ce_out] at he
  exact va_lald hC.1 hC.2.1 hC.2.2.2.2.2.1.1 hS.1 q0 2 he rfl (by unfold vp_in; decide) hd kk
end LAWROWS
theorem lg_same (x : Int64) : lg_cmp x x = 0 := by
  unfold lg_cmp
  simp
