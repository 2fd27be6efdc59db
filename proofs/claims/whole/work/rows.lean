section
/-! ===== BEGIN words of one list among another's, by their places ===== -/
theorem goodIn_r {big : List Cond} (ws : List Cond) (ps : List Nat) (hp : ws = ps.filterMap (fun i => big[i]?)) (h : ws.all goodWord = true) : GoodIn big ws := by
  intro w hw
  have h1 := List.all_eq_true.mp h w hw
  rw [hp] at hw
  obtain ⟨i, -, hi⟩ := List.mem_filterMap.mp hw
  have hm : w ∈ big := by first | exact List.mem_of_getElem? hi | exact List.getElem?_mem hi
  exact ⟨hm, good_of_word h1⟩
theorem goodIn_app {big a b : List Cond} (ha : GoodIn big a) (hb : GoodIn big b) : GoodIn big (a ++ b) := fun w h => (List.mem_append.mp h).elim (ha w) (hb w)
theorem goodIn_ca {big a b : List Cond} {c : Cond} (ha : GoodIn big (c :: a)) (hb : GoodIn big b) : GoodIn big (c :: (a ++ b)) := fun w h => (List.mem_cons.mp h).elim (fun e => ha w (List.mem_cons.mpr (Or.inl e))) (fun h => (List.mem_append.mp h).elim (fun h => ha w (List.mem_cons.mpr (Or.inr h))) (hb w))
theorem goodIn_sub {big ws : List Cond} (hm : ∀ w ∈ ws, w ∈ big) (h : ws.all goodWord = true) : GoodIn big ws := fun w hw => ⟨hm w hw, good_of_word (List.all_eq_true.mp h w hw)⟩
/-! ===== END ===== -/

/-! ===== BEGIN exceptions that leave a method, and their catching by the caller (launches without stack traces) ===== -/
section VXA
/-! The laws vx_back, vx_callV, vx_callS, vx_callSW, vx_throw0, vx_throwS follow proofs of the library, with one case more: JvmDerived/Free/Laws.lean (Back.of_free), Shelf42/LK1.lean (callV, callS), Shelf/KitTraced.lean (throwNew0V, throwNewS). -/
/-- where a method has thrown q: the class by its name, the cell, what was written, the world -/
def vx_T (XC : String → State → State → Prop) (st : State) (q : Addr) (t : State) (mc ms : Nat) (free : Addr → Prop) : Prop :=
  ∃ (E : String) (ce : Cell) (L : List Loc), XC E st t ∧ t.heap[q]? = some ce ∧ ce.vm = .none ∧ st.vm.findClass E = some ce.cls ∧ st.WarmedH t.vm ∧ st.sameButNew ({ t with vm := st.vm } : State) L mc ms ∧ ∀ z ∈ L, free z.base
def vx_Q (Qc : Array Value → State → Outcome → State → Prop) (XC : String → State → State → Prop) (mc ms : Nat) (free : Addr → Prop) : Array Value → State → Outcome → State → Prop := fun a st o t =>
  (Qc a st o t ∧ ∃ L, FrameEnd st o t L mc ms ∧ ∀ q ∈ L, free q.base) ∨ ∃ q, o = .threw q ∧ vx_T XC st q t mc ms free
/-- a callee that returns or throws -/
def vx_Met (l : Launch) (y : MethodName) (ws : List Cond) (rm : Room) (Pc : Array Value → State → Prop) (Qc : Array Value → State → Outcome → State → Prop) (XC : String → State → State → Prop) (mc ms : Nat) (free : Addr → Prop) : Prop :=
  MetFree l y (headSpec ws rm) Pc (fun _ _ _ _ _ => True) (vx_Q Qc XC mc ms free)
def vx_Post (XC : String → State → State → Prop) (mc ms : Nat) (free : Addr → Prop) : Pt → Array Value → Addr → Pt → Prop := fun A a q B =>
  ∃ (g : JFrame) (mk : MethodId) (t : State) (L : List Loc) (E : String) (ce : Cell), B.U.heap = t.heap ∧ B.U.vm = t.vm ∧ XC E (A.U.calling g mk a) t ∧ t.heap[q]? = some ce ∧ ce.vm = .none ∧ A.U.vm.findClass E = some ce.cls ∧ B.locs = A.locs ++ L ∧ (∀ z ∈ L, free z.base) ∧ B.cells = A.cells + mc ∧ B.slots = A.slots + ms
def vx_Back (l : Launch) (R : Room) (p : Program) (e : Env) (below : List Frame) (s : State) (sargs : Array Value) (y : MethodName) (len W9 : Nat)
    (Pre : Pt → Array Value → Prop) (Post : Pt → Array Value → Option Value → Pt → Prop) (PostX : Pt → Array Value → Addr → Pt → Prop) : Prop :=
  ∀ (m : MethodId) (meth : Method) (c : Code) (A : Pt) (g : JFrame) (ig : Instr) (mk : MethodId) (a : Array Value),
    Stand p l e R s m sargs below meth c A.U A.locs A.cells A.slots → g.method = m → g.locals.size = c.maxLocals → decode c.code g.pc = .ok (ig, len) →
    2 * g.monitorRoom + (g.stack.map fun v => v.category).sum ≤ W9 → A.U.methodNamed? y = some mk → Pre A a →
    (∃ (v : Option Value) (B : Pt), Stand p l e R s m sargs below meth c B.U B.locs B.cells B.slots ∧ Post A a v B ∧
      Steps p.tables e below (doInvoke e (A.U.setTop g) [] mk a).1 (B.U.setTop { g with pc := g.pc + len, stack := v.toList ++ g.stack })) ∨
    (∃ (q : Addr) (B : Pt), Stand p l e R s m sargs below meth c B.U B.locs B.cells B.slots ∧ PostX A a q B ∧
      Steps p.tables e below (doInvoke e (A.U.setTop g) [] mk a).1 ((B.U.setTop g).pushFrame (.throwing q)))
section Payer
variable {l : Launch} {R : Room} {p : Program} {e : Env} {below : List Frame} {s : State} {sargs : Array Value} {y : MethodName} {len W9 : Nat}
theorem vx_back {ws : List Cond} {rm : Room} {Pc : Array Value → State → Prop} {Qc : Array Value → State → Outcome → State → Prop} {XC : String → State → State → Prop} {mc ms : Nat} {free : Addr → Prop} {bytes : ByteArray} {maxL : Nat} {ret : Option FieldType}
    (hM : vx_Met l y ws rm Pc Qc XC mc ms free) (hblind : FrameBlind Pc) (hrc : rm.cells = mc) (hrs : rm.slots = ms)
    (hframes : rm.frames + 1 ≤ R.frames) (hlocals : W9 + (maxL + 11) + rm.locals ≤ R.locals)
    (hws : ∀ w ∈ ws, ∀ a' U, s.WarmedH U.vm → w.before a' U = true) (hcode : Cond.code y bytes maxL ret ∈ ws) (hinit : ∀ a' U, s.WarmedH U.vm → (Cond.initialized y.cls).before a' U = true) :
    vx_Back l R p e below s sargs y len W9 (PreOf R mc ms Pc) (PostOf Qc mc ms free) (vx_Post XC mc ms free) := by
  intro m meth c A g ig mk a X hg hsize hdg hW hn hp
  have h1 : (headSpec ws rm).pre.before a A.U = true := atoms_intro fun w hw => hws w hw _ _ X.warmed
  have h2 : (Cond.code y bytes maxL ret).before a A.U = true := hws _ hcode _ _ X.warmed
  have h3 : (Cond.initialized y.cls).before a A.U = true := hinit _ _ X.warmed
  have h4 : A.cells + (headSpec ws rm).room.cells ≤ R.cells := by rw [show (headSpec ws rm).room.cells = mc from hrc]; exact hp.1
  have h5 : A.slots + (headSpec ws rm).room.slots ≤ R.slots := by rw [show (headSpec ws rm).room.slots = ms from hrs]; exact hp.2.1
  have hPc : Pc a (A.U.calling g mk a) := hblind _ _ _ _ hp.2.2
  obtain ⟨U, Ls, c0, s0⟩ := A
  dsimp only [Pt.U, Pt.locs, Pt.cells, Pt.slots] at h1 h2 h3 h4 h5 X hn hPc ⊢
  obtain ⟨methY, cY, hmY, hcY, -, hlY, -, -, -, -⟩ := Cond.code_spec hn h2
  obtain ⟨kY, hkY, -⟩ := className_of_methodNamed hn
  have hinitY : kY.init = .initialized := Cond.initialized_spec (findClass_of_methodNamed hn) hkY h3
  have h : At U g.method c below := by rw [hg]; exact X.here
  have hlocals9 : W9 + (maxL + 11) + (headSpec ws rm).room.locals ≤ R.locals := hlocals
  have happ : (headSpec ws rm).appliesLoose y e.platform (U.calling g mk a) = true :=
    Spec.appliesLoose_calling (g := g) h hdg hn hkY hinitY
      (X.room_calling (g := g) (R' := (headSpec ws rm).room) hsize hmY hcY hframes (by rw [hlY]; omega) h4 h5) h1
  obtain ⟨mid, hmid⟩ := h.above
  have hfr : (U.setTop g).frames = (.java g :: mid) ++ below := by rw [State.frames_setTop' g h.top, hmid]; rfl
  obtain ⟨o, s₂, hsteps, -, hend, hq⟩ := Steps.callFree hM p X.admits X.cas X.clock (acts := []) hfr happ hPc trivial
  have hq' : vx_Q Qc XC mc ms free a (U.calling g mk a) o s₂ := hq
  rw [State.frames_setTop' g h.top] at hend
  obtain ⟨g₀, hg0⟩ := Option.isSome_iff_exists.mp h.top
  obtain ⟨r, hr⟩ := State.topJava?_eq_some.mp hg0
  have hr' : (({ U with heap := s₂.heap, slotsUsed := s₂.slotsUsed } : State).setVm s₂.vm).frames = .java g₀ :: r := hr
  rcases hq' with ⟨hqc, L, hfe, hL⟩ | ⟨q, rfl, E, ce, L, hx, hce, hcv, hcl, hW₂, hsm, hL⟩
  · obtain ⟨⟨v, rfl⟩, hW₂, e2, q2, q3, q4, q5, q6⟩ := id hfe
    have e3 : s₂ = ({ (U.calling g mk a).setFrames s₂.frames with heap := s₂.heap, slotsUsed := s₂.slotsUsed } : State).setVm s₂.vm := by
      have : s₂ = ({ s₂ with vm := (U.calling g mk a).vm } : State).setVm s₂.vm := rfl
      rw [e2] at this
      exact this
    obtain ⟨c₂, i₂, len₂, hc₂, hd₂, hf₂⟩ := hend
    have hW' : U.WarmedH s₂.vm := hW₂
    have hcc : c₂ = c := by
      have h1 : s₂.code? g.method = U.code? g.method := by
        rw [State.code?_eq, State.code?_eq, hW'.alike.method?]
      exact Option.some.inj (hc₂.symm.trans (h1.trans h.code))
    subst hcc
    have hlen : len₂ = len := by rw [hdg] at hd₂; cases hd₂; rfl
    subst hlen
    have hs₂ : s₂ = (({ U with heap := s₂.heap, slotsUsed := s₂.slotsUsed } : State).setVm s₂.vm).setTop { g with pc := g.pc + len₂, stack := v.toList ++ g.stack } := by
      refine e3.trans ?_
      rw [hf₂, State.calling_eq h.top, State.setFrames_setFrames, State.setTop_of_frames _ hr', hr]
      rfl
    have hsame : U.sameButNew ({ U with heap := s₂.heap, slotsUsed := s₂.slotsUsed } : State) L mc ms := by
      refine ⟨?_, q2, q3, q4, q5, q6⟩
      obtain ⟨t, ht, -⟩ := State.frames_cons hr
      show ({ U with heap := s₂.heap, slotsUsed := s₂.slotsUsed } : State) = { U.setFrames U.frames with heap := s₂.heap, slotsUsed := s₂.slotsUsed }
      rw [State.setFrames_self ht]
    subst hg
    refine Or.inl ⟨v, ⟨(({ U with heap := s₂.heap, slotsUsed := s₂.slotsUsed } : State).setVm s₂.vm), Ls ++ L, c0 + mc, s0 + ms⟩,
      ⟨X.admits, X.cas, X.clock, X.frames, X.room, X.hears, X.method, X.code, (X.here.setHeapUsed s₂.heap s₂.slotsUsed).setVm hW'.alike, X.tail, State.WarmedH.trans X.warmed hW', X.limits, X.bytes, X.same.trans (hsame.setVm s.vm)⟩,
      ⟨g, mk, s₂, L, rfl, rfl, hqc, rfl, hL, rfl, rfl⟩, ?_⟩
    show Steps p.tables e below _ ((({ U with heap := s₂.heap, slotsUsed := s₂.slotsUsed } : State).setVm s₂.vm).setTop { g with pc := g.pc + len₂, stack := v.toList ++ g.stack })
    rw [← hs₂]
    exact hsteps
  · obtain ⟨e2, q2, q3, q4, q5, q6⟩ := id hsm
    have e3 : s₂ = ({ (U.calling g mk a).setFrames s₂.frames with heap := s₂.heap, slotsUsed := s₂.slotsUsed } : State).setVm s₂.vm := by
      have : s₂ = ({ s₂ with vm := (U.calling g mk a).vm } : State).setVm s₂.vm := rfl
      rw [e2] at this
      exact this
    have hf₂ : s₂.frames = .throwing q :: .java g :: U.frames.tail := hend
    have hW' : U.WarmedH s₂.vm := hW₂
    have hs₂ : s₂ = ((({ U with heap := s₂.heap, slotsUsed := s₂.slotsUsed } : State).setVm s₂.vm).setTop g).pushFrame (.throwing q) := by
      refine e3.trans ?_
      rw [hf₂, State.calling_eq h.top, State.setFrames_setFrames, State.pushFrame, State.frames_setTop _ hr', State.setTop_of_frames _ hr', State.setFrames_setFrames, hr]
      rfl
    have hsame : U.sameButNew ({ U with heap := s₂.heap, slotsUsed := s₂.slotsUsed } : State) L mc ms := by
      refine ⟨?_, q2, q3, q4, q5, q6⟩
      obtain ⟨t, ht, -⟩ := State.frames_cons hr
      show ({ U with heap := s₂.heap, slotsUsed := s₂.slotsUsed } : State) = { U.setFrames U.frames with heap := s₂.heap, slotsUsed := s₂.slotsUsed }
      rw [State.setFrames_self ht]
    subst hg
    refine Or.inr ⟨q, ⟨(({ U with heap := s₂.heap, slotsUsed := s₂.slotsUsed } : State).setVm s₂.vm), Ls ++ L, c0 + mc, s0 + ms⟩,
      ⟨X.admits, X.cas, X.clock, X.frames, X.room, X.hears, X.method, X.code, (X.here.setHeapUsed s₂.heap s₂.slotsUsed).setVm hW'.alike, X.tail, State.WarmedH.trans X.warmed hW', X.limits, X.bytes, X.same.trans (hsame.setVm s.vm)⟩,
      ⟨g, mk, s₂, L, E, ce, rfl, rfl, hx, hce, hcv, hcl, rfl, hL, rfl, rfl⟩, ?_⟩
    show Steps p.tables e below _ (((({ U with heap := s₂.heap, slotsUsed := s₂.slotsUsed } : State).setVm s₂.vm).setTop g).pushFrame (.throwing q))
    rw [← hs₂]
    exact hsteps
end Payer
section Calls
variable {p : Program} {l : Launch} {e : Env} {R : Room} {s : State} {m : MethodId} {args : Array Value} {below : List Frame} {meth : Method} {c : Code} {T : State} {locs : List Loc} {cells slots : Nat}
theorem vx_callV (X : Stand p l e R s m args below meth c T locs cells slots) (hexec : p.tables.exec = Jvm.exec) {own C : String} {index : Nat} {y : MethodName} {bytes : ByteArray} {maxL : Nat} {ret : Option FieldType}
    (hown : s.vm.findClass own = some m.cls) (hlink : (Cond.methodLink own index y).before args s = true) (hinst : (Cond.instanceMethod y).before args s = true) (hsel : (Cond.selects C y y).before args s = true)
    (hcode : (Cond.code y bytes maxL ret).before args s = true) (hy : y.cls ≠ "java/lang/invoke/MethodHandle" ∧ y.cls ≠ "java/lang/invoke/VarHandle")
    {W9 : Nat} {Pre : Pt → Array Value → Prop} {Post : Pt → Array Value → Option Value → Pt → Prop} {PostX : Pt → Array Value → Addr → Pt → Prop} (hK : vx_Back l R p e below s args y 3 W9 Pre Post PostX)
    {b : Addr} {cellB : Cell} (hcell : T.heap[b]? = some cellB) (hobj : cellB.vm.isStatics = false) (hcls : s.vm.findClass C = some cellB.cls)
    {g : JFrame} (hg : g.method = m) (hsize : g.locals.size = c.maxLocals) {argsL rest : List Value} (hlen : ∀ sig, parseMethodDescriptor y.desc = some sig → argsL.length = sig.parameters.length)
    (hstack : g.stack = argsL.reverse ++ .ref b :: rest) (hW : 2 * g.monitorRoom + (rest.map fun v => v.category).sum ≤ W9) (hdg : decode c.code g.pc = .ok (.invokevirtual index, 3))
    (hpre : ∀ vm₁, s.WarmedH vm₁ → Pre ⟨T.setVm vm₁, locs, cells, slots⟩ (Value.ref b :: argsL).toArray) :
    (∃ (v : Option Value) (vm₁ : Vm) (B : Pt), s.WarmedH vm₁ ∧ Stand p l e R s m args below meth c B.U B.locs B.cells B.slots ∧ Post ⟨T.setVm vm₁, locs, cells, slots⟩ (Value.ref b :: argsL).toArray v B ∧
      ∀ target, Steps p.tables e below (B.U.setTop { g with pc := g.pc + 3, stack := v.toList ++ rest }) target → Steps p.tables e below (T.setTop g) target) ∨
    (∃ (q : Addr) (vm₁ : Vm) (B : Pt), s.WarmedH vm₁ ∧ Stand p l e R s m args below meth c B.U B.locs B.cells B.slots ∧ PostX ⟨T.setVm vm₁, locs, cells, slots⟩ (Value.ref b :: argsL).toArray q B ∧
      Steps p.tables e below (T.setTop g) ((B.U.setTop { g with stack := rest }).pushFrame (.throwing q))) := by
  obtain ⟨mk, methM, hnamed, hmethM, hstM, habM⟩ := Cond.instanceMethod_spec hinst
  obtain ⟨methM', cM, hmethM', -, -, -, -, -, -, hsigM⟩ := Cond.code_spec hnamed hcode
  cases hmethM.symm.trans hmethM'
  obtain ⟨c2, r2, m2, q1, q2, q3, q4, kP, hkP, hkPi⟩ := Cond.selects_spec hsel
  cases hcls.symm.trans q1
  cases (State.methodFound?_of_named hnamed hy).symm.trans q2
  cases hnamed.symm.trans q3
  have hselP : selectMethod e.platform s.vm cellB.cls mk = .method mk := by rw [Launch.admits_selectMethod X.admits]; exact q4
  obtain ⟨vm₁, X₁, hstep₁⟩ := X.invokevirtual hexec hown hlink hnamed hmethM hstM hkP hkPi hy (a := b) (cell := cellB) hcell
    (fun z h => by rw [h] at hobj; cases hobj) hselP hmethM habM hkP hkPi (g := g) hg (argsL := argsL) (rest := rest) (hlen _ hsigM) hstack hdg
  rcases hK m meth c ⟨T.setVm vm₁, locs, cells, slots⟩ { g with stack := rest } (.invokevirtual index) mk (Value.ref b :: argsL).toArray X₁ hg hsize hdg hW (X₁.named hnamed) (hpre vm₁ X₁.warmed) with ⟨v, B, X', hpost, hsteps⟩ | ⟨q, B, X', hpost, hsteps⟩
  · exact Or.inl ⟨v, vm₁, B, X₁.warmed, X', hpost, fun target h => hstep₁ _ fun acts => by rw [doInvoke_state]; exact hsteps.trans h⟩
  · exact Or.inr ⟨q, vm₁, B, X₁.warmed, X', hpost, hstep₁ _ fun acts => by rw [doInvoke_state]; exact hsteps⟩
theorem vx_callS (X : Stand p l e R s m args below meth c T locs cells slots) (hexec : p.tables.exec = Jvm.exec) {own : String} {index : Nat} {y : MethodName} {bytes : ByteArray} {maxL : Nat} {ret : Option FieldType}
    (hown : s.vm.findClass own = some m.cls) (hlink : (Cond.methodLink own index y).before args s = true) (hstat : (Cond.static y).before args s = true) (hinit : (Cond.initialized y.cls).before args s = true)
    (hcode : (Cond.code y bytes maxL ret).before args s = true) (hy : y.cls ≠ "java/lang/invoke/MethodHandle" ∧ y.cls ≠ "java/lang/invoke/VarHandle")
    {W9 : Nat} {Pre : Pt → Array Value → Prop} {Post : Pt → Array Value → Option Value → Pt → Prop} {PostX : Pt → Array Value → Addr → Pt → Prop} (hK : vx_Back l R p e below s args y 3 W9 Pre Post PostX)
    {g : JFrame} (hg : g.method = m) (hsize : g.locals.size = c.maxLocals) {argsL rest : List Value} (hlen : ∀ sig, parseMethodDescriptor y.desc = some sig → argsL.length = sig.parameters.length)
    (hstack : g.stack = argsL.reverse ++ rest) (hW : 2 * g.monitorRoom + (rest.map fun v => v.category).sum ≤ W9) (hdg : decode c.code g.pc = .ok (.invokestatic index, 3))
    (hpre : ∀ vm₁, s.WarmedH vm₁ → Pre ⟨T.setVm vm₁, locs, cells, slots⟩ argsL.toArray) :
    (∃ (v : Option Value) (vm₁ : Vm) (B : Pt), s.WarmedH vm₁ ∧ Stand p l e R s m args below meth c B.U B.locs B.cells B.slots ∧ Post ⟨T.setVm vm₁, locs, cells, slots⟩ argsL.toArray v B ∧
      ∀ target, Steps p.tables e below (B.U.setTop { g with pc := g.pc + 3, stack := v.toList ++ rest }) target → Steps p.tables e below (T.setTop g) target) ∨
    (∃ (q : Addr) (vm₁ : Vm) (B : Pt), s.WarmedH vm₁ ∧ Stand p l e R s m args below meth c B.U B.locs B.cells B.slots ∧ PostX ⟨T.setVm vm₁, locs, cells, slots⟩ argsL.toArray q B ∧
      Steps p.tables e below (T.setTop g) ((B.U.setTop { g with stack := rest }).pushFrame (.throwing q))) := by
  obtain ⟨mk, hnamed⟩ := Cond.code_named hcode
  obtain ⟨methM, cM, hmethM, -, -, -, -, -, -, hsigM⟩ := Cond.code_spec hnamed hcode
  have hstatic : methM.isStatic = true := Cond.static_spec hnamed hmethM hstat
  obtain ⟨kP, hkP, -⟩ := className_of_methodNamed hnamed
  have hinitP : kP.init = .initialized := Cond.initialized_spec (findClass_of_methodNamed hnamed) hkP hinit
  obtain ⟨vm₁, X₁, hstep₁⟩ := X.invokestatic hexec hown hlink hnamed hmethM hstatic hkP hinitP hy (g := g) hg (argsL := argsL) (rest := rest) (hlen _ hsigM) hstack hdg
  rcases hK m meth c ⟨T.setVm vm₁, locs, cells, slots⟩ { g with stack := rest } (.invokestatic index) mk argsL.toArray X₁ hg hsize hdg hW (X₁.named hnamed) (hpre vm₁ X₁.warmed) with ⟨v, B, X', hpost, hsteps⟩ | ⟨q, B, X', hpost, hsteps⟩
  · exact Or.inl ⟨v, vm₁, B, X₁.warmed, X', hpost, fun target h => hstep₁ _ fun acts => by rw [doInvoke_state]; exact hsteps.trans h⟩
  · exact Or.inr ⟨q, vm₁, B, X₁.warmed, X', hpost, hstep₁ _ fun acts => by rw [doInvoke_state]; exact hsteps⟩
end Calls
theorem vx_cls {s : State} {T : State} {vm₁ : Vm} {E : String} {k : ClassId} (hW : s.WarmedH vm₁) (h : (T.setVm vm₁).vm.findClass E = some k) : s.vm.findClass E = some k := by
  have h1 : vm₁.findClass E = some k := h
  rw [hW.alike.findClass] at h1
  exact h1
/-- the method's frame g, with q thrown over it -/
def vx_W (p : Program) (l : Launch) (e : Env) (R : Room) (s : State) (m : MethodId) (args : Array Value) (below : List Frame) (meth : Method) (c : Code) (H : Heap) (locs : List Loc) (cells slots : Nat) (Q : State → Prop) (g : JFrame) (q : Addr) : Prop :=
  ∀ T : State, T.heap = H → Stand p l e R s m args below meth c T locs cells slots → ∃ t, Steps p.tables e below ((T.setTop g).pushFrame (.throwing q)) t ∧ Q t
def vx_Run (p : Program) (l : Launch) (e : Env) (R : Room) (s : State) (m : MethodId) (args : Array Value) (below : List Frame) (meth : Method) (c : Code) (H : Heap) (locs : List Loc) (cells slots mc ms : Nat) (g : JFrame) (rest : List Value) (Qa : State → Outcome → State → Prop) (XC : String → State → State → Prop) (free : Addr → Prop) : Prop :=
  ∀ T : State, T.heap = H → Stand p l e R s m args below meth c T locs cells slots →
    (∃ (v : Option Value) (st₀ t T' : State) (L : List Loc), st₀.heap = H ∧ Stand p l e R s m args below meth c T' (locs ++ L) (cells + mc) (slots + ms) ∧ (∀ q ∈ L, free q.base) ∧ T'.heap = t.heap ∧ T'.vm = t.vm ∧ Qa st₀ (.returned v) t ∧
      Goes p e below T g T' { g with pc := g.pc + 3, stack := v.toList ++ rest }) ∨
    (∃ (q : Addr) (st₀ t T' : State) (L : List Loc) (E : String) (ce : Cell), st₀.heap = H ∧ Stand p l e R s m args below meth c T' (locs ++ L) (cells + mc) (slots + ms) ∧ (∀ z ∈ L, free z.base) ∧ T'.heap = t.heap ∧ T'.vm = t.vm ∧ XC E st₀ t ∧ t.heap[q]? = some ce ∧ ce.vm = .none ∧ s.vm.findClass E = some ce.cls ∧
      Steps p.tables e below (T.setTop g) ((T'.setTop { g with stack := rest }).pushFrame (.throwing q)))
def vx_X {S : Type} (px : S → Prop) (B : String → S → State → Prop) (A : Nat → Prop) : String → State → State → Prop := fun E st t => ∃ u : S, px u ∧ B E u t ∧ va_F A st t
section Runs
variable {p : Program} {l : Launch} {e : Env} {R : Room} {s : State} {m : MethodId} {args : Array Value} {below : List Frame} {meth : Method} {c : Code} {H : Heap} {locs : List Loc} {cells slots : Nat}
variable {y : MethodName} {bytes cc : ByteArray} {maxL nL mc ms n index : Nat} {ret : Option FieldType} {ws : List Cond} {rm : Room} {Pc : Array Value → State → Prop} {Qc : Array Value → State → Outcome → State → Prop} {XC : String → State → State → Prop} {free : Addr → Prop} {Ts : List Cond} {own C : String} {b : Addr} {As rest : List Value} {g : JFrame}
theorem vx_callBack (cb : CallB R s args own index y bytes maxL ret ws rm mc ms n) (hM : vx_Met l y ws rm Pc Qc XC mc ms free) (hbl : FrameBlind Pc) : vx_Back l R p e below s args y 3 8 (PreOf R mc ms Pc) (PostOf Qc mc ms free) (vx_Post XC mc ms free) := by
  obtain ⟨hrc, hrs, hfr, hlo, hws, hcw, -, hini, -⟩ := cb
  exact vx_back (bytes := bytes) (maxL := maxL) (ret := ret) hM hbl hrc hrs hfr hlo hws hcw (fun a' U hW => word_at hW (Or.inl (by first | rfl | simp [Cond.onTables, Cond.keeps, Cond.steady])) hini)
theorem vx_runV (S : CallFix p m c cc nL s args Ts own) (hM : vx_Met l y ws rm Pc Qc XC mc ms free) (cw : CallW R s args own C index y bytes maxL ret ws rm mc ms n) (hp : PreV s H C b Pc As)
    (hg : g.method = m) (hn : As.length = n) (hsize : g.locals.size = nL) (hstack : g.stack = As.reverse ++ .ref b :: rest) (hW : 2 * g.monitorRoom + (rest.map fun v => v.category).sum ≤ 8) (hdg : decode cc g.pc = .ok (.invokevirtual index, 3)) (hf : cells + mc ≤ R.cells ∧ slots + ms ≤ R.slots) :
    vx_Run p l e R s m args below meth c H locs cells slots mc ms g rest (Qc (Value.ref b :: As).toArray) XC free := by
  have hK : vx_Back l R p e below s args y 3 8 (PreOf R mc ms Pc) (PostOf Qc mc ms free) (vx_Post XC mc ms free) := vx_callBack cw.1 hM hp.1
  obtain ⟨⟨-, -, -, -, -, -, hcode, -, hy, hlen, hl⟩, hin, hse⟩ := cw
  obtain ⟨hx, hb, hml, ho, -⟩ := S
  obtain ⟨-, ⟨cellB, hcB, hoB, hclB⟩, hPc⟩ := hp
  intro T hT X
  rcases vx_callV X hx (C := C) (bytes := bytes) (maxL := maxL) (ret := ret) ho hl hin hse hcode hy hK (by rw [hT]; exact hcB) hoB hclB hg (hsize.trans hml.symm) (argsL := As) (rest := rest) (fun sig h => hn.trans (hlen sig h)) hstack hW (by rw [hb]; exact hdg)
    (fun vm₁ hW₁ => ⟨hf.1, hf.2, hPc (T.setVm vm₁) hT hW₁⟩) with ⟨v, vm₁, ⟨U', l2, c2, s2⟩, hW₁, X', ⟨g', mk, t, L, e1, e2, hq, h1, hL, h2, h3⟩, st⟩ | ⟨q, vm₁, ⟨U', l2, c2, s2⟩, hW₁, X', ⟨g', mk, t, L, E, ce, e1, e2, hq, hce, hcv, hcl, h1, hL, h2, h3⟩, st⟩
  · dsimp only [Pt.U, Pt.locs, Pt.cells, Pt.slots] at X' e1 e2 h1 h2 h3 st
    subst h1; subst h2; subst h3
    exact Or.inl ⟨v, (T.setVm vm₁).calling g' mk (Value.ref b :: As).toArray, t, U', L, hT, X', hL, e1, e2, hq, st⟩
  · dsimp only [Pt.U, Pt.locs, Pt.cells, Pt.slots] at X' e1 e2 h1 h2 h3 st hcl
    subst h1; subst h2; subst h3
    exact Or.inr ⟨q, (T.setVm vm₁).calling g' mk (Value.ref b :: As).toArray, t, U', L, E, ce, hT, X', hL, e1, e2, hq, hce, hcv, vx_cls hW₁ hcl, st⟩
theorem vx_runS (S : CallFix p m c cc nL s args Ts own) (hM : vx_Met l y ws rm Pc Qc XC mc ms free) (cw : CallB R s args own index y bytes maxL ret ws rm mc ms n ∧ (Cond.static y).before args s = true) (hp : PreS s H Pc As)
    (hg : g.method = m) (hn : As.length = n) (hsize : g.locals.size = nL) (hstack : g.stack = As.reverse ++ rest) (hW : 2 * g.monitorRoom + (rest.map fun v => v.category).sum ≤ 8) (hdg : decode cc g.pc = .ok (.invokestatic index, 3)) (hf : cells + mc ≤ R.cells ∧ slots + ms ≤ R.slots) :
    vx_Run p l e R s m args below meth c H locs cells slots mc ms g rest (Qc As.toArray) XC free := by
  have hK : vx_Back l R p e below s args y 3 8 (PreOf R mc ms Pc) (PostOf Qc mc ms free) (vx_Post XC mc ms free) := vx_callBack cw.1 hM hp.1
  obtain ⟨⟨-, -, -, -, -, -, hcode, hini, hy, hlen, hl⟩, hstt⟩ := cw
  obtain ⟨hx, hb, hml, ho, -⟩ := S
  intro T hT X
  rcases vx_callS X hx (bytes := bytes) (maxL := maxL) (ret := ret) ho hl hstt hini hcode hy hK hg (hsize.trans hml.symm) (argsL := As) (rest := rest) (fun sig h => hn.trans (hlen sig h)) hstack hW (by rw [hb]; exact hdg)
    (fun vm₁ hW₁ => ⟨hf.1, hf.2, hp.2 (T.setVm vm₁) hT hW₁⟩) with ⟨v, vm₁, ⟨U', l2, c2, s2⟩, hW₁, X', ⟨g', mk, t, L, e1, e2, hq, h1, hL, h2, h3⟩, st⟩ | ⟨q, vm₁, ⟨U', l2, c2, s2⟩, hW₁, X', ⟨g', mk, t, L, E, ce, e1, e2, hq, hce, hcv, hcl, h1, hL, h2, h3⟩, st⟩
  · dsimp only [Pt.U, Pt.locs, Pt.cells, Pt.slots] at X' e1 e2 h1 h2 h3 st
    subst h1; subst h2; subst h3
    exact Or.inl ⟨v, (T.setVm vm₁).calling g' mk As.toArray, t, U', L, hT, X', hL, e1, e2, hq, st⟩
  · dsimp only [Pt.U, Pt.locs, Pt.cells, Pt.slots] at X' e1 e2 h1 h2 h3 st hcl
    subst h1; subst h2; subst h3
    exact Or.inr ⟨q, (T.setVm vm₁).calling g' mk As.toArray, t, U', L, E, ce, hT, X', hL, e1, e2, hq, hce, hcv, vx_cls hW₁ hcl, st⟩
end Runs
section Rows
variable {p : Program} {l : Launch} {e : Env} {R : Room} {s : State} {m : MethodId} {args : Array Value} {below : List Frame} {meth : Method} {c : Code} {H : Heap} {locs : List Loc} {cells slots : Nat} {Q : State → Prop}
variable {mc ms : Nat} {free : Addr → Prop} {A0 A1 : Nat → Prop} {H0 : Heap} {a : Array Value} {pc : Nat} {ls : Array Slot} {st0 rest : List Value}
theorem vx_keep {st₀ t T' : State} {L : List Loc} (h0 : st₀.heap = H) (e1 : T'.heap = t.heap) (hS : va_S A0 H0 H locs) (hA : ∀ q, q < H.size → A1 q → A0 q) (hf : ∀ q, free q → A0 q) (hL : ∀ q ∈ L, free q.base) (hF : va_F A1 st₀ t) :
    H.size ≤ T'.heap.size ∧ (∀ q : Nat, q < H.size → ¬ A1 q → T'.heap[q]? = H[q]?) ∧ va_S A0 H0 T'.heap (locs ++ L) := by
  obtain ⟨hz, hk⟩ := hF
  rw [h0] at hz hk
  exact ⟨by rw [e1]; exact hz, fun q h1 h2 => by rw [e1]; exact hk q h1 h2,
    ⟨Nat.le_trans hS.1 (by rw [e1]; exact hz), fun q h1 h2 => by rw [e1, hk q (Nat.lt_of_lt_of_le h1 hS.1) (fun z => h2 (hA q (Nat.lt_of_lt_of_le h1 hS.1) z))]; exact hS.2.1 q h1 h2, fun q hq => by
      rcases List.mem_append.mp hq with h | h
      · exact hS.2.2 q h
      · exact hf _ (hL q h)⟩⟩
theorem vx_calli {S SX : Type} {post : Int32 → S → Prop} {px : SX → Prop} {B : S → State → Prop} {BX : String → SX → State → Prop} {AX : Nat → Prop} (hr : vx_Run p l e R s m args below meth c H locs cells slots mc ms (F0 m pc ls st0) rest (va_Qi post B A1 a) (vx_X px BX AX) free) (hS : va_S A0 H0 H locs) (hA : ∀ q, q < H.size → A1 q → A0 q) (hf : ∀ q, free q → A0 q) (hAX : ∀ q, q < H.size → AX q → A0 q)
    (kx : ∀ (E : String) (ce : Cell) (q9 : Addr) (u : SX) (t : State) (H1 : Heap) (locs1 : List Loc), t.heap = H1 → s.vm.Alike t.vm → px u → BX E u t → H.size ≤ H1.size → (∀ q : Nat, q < H.size → ¬ AX q → H1[q]? = H[q]?) → va_S A0 H0 H1 locs1 → H1[q9]? = some ce → ce.vm = .none → s.vm.findClass E = some ce.cls → vx_W p l e R s m args below meth c H1 locs1 (cells + mc) (slots + ms) Q (F0 m pc ls rest) q9)
    (kk : ∀ (r : Int32) (u : S) (t : State) (H1 : Heap) (locs1 : List Loc), t.heap = H1 → s.vm.Alike t.vm → post r u → B u t → H.size ≤ H1.size → (∀ q : Nat, q < H.size → ¬ A1 q → H1[q]? = H[q]?) → va_S A0 H0 H1 locs1 → W p l e R s m args below meth c H1 locs1 (cells + mc) (slots + ms) Q (F0 m (pc + 3) ls (.int r :: rest))) : W p l e R s m args below meth c H locs cells slots Q (F0 m pc ls st0) := by
  intro T hT X
  rcases hr T hT X with ⟨v, st₀, t, T', L, h0, X', hL, e1, e2, ⟨⟨r, u, hv, hp, hb⟩, hF⟩, st⟩ | ⟨q, st₀, t, T', L, E, ce, h0, X', hL, e1, e2, ⟨u, hp, hb, hF⟩, hce, hcv, hcl, st⟩
  · cases hv
    obtain ⟨k1, k2, k3⟩ := vx_keep h0 e1 hS hA hf hL hF
    obtain ⟨t2, a1, b1⟩ := kk r u t T'.heap (locs ++ L) e1.symm (by rw [← e2]; exact X'.warmed.alike) hp hb k1 k2 k3 T' rfl X'
    exact ⟨t2, st t2 a1, b1⟩
  · obtain ⟨k1, k2, k3⟩ := vx_keep h0 e1 hS hAX hf hL hF
    obtain ⟨t2, a1, b1⟩ := kx E ce q u t T'.heap (locs ++ L) e1.symm (by rw [← e2]; exact X'.warmed.alike) hp hb k1 k2 k3 (by rw [e1]; exact hce) hcv hcl T' rfl X'
    exact ⟨t2, st.trans a1, b1⟩
theorem vx_calll {S SX : Type} {post : Int64 → S → Prop} {px : SX → Prop} {B : S → State → Prop} {BX : String → SX → State → Prop} {AX : Nat → Prop} (hr : vx_Run p l e R s m args below meth c H locs cells slots mc ms (F0 m pc ls st0) rest (va_Ql post B A1 a) (vx_X px BX AX) free) (hS : va_S A0 H0 H locs) (hA : ∀ q, q < H.size → A1 q → A0 q) (hf : ∀ q, free q → A0 q) (hAX : ∀ q, q < H.size → AX q → A0 q)
    (kx : ∀ (E : String) (ce : Cell) (q9 : Addr) (u : SX) (t : State) (H1 : Heap) (locs1 : List Loc), t.heap = H1 → s.vm.Alike t.vm → px u → BX E u t → H.size ≤ H1.size → (∀ q : Nat, q < H.size → ¬ AX q → H1[q]? = H[q]?) → va_S A0 H0 H1 locs1 → H1[q9]? = some ce → ce.vm = .none → s.vm.findClass E = some ce.cls → vx_W p l e R s m args below meth c H1 locs1 (cells + mc) (slots + ms) Q (F0 m pc ls rest) q9)
    (kk : ∀ (r : Int64) (u : S) (t : State) (H1 : Heap) (locs1 : List Loc), t.heap = H1 → s.vm.Alike t.vm → post r u → B u t → H.size ≤ H1.size → (∀ q : Nat, q < H.size → ¬ A1 q → H1[q]? = H[q]?) → va_S A0 H0 H1 locs1 → W p l e R s m args below meth c H1 locs1 (cells + mc) (slots + ms) Q (F0 m (pc + 3) ls (.long r :: rest))) : W p l e R s m args below meth c H locs cells slots Q (F0 m pc ls st0) := by
  intro T hT X
  rcases hr T hT X with ⟨v, st₀, t, T', L, h0, X', hL, e1, e2, ⟨⟨r, u, hv, hp, hb⟩, hF⟩, st⟩ | ⟨q, st₀, t, T', L, E, ce, h0, X', hL, e1, e2, ⟨u, hp, hb, hF⟩, hce, hcv, hcl, st⟩
  · cases hv
    obtain ⟨k1, k2, k3⟩ := vx_keep h0 e1 hS hA hf hL hF
    obtain ⟨t2, a1, b1⟩ := kk r u t T'.heap (locs ++ L) e1.symm (by rw [← e2]; exact X'.warmed.alike) hp hb k1 k2 k3 T' rfl X'
    exact ⟨t2, st t2 a1, b1⟩
  · obtain ⟨k1, k2, k3⟩ := vx_keep h0 e1 hS hAX hf hL hF
    obtain ⟨t2, a1, b1⟩ := kx E ce q u t T'.heap (locs ++ L) e1.symm (by rw [← e2]; exact X'.warmed.alike) hp hb k1 k2 k3 (by rw [e1]; exact hce) hcv hcl T' rfl X'
    exact ⟨t2, st.trans a1, b1⟩
theorem vx_callf {S SX : Type} {post : UInt32 → S → Prop} {px : SX → Prop} {B : S → State → Prop} {BX : String → SX → State → Prop} {AX : Nat → Prop} (hr : vx_Run p l e R s m args below meth c H locs cells slots mc ms (F0 m pc ls st0) rest (va_Qf post B A1 a) (vx_X px BX AX) free) (hS : va_S A0 H0 H locs) (hA : ∀ q, q < H.size → A1 q → A0 q) (hf : ∀ q, free q → A0 q) (hAX : ∀ q, q < H.size → AX q → A0 q)
    (kx : ∀ (E : String) (ce : Cell) (q9 : Addr) (u : SX) (t : State) (H1 : Heap) (locs1 : List Loc), t.heap = H1 → s.vm.Alike t.vm → px u → BX E u t → H.size ≤ H1.size → (∀ q : Nat, q < H.size → ¬ AX q → H1[q]? = H[q]?) → va_S A0 H0 H1 locs1 → H1[q9]? = some ce → ce.vm = .none → s.vm.findClass E = some ce.cls → vx_W p l e R s m args below meth c H1 locs1 (cells + mc) (slots + ms) Q (F0 m pc ls rest) q9)
    (kk : ∀ (r : UInt32) (u : S) (t : State) (H1 : Heap) (locs1 : List Loc), t.heap = H1 → s.vm.Alike t.vm → post r u → B u t → H.size ≤ H1.size → (∀ q : Nat, q < H.size → ¬ A1 q → H1[q]? = H[q]?) → va_S A0 H0 H1 locs1 → W p l e R s m args below meth c H1 locs1 (cells + mc) (slots + ms) Q (F0 m (pc + 3) ls (.float r :: rest))) : W p l e R s m args below meth c H locs cells slots Q (F0 m pc ls st0) := by
  intro T hT X
  rcases hr T hT X with ⟨v, st₀, t, T', L, h0, X', hL, e1, e2, ⟨⟨r, u, hv, hp, hb⟩, hF⟩, st⟩ | ⟨q, st₀, t, T', L, E, ce, h0, X', hL, e1, e2, ⟨u, hp, hb, hF⟩, hce, hcv, hcl, st⟩
  · cases hv
    obtain ⟨k1, k2, k3⟩ := vx_keep h0 e1 hS hA hf hL hF
    obtain ⟨t2, a1, b1⟩ := kk r u t T'.heap (locs ++ L) e1.symm (by rw [← e2]; exact X'.warmed.alike) hp hb k1 k2 k3 T' rfl X'
    exact ⟨t2, st t2 a1, b1⟩
  · obtain ⟨k1, k2, k3⟩ := vx_keep h0 e1 hS hAX hf hL hF
    obtain ⟨t2, a1, b1⟩ := kx E ce q u t T'.heap (locs ++ L) e1.symm (by rw [← e2]; exact X'.warmed.alike) hp hb k1 k2 k3 (by rw [e1]; exact hce) hcv hcl T' rfl X'
    exact ⟨t2, st.trans a1, b1⟩
theorem vx_calld {S SX : Type} {post : UInt64 → S → Prop} {px : SX → Prop} {B : S → State → Prop} {BX : String → SX → State → Prop} {AX : Nat → Prop} (hr : vx_Run p l e R s m args below meth c H locs cells slots mc ms (F0 m pc ls st0) rest (va_Qd post B A1 a) (vx_X px BX AX) free) (hS : va_S A0 H0 H locs) (hA : ∀ q, q < H.size → A1 q → A0 q) (hf : ∀ q, free q → A0 q) (hAX : ∀ q, q < H.size → AX q → A0 q)
    (kx : ∀ (E : String) (ce : Cell) (q9 : Addr) (u : SX) (t : State) (H1 : Heap) (locs1 : List Loc), t.heap = H1 → s.vm.Alike t.vm → px u → BX E u t → H.size ≤ H1.size → (∀ q : Nat, q < H.size → ¬ AX q → H1[q]? = H[q]?) → va_S A0 H0 H1 locs1 → H1[q9]? = some ce → ce.vm = .none → s.vm.findClass E = some ce.cls → vx_W p l e R s m args below meth c H1 locs1 (cells + mc) (slots + ms) Q (F0 m pc ls rest) q9)
    (kk : ∀ (r : UInt64) (u : S) (t : State) (H1 : Heap) (locs1 : List Loc), t.heap = H1 → s.vm.Alike t.vm → post r u → B u t → H.size ≤ H1.size → (∀ q : Nat, q < H.size → ¬ A1 q → H1[q]? = H[q]?) → va_S A0 H0 H1 locs1 → W p l e R s m args below meth c H1 locs1 (cells + mc) (slots + ms) Q (F0 m (pc + 3) ls (.double r :: rest))) : W p l e R s m args below meth c H locs cells slots Q (F0 m pc ls st0) := by
  intro T hT X
  rcases hr T hT X with ⟨v, st₀, t, T', L, h0, X', hL, e1, e2, ⟨⟨r, u, hv, hp, hb⟩, hF⟩, st⟩ | ⟨q, st₀, t, T', L, E, ce, h0, X', hL, e1, e2, ⟨u, hp, hb, hF⟩, hce, hcv, hcl, st⟩
  · cases hv
    obtain ⟨k1, k2, k3⟩ := vx_keep h0 e1 hS hA hf hL hF
    obtain ⟨t2, a1, b1⟩ := kk r u t T'.heap (locs ++ L) e1.symm (by rw [← e2]; exact X'.warmed.alike) hp hb k1 k2 k3 T' rfl X'
    exact ⟨t2, st t2 a1, b1⟩
  · obtain ⟨k1, k2, k3⟩ := vx_keep h0 e1 hS hAX hf hL hF
    obtain ⟨t2, a1, b1⟩ := kx E ce q u t T'.heap (locs ++ L) e1.symm (by rw [← e2]; exact X'.warmed.alike) hp hb k1 k2 k3 (by rw [e1]; exact hce) hcv hcl T' rfl X'
    exact ⟨t2, st.trans a1, b1⟩
theorem vx_callv {S SX : Type} {post : S → Prop} {px : SX → Prop} {B : S → State → Prop} {BX : String → SX → State → Prop} {AX : Nat → Prop} (hr : vx_Run p l e R s m args below meth c H locs cells slots mc ms (F0 m pc ls st0) rest (va_Qv post B A1 a) (vx_X px BX AX) free) (hS : va_S A0 H0 H locs) (hA : ∀ q, q < H.size → A1 q → A0 q) (hf : ∀ q, free q → A0 q) (hAX : ∀ q, q < H.size → AX q → A0 q)
    (kx : ∀ (E : String) (ce : Cell) (q9 : Addr) (u : SX) (t : State) (H1 : Heap) (locs1 : List Loc), t.heap = H1 → s.vm.Alike t.vm → px u → BX E u t → H.size ≤ H1.size → (∀ q : Nat, q < H.size → ¬ AX q → H1[q]? = H[q]?) → va_S A0 H0 H1 locs1 → H1[q9]? = some ce → ce.vm = .none → s.vm.findClass E = some ce.cls → vx_W p l e R s m args below meth c H1 locs1 (cells + mc) (slots + ms) Q (F0 m pc ls rest) q9)
    (kk : ∀ (u : S) (t : State) (H1 : Heap) (locs1 : List Loc), t.heap = H1 → s.vm.Alike t.vm → post u → B u t → H.size ≤ H1.size → (∀ q : Nat, q < H.size → ¬ A1 q → H1[q]? = H[q]?) → va_S A0 H0 H1 locs1 → W p l e R s m args below meth c H1 locs1 (cells + mc) (slots + ms) Q (F0 m (pc + 3) ls (rest))) : W p l e R s m args below meth c H locs cells slots Q (F0 m pc ls st0) := by
  intro T hT X
  rcases hr T hT X with ⟨v, st₀, t, T', L, h0, X', hL, e1, e2, ⟨⟨u, hv, hp, hb⟩, hF⟩, st⟩ | ⟨q, st₀, t, T', L, E, ce, h0, X', hL, e1, e2, ⟨u, hp, hb, hF⟩, hce, hcv, hcl, st⟩
  · cases hv
    obtain ⟨k1, k2, k3⟩ := vx_keep h0 e1 hS hA hf hL hF
    obtain ⟨t2, a1, b1⟩ := kk u t T'.heap (locs ++ L) e1.symm (by rw [← e2]; exact X'.warmed.alike) hp hb k1 k2 k3 T' rfl X'
    exact ⟨t2, st t2 a1, b1⟩
  · obtain ⟨k1, k2, k3⟩ := vx_keep h0 e1 hS hAX hf hL hF
    obtain ⟨t2, a1, b1⟩ := kx E ce q u t T'.heap (locs ++ L) e1.symm (by rw [← e2]; exact X'.warmed.alike) hp hb k1 k2 k3 (by rw [e1]; exact hce) hcv hcl T' rfl X'
    exact ⟨t2, st.trans a1, b1⟩
/-- caught by the row x of this method's table; the rows ahead don't take it -/
theorem vx_catch {own name : String} {E : String} {ce : Cell} {q : Addr} (hown : s.vm.findClass own = some m.cls) (pre : List ExceptionTableEntry) (x : ExceptionTableEntry) (suf : List ExceptionTableEntry) (hsplit : c.exceptionTable.toList = pre ++ x :: suf)
    (hpass : ∀ z ∈ pre, covers z pc = false ∨ (z.catchType ≠ 0 ∧ ∃ nm : String, (Cond.classLink own z.catchType nm).before args s = true ∧ va_Nc E nm s)) (hx : covers x pc = true) (h0 : x.catchType ≠ 0)
    (hlink : (Cond.classLink own x.catchType name).before args s = true) (hcast : (Cond.castable E name).before args s = true) (hcell : H[q]? = some ce) (hv : ce.vm = .none) (hcl : s.vm.findClass E = some ce.cls)
    (kk : W p l e R s m args below meth c H locs cells slots Q (F0 m x.handlerPc ls [.ref q])) : vx_W p l e R s m args below meth c H locs cells slots Q (F0 m pc ls rest) q := by
  intro T hT X
  have hpl : e.platform.magicAccessors = ({} : Platform).magicAccessors := by rw [X.admits.platform]
  obtain ⟨c3, c4, hc3, hc4, hasg⟩ := Cond.castable_spec hcast
  cases Option.some.inj (hc3.symm.trans hcl)
  obtain ⟨c5, hc5, hcl5⟩ := Cond.classLink_spec hown hlink e.platform hpl
  cases Option.some.inj (hc4.symm.trans hc5)
  obtain ⟨vm', X', st⟩ := X.thenCaughtThrough q (g := F0 m pc ls rest) rfl (Steps.refl _) (by rw [hT]; exact hcell) (by rw [hv]; rfl) (by obtain ⟨k9, h9, -⟩ := Vm.findClass_spec hcl; exact ⟨k9, h9⟩) pre x suf hsplit
    (fun z hz => by
      rcases hpass z hz with h | ⟨hz0, nm, hl1, hn1⟩
      · exact Or.inl h
      · obtain ⟨c6, hc6, hcl6⟩ := Cond.classLink_spec hown hl1 e.platform hpl
        obtain ⟨a8, b8, h1, h2, h3⟩ := hn1
        cases Option.some.inj (h1.symm.trans hcl)
        cases Option.some.inj (h2.symm.trans hc6)
        exact Or.inr ⟨hz0, _, hcl6, h3⟩) hx (Or.inr ⟨h0, c4, hcl5, hasg⟩)
  obtain ⟨t, a1, b1⟩ := kk (T.setVm vm') hT X'
  exact ⟨t, st.trans a1, b1⟩
end Rows
section Ends
variable {p : Program} {l : Launch} {e : Env} {R : Room} {s : State} {m : MethodId} {args : Array Value} {below : List Frame} {meth : Method} {c : Code} {H : Heap} {locs : List Loc} {cells slots : Nat} {Q : State → Prop}
variable {mc ms : Nat} {free : Addr → Prop} {A0 A1 : Nat → Prop} {H0 : Heap} {a : Array Value} {ls : Array Slot} {st0 rest : List Value}
variable {Qc : Array Value → State → Outcome → State → Prop} {XC : String → State → State → Prop}
/-- what a body that may throw owes at its end -/
def vx_MQ (below : List Frame) (Qc : Array Value → State → Outcome → State → Prop) (XC : String → State → State → Prop) (a : Array Value) (s : State) (mc ms : Nat) (free : Addr → Prop) : State → Prop := fun t =>
  ∃ o, t.status = .running ∧ Ended t below o ∧ vx_Q Qc XC mc ms free a s o t
theorem vx_ret {g : JFrame} {mc ms : Nat} (k : W p l e R s m args below meth c H locs cells slots (MQ below Qc args s mc ms free) g) : W p l e R s m args below meth c H locs cells slots (vx_MQ below Qc XC args s mc ms free) g := by
  intro T hT X
  obtain ⟨t, a1, o, b1, b2, b3, b4⟩ := k T hT X
  exact ⟨t, a1, o, b1, b2, Or.inl ⟨b3, b4⟩⟩
/-- not caught here: it goes on to the caller -/
theorem vx_widen {g : JFrame} {q : Addr} {k n : Nat} (h1 : cells ≤ k) (h2 : slots ≤ n) (kk : vx_W p l e R s m args below meth c H locs k n Q g q) : vx_W p l e R s m args below meth c H locs cells slots Q g q := fun T hT X => kk T hT (stand_widen X h1 h2)
theorem vx_out {pc : Nat} {E : String} {ce : Cell} {q : Addr} {mc ms : Nat} (hout : ∀ x ∈ c.exceptionTable.toList, covers x pc = false) (hlocks : meth.locks = false) (hcell : H[q]? = some ce) (hv : ce.vm = .none) (hcl : s.vm.findClass E = some ce.cls)
    (hx : ∀ t : State, t.heap = H → s.vm.Alike t.vm → XC E s t) (hf : ∀ z ∈ locs, free z.base) (hc : cells ≤ mc) (hs : slots ≤ ms) :
    vx_W p l e R s m args below meth c H locs cells slots (vx_MQ below Qc XC args s mc ms free) (F0 m pc ls rest) q := by
  intro T hT X
  obtain ⟨st1, hrun, hend, hW, hsm⟩ := X.leaveThrown q (g := F0 m pc ls rest) rfl rfl rfl hout hlocks
  have hcell9 : (T.setFrames (.throwing q :: below)).heap[q]? = some ce := by
    show T.heap[q]? = some ce
    rw [hT]; exact hcell
  exact ⟨_, st1, .threw q, hrun, hend, Or.inr ⟨q, rfl, E, ce, locs, hx _ hT hW.alike, hcell9, hv, hcl, hW, hsm.mono hc hs, hf⟩⟩
theorem vx_frame {U : State} {k n : Nat} (h : s.sameButNew ({ U with vm := s.vm } : State) locs k n) : s.heap.size ≤ U.heap.size ∧ ∀ q : Nat, q < s.heap.size → (∀ z ∈ locs, z.base ≠ q) → U.heap[q]? = s.heap[q]? := by
  obtain ⟨-, h2, -, -, -, h6⟩ := h
  refine ⟨h2, fun q hq hz => ?_⟩
  obtain ⟨c9, e1, e2, e3, e4⟩ := h6 q _ (Array.getElem?_eq_getElem hq)
  have hs : c9.slots = (s.heap[q]).slots := Array.ext_getElem? fun i => e4 i fun hm => hz _ hm rfl
  have h9 : c9 = s.heap[q] := by
    rw [hs] at e2
    exact e2
  have e5 : U.heap[q]? = some c9 := e1
  rw [e5, h9, Array.getElem?_eq_getElem hq]
/-- the words of a throw but the four that speak of the heap -/
def vx_no (w : Cond) : Bool := decide (w ≠ .isRef (.static Bundle.tN "UNASSIGNED_STACK" Bundle.steD)) && decide (w ≠ .isRef (.static Bundle.tN "SUPPRESSED_SENTINEL" Bundle.listD)) && decide (w ≠ .laysStatic Bundle.tN "UNASSIGNED_STACK" Bundle.steD) && decide (w ≠ .laysStatic Bundle.tN "SUPPRESSED_SENTINEL" Bundle.listD)
def vx_at0 (own : String) (ic : Nat) (X : String) (names : List String) : List Cond := (Bundle.ownAtoms0 own ic X names).filter vx_no
def vx_atS (own : String) (ic : Nat) (X : String) (names : List String) : List Cond := (Bundle.ownAtoms own ic X names).filter vx_no
/-- a word that the tables alone decide, or a good one -/
def vx_ot (w : Cond) : Bool := w.onTables || goodWord w
theorem vx_ot_at {args a' : Array Value} {s U : State} {w : Cond} (hW : s.WarmedH U.vm) (hvm : s.vm = U.vm) (hg : vx_ot w = true) (h : w.before args s = true) : w.before a' U = true := by
  simp only [vx_ot, Bool.or_eq_true] at hg
  rcases hg with hg | hg
  · exact va_tabs hg hvm h
  · exact word_at hW (good_of_word hg) h
/-- a list's words: the good ones out of the method's own list, the others by premises of their own -/
theorem vx_hat {args : Array Value} {s : State} {L B : List Cond} (h1 : ∀ w ∈ L.filter goodWord, w.before args s = true) (h2 : ∀ w ∈ L.filter (fun w => !goodWord w), w ∈ B) (h3 : ∀ w ∈ B, w.before args s = true) : ∀ w ∈ L, w.before args s = true := by
  intro w hw
  by_cases g : goodWord w = true
  · exact h1 w (List.mem_filter.mpr ⟨hw, g⟩)
  · refine h3 w (h2 w (List.mem_filter.mpr ⟨hw, ?_⟩))
    show (!goodWord w) = true
    cases hgw : goodWord w
    · rfl
    · exact absurd hgw g
theorem vx_c {args : Array Value} {s : State} {w : Cond} {B : List Cond} (h : w.before args s = true) (t : ∀ w ∈ B, w.before args s = true) : ∀ w' ∈ w :: B, w'.before args s = true := fun w' h' => (List.mem_cons.mp h').elim (fun e => by rw [e]; exact h) (t w')
theorem vx_n {args : Array Value} {s : State} : ∀ w ∈ ([] : List Cond), w.before args s = true := fun _ h => nomatch h
theorem vx_own {args : Array Value} {s : State} {L : List Cond} (h1 : ∀ w ∈ L.filter vx_no, w.before args s = true)
    (hU : (Cond.isRef (.static Bundle.tN "UNASSIGNED_STACK" Bundle.steD)).before args s = true) (hN : (Cond.isRef (.static Bundle.tN "SUPPRESSED_SENTINEL" Bundle.listD)).before args s = true)
    (lU : (Cond.laysStatic Bundle.tN "UNASSIGNED_STACK" Bundle.steD).before args s = true) (lN : (Cond.laysStatic Bundle.tN "SUPPRESSED_SENTINEL" Bundle.listD).before args s = true) : ∀ w ∈ L, w.before args s = true := by
  intro w hw
  by_cases e1 : w = .isRef (.static Bundle.tN "UNASSIGNED_STACK" Bundle.steD)
  · rw [e1]; exact hU
  · by_cases e2 : w = .isRef (.static Bundle.tN "SUPPRESSED_SENTINEL" Bundle.listD)
    · rw [e2]; exact hN
    · by_cases e3 : w = .laysStatic Bundle.tN "UNASSIGNED_STACK" Bundle.steD
      · rw [e3]; exact lU
      · by_cases e4 : w = .laysStatic Bundle.tN "SUPPRESSED_SENTINEL" Bundle.listD
        · rw [e4]; exact lN
        · exact h1 w (List.mem_filter.mpr ⟨hw, by unfold vx_no; rw [decide_eq_true e1, decide_eq_true e2, decide_eq_true e3, decide_eq_true e4]; rfl⟩)
/-- where a static field lies, its class's statics cell in H -/
def vx_L (C n d : String) (A : Nat → Prop) (U : State) (H : Heap) : Prop := ∃ (c : ClassId) (k : Class) (i : Nat) (f : Field) (a : Nat) (cell : Cell), U.vm.findClass C = some c ∧ U.fieldFound? C n d = some (c, k, i, f) ∧ f.isStatic = true ∧ k.statics = some a ∧ H[a]? = some cell ∧ cell.vm.isStatics = true ∧ cell.cls = c ∧ f.slot < cell.slots.size ∧ k.staticTypes[f.slot]? = some f.type ∧ ¬ A a
theorem vx_L.moved {C n d : String} {A : Nat → Prop} {u U : State} {H : Heap} (hvm : u.vm.Alike U.vm) (h : vx_L C n d A u H) : vx_L C n d A U H := by
  obtain ⟨c, k, i, f, a, cell, h1, h2, h3, h4, h5, h6, h7, h8, h9, h10⟩ := h
  obtain ⟨k', hi', he⟩ := State.fieldFound?_setVm hvm h2
  exact ⟨c, k', i, f, a, cell, by rw [hvm.findClass]; exact h1, hi', h3, by rw [he]; exact h4, h5, h6, h7, h8, by rw [he]; exact h9, h10⟩
theorem vx_L.kept {C n d : String} {A : Nat → Prop} {U : State} {H H1 : Heap} (h : vx_L C n d A U H) (hq : ∀ a : Nat, a < H.size → ¬ A a → H1[a]? = H[a]?) : vx_L C n d A U H1 := by
  obtain ⟨c, k, i, f, a, cell, h1, h2, h3, h4, h5, h6, h7, h8, h9, h10⟩ := h
  exact ⟨c, k, i, f, a, cell, h1, h2, h3, h4, by rw [hq a (Array.getElem?_eq_some_iff.mp h5).1 h10]; exact h5, h6, h7, h8, h9, h10⟩
theorem vx_L.narrow {C n d : String} {A B : Nat → Prop} {U : State} {H : Heap} (h : vx_L C n d A U H) (hAB : ∀ q, B q → A q) : vx_L C n d B U H := by
  obtain ⟨c, k, i, f, a, cell, h1, h2, h3, h4, h5, h6, h7, h8, h9, h10⟩ := h
  exact ⟨c, k, i, f, a, cell, h1, h2, h3, h4, h5, h6, h7, h8, h9, fun z => h10 (hAB _ z)⟩
theorem vx_L.word {C n d : String} {A : Nat → Prop} {s : State} {args : Array Value} (h : vx_L C n d A s s.heap) : (Cond.laysStatic C n d).before args s = true := by
  obtain ⟨c, k, i, f, a, cell, h1, h2, h3, h4, h5, h6, h7, h8, h9, -⟩ := h
  show (Cond.laysStatic C n d).holds args s none s [] = true
  exact Cond.laysStatic_of h1 h2 h3 h4 h5 h6 h7 h8 h9
/-- .. and what it holds: null or some reference -/
def vx_Zq (C n d : String) (A : Nat → Prop) (U : State) (H : Heap) : Prop := va_Zq C n d A U H ∧ vx_L C n d A U H
theorem vx_Zq.moved {C n d : String} {A : Nat → Prop} {u U : State} {H : Heap} (hvm : u.vm.Alike U.vm) (h : vx_Zq C n d A u H) : vx_Zq C n d A U H := ⟨va_Zq.moved hvm h.1, vx_L.moved hvm h.2⟩
theorem vx_Zq.kept {C n d : String} {A : Nat → Prop} {U : State} {H H1 : Heap} (h : vx_Zq C n d A U H) (hq : ∀ a : Nat, a < H.size → ¬ A a → H1[a]? = H[a]?) : vx_Zq C n d A U H1 := ⟨va_Zq.kept h.1 hq, vx_L.kept h.2 hq⟩
theorem vx_Zq.narrow {C n d : String} {A B : Nat → Prop} {U : State} {H : Heap} (h : vx_Zq C n d A U H) (hAB : ∀ q, B q → A q) : vx_Zq C n d B U H := ⟨va_Zq.narrow h.1 hAB, vx_L.narrow h.2 hAB⟩
theorem vx_Zqof {args : Array Value} {s : State} {C n d : String} {A : Nat → Prop} (hl : (Cond.laysStatic C n d).before args s = true) (hini : (Cond.initialized C).before args s = true) (h : (Cond.isRef (.static C n d)).before args s = true) (hA : ∀ a : Nat, a < s.heap.size → ¬ A a) : vx_Zq C n d A s s.heap := by
  refine ⟨va_Zqof hl hini h hA, ?_⟩
  obtain ⟨c, k, i, f, a, cell, h1, h2, h3, h4, h5, h6, h7, h8, h9⟩ := Cond.laysStatic_spec hl
  exact ⟨c, k, i, f, a, cell, h1, h2, h3, h4, h5, h6, h7, h8, h9, hA a (Array.getElem?_eq_some_iff.mp h5).1⟩
theorem vx_isRef {C n d : String} {v : Value} {A : Nat → Prop} {s : State} {args : Array Value} (h : va_Z C n d v A s s.heap) (hv : v.isRef = true) : (Cond.isRef (.static C n d)).before args s = true := by
  obtain ⟨cf, kf, fi, f, a, cell, h1, h2, h3, h4, h5, h6, h7, -⟩ := h
  have he : (Term.static C n d).eval args s none [] s = some v := by
    simp [Term.eval, State.fieldNamed?, h1, h2, h4, h5, h6, h7]
  simp only [Cond.before, Cond.holds, Cond.value, he]
  cases v <;> simp_all [Value.isRef]
theorem vx_isRefq {C n d : String} {A : Nat → Prop} {s : State} {args : Array Value} (h : va_Zq C n d A s s.heap) : (Cond.isRef (.static C n d)).before args s = true := by
  rcases h with h | ⟨t, h⟩
  · exact vx_isRef h rfl
  · exact vx_isRef h rfl
/-- the same frame, seen from here: as if the method were called anew in this heap -/
theorem vx_rebase {T : State} (X : Stand p l e R s m args below meth c T locs cells slots) {R' : Room} (hf : R'.frames ≤ R.frames) (hl : R'.locals ≤ R.locals) (hc : cells + R'.cells ≤ R.cells) (hs : slots + R'.slots ≤ R.slots) :
    Stand p l e R' ((T.setVm s.vm).setFrames (.invoking m args :: below)) m args below meth c T [] 0 0 := by
  have htop : (T.setVm s.vm).topJava?.isSome := X.here.top
  have hF : ((T.setVm s.vm).setFrames (.invoking m args :: below)).frames = .invoking m args :: below := State.frames_setFrames _ (State.cur_lt_of_top htop)
  obtain ⟨g₀, hg0⟩ := Option.isSome_iff_exists.mp htop
  obtain ⟨r, hr⟩ := State.topJava?_eq_some.mp hg0
  have hl9 : e.platform.stackLimits (T.setVm s.vm).me = e.platform.stackLimits s.me := X.limits
  have hb9 : (T.setVm s.vm).me.stackBytes = s.me.stackBytes := X.bytes
  refine ⟨X.admits, X.cas, X.clock, hF, ?_, X.hears, X.method, X.code, X.here, X.tail, X.warmed, ?_, ?_, ?_⟩
  · have h := X.room
    have hU : ((T.setVm s.vm).setFrames (.invoking m args :: below)).localsInUse = s.localsInUse := by
      rw [State.localsInUse_invoking hF (meth := meth) (c := c) X.method X.code, State.localsInUse_invoking X.frames X.method X.code]
    simp only [State.hasRoom, Bool.and_eq_true, decide_eq_true_eq] at h ⊢
    obtain ⟨⟨⟨⟨h1, h2, h3, h4, h5, h6⟩, h7⟩, h8⟩, h9⟩ := h
    rw [X.frames, List.length_cons] at h2 h3
    have q1 := X.heapSize
    have q2 := X.used
    simp only [hF, hU, List.length_cons, State.stackLimits_setFrames, State.stackBytes_setFrames, hl9, hb9]
    refine ⟨⟨⟨⟨by omega, by omega, by omega, by omega, by omega, h6⟩, ?_⟩, ?_⟩, X.book⟩
    · show T.heap.size + R'.cells ≤ e.platform.maxCells
      omega
    · show T.slotsUsed + R'.slots ≤ e.platform.maxSlots
      omega
  · rw [State.stackLimits_setFrames]; rfl
  · rw [State.stackBytes_setFrames]; rfl
  · refine ⟨?_, Nat.le_refl _, Nat.le_refl _, ?_, ?_, fun a c9 h9 => ⟨c9, h9, rfl, rfl, fun _ _ => rfl⟩⟩
    · obtain ⟨t, ht, -⟩ := State.frames_cons hr
      show T.setVm s.vm = { ((T.setVm s.vm).setFrames (.invoking m args :: below)).setFrames (T.setVm s.vm).frames with heap := T.heap, slotsUsed := T.slotsUsed }
      rw [State.setFrames_setFrames, State.setFrames_self ht]
      rfl
    · show T.slotsUsed = T.slotsUsed + ((T.heap.toList.drop T.heap.size).map (·.slots.size)).sum
      rw [List.drop_eq_nil_of_le (Nat.le_of_eq Array.length_toList)]
      rfl
    · show ((T.heap.toList.drop T.heap.size).map (·.slots.size)).sum ≤ 0
      rw [List.drop_eq_nil_of_le (Nat.le_of_eq Array.length_toList)]
      exact Nat.le_refl _
/-- 'throw new E()': new; dup; invokespecial; athrow -/
theorem vx_throw0 {cc : ByteArray} {pc : Nat} (hexec : p.tables.exec = Jvm.exec) (hb : c.code = cc) (hl : l.stackTraces = false) {own cls : String} {names : List String} {ik ic mc ms : Nat} {A : Nat → Prop}
    (hown : s.vm.findClass own = some m.cls) (hcls : Bundle.fit cls = true) (hnames : ∀ n ∈ names, Bundle.fit n = true)
    (hk : (Cond.classLink own ik cls).before args s = true) (hini : (Cond.initialized cls).before args s = true) (hat : ∀ w ∈ vx_at0 own ic cls names, w.before args s = true)
    (hgood : ∀ w ∈ Cond.classLink own ik cls :: Cond.initialized cls :: vx_at0 own ic cls names, vx_ot w = true)
    (hU : vx_Zq Bundle.tN "UNASSIGNED_STACK" Bundle.steD A s s.heap) (hN : vx_Zq Bundle.tN "SUPPRESSED_SENTINEL" Bundle.listD A s s.heap) (hS : va_S A s.heap H locs) (hsize : ls.size = c.maxLocals)
    (d0 : decode cc pc = .ok (.new ik, 3)) (d3 : decode cc (pc + 3) = .ok (.dup, 1)) (d4 : decode cc (pc + 4) = .ok (.invokespecial ic, 3)) (d7 : decode cc (pc + 7) = .ok (.athrow, 1))
    (hout : ∀ x ∈ c.exceptionTable.toList, covers x (pc + 7) = false)
    (hRframes : names.length + 3 < R.frames) (hRlocals : (rest.map fun v => v.category).sum + (13 * (names.length + 1) + 42) ≤ R.locals) (hRcells : cells + 1 ≤ R.cells) (hRslots : slots + 6 ≤ R.slots) (hlocks : meth.locks = false)
    (hx : ∀ t : State, s.vm.Alike t.vm → H.size ≤ t.heap.size → (∀ q : Nat, q < H.size → t.heap[q]? = H[q]?) → XC cls s t)
    (hf : ∀ z ∈ locs, free z.base) (hc : cells + 1 ≤ mc) (hs : slots + 6 ≤ ms) :
    W p l e R s m args below meth c H locs cells slots (vx_MQ below Qc XC args s mc ms free) (F0 m pc ls rest) := by
  intro T hT X
  have htr : e.platform.stackTraces = false := (show e.platform.stackTraces = l.stackTraces by rw [X.admits.platform]).trans hl
  have Y := vx_rebase X (R' := { frames := R.frames, locals := R.locals, cells := 1, slots := 6 }) (Nat.le_refl _) (Nat.le_refl _) hRcells hRslots
  obtain ⟨s', hA⟩ : ∃ z, z = (T.setVm s.vm).setFrames (.invoking m args :: below) := ⟨_, rfl⟩
  rw [← hA] at Y
  have hvm : s'.vm = s.vm := by rw [hA]; rfl
  have hhp : s'.heap = H := by rw [hA]; exact hT
  have hW0 : s.WarmedH s'.vm := by rw [hvm]; exact State.WarmedH.refl s
  have hat' : ∀ w ∈ vx_at0 own ic cls names, w.before args s' = true := fun w hw => vx_ot_at hW0 hvm.symm (hgood w (List.mem_cons_of_mem _ (List.mem_cons_of_mem _ hw))) (hat w hw)
  have hk' : (Cond.classLink own ik cls).before args s' = true := vx_ot_at hW0 hvm.symm (hgood _ List.mem_cons_self) hk
  have hini' : (Cond.initialized cls).before args s' = true := vx_ot_at hW0 hvm.symm (hgood _ (List.mem_cons_of_mem _ List.mem_cons_self)) hini
  have hU' : vx_Zq Bundle.tN "UNASSIGNED_STACK" Bundle.steD A s' s'.heap := by rw [hhp]; exact vx_Zq.moved hW0.alike (hU.kept hS.2.1)
  have hN' : vx_Zq Bundle.tN "SUPPRESSED_SENTINEL" Bundle.listD A s' s'.heap := by rw [hhp]; exact vx_Zq.moved hW0.alike (hN.kept hS.2.1)
  have h : ∀ w ∈ Bundle.ownAtoms0 own ic cls names, w.before args s' = true := vx_own hat' (vx_isRefq hU'.1) (vx_isRefq hN'.1) hU'.2.word hN'.2.word
  have hown' : s'.vm.findClass own = some m.cls := by rw [hvm]; exact hown
  have hins : (Cond.instantiable cls 6).before args s' = true := h _ (by simp [Bundle.ownAtoms0])
  obtain ⟨vm₁, cX, kX, hfX, hkX, -, -, X₁, st1⟩ := Y.newCold hexec (own := own) (C := cls) (index := ik) (n := 6) hown' hk' hins hini'
    (g := F0 m pc ls rest) rfl (by rw [hb]; exact d0) (Nat.le_refl _) (Nat.le_refl _)
  generalize hT1 : (T.setVm vm₁).pushCell { cls := cX, slots := kX.instanceTypes.map defaultValue, vm := .none } = T1 at X₁ st1
  have hcat : (Value.ref T.heap.size).category = 1 := rfl
  have hcellA : T1.heap[T.heap.size]? = some (freshCell cX kX) := by rw [← hT1]; exact State.heap_pushCell_size _ _
  have d3' : decode c.code (pc + 3) = .ok (.dup, 1) := by rw [hb]; exact d3
  obtain ⟨U, hsteps, hrun, hend, hW, hsame, ce, hce, hO⟩ := X₁.ctorThrow0 hexec htr (own := own) (cls := cls) (names := names) (ic := ic) hown' hcls hnames h (fun x hx => nomatch hx) hfX hkX hcellA (by rw [hhp, hT]; exact Nat.le_refl _)
    (g := { method := m, pc := pc + 4, locals := ls, stack := .ref T.heap.size :: .ref T.heap.size :: rest, locked := none }) rfl hsize rfl rfl (rest := rest) rfl
    (by rw [hb]; exact d4) (by rw [hb]; exact d7) hout hRframes (by simp only [List.map_cons, List.sum_cons, hcat]; omega) hlocks
  obtain ⟨f1, f2⟩ := vx_frame hsame
  rw [hhp] at f1 f2
  have hWs : s.WarmedH U.vm := State.WarmedH.trans hW0 hW
  have hcl : s.vm.findClass cls = some ce.cls := by
    have h9 := hO.cls
    rw [hvm] at h9
    exact h9
  have hall : s.sameButNew ({ U with vm := s.vm } : State) locs mc ms := by
    subst hA
    obtain ⟨e1, e2⟩ := hsame
    rw [State.setFrames_setFrames] at e1
    have h2 : (T.setVm s.vm).sameButNew ({ U with vm := s.vm } : State) [] (0 + 1) (0 + 6) := ⟨e1, e2⟩
    have h3 := X.same.trans h2
    rw [List.append_nil] at h3
    exact h3.mono hc hs
  refine ⟨U, ?_, .threw T.heap.size, hrun, hend, Or.inr ⟨T.heap.size, rfl, cls, ce, locs, hx U hWs.alike f1 (fun q hq => f2 q hq (fun z hz => nomatch hz)), hce, hO.vm, hcl, hWs, hall, hf⟩⟩
  refine st1 _ ?_
  show Steps p.tables e below (T1.setTop { method := m, pc := pc + 3, locals := ls, stack := .ref T.heap.size :: rest, locked := none }) _
  jvm_step X₁.here [X₁.here.top, hexec, d3', Value.category]
  exact hsteps
/-- 'throw new E("text")': new; dup; ldc; invokespecial; athrow -/
theorem vx_throwS {cc : ByteArray} {pc : Nat} (hexec : p.tables.exec = Jvm.exec) (hb : c.code = cc) (hl : l.stackTraces = false) {own cls text : String} {names : List String} {ik is ic mc ms sa : Nat} {A : Nat → Prop}
    (hown : s.vm.findClass own = some m.cls) (hcls : Bundle.fit cls = true) (hnames : ∀ n ∈ names, Bundle.fit n = true)
    (hk : (Cond.classLink own ik cls).before args s = true) (hini : (Cond.initialized cls).before args s = true) (hstr : vk_R own is text sa s) (hat : ∀ w ∈ vx_atS own ic cls names, w.before args s = true)
    (hgood : ∀ w ∈ Cond.classLink own ik cls :: Cond.initialized cls :: vx_atS own ic cls names, vx_ot w = true)
    (hU : vx_Zq Bundle.tN "UNASSIGNED_STACK" Bundle.steD A s s.heap) (hN : vx_Zq Bundle.tN "SUPPRESSED_SENTINEL" Bundle.listD A s s.heap) (hS : va_S A s.heap H locs) (hsize : ls.size = c.maxLocals)
    (d0 : decode cc pc = .ok (.new ik, 3)) (d3 : decode cc (pc + 3) = .ok (.dup, 1)) (d4 : decode cc (pc + 4) = .ok (.ldc is, 2)) (d6 : decode cc (pc + 6) = .ok (.invokespecial ic, 3)) (d9 : decode cc (pc + 9) = .ok (.athrow, 1))
    (hout : ∀ x ∈ c.exceptionTable.toList, covers x (pc + 9) = false)
    (hRframes : names.length + 3 < R.frames) (hRlocals : (rest.map fun v => v.category).sum + (13 * (names.length + 1) + 43) ≤ R.locals) (hRcells : cells + 1 ≤ R.cells) (hRslots : slots + 6 ≤ R.slots) (hlocks : meth.locks = false)
    (hx : ∀ t : State, s.vm.Alike t.vm → H.size ≤ t.heap.size → (∀ q : Nat, q < H.size → t.heap[q]? = H[q]?) → XC cls s t)
    (hf : ∀ z ∈ locs, free z.base) (hc : cells + 1 ≤ mc) (hs : slots + 6 ≤ ms) :
    W p l e R s m args below meth c H locs cells slots (vx_MQ below Qc XC args s mc ms free) (F0 m pc ls rest) := by
  intro T hT X
  have htr : e.platform.stackTraces = false := (show e.platform.stackTraces = l.stackTraces by rw [X.admits.platform]).trans hl
  have Y := vx_rebase X (R' := { frames := R.frames, locals := R.locals, cells := 1, slots := 6 }) (Nat.le_refl _) (Nat.le_refl _) hRcells hRslots
  obtain ⟨s', hA⟩ : ∃ z, z = (T.setVm s.vm).setFrames (.invoking m args :: below) := ⟨_, rfl⟩
  rw [← hA] at Y
  have hvm : s'.vm = s.vm := by rw [hA]; rfl
  have hhp : s'.heap = H := by rw [hA]; exact hT
  have hW0 : s.WarmedH s'.vm := by rw [hvm]; exact State.WarmedH.refl s
  have hat' : ∀ w ∈ vx_atS own ic cls names, w.before args s' = true := fun w hw => vx_ot_at hW0 hvm.symm (hgood w (List.mem_cons_of_mem _ (List.mem_cons_of_mem _ hw))) (hat w hw)
  have hk' : (Cond.classLink own ik cls).before args s' = true := vx_ot_at hW0 hvm.symm (hgood _ List.mem_cons_self) hk
  have hini' : (Cond.initialized cls).before args s' = true := vx_ot_at hW0 hvm.symm (hgood _ (List.mem_cons_of_mem _ List.mem_cons_self)) hini
  have hU' : vx_Zq Bundle.tN "UNASSIGNED_STACK" Bundle.steD A s' s'.heap := by rw [hhp]; exact vx_Zq.moved hW0.alike (hU.kept hS.2.1)
  have hN' : vx_Zq Bundle.tN "SUPPRESSED_SENTINEL" Bundle.listD A s' s'.heap := by rw [hhp]; exact vx_Zq.moved hW0.alike (hN.kept hS.2.1)
  have h : ∀ w ∈ Bundle.ownAtoms own ic cls names, w.before args s' = true := vx_own hat' (vx_isRefq hU'.1) (vx_isRefq hN'.1) hU'.2.word hN'.2.word
  have hown' : s'.vm.findClass own = some m.cls := by rw [hvm]; exact hown
  have hins : (Cond.instantiable cls 6).before args s' = true := h _ (by simp [Bundle.ownAtoms])
  obtain ⟨vm₁, cX, kX, hfX, hkX, -, -, X₁, st1⟩ := Y.newCold hexec (own := own) (C := cls) (index := ik) (n := 6) hown' hk' hins hini'
    (g := F0 m pc ls rest) rfl (by rw [hb]; exact d0) (Nat.le_refl _) (Nat.le_refl _)
  generalize hT1 : (T.setVm vm₁).pushCell { cls := cX, slots := kX.instanceTypes.map defaultValue, vm := .none } = T1 at X₁ st1
  have hcat : (Value.ref T.heap.size).category = 1 := rfl
  have hcellA : T1.heap[T.heap.size]? = some (freshCell cX kX) := by rw [← hT1]; exact State.heap_pushCell_size _ _
  have d3' : decode c.code (pc + 3) = .ok (.dup, 1) := by rw [hb]; exact d3
  have d4' : decode c.code (pc + 4) = .ok (.ldc is, 2) := by rw [hb]; exact d4
  have hstr' : vk_R own is text sa s' := vk_R.warm hW0 hstr
  obtain ⟨U, hsteps, hrun, hend, hW, hsame, ce, hce, hO⟩ := X₁.ctorThrowS hexec htr (own := own) (cls := cls) (names := names) (ic := ic) hown' hcls hnames h (fun x hx => nomatch hx) hfX hkX hcellA (by rw [hhp, hT]; exact Nat.le_refl _) (msg := .ref sa) rfl
    (g := { method := m, pc := pc + 6, locals := ls, stack := .ref sa :: .ref T.heap.size :: .ref T.heap.size :: rest, locked := none }) rfl hsize rfl rfl (rest := rest) rfl
    (by rw [hb]; exact d6) (by rw [hb]; exact d9) hout hRframes (by simp only [List.map_cons, List.sum_cons, hcat]; omega) hlocks
  obtain ⟨f1, f2⟩ := vx_frame hsame
  rw [hhp] at f1 f2
  have hWs : s.WarmedH U.vm := State.WarmedH.trans hW0 hW
  have hcl : s.vm.findClass cls = some ce.cls := by
    have h9 := hO.cls
    rw [hvm] at h9
    exact h9
  have hall : s.sameButNew ({ U with vm := s.vm } : State) locs mc ms := by
    subst hA
    obtain ⟨e1, e2⟩ := hsame
    rw [State.setFrames_setFrames] at e1
    have h2 : (T.setVm s.vm).sameButNew ({ U with vm := s.vm } : State) [] (0 + 1) (0 + 6) := ⟨e1, e2⟩
    have h3 := X.same.trans h2
    rw [List.append_nil] at h3
    exact h3.mono hc hs
  refine ⟨U, ?_, .threw T.heap.size, hrun, hend, Or.inr ⟨T.heap.size, rfl, cls, ce, locs, hx U hWs.alike f1 (fun q hq => f2 q hq (fun z hz => nomatch hz)), hce, hO.vm, hcl, hWs, hall, hf⟩⟩
  refine st1 _ ?_
  show Steps p.tables e below (T1.setTop { method := m, pc := pc + 3, locals := ls, stack := .ref T.heap.size :: rest, locked := none }) _
  jvm_step X₁.here [X₁.here.top, hexec, d3', Value.category]
  exact X₁.ldcString hexec (own := own) (text := text) (index := is) (a := sa) hown' hstr'.1 hstr'.2
    (g := { method := m, pc := pc + 4, locals := ls, stack := .ref T.heap.size :: .ref T.heap.size :: rest, locked := none }) rfl d4' _ hsteps
/-- 'throw new E("text")', the text by a wide index -/
theorem vx_throwSW {cc : ByteArray} {pc : Nat} (hexec : p.tables.exec = Jvm.exec) (hb : c.code = cc) (hl : l.stackTraces = false) {own cls text : String} {names : List String} {ik is ic mc ms sa : Nat} {A : Nat → Prop}
    (hown : s.vm.findClass own = some m.cls) (hcls : Bundle.fit cls = true) (hnames : ∀ n ∈ names, Bundle.fit n = true)
    (hk : (Cond.classLink own ik cls).before args s = true) (hini : (Cond.initialized cls).before args s = true) (hstr : vk_R own is text sa s) (hat : ∀ w ∈ vx_atS own ic cls names, w.before args s = true)
    (hgood : ∀ w ∈ Cond.classLink own ik cls :: Cond.initialized cls :: vx_atS own ic cls names, vx_ot w = true)
    (hU : vx_Zq Bundle.tN "UNASSIGNED_STACK" Bundle.steD A s s.heap) (hN : vx_Zq Bundle.tN "SUPPRESSED_SENTINEL" Bundle.listD A s s.heap) (hS : va_S A s.heap H locs) (hsize : ls.size = c.maxLocals)
    (d0 : decode cc pc = .ok (.new ik, 3)) (d3 : decode cc (pc + 3) = .ok (.dup, 1)) (d4 : decode cc (pc + 4) = .ok (.ldc_w is, 3)) (d7 : decode cc (pc + 7) = .ok (.invokespecial ic, 3)) (d10 : decode cc (pc + 10) = .ok (.athrow, 1))
    (hout : ∀ x ∈ c.exceptionTable.toList, covers x (pc + 10) = false)
    (hRframes : names.length + 3 < R.frames) (hRlocals : (rest.map fun v => v.category).sum + (13 * (names.length + 1) + 43) ≤ R.locals) (hRcells : cells + 1 ≤ R.cells) (hRslots : slots + 6 ≤ R.slots) (hlocks : meth.locks = false)
    (hx : ∀ t : State, s.vm.Alike t.vm → H.size ≤ t.heap.size → (∀ q : Nat, q < H.size → t.heap[q]? = H[q]?) → XC cls s t)
    (hf : ∀ z ∈ locs, free z.base) (hc : cells + 1 ≤ mc) (hs : slots + 6 ≤ ms) :
    W p l e R s m args below meth c H locs cells slots (vx_MQ below Qc XC args s mc ms free) (F0 m pc ls rest) := by
  intro T hT X
  have htr : e.platform.stackTraces = false := (show e.platform.stackTraces = l.stackTraces by rw [X.admits.platform]).trans hl
  have Y := vx_rebase X (R' := { frames := R.frames, locals := R.locals, cells := 1, slots := 6 }) (Nat.le_refl _) (Nat.le_refl _) hRcells hRslots
  obtain ⟨s', hA⟩ : ∃ z, z = (T.setVm s.vm).setFrames (.invoking m args :: below) := ⟨_, rfl⟩
  rw [← hA] at Y
  have hvm : s'.vm = s.vm := by rw [hA]; rfl
  have hhp : s'.heap = H := by rw [hA]; exact hT
  have hW0 : s.WarmedH s'.vm := by rw [hvm]; exact State.WarmedH.refl s
  have hat' : ∀ w ∈ vx_atS own ic cls names, w.before args s' = true := fun w hw => vx_ot_at hW0 hvm.symm (hgood w (List.mem_cons_of_mem _ (List.mem_cons_of_mem _ hw))) (hat w hw)
  have hk' : (Cond.classLink own ik cls).before args s' = true := vx_ot_at hW0 hvm.symm (hgood _ List.mem_cons_self) hk
  have hini' : (Cond.initialized cls).before args s' = true := vx_ot_at hW0 hvm.symm (hgood _ (List.mem_cons_of_mem _ List.mem_cons_self)) hini
  have hU' : vx_Zq Bundle.tN "UNASSIGNED_STACK" Bundle.steD A s' s'.heap := by rw [hhp]; exact vx_Zq.moved hW0.alike (hU.kept hS.2.1)
  have hN' : vx_Zq Bundle.tN "SUPPRESSED_SENTINEL" Bundle.listD A s' s'.heap := by rw [hhp]; exact vx_Zq.moved hW0.alike (hN.kept hS.2.1)
  have h : ∀ w ∈ Bundle.ownAtoms own ic cls names, w.before args s' = true := vx_own hat' (vx_isRefq hU'.1) (vx_isRefq hN'.1) hU'.2.word hN'.2.word
  have hown' : s'.vm.findClass own = some m.cls := by rw [hvm]; exact hown
  have hins : (Cond.instantiable cls 6).before args s' = true := h _ (by simp [Bundle.ownAtoms])
  obtain ⟨vm₁, cX, kX, hfX, hkX, -, -, X₁, st1⟩ := Y.newCold hexec (own := own) (C := cls) (index := ik) (n := 6) hown' hk' hins hini'
    (g := F0 m pc ls rest) rfl (by rw [hb]; exact d0) (Nat.le_refl _) (Nat.le_refl _)
  generalize hT1 : (T.setVm vm₁).pushCell { cls := cX, slots := kX.instanceTypes.map defaultValue, vm := .none } = T1 at X₁ st1
  have hcat : (Value.ref T.heap.size).category = 1 := rfl
  have hcellA : T1.heap[T.heap.size]? = some (freshCell cX kX) := by rw [← hT1]; exact State.heap_pushCell_size _ _
  have d3' : decode c.code (pc + 3) = .ok (.dup, 1) := by rw [hb]; exact d3
  have d4' : decode c.code (pc + 4) = .ok (.ldc_w is, 3) := by rw [hb]; exact d4
  have hstr' : vk_R own is text sa s' := vk_R.warm hW0 hstr
  obtain ⟨U, hsteps, hrun, hend, hW, hsame, ce, hce, hO⟩ := X₁.ctorThrowS hexec htr (own := own) (cls := cls) (names := names) (ic := ic) hown' hcls hnames h (fun x hx => nomatch hx) hfX hkX hcellA (by rw [hhp, hT]; exact Nat.le_refl _) (msg := .ref sa) rfl
    (g := { method := m, pc := pc + 7, locals := ls, stack := .ref sa :: .ref T.heap.size :: .ref T.heap.size :: rest, locked := none }) rfl hsize rfl rfl (rest := rest) rfl
    (by rw [hb]; exact d7) (by rw [hb]; exact d10) hout hRframes (by simp only [List.map_cons, List.sum_cons, hcat]; omega) hlocks
  obtain ⟨f1, f2⟩ := vx_frame hsame
  rw [hhp] at f1 f2
  have hWs : s.WarmedH U.vm := State.WarmedH.trans hW0 hW
  have hcl : s.vm.findClass cls = some ce.cls := by
    have h9 := hO.cls
    rw [hvm] at h9
    exact h9
  have hall : s.sameButNew ({ U with vm := s.vm } : State) locs mc ms := by
    subst hA
    obtain ⟨e1, e2⟩ := hsame
    rw [State.setFrames_setFrames] at e1
    have h2 : (T.setVm s.vm).sameButNew ({ U with vm := s.vm } : State) [] (0 + 1) (0 + 6) := ⟨e1, e2⟩
    have h3 := X.same.trans h2
    rw [List.append_nil] at h3
    exact h3.mono hc hs
  refine ⟨U, ?_, .threw T.heap.size, hrun, hend, Or.inr ⟨T.heap.size, rfl, cls, ce, locs, hx U hWs.alike f1 (fun q hq => f2 q hq (fun z hz => nomatch hz)), hce, hO.vm, hcl, hWs, hall, hf⟩⟩
  refine st1 _ ?_
  show Steps p.tables e below (T1.setTop { method := m, pc := pc + 3, locals := ls, stack := .ref T.heap.size :: rest, locked := none }) _
  jvm_step X₁.here [X₁.here.top, hexec, d3', Value.category]
  exact X₁.ldcStringW hexec (own := own) (text := text) (index := is) (a := sa) hown' hstr'.1 hstr'.2
    (g := { method := m, pc := pc + 4, locals := ls, stack := .ref T.heap.size :: .ref T.heap.size :: rest, locked := none }) rfl d4' _ hsteps
end Ends
section Bodies
variable {l : Launch}
theorem vx_ofW {y : MethodName} {ws ws' : List Cond} {rm : Room} {Pc : Array Value → State → Prop} {Qc : Array Value → State → Outcome → State → Prop} {XC : String → State → State → Prop} {mc ms : Nat} {free : Addr → Prop} {cc : ByteArray} {maxL : Nat} {ret : Option FieldType}
    (hy : plainName y.cls = true) (hw : ws = Cond.code y cc maxL ret :: ws')
    (body : ∀ p e s m args below meth c s₁, BodyLoose p l y (headSpec ws rm) cc maxL ret e s m args below meth c s₁ → c.maxLocals = maxL → (∀ x ∈ c.exceptionTable.toList, False) → Pc args s →
      W p l e (headSpec ws rm).room s m args below meth c s.heap [] 0 0 (vx_MQ below Qc XC args s mc ms free) (entryFrame m args maxL)) : vx_Met l y ws rm Pc Qc XC mc ms free := by
  refine MetFree.of_bodyS (code := cc) (maxLocals := maxL) (ret := ret) hy ?_ ?_
  · intro args s m h hn
    obtain ⟨meth, c, h1, h2, h3, h4, h5, h6, -, -⟩ := Cond.code_spec hn (atoms_spec (ws := ws) h _ (by rw [hw]; exact List.mem_cons_self))
    exact ⟨meth, c, h1, h2, h3, h4, h5, h6⟩
  · intro p e s m args below meth c s₁ B hml hP _
    have hh0 : s₁.heap = s.heap := by rw [B.state]; rfl
    have ht : ∀ x ∈ c.exceptionTable.toList, False := by
      obtain ⟨meth9, c9, h1, h2, -, -, -, -, h7, -⟩ := Cond.code_spec B.named (atoms_spec (ws := ws) B.pre _ (by rw [hw]; exact List.mem_cons_self))
      cases Option.some.inj (h1.symm.trans B.method)
      cases Option.some.inj (h2.symm.trans (Stand.of_body B).code)
      intro x hx
      rw [Array.isEmpty_iff.mp h7] at hx
      cases hx
    obtain ⟨t, a1, o, b1, b2, b3⟩ := body p e s m args below meth c s₁ B hml ht hP s₁ hh0 (Stand.of_body B)
    exact ⟨t, o, a1, b1, b2, b3⟩
/-- the table of a body with handlers -/
theorem vx_table {p : Program} {x y : MethodName} {S : Spec} {cc bytes : ByteArray} {maxL maxL' : Nat} {ret ret' : Option FieldType} {e : Env} {s s₁ : State} {m : MethodId} {args : Array Value} {below : List Frame} {meth : Method} {c : Code} {hh : List (Nat × Nat × Nat × Nat)}
    (B : BodyLoose p l y S cc maxL ret e s m args below meth c s₁) (h : (Cond.codeWith y bytes maxL' ret' hh).before args s = true) : c.exceptionTable.toList = tableOf hh := by
  obtain ⟨m9, meth9, c9, hn9, h1, h2, -, -, h6, -⟩ := Cond.codeWith_spec h
  cases Option.some.inj (hn9.symm.trans B.named)
  cases Option.some.inj (h1.symm.trans B.method)
  cases Option.some.inj (h2.symm.trans (Stand.of_body B).code)
  rw [← h6, table_eq]
end Bodies
end VXA
/-! ===== END ===== -/
/-! ===== BEGIN a static call of a method with an exception table ===== -/
section VXS
variable {p : Program} {l : Launch} {e : Env} {R : Room} {s : State} {m : MethodId} {args : Array Value} {below : List Frame} {meth : Method} {c : Code} {T : State} {H : Heap} {locs : List Loc} {cells slots : Nat}
abbrev vx_CSW (R : Room) (s : State) (args : Array Value) (own : String) (index : Nat) (y : MethodName) (bytes : ByteArray) (maxL : Nat) (ret : Option FieldType) (hh : List (Nat × Nat × Nat × Nat)) (ws : List Cond) (rm : Room) (mc ms n : Nat) : Prop :=
  (rm.cells = mc ∧ rm.slots = ms ∧ rm.frames + 1 ≤ R.frames ∧ 8 + (maxL + 11) + rm.locals ≤ R.locals ∧ (∀ w ∈ ws, ∀ (a' : Array Value) (U : State), s.WarmedH U.vm → w.before a' U = true) ∧ Cond.codeWith y bytes maxL ret hh ∈ ws) ∧
  (Cond.codeWith y bytes maxL ret hh).before args s = true ∧ (Cond.initialized y.cls).before args s = true ∧ (y.cls ≠ "java/lang/invoke/MethodHandle" ∧ y.cls ≠ "java/lang/invoke/VarHandle") ∧
  (∀ sig, parseMethodDescriptor y.desc = some sig → n = sig.parameters.length) ∧ (Cond.methodLink own index y).before args s = true ∧ (Cond.static y).before args s = true
theorem vx_cwSW {own : String} {index maxL mc ms : Nat} {y : MethodName} {bytes : ByteArray} {ret : Option FieldType} {hh : List (Nat × Nat × Nat × Nat)} {Ts ws ws' : List Cond} {rm : Room} (n : Nat) (ht : ∀ w ∈ Ts, w.before args s = true) (hT : GoodIn Ts (va_wsS own index y ws)) (hw : ws = Cond.codeWith y bytes maxL ret hh :: ws') (hrc : rm.cells = mc) (hrs : rm.slots = ms)
    (hd : y.cls ≠ "java/lang/invoke/MethodHandle" ∧ y.cls ≠ "java/lang/invoke/VarHandle" ∧ (parseMethodDescriptor y.desc).map (fun d => d.parameters.length) = some n) (hR : rm.frames + 1 ≤ R.frames ∧ 8 + (maxL + 11) + rm.locals ≤ R.locals) :
    vx_CSW R s args own index y bytes maxL ret hh ws rm mc ms n := by
  have ok : ∀ w ∈ va_wsS own index y ws, w.before args s = true := fun w h => ht w (hT w h).1
  have hG : GoodIn Ts ws := fun w h => hT w (by unfold va_wsS; exact List.mem_append_right _ h)
  have hc : Cond.codeWith y bytes maxL ret hh ∈ ws := by rw [hw]; exact List.mem_cons_self
  refine ⟨⟨hrc, hrs, hR.1, hR.2, pay_in ht hG, hc⟩, ht _ (hG _ hc).1, ok _ (by simp [va_wsS]), ⟨hd.1, hd.2.1⟩, fun sig h => ?_, ok _ (by simp [va_wsS]), ok _ (by simp [va_wsS])⟩
  have h2 := hd.2.2
  rw [h] at h2
  exact (Option.some.inj h2).symm
theorem vx_callSW (X : Stand p l e R s m args below meth c T locs cells slots) (hexec : p.tables.exec = Jvm.exec) {own : String} {index : Nat} {y : MethodName} {bytes : ByteArray} {maxL : Nat} {ret : Option FieldType} {hh : List (Nat × Nat × Nat × Nat)}
    (hown : s.vm.findClass own = some m.cls) (hlink : (Cond.methodLink own index y).before args s = true) (hstat : (Cond.static y).before args s = true) (hinit : (Cond.initialized y.cls).before args s = true)
    (hcode : (Cond.codeWith y bytes maxL ret hh).before args s = true) (hy : y.cls ≠ "java/lang/invoke/MethodHandle" ∧ y.cls ≠ "java/lang/invoke/VarHandle")
    {W9 : Nat} {Pre : Pt → Array Value → Prop} {Post : Pt → Array Value → Option Value → Pt → Prop} (hK : Back l R p e below s args y 3 W9 Pre Post)
    {g : JFrame} (hg : g.method = m) (hsize : g.locals.size = c.maxLocals) {argsL rest : List Value} (hlen : ∀ sig, parseMethodDescriptor y.desc = some sig → argsL.length = sig.parameters.length)
    (hstack : g.stack = argsL.reverse ++ rest) (hW : 2 * g.monitorRoom + (rest.map fun v => v.category).sum ≤ W9) (hdg : decode c.code g.pc = .ok (.invokestatic index, 3))
    (hpre : ∀ vm₁, s.WarmedH vm₁ → Pre ⟨T.setVm vm₁, locs, cells, slots⟩ argsL.toArray) :
    ∃ (v : Option Value) (vm₁ : Vm) (B : Pt), s.WarmedH vm₁ ∧ Stand p l e R s m args below meth c B.U B.locs B.cells B.slots ∧ Post ⟨T.setVm vm₁, locs, cells, slots⟩ argsL.toArray v B ∧
      ∀ target, Steps p.tables e below (B.U.setTop { g with pc := g.pc + 3, stack := v.toList ++ rest }) target → Steps p.tables e below (T.setTop g) target := by
  obtain ⟨mk, methM, cM, hnamed, hmethM, -, -, -, -, -, -, hsigM⟩ := Cond.codeWith_spec hcode
  have hstatic : methM.isStatic = true := Cond.static_spec hnamed hmethM hstat
  obtain ⟨kP, hkP, -⟩ := className_of_methodNamed hnamed
  have hinitP : kP.init = .initialized := Cond.initialized_spec (findClass_of_methodNamed hnamed) hkP hinit
  obtain ⟨vm₁, X₁, hstep₁⟩ := X.invokestatic hexec hown hlink hnamed hmethM hstatic hkP hinitP hy (g := g) hg (argsL := argsL) (rest := rest) (hlen _ hsigM) hstack hdg
  obtain ⟨v, B, X', hpost, hsteps⟩ := hK m meth c ⟨T.setVm vm₁, locs, cells, slots⟩ { g with stack := rest } (.invokestatic index) mk argsL.toArray X₁ hg hsize hdg hW (X₁.named hnamed) (hpre vm₁ X₁.warmed)
  exact ⟨v, vm₁, B, X₁.warmed, X', hpost, fun target h => hstep₁ _ fun acts => by rw [doInvoke_state]; exact hsteps.trans h⟩
theorem vx_runSW {y : MethodName} {bytes cc : ByteArray} {maxL nL mc ms n index : Nat} {ret : Option FieldType} {hh : List (Nat × Nat × Nat × Nat)} {ws : List Cond} {rm : Room} {Pc : Array Value → State → Prop} {Qc : Array Value → State → Outcome → State → Prop} {free : Addr → Prop} {Ts : List Cond} {own : String} {As rest : List Value} {g : JFrame}
    (S : CallFix p m c cc nL s args Ts own) (hM : Met l y ws rm Pc Qc mc ms free) (cw : vx_CSW R s args own index y bytes maxL ret hh ws rm mc ms n) (hp : PreS s H Pc As)
    (hg : g.method = m) (hn : As.length = n) (hsize : g.locals.size = nL) (hstack : g.stack = As.reverse ++ rest) (hW : 2 * g.monitorRoom + (rest.map fun v => v.category).sum ≤ 8) (hdg : decode cc g.pc = .ok (.invokestatic index, 3)) (hf : cells + mc ≤ R.cells ∧ slots + ms ≤ R.slots) :
    va_Run p l e R s m args below meth c H locs cells slots mc ms g rest (Qc As.toArray) (free) := by
  obtain ⟨⟨hrc, hrs, hfr, hlo, hws, hcw⟩, hcode, hini, hy, hlen, hl, hstt⟩ := cw
  have hK : Back l R p e below s args y 3 8 (PreOf R mc ms Pc) (PostOf Qc mc ms free) := va_backW (hh := hh) (bytes := bytes) (maxL := maxL) (ret := ret) hM hp.1 hrc hrs hfr hlo hws hcw (fun a' U hW => word_at hW (Or.inl (by first | rfl | simp [Cond.onTables, Cond.keeps, Cond.steady])) hini)
  obtain ⟨hx, hb, hml, ho, -⟩ := S
  intro T hT X
  obtain ⟨v, vm₁, ⟨U', l2, c2, s2⟩, hW₁, X', ⟨g', mk, t, L, e1, e2, hq, h1, hL, h2, h3⟩, st⟩ := vx_callSW X hx (hh := hh) (bytes := bytes) (maxL := maxL) (ret := ret) ho hl hstt hini hcode hy hK hg (hsize.trans hml.symm) (argsL := As) (rest := rest) (fun sig h => hn.trans (hlen sig h)) hstack hW (by rw [hb]; exact hdg)
    (fun vm₁ hW₁ => ⟨hf.1, hf.2, hp.2 (T.setVm vm₁) hT hW₁⟩)
  dsimp only [Pt.U, Pt.locs, Pt.cells, Pt.slots] at X' e1 e2 h1 h2 h3 st
  subst h1; subst h2; subst h3
  exact ⟨v, (T.setVm vm₁).calling g' mk As.toArray, t, U', L, hT, X', hL, e1, e2, hq, st⟩
/-- not caught here, past rows that name other classes: it goes on to the caller -/
theorem vx_outP {p : Program} {l : Launch} {e : Env} {R : Room} {s : State} {m : MethodId} {args : Array Value} {below : List Frame} {meth : Method} {c : Code} {H : Heap} {locs : List Loc} {cells slots : Nat} {free : Addr → Prop} {ls : Array Slot} {rest : List Value} {Qc : Array Value → State → Outcome → State → Prop} {XC : String → State → State → Prop}
    {pc : Nat} {own E : String} {ce : Cell} {q : Addr} {mc ms : Nat} (hown : s.vm.findClass own = some m.cls) (hlocks : meth.locks = false)
    (hpass : ∀ z ∈ c.exceptionTable.toList, covers z pc = false ∨ (z.catchType ≠ 0 ∧ ∃ nm : String, (Cond.classLink own z.catchType nm).before args s = true ∧ va_Nc E nm s)) (hcell : H[q]? = some ce) (hv : ce.vm = .none) (hcl : s.vm.findClass E = some ce.cls)
    (hx : ∀ t : State, t.heap = H → s.vm.Alike t.vm → XC E s t) (hf : ∀ z ∈ locs, free z.base) (hc : cells ≤ mc) (hs : slots ≤ ms) :
    vx_W p l e R s m args below meth c H locs cells slots (vx_MQ below Qc XC args s mc ms free) (F0 m pc ls rest) q := by
  intro T hT X
  have hpl : e.platform.magicAccessors = ({} : Platform).magicAccessors := by rw [X.admits.platform]
  obtain ⟨vm', hW', X', st⟩ := X.outThrough hlocks q (g := F0 m pc ls rest) rfl rfl rfl (cell := ce) (by rw [hT]; exact hcell) (by rw [hv]; rfl)
    (by obtain ⟨k9, h9, -⟩ := Vm.findClass_spec hcl; exact ⟨k9, h9⟩) (fun z hz => by
      rcases hpass z hz with h | ⟨hz0, nm, hl1, hn1⟩
      · exact Or.inl h
      · obtain ⟨c6, hc6, hcl6⟩ := Cond.classLink_spec hown hl1 e.platform hpl
        obtain ⟨a8, b8, h1, h2, h3⟩ := hn1
        cases Option.some.inj (h1.symm.trans hcl)
        cases Option.some.inj (h2.symm.trans hc6)
        exact Or.inr ⟨hz0, _, hcl6, h3⟩)
  obtain ⟨g₀, hfr⟩ := X'.frames_eq
  have hcell9 : ((T.setVm vm').setFrames (.throwing q :: below)).heap[q]? = some ce := by
    show T.heap[q]? = some ce
    rw [hT]; exact hcell
  have hend : Ended ((T.setVm vm').setFrames (.throwing q :: below)) below (.threw q) := State.frames_setFrames _ (State.cur_lt_of_frames hfr)
  refine ⟨(T.setVm vm').setFrames (.throwing q :: below), ?_, .threw q, X'.here.running, hend, Or.inr ⟨q, rfl, E, ce, locs, hx _ hT (X'.ends _).1.alike, hcell9, hv, hcl, (X'.ends _).1, (X'.ends _).2.mono hc hs, hf⟩⟩
  rw [X.pushThrowing_eq]
  exact st
/-- a thing of a world lies in the heap -/
theorem vx_lt {D : va_G} {cl : List vw_C} {ws : va_W} {H1 : Heap} (h : va_P D cl ws H1) {k : Nat} {q : Nat × va_E} (hk : ws[k]? = some q) : q.1 < H1.size := (h k q hk).lt
end VXS
/-! ===== END ===== -/
/-! ===== BEGIN methods with a table of their own: called by a name, returning or throwing ===== -/
section VXH
/-! vx_backW, vx_callVX, vx_callSX, vx_callVW, vx_runVW, vx_runVX, vx_runSX, vx_ofWH follow the same proofs as their sisters above (Free/Laws.lean, Shelf42/LK1.lean); vx_outP calls Shelf42/NT130.lean (outThrough). -/
section
variable {l : Launch} {R : Room} {p : Program} {e : Env} {below : List Frame} {s : State} {sargs : Array Value} {y : MethodName} {len W9 : Nat}
theorem vx_backW {ws : List Cond} {rm : Room} {Pc : Array Value → State → Prop} {Qc : Array Value → State → Outcome → State → Prop} {XC : String → State → State → Prop} {mc ms : Nat} {free : Addr → Prop} {bytes : ByteArray} {maxL : Nat} {ret : Option FieldType} {hh : List (Nat × Nat × Nat × Nat)}
    (hM : vx_Met l y ws rm Pc Qc XC mc ms free) (hblind : FrameBlind Pc) (hrc : rm.cells = mc) (hrs : rm.slots = ms)
    (hframes : rm.frames + 1 ≤ R.frames) (hlocals : W9 + (maxL + 11) + rm.locals ≤ R.locals)
    (hws : ∀ w ∈ ws, ∀ a' U, s.WarmedH U.vm → w.before a' U = true) (hcode : Cond.codeWith y bytes maxL ret hh ∈ ws) (hinit : ∀ a' U, s.WarmedH U.vm → (Cond.initialized y.cls).before a' U = true) :
    vx_Back l R p e below s sargs y len W9 (PreOf R mc ms Pc) (PostOf Qc mc ms free) (vx_Post XC mc ms free) := by
  intro m meth c A g ig mk a X hg hsize hdg hW hn hp
  have h1 : (headSpec ws rm).pre.before a A.U = true := atoms_intro fun w hw => hws w hw _ _ X.warmed
  have h2 : (Cond.codeWith y bytes maxL ret hh).before a A.U = true := hws _ hcode _ _ X.warmed
  have h3 : (Cond.initialized y.cls).before a A.U = true := hinit _ _ X.warmed
  have h4 : A.cells + (headSpec ws rm).room.cells ≤ R.cells := by rw [show (headSpec ws rm).room.cells = mc from hrc]; exact hp.1
  have h5 : A.slots + (headSpec ws rm).room.slots ≤ R.slots := by rw [show (headSpec ws rm).room.slots = ms from hrs]; exact hp.2.1
  have hPc : Pc a (A.U.calling g mk a) := hblind _ _ _ _ hp.2.2
  obtain ⟨U, Ls, c0, s0⟩ := A
  dsimp only [Pt.U, Pt.locs, Pt.cells, Pt.slots] at h1 h2 h3 h4 h5 X hn hPc ⊢
  obtain ⟨m9, methY, cY, hn9, hmY, hcY, -, hlY, -⟩ := Cond.codeWith_spec h2
  cases Option.some.inj (hn9.symm.trans hn)
  obtain ⟨kY, hkY, -⟩ := className_of_methodNamed hn
  have hinitY : kY.init = .initialized := Cond.initialized_spec (findClass_of_methodNamed hn) hkY h3
  have h : At U g.method c below := by rw [hg]; exact X.here
  have hlocals9 : W9 + (maxL + 11) + (headSpec ws rm).room.locals ≤ R.locals := hlocals
  have happ : (headSpec ws rm).appliesLoose y e.platform (U.calling g mk a) = true :=
    Spec.appliesLoose_calling (g := g) h hdg hn hkY hinitY
      (X.room_calling (g := g) (R' := (headSpec ws rm).room) hsize hmY hcY hframes (by rw [hlY]; omega) h4 h5) h1
  obtain ⟨mid, hmid⟩ := h.above
  have hfr : (U.setTop g).frames = (.java g :: mid) ++ below := by rw [State.frames_setTop' g h.top, hmid]; rfl
  obtain ⟨o, s₂, hsteps, -, hend, hq⟩ := Steps.callFree hM p X.admits X.cas X.clock (acts := []) hfr happ hPc trivial
  have hq' : vx_Q Qc XC mc ms free a (U.calling g mk a) o s₂ := hq
  rw [State.frames_setTop' g h.top] at hend
  obtain ⟨g₀, hg0⟩ := Option.isSome_iff_exists.mp h.top
  obtain ⟨r, hr⟩ := State.topJava?_eq_some.mp hg0
  have hr' : (({ U with heap := s₂.heap, slotsUsed := s₂.slotsUsed } : State).setVm s₂.vm).frames = .java g₀ :: r := hr
  rcases hq' with ⟨hqc, L, hfe, hL⟩ | ⟨q, rfl, E, ce, L, hx, hce, hcv, hcl, hW₂, hsm, hL⟩
  · obtain ⟨⟨v, rfl⟩, hW₂, e2, q2, q3, q4, q5, q6⟩ := id hfe
    have e3 : s₂ = ({ (U.calling g mk a).setFrames s₂.frames with heap := s₂.heap, slotsUsed := s₂.slotsUsed } : State).setVm s₂.vm := by
      have : s₂ = ({ s₂ with vm := (U.calling g mk a).vm } : State).setVm s₂.vm := rfl
      rw [e2] at this
      exact this
    obtain ⟨c₂, i₂, len₂, hc₂, hd₂, hf₂⟩ := hend
    have hW' : U.WarmedH s₂.vm := hW₂
    have hcc : c₂ = c := by
      have h1 : s₂.code? g.method = U.code? g.method := by
        rw [State.code?_eq, State.code?_eq, hW'.alike.method?]
      exact Option.some.inj (hc₂.symm.trans (h1.trans h.code))
    subst hcc
    have hlen : len₂ = len := by rw [hdg] at hd₂; cases hd₂; rfl
    subst hlen
    have hs₂ : s₂ = (({ U with heap := s₂.heap, slotsUsed := s₂.slotsUsed } : State).setVm s₂.vm).setTop { g with pc := g.pc + len₂, stack := v.toList ++ g.stack } := by
      refine e3.trans ?_
      rw [hf₂, State.calling_eq h.top, State.setFrames_setFrames, State.setTop_of_frames _ hr', hr]
      rfl
    have hsame : U.sameButNew ({ U with heap := s₂.heap, slotsUsed := s₂.slotsUsed } : State) L mc ms := by
      refine ⟨?_, q2, q3, q4, q5, q6⟩
      obtain ⟨t, ht, -⟩ := State.frames_cons hr
      show ({ U with heap := s₂.heap, slotsUsed := s₂.slotsUsed } : State) = { U.setFrames U.frames with heap := s₂.heap, slotsUsed := s₂.slotsUsed }
      rw [State.setFrames_self ht]
    subst hg
    refine Or.inl ⟨v, ⟨(({ U with heap := s₂.heap, slotsUsed := s₂.slotsUsed } : State).setVm s₂.vm), Ls ++ L, c0 + mc, s0 + ms⟩,
      ⟨X.admits, X.cas, X.clock, X.frames, X.room, X.hears, X.method, X.code, (X.here.setHeapUsed s₂.heap s₂.slotsUsed).setVm hW'.alike, X.tail, State.WarmedH.trans X.warmed hW', X.limits, X.bytes, X.same.trans (hsame.setVm s.vm)⟩,
      ⟨g, mk, s₂, L, rfl, rfl, hqc, rfl, hL, rfl, rfl⟩, ?_⟩
    show Steps p.tables e below _ ((({ U with heap := s₂.heap, slotsUsed := s₂.slotsUsed } : State).setVm s₂.vm).setTop { g with pc := g.pc + len₂, stack := v.toList ++ g.stack })
    rw [← hs₂]
    exact hsteps
  · obtain ⟨e2, q2, q3, q4, q5, q6⟩ := id hsm
    have e3 : s₂ = ({ (U.calling g mk a).setFrames s₂.frames with heap := s₂.heap, slotsUsed := s₂.slotsUsed } : State).setVm s₂.vm := by
      have : s₂ = ({ s₂ with vm := (U.calling g mk a).vm } : State).setVm s₂.vm := rfl
      rw [e2] at this
      exact this
    have hf₂ : s₂.frames = .throwing q :: .java g :: U.frames.tail := hend
    have hW' : U.WarmedH s₂.vm := hW₂
    have hs₂ : s₂ = ((({ U with heap := s₂.heap, slotsUsed := s₂.slotsUsed } : State).setVm s₂.vm).setTop g).pushFrame (.throwing q) := by
      refine e3.trans ?_
      rw [hf₂, State.calling_eq h.top, State.setFrames_setFrames, State.pushFrame, State.frames_setTop _ hr', State.setTop_of_frames _ hr', State.setFrames_setFrames, hr]
      rfl
    have hsame : U.sameButNew ({ U with heap := s₂.heap, slotsUsed := s₂.slotsUsed } : State) L mc ms := by
      refine ⟨?_, q2, q3, q4, q5, q6⟩
      obtain ⟨t, ht, -⟩ := State.frames_cons hr
      show ({ U with heap := s₂.heap, slotsUsed := s₂.slotsUsed } : State) = { U.setFrames U.frames with heap := s₂.heap, slotsUsed := s₂.slotsUsed }
      rw [State.setFrames_self ht]
    subst hg
    refine Or.inr ⟨q, ⟨(({ U with heap := s₂.heap, slotsUsed := s₂.slotsUsed } : State).setVm s₂.vm), Ls ++ L, c0 + mc, s0 + ms⟩,
      ⟨X.admits, X.cas, X.clock, X.frames, X.room, X.hears, X.method, X.code, (X.here.setHeapUsed s₂.heap s₂.slotsUsed).setVm hW'.alike, X.tail, State.WarmedH.trans X.warmed hW', X.limits, X.bytes, X.same.trans (hsame.setVm s.vm)⟩,
      ⟨g, mk, s₂, L, E, ce, rfl, rfl, hx, hce, hcv, hcl, rfl, hL, rfl, rfl⟩, ?_⟩
    show Steps p.tables e below _ (((({ U with heap := s₂.heap, slotsUsed := s₂.slotsUsed } : State).setVm s₂.vm).setTop g).pushFrame (.throwing q))
    rw [← hs₂]
    exact hsteps
end
variable {p : Program} {l : Launch} {e : Env} {R : Room} {s : State} {m : MethodId} {args : Array Value} {below : List Frame} {meth : Method} {c : Code} {T : State} {H : Heap} {locs : List Loc} {cells slots : Nat}
theorem vx_callVX (X : Stand p l e R s m args below meth c T locs cells slots) (hexec : p.tables.exec = Jvm.exec) {own C : String} {index : Nat} {y : MethodName} {bytes : ByteArray} {maxL : Nat} {ret : Option FieldType} {hh : List (Nat × Nat × Nat × Nat)}
    (hown : s.vm.findClass own = some m.cls) (hlink : (Cond.methodLink own index y).before args s = true) (hinst : (Cond.instanceMethod y).before args s = true) (hsel : (Cond.selects C y y).before args s = true)
    (hcode : (Cond.codeWith y bytes maxL ret hh).before args s = true) (hy : y.cls ≠ "java/lang/invoke/MethodHandle" ∧ y.cls ≠ "java/lang/invoke/VarHandle")
    {W9 : Nat} {Pre : Pt → Array Value → Prop} {Post : Pt → Array Value → Option Value → Pt → Prop} {PostX : Pt → Array Value → Addr → Pt → Prop} (hK : vx_Back l R p e below s args y 3 W9 Pre Post PostX)
    {b : Addr} {cellB : Cell} (hcell : T.heap[b]? = some cellB) (hobj : cellB.vm.isStatics = false) (hcls : s.vm.findClass C = some cellB.cls)
    {g : JFrame} (hg : g.method = m) (hsize : g.locals.size = c.maxLocals) {argsL rest : List Value} (hlen : ∀ sig, parseMethodDescriptor y.desc = some sig → argsL.length = sig.parameters.length)
    (hstack : g.stack = argsL.reverse ++ .ref b :: rest) (hW : 2 * g.monitorRoom + (rest.map fun v => v.category).sum ≤ W9) (hdg : decode c.code g.pc = .ok (.invokevirtual index, 3))
    (hpre : ∀ vm₁, s.WarmedH vm₁ → Pre ⟨T.setVm vm₁, locs, cells, slots⟩ (Value.ref b :: argsL).toArray) :
    (∃ (v : Option Value) (vm₁ : Vm) (B : Pt), s.WarmedH vm₁ ∧ Stand p l e R s m args below meth c B.U B.locs B.cells B.slots ∧ Post ⟨T.setVm vm₁, locs, cells, slots⟩ (Value.ref b :: argsL).toArray v B ∧
      ∀ target, Steps p.tables e below (B.U.setTop { g with pc := g.pc + 3, stack := v.toList ++ rest }) target → Steps p.tables e below (T.setTop g) target) ∨
    (∃ (q : Addr) (vm₁ : Vm) (B : Pt), s.WarmedH vm₁ ∧ Stand p l e R s m args below meth c B.U B.locs B.cells B.slots ∧ PostX ⟨T.setVm vm₁, locs, cells, slots⟩ (Value.ref b :: argsL).toArray q B ∧
      Steps p.tables e below (T.setTop g) ((B.U.setTop { g with stack := rest }).pushFrame (.throwing q))) := by
  obtain ⟨mk, methM, hnamed, hmethM, hstM, habM⟩ := Cond.instanceMethod_spec hinst
  obtain ⟨m8, methM', cM, hn8, hmethM', -, -, -, -, -, -, hsigM⟩ := Cond.codeWith_spec hcode
  cases Option.some.inj (hn8.symm.trans hnamed)
  cases hmethM.symm.trans hmethM'
  obtain ⟨c2, r2, m2, q1, q2, q3, q4, kP, hkP, hkPi⟩ := Cond.selects_spec hsel
  cases hcls.symm.trans q1
  cases (State.methodFound?_of_named hnamed hy).symm.trans q2
  cases hnamed.symm.trans q3
  have hselP : selectMethod e.platform s.vm cellB.cls mk = .method mk := by rw [Launch.admits_selectMethod X.admits]; exact q4
  obtain ⟨vm₁, X₁, hstep₁⟩ := X.invokevirtual hexec hown hlink hnamed hmethM hstM hkP hkPi hy (a := b) (cell := cellB) hcell
    (fun z h => by rw [h] at hobj; cases hobj) hselP hmethM habM hkP hkPi (g := g) hg (argsL := argsL) (rest := rest) (hlen _ hsigM) hstack hdg
  rcases hK m meth c ⟨T.setVm vm₁, locs, cells, slots⟩ { g with stack := rest } (.invokevirtual index) mk (Value.ref b :: argsL).toArray X₁ hg hsize hdg hW (X₁.named hnamed) (hpre vm₁ X₁.warmed) with ⟨v, B, X', hpost, hsteps⟩ | ⟨q, B, X', hpost, hsteps⟩
  · exact Or.inl ⟨v, vm₁, B, X₁.warmed, X', hpost, fun target h => hstep₁ _ fun acts => by rw [doInvoke_state]; exact hsteps.trans h⟩
  · exact Or.inr ⟨q, vm₁, B, X₁.warmed, X', hpost, hstep₁ _ fun acts => by rw [doInvoke_state]; exact hsteps⟩
theorem vx_callSX (X : Stand p l e R s m args below meth c T locs cells slots) (hexec : p.tables.exec = Jvm.exec) {own : String} {index : Nat} {y : MethodName} {bytes : ByteArray} {maxL : Nat} {ret : Option FieldType} {hh : List (Nat × Nat × Nat × Nat)}
    (hown : s.vm.findClass own = some m.cls) (hlink : (Cond.methodLink own index y).before args s = true) (hstat : (Cond.static y).before args s = true) (hinit : (Cond.initialized y.cls).before args s = true)
    (hcode : (Cond.codeWith y bytes maxL ret hh).before args s = true) (hy : y.cls ≠ "java/lang/invoke/MethodHandle" ∧ y.cls ≠ "java/lang/invoke/VarHandle")
    {W9 : Nat} {Pre : Pt → Array Value → Prop} {Post : Pt → Array Value → Option Value → Pt → Prop} {PostX : Pt → Array Value → Addr → Pt → Prop} (hK : vx_Back l R p e below s args y 3 W9 Pre Post PostX)
    {g : JFrame} (hg : g.method = m) (hsize : g.locals.size = c.maxLocals) {argsL rest : List Value} (hlen : ∀ sig, parseMethodDescriptor y.desc = some sig → argsL.length = sig.parameters.length)
    (hstack : g.stack = argsL.reverse ++ rest) (hW : 2 * g.monitorRoom + (rest.map fun v => v.category).sum ≤ W9) (hdg : decode c.code g.pc = .ok (.invokestatic index, 3))
    (hpre : ∀ vm₁, s.WarmedH vm₁ → Pre ⟨T.setVm vm₁, locs, cells, slots⟩ argsL.toArray) :
    (∃ (v : Option Value) (vm₁ : Vm) (B : Pt), s.WarmedH vm₁ ∧ Stand p l e R s m args below meth c B.U B.locs B.cells B.slots ∧ Post ⟨T.setVm vm₁, locs, cells, slots⟩ argsL.toArray v B ∧
      ∀ target, Steps p.tables e below (B.U.setTop { g with pc := g.pc + 3, stack := v.toList ++ rest }) target → Steps p.tables e below (T.setTop g) target) ∨
    (∃ (q : Addr) (vm₁ : Vm) (B : Pt), s.WarmedH vm₁ ∧ Stand p l e R s m args below meth c B.U B.locs B.cells B.slots ∧ PostX ⟨T.setVm vm₁, locs, cells, slots⟩ argsL.toArray q B ∧
      Steps p.tables e below (T.setTop g) ((B.U.setTop { g with stack := rest }).pushFrame (.throwing q))) := by
  obtain ⟨mk, methM, cM, hnamed, hmethM, -, -, -, -, -, -, hsigM⟩ := Cond.codeWith_spec hcode
  have hstatic : methM.isStatic = true := Cond.static_spec hnamed hmethM hstat
  obtain ⟨kP, hkP, -⟩ := className_of_methodNamed hnamed
  have hinitP : kP.init = .initialized := Cond.initialized_spec (findClass_of_methodNamed hnamed) hkP hinit
  obtain ⟨vm₁, X₁, hstep₁⟩ := X.invokestatic hexec hown hlink hnamed hmethM hstatic hkP hinitP hy (g := g) hg (argsL := argsL) (rest := rest) (hlen _ hsigM) hstack hdg
  rcases hK m meth c ⟨T.setVm vm₁, locs, cells, slots⟩ { g with stack := rest } (.invokestatic index) mk argsL.toArray X₁ hg hsize hdg hW (X₁.named hnamed) (hpre vm₁ X₁.warmed) with ⟨v, B, X', hpost, hsteps⟩ | ⟨q, B, X', hpost, hsteps⟩
  · exact Or.inl ⟨v, vm₁, B, X₁.warmed, X', hpost, fun target h => hstep₁ _ fun acts => by rw [doInvoke_state]; exact hsteps.trans h⟩
  · exact Or.inr ⟨q, vm₁, B, X₁.warmed, X', hpost, hstep₁ _ fun acts => by rw [doInvoke_state]; exact hsteps⟩
theorem vx_callVW (X : Stand p l e R s m args below meth c T locs cells slots) (hexec : p.tables.exec = Jvm.exec) {own C : String} {index : Nat} {y : MethodName} {bytes : ByteArray} {maxL : Nat} {ret : Option FieldType} {hh : List (Nat × Nat × Nat × Nat)}
    (hown : s.vm.findClass own = some m.cls) (hlink : (Cond.methodLink own index y).before args s = true) (hinst : (Cond.instanceMethod y).before args s = true) (hsel : (Cond.selects C y y).before args s = true)
    (hcode : (Cond.codeWith y bytes maxL ret hh).before args s = true) (hy : y.cls ≠ "java/lang/invoke/MethodHandle" ∧ y.cls ≠ "java/lang/invoke/VarHandle")
    {W9 : Nat} {Pre : Pt → Array Value → Prop} {Post : Pt → Array Value → Option Value → Pt → Prop} (hK : Back l R p e below s args y 3 W9 Pre Post)
    {b : Addr} {cellB : Cell} (hcell : T.heap[b]? = some cellB) (hobj : cellB.vm.isStatics = false) (hcls : s.vm.findClass C = some cellB.cls)
    {g : JFrame} (hg : g.method = m) (hsize : g.locals.size = c.maxLocals) {argsL rest : List Value} (hlen : ∀ sig, parseMethodDescriptor y.desc = some sig → argsL.length = sig.parameters.length)
    (hstack : g.stack = argsL.reverse ++ .ref b :: rest) (hW : 2 * g.monitorRoom + (rest.map fun v => v.category).sum ≤ W9) (hdg : decode c.code g.pc = .ok (.invokevirtual index, 3))
    (hpre : ∀ vm₁, s.WarmedH vm₁ → Pre ⟨T.setVm vm₁, locs, cells, slots⟩ (Value.ref b :: argsL).toArray) :
    ∃ (v : Option Value) (vm₁ : Vm) (B : Pt), s.WarmedH vm₁ ∧ Stand p l e R s m args below meth c B.U B.locs B.cells B.slots ∧ Post ⟨T.setVm vm₁, locs, cells, slots⟩ (Value.ref b :: argsL).toArray v B ∧
      ∀ target, Steps p.tables e below (B.U.setTop { g with pc := g.pc + 3, stack := v.toList ++ rest }) target → Steps p.tables e below (T.setTop g) target := by
  obtain ⟨mk, methM, hnamed, hmethM, hstM, habM⟩ := Cond.instanceMethod_spec hinst
  obtain ⟨m8, methM', cM, hn8, hmethM', -, -, -, -, -, -, hsigM⟩ := Cond.codeWith_spec hcode
  cases Option.some.inj (hn8.symm.trans hnamed)
  cases hmethM.symm.trans hmethM'
  obtain ⟨c2, r2, m2, q1, q2, q3, q4, kP, hkP, hkPi⟩ := Cond.selects_spec hsel
  cases hcls.symm.trans q1
  cases (State.methodFound?_of_named hnamed hy).symm.trans q2
  cases hnamed.symm.trans q3
  have hselP : selectMethod e.platform s.vm cellB.cls mk = .method mk := by rw [Launch.admits_selectMethod X.admits]; exact q4
  obtain ⟨vm₁, X₁, hstep₁⟩ := X.invokevirtual hexec hown hlink hnamed hmethM hstM hkP hkPi hy (a := b) (cell := cellB) hcell
    (fun z h => by rw [h] at hobj; cases hobj) hselP hmethM habM hkP hkPi (g := g) hg (argsL := argsL) (rest := rest) (hlen _ hsigM) hstack hdg
  obtain ⟨v, B, X', hpost, hsteps⟩ := hK m meth c ⟨T.setVm vm₁, locs, cells, slots⟩ { g with stack := rest } (.invokevirtual index) mk (Value.ref b :: argsL).toArray X₁ hg hsize hdg hW (X₁.named hnamed) (hpre vm₁ X₁.warmed)
  exact ⟨v, vm₁, B, X₁.warmed, X', hpost, fun target h => hstep₁ _ fun acts => by rw [doInvoke_state]; exact hsteps.trans h⟩
abbrev vx_CVW (R : Room) (s : State) (args : Array Value) (own C : String) (index : Nat) (y : MethodName) (bytes : ByteArray) (maxL : Nat) (ret : Option FieldType) (hh : List (Nat × Nat × Nat × Nat)) (ws : List Cond) (rm : Room) (mc ms n : Nat) : Prop :=
  (rm.cells = mc ∧ rm.slots = ms ∧ rm.frames + 1 ≤ R.frames ∧ 8 + (maxL + 11) + rm.locals ≤ R.locals ∧ (∀ w ∈ ws, ∀ (a' : Array Value) (U : State), s.WarmedH U.vm → w.before a' U = true) ∧ Cond.codeWith y bytes maxL ret hh ∈ ws) ∧
  (Cond.codeWith y bytes maxL ret hh).before args s = true ∧ (Cond.initialized y.cls).before args s = true ∧ (y.cls ≠ "java/lang/invoke/MethodHandle" ∧ y.cls ≠ "java/lang/invoke/VarHandle") ∧
  (∀ sig, parseMethodDescriptor y.desc = some sig → n = sig.parameters.length) ∧ (Cond.methodLink own index y).before args s = true ∧ (Cond.instanceMethod y).before args s = true ∧ (Cond.selects C y y).before args s = true
theorem vx_cwVW {own C : String} {index maxL mc ms : Nat} {y : MethodName} {bytes : ByteArray} {ret : Option FieldType} {hh : List (Nat × Nat × Nat × Nat)} {Ts ws ws' : List Cond} {rm : Room} (n : Nat) (ht : ∀ w ∈ Ts, w.before args s = true) (hT : GoodIn Ts (wsV own index C y ws)) (hw : ws = Cond.codeWith y bytes maxL ret hh :: ws') (hrc : rm.cells = mc) (hrs : rm.slots = ms)
    (hd : y.cls = C ∧ y.cls ≠ "java/lang/invoke/MethodHandle" ∧ y.cls ≠ "java/lang/invoke/VarHandle" ∧ (parseMethodDescriptor y.desc).map (fun d => d.parameters.length) = some n) (hR : rm.frames + 1 ≤ R.frames ∧ 8 + (maxL + 11) + rm.locals ≤ R.locals) :
    vx_CVW R s args own C index y bytes maxL ret hh ws rm mc ms n := by
  obtain ⟨hC, hd⟩ := hd
  subst hC
  have ok : ∀ w ∈ wsV own index y.cls y ws, w.before args s = true := fun w h => ht w (hT w h).1
  have hG : GoodIn Ts ws := fun w h => hT w (by unfold wsV; exact List.mem_append_right _ h)
  have hc : Cond.codeWith y bytes maxL ret hh ∈ ws := by rw [hw]; exact List.mem_cons_self
  refine ⟨⟨hrc, hrs, hR.1, hR.2, pay_in ht hG, hc⟩, ht _ (hG _ hc).1, ok _ (by simp [wsV]), ⟨hd.1, hd.2.1⟩, fun sig h => ?_, ok _ (by simp [wsV]), ok _ (by simp [wsV]), ok _ (by simp [wsV])⟩
  have h2 := hd.2.2
  rw [h] at h2
  exact (Option.some.inj h2).symm
theorem vx_runVW {y : MethodName} {bytes cc : ByteArray} {maxL nL mc ms n index : Nat} {ret : Option FieldType} {hh : List (Nat × Nat × Nat × Nat)} {ws : List Cond} {rm : Room} {Pc : Array Value → State → Prop} {Qc : Array Value → State → Outcome → State → Prop} {free : Addr → Prop} {Ts : List Cond} {own C : String} {b : Addr} {As rest : List Value} {g : JFrame}
    (S : CallFix p m c cc nL s args Ts own) (hM : Met l y ws rm Pc Qc mc ms free) (cw : vx_CVW R s args own C index y bytes maxL ret hh ws rm mc ms n) (hp : PreV s H C b Pc As)
    (hg : g.method = m) (hn : As.length = n) (hsize : g.locals.size = nL) (hstack : g.stack = As.reverse ++ .ref b :: rest) (hW : 2 * g.monitorRoom + (rest.map fun v => v.category).sum ≤ 8) (hdg : decode cc g.pc = .ok (.invokevirtual index, 3)) (hf : cells + mc ≤ R.cells ∧ slots + ms ≤ R.slots) :
    va_Run p l e R s m args below meth c H locs cells slots mc ms g rest (Qc (Value.ref b :: As).toArray) free := by
  obtain ⟨⟨hrc, hrs, hfr, hlo, hws, hcw⟩, hcode, hini, hy, hlen, hl, hin, hse⟩ := cw
  have hK : Back l R p e below s args y 3 8 (PreOf R mc ms Pc) (PostOf Qc mc ms free) := va_backW (hh := hh) (bytes := bytes) (maxL := maxL) (ret := ret) hM hp.1 hrc hrs hfr hlo hws hcw (fun a' U hW => word_at hW (Or.inl (by first | rfl | simp [Cond.onTables, Cond.keeps, Cond.steady])) hini)
  obtain ⟨hx, hb, hml, ho, -⟩ := S
  obtain ⟨-, ⟨cellB, hcB, hoB, hclB⟩, hPc⟩ := hp
  intro T hT X
  obtain ⟨v, vm₁, ⟨U', l2, c2, s2⟩, hW₁, X', ⟨g', mk, t, L, e1, e2, hq, h1, hL, h2, h3⟩, st⟩ := vx_callVW X hx (C := C) (hh := hh) (bytes := bytes) (maxL := maxL) (ret := ret) ho hl hin hse hcode hy hK (by rw [hT]; exact hcB) hoB hclB hg (hsize.trans hml.symm) (argsL := As) (rest := rest) (fun sig h => hn.trans (hlen sig h)) hstack hW (by rw [hb]; exact hdg)
    (fun vm₁ hW₁ => ⟨hf.1, hf.2, hPc (T.setVm vm₁) hT hW₁⟩)
  dsimp only [Pt.U, Pt.locs, Pt.cells, Pt.slots] at X' e1 e2 h1 h2 h3 st
  subst h1; subst h2; subst h3
  exact ⟨v, (T.setVm vm₁).calling g' mk (Value.ref b :: As).toArray, t, U', L, hT, X', hL, e1, e2, hq, st⟩
section
variable {y : MethodName} {bytes cc : ByteArray} {maxL nL mc ms n index : Nat} {ret : Option FieldType} {ws : List Cond} {rm : Room} {Pc : Array Value → State → Prop} {Qc : Array Value → State → Outcome → State → Prop} {XC : String → State → State → Prop} {free : Addr → Prop} {Ts : List Cond} {own C : String} {b : Addr} {As rest : List Value} {g : JFrame}
theorem vx_runVX {hh : List (Nat × Nat × Nat × Nat)} (S : CallFix p m c cc nL s args Ts own) (hM : vx_Met l y ws rm Pc Qc XC mc ms free) (cw : vx_CVW R s args own C index y bytes maxL ret hh ws rm mc ms n) (hp : PreV s H C b Pc As)
    (hg : g.method = m) (hn : As.length = n) (hsize : g.locals.size = nL) (hstack : g.stack = As.reverse ++ .ref b :: rest) (hW : 2 * g.monitorRoom + (rest.map fun v => v.category).sum ≤ 8) (hdg : decode cc g.pc = .ok (.invokevirtual index, 3)) (hf : cells + mc ≤ R.cells ∧ slots + ms ≤ R.slots) :
    vx_Run p l e R s m args below meth c H locs cells slots mc ms g rest (Qc (Value.ref b :: As).toArray) XC free := by
  obtain ⟨⟨hrc, hrs, hfr, hlo, hws, hcw⟩, hcode, hini, hy, hlen, hl, hin, hse⟩ := cw
  have hK : vx_Back l R p e below s args y 3 8 (PreOf R mc ms Pc) (PostOf Qc mc ms free) (vx_Post XC mc ms free) := vx_backW (hh := hh) (bytes := bytes) (maxL := maxL) (ret := ret) hM hp.1 hrc hrs hfr hlo hws hcw (fun a' U hW => word_at hW (Or.inl (by first | rfl | simp [Cond.onTables, Cond.keeps, Cond.steady])) hini)
  obtain ⟨hx, hb, hml, ho, -⟩ := S
  obtain ⟨-, ⟨cellB, hcB, hoB, hclB⟩, hPc⟩ := hp
  intro T hT X
  rcases vx_callVX X hx (C := C) (hh := hh) (bytes := bytes) (maxL := maxL) (ret := ret) ho hl hin hse hcode hy hK (by rw [hT]; exact hcB) hoB hclB hg (hsize.trans hml.symm) (argsL := As) (rest := rest) (fun sig h => hn.trans (hlen sig h)) hstack hW (by rw [hb]; exact hdg)
    (fun vm₁ hW₁ => ⟨hf.1, hf.2, hPc (T.setVm vm₁) hT hW₁⟩) with ⟨v, vm₁, ⟨U', l2, c2, s2⟩, hW₁, X', ⟨g', mk, t, L, e1, e2, hq, h1, hL, h2, h3⟩, st⟩ | ⟨q, vm₁, ⟨U', l2, c2, s2⟩, hW₁, X', ⟨g', mk, t, L, E, ce, e1, e2, hq, hce, hcv, hcl, h1, hL, h2, h3⟩, st⟩
  · dsimp only [Pt.U, Pt.locs, Pt.cells, Pt.slots] at X' e1 e2 h1 h2 h3 st
    subst h1; subst h2; subst h3
    exact Or.inl ⟨v, (T.setVm vm₁).calling g' mk (Value.ref b :: As).toArray, t, U', L, hT, X', hL, e1, e2, hq, st⟩
  · dsimp only [Pt.U, Pt.locs, Pt.cells, Pt.slots] at X' e1 e2 h1 h2 h3 st hcl
    subst h1; subst h2; subst h3
    exact Or.inr ⟨q, (T.setVm vm₁).calling g' mk (Value.ref b :: As).toArray, t, U', L, E, ce, hT, X', hL, e1, e2, hq, hce, hcv, vx_cls hW₁ hcl, st⟩
theorem vx_runSX {hh : List (Nat × Nat × Nat × Nat)} (S : CallFix p m c cc nL s args Ts own) (hM : vx_Met l y ws rm Pc Qc XC mc ms free) (cw : vx_CSW R s args own index y bytes maxL ret hh ws rm mc ms n) (hp : PreS s H Pc As)
    (hg : g.method = m) (hn : As.length = n) (hsize : g.locals.size = nL) (hstack : g.stack = As.reverse ++ rest) (hW : 2 * g.monitorRoom + (rest.map fun v => v.category).sum ≤ 8) (hdg : decode cc g.pc = .ok (.invokestatic index, 3)) (hf : cells + mc ≤ R.cells ∧ slots + ms ≤ R.slots) :
    vx_Run p l e R s m args below meth c H locs cells slots mc ms g rest (Qc As.toArray) XC free := by
  obtain ⟨⟨hrc, hrs, hfr, hlo, hws, hcw⟩, hcode, hini, hy, hlen, hl, hstt⟩ := cw
  have hK : vx_Back l R p e below s args y 3 8 (PreOf R mc ms Pc) (PostOf Qc mc ms free) (vx_Post XC mc ms free) := vx_backW (hh := hh) (bytes := bytes) (maxL := maxL) (ret := ret) hM hp.1 hrc hrs hfr hlo hws hcw (fun a' U hW => word_at hW (Or.inl (by first | rfl | simp [Cond.onTables, Cond.keeps, Cond.steady])) hini)
  obtain ⟨hx, hb, hml, ho, -⟩ := S
  intro T hT X
  rcases vx_callSX X hx (hh := hh) (bytes := bytes) (maxL := maxL) (ret := ret) ho hl hstt hini hcode hy hK hg (hsize.trans hml.symm) (argsL := As) (rest := rest) (fun sig h => hn.trans (hlen sig h)) hstack hW (by rw [hb]; exact hdg)
    (fun vm₁ hW₁ => ⟨hf.1, hf.2, hp.2 (T.setVm vm₁) hT hW₁⟩) with ⟨v, vm₁, ⟨U', l2, c2, s2⟩, hW₁, X', ⟨g', mk, t, L, e1, e2, hq, h1, hL, h2, h3⟩, st⟩ | ⟨q, vm₁, ⟨U', l2, c2, s2⟩, hW₁, X', ⟨g', mk, t, L, E, ce, e1, e2, hq, hce, hcv, hcl, h1, hL, h2, h3⟩, st⟩
  · dsimp only [Pt.U, Pt.locs, Pt.cells, Pt.slots] at X' e1 e2 h1 h2 h3 st
    subst h1; subst h2; subst h3
    exact Or.inl ⟨v, (T.setVm vm₁).calling g' mk As.toArray, t, U', L, hT, X', hL, e1, e2, hq, st⟩
  · dsimp only [Pt.U, Pt.locs, Pt.cells, Pt.slots] at X' e1 e2 h1 h2 h3 st hcl
    subst h1; subst h2; subst h3
    exact Or.inr ⟨q, (T.setVm vm₁).calling g' mk As.toArray, t, U', L, E, ce, hT, X', hL, e1, e2, hq, hce, hcv, vx_cls hW₁ hcl, st⟩
end
end VXH
theorem vx_ofWH {l : Launch} {y : MethodName} {ws ws' : List Cond} {rm : Room} {Pc : Array Value → State → Prop} {Qc : Array Value → State → Outcome → State → Prop} {XC : String → State → State → Prop} {mc ms : Nat} {free : Addr → Prop} {cc : ByteArray} {maxL : Nat} {ret : Option FieldType} {hh : List (Nat × Nat × Nat × Nat)}
    (hy : plainName y.cls = true) (hw : ws = Cond.codeWith y cc maxL ret hh :: ws')
    (body : ∀ p e s m args below meth c s₁, BodyLoose p l y (headSpec ws rm) cc maxL ret e s m args below meth c s₁ → c.maxLocals = maxL → Pc args s →
      W p l e (headSpec ws rm).room s m args below meth c s.heap [] 0 0 (vx_MQ below Qc XC args s mc ms free) (entryFrame m args maxL)) : vx_Met l y ws rm Pc Qc XC mc ms free := by
  refine MetFree.of_bodyS (code := cc) (maxLocals := maxL) (ret := ret) hy ?_ ?_
  · intro args s m h hn
    obtain ⟨m9, meth, c, hn9, h1, h2, h3, h4, -, h5, h6, -⟩ := Cond.codeWith_spec (atoms_spec (ws := ws) h _ (by rw [hw]; exact List.mem_cons_self))
    cases hn.symm.trans hn9
    exact ⟨meth, c, h1, h2, h3, h4, h5, h6⟩
  · intro p e s m args below meth c s₁ B hml hP _
    have hh0 : s₁.heap = s.heap := by rw [B.state]; rfl
    obtain ⟨t, a1, o, b1, b2, b3⟩ := body p e s m args below meth c s₁ B hml hP s₁ hh0 (Stand.of_body B)
    exact ⟨t, o, a1, b1, b2, b3⟩
/-! ===== END ===== -/

-- ===== PART A: goes FIRST, ahead of the names: the tables' words, and 'selects' of the private methods out of them =====
/-- a private method of a class that the tables say can be made, by its rows of tables_1 -/
def lw_okq (q : MethodName × Nat) : Prop := (q.1.cls ≠ "java/lang/invoke/MethodHandle" ∧ q.1.cls ≠ "java/lang/invoke/VarHandle") ∧ Cond.instantiable q.1.cls q.2 ∈ tables_1 ∧ Cond.privateMethod q.1 ∈ tables_1 ∧ Cond.instanceMethod q.1 ∈ tables_1
theorem lw_p0 : lw_okq (⟨"LibraryVan$World", "lanesTooMuddy", "()I"⟩, 9) := ⟨⟨by decide +kernel, by decide +kernel⟩, List.mem_of_getElem? (i := 37) (by decide +kernel), List.mem_of_getElem? (i := 192) (by decide +kernel), List.mem_of_getElem? (i := 193) (by decide +kernel)⟩
theorem lw_p1 : lw_okq (⟨"LibraryVan$World", "rainOf", "(I)I"⟩, 9) := ⟨⟨by decide +kernel, by decide +kernel⟩, List.mem_of_getElem? (i := 37) (by decide +kernel), List.mem_of_getElem? (i := 205) (by decide +kernel), List.mem_of_getElem? (i := 206) (by decide +kernel)⟩
theorem lw_p2 : lw_okq (⟨"LibraryVan$World", "readersAt", "(I)I"⟩, 9) := ⟨⟨by decide +kernel, by decide +kernel⟩, List.mem_of_getElem? (i := 37) (by decide +kernel), List.mem_of_getElem? (i := 226) (by decide +kernel), List.mem_of_getElem? (i := 227) (by decide +kernel)⟩
theorem lw_p3 : lw_okq (⟨"LibraryVan$World", "lanesAt", "(I)I"⟩, 9) := ⟨⟨by decide +kernel, by decide +kernel⟩, List.mem_of_getElem? (i := 37) (by decide +kernel), List.mem_of_getElem? (i := 230) (by decide +kernel), List.mem_of_getElem? (i := 231) (by decide +kernel)⟩
theorem lw_p4 : lw_okq (⟨"LibraryVan$World", "readersWhoRead", "(I)I"⟩, 9) := ⟨⟨by decide +kernel, by decide +kernel⟩, List.mem_of_getElem? (i := 37) (by decide +kernel), List.mem_of_getElem? (i := 263) (by decide +kernel), List.mem_of_getElem? (i := 264) (by decide +kernel)⟩
theorem lw_p5 : lw_okq (⟨"LibraryVan$World", "booksReservedBy", "(I)I"⟩, 9) := ⟨⟨by decide +kernel, by decide +kernel⟩, List.mem_of_getElem? (i := 37) (by decide +kernel), List.mem_of_getElem? (i := 285) (by decide +kernel), List.mem_of_getElem? (i := 286) (by decide +kernel)⟩
theorem lw_p6 : lw_okq (⟨"java/lang/Throwable", "fillInStackTrace", "(I)Ljava/lang/Throwable;"⟩, 6) := ⟨⟨by decide +kernel, by decide +kernel⟩, List.mem_of_getElem? (i := 340) (by decide +kernel), List.mem_of_getElem? (i := 338) (by decide +kernel), List.mem_of_getElem? (i := 339) (by decide +kernel)⟩
theorem lw_p7 : lw_okq (⟨"java/util/ArrayList", "add", "(Ljava/lang/Object;[Ljava/lang/Object;I)V"⟩, 3) := ⟨⟨by decide +kernel, by decide +kernel⟩, List.mem_of_getElem? (i := 43) (by decide +kernel), List.mem_of_getElem? (i := 389) (by decide +kernel), List.mem_of_getElem? (i := 390) (by decide +kernel)⟩
theorem lw_p8 : lw_okq (⟨"java/util/ArrayList", "grow", "()[Ljava/lang/Object;"⟩, 3) := ⟨⟨by decide +kernel, by decide +kernel⟩, List.mem_of_getElem? (i := 43) (by decide +kernel), List.mem_of_getElem? (i := 393) (by decide +kernel), List.mem_of_getElem? (i := 394) (by decide +kernel)⟩
theorem lw_p9 : lw_okq (⟨"java/util/ArrayList", "grow", "(I)[Ljava/lang/Object;"⟩, 3) := ⟨⟨by decide +kernel, by decide +kernel⟩, List.mem_of_getElem? (i := 43) (by decide +kernel), List.mem_of_getElem? (i := 397) (by decide +kernel), List.mem_of_getElem? (i := 398) (by decide +kernel)⟩
theorem lw_p10 : lw_okq (⟨"LibraryVan", "needHalt", "(I)V"⟩, 2) := ⟨⟨by decide +kernel, by decide +kernel⟩, List.mem_of_getElem? (i := 29) (by decide +kernel), List.mem_of_getElem? (i := 456) (by decide +kernel), List.mem_of_getElem? (i := 457) (by decide +kernel)⟩
theorem lw_p11 : lw_okq (⟨"LibraryVan$Ways", "shorten", "(III)V"⟩, 1) := ⟨⟨by decide +kernel, by decide +kernel⟩, List.mem_of_getElem? (i := 69) (by decide +kernel), List.mem_of_getElem? (i := 603) (by decide +kernel), List.mem_of_getElem? (i := 604) (by decide +kernel)⟩
theorem lw_p12 : lw_okq (⟨"LibraryVan", "needReader", "(I)V"⟩, 2) := ⟨⟨by decide +kernel, by decide +kernel⟩, List.mem_of_getElem? (i := 29) (by decide +kernel), List.mem_of_getElem? (i := 728) (by decide +kernel), List.mem_of_getElem? (i := 729) (by decide +kernel)⟩
theorem lw_p13 : lw_okq (⟨"LibraryVan", "needBook", "(I)V"⟩, 2) := ⟨⟨by decide +kernel, by decide +kernel⟩, List.mem_of_getElem? (i := 29) (by decide +kernel), List.mem_of_getElem? (i := 732) (by decide +kernel), List.mem_of_getElem? (i := 733) (by decide +kernel)⟩
theorem lw_p14 : lw_okq (⟨"LibraryVan$World", "weather", "()V"⟩, 9) := ⟨⟨by decide +kernel, by decide +kernel⟩, List.mem_of_getElem? (i := 37) (by decide +kernel), List.mem_of_getElem? (i := 795) (by decide +kernel), List.mem_of_getElem? (i := 796) (by decide +kernel)⟩
theorem lw_p15 : lw_okq (⟨"LibraryVan$World", "goRound", "()V"⟩, 9) := ⟨⟨by decide +kernel, by decide +kernel⟩, List.mem_of_getElem? (i := 37) (by decide +kernel), List.mem_of_getElem? (i := 808) (by decide +kernel), List.mem_of_getElem? (i := 809) (by decide +kernel)⟩
def lw_privs_1 : List (MethodName × Nat) := [(⟨"LibraryVan$World", "lanesTooMuddy", "()I"⟩, 9), (⟨"LibraryVan$World", "rainOf", "(I)I"⟩, 9), (⟨"LibraryVan$World", "readersAt", "(I)I"⟩, 9), (⟨"LibraryVan$World", "lanesAt", "(I)I"⟩, 9), (⟨"LibraryVan$World", "readersWhoRead", "(I)I"⟩, 9), (⟨"LibraryVan$World", "booksReservedBy", "(I)I"⟩, 9), (⟨"java/lang/Throwable", "fillInStackTrace", "(I)Ljava/lang/Throwable;"⟩, 6), (⟨"java/util/ArrayList", "add", "(Ljava/lang/Object;[Ljava/lang/Object;I)V"⟩, 3), (⟨"java/util/ArrayList", "grow", "()[Ljava/lang/Object;"⟩, 3), (⟨"java/util/ArrayList", "grow", "(I)[Ljava/lang/Object;"⟩, 3), (⟨"LibraryVan", "needHalt", "(I)V"⟩, 2), (⟨"LibraryVan$Ways", "shorten", "(III)V"⟩, 1), (⟨"LibraryVan", "needReader", "(I)V"⟩, 2), (⟨"LibraryVan", "needBook", "(I)V"⟩, 2), (⟨"LibraryVan$World", "weather", "()V"⟩, 9), (⟨"LibraryVan$World", "goRound", "()V"⟩, 9)]
theorem lw_r1 : ∀ q ∈ lw_privs_1, lw_okq q := List.forall_mem_cons.mpr ⟨lw_p0, List.forall_mem_cons.mpr ⟨lw_p1, List.forall_mem_cons.mpr ⟨lw_p2, List.forall_mem_cons.mpr ⟨lw_p3, List.forall_mem_cons.mpr ⟨lw_p4, List.forall_mem_cons.mpr ⟨lw_p5, List.forall_mem_cons.mpr ⟨lw_p6, List.forall_mem_cons.mpr ⟨lw_p7, List.forall_mem_cons.mpr ⟨lw_p8, List.forall_mem_cons.mpr ⟨lw_p9, List.forall_mem_cons.mpr ⟨lw_p10, List.forall_mem_cons.mpr ⟨lw_p11, List.forall_mem_cons.mpr ⟨lw_p12, List.forall_mem_cons.mpr ⟨lw_p13, List.forall_mem_cons.mpr ⟨lw_p14, List.forall_mem_cons.mpr ⟨lw_p15, fun _ h => absurd h List.not_mem_nil⟩⟩⟩⟩⟩⟩⟩⟩⟩⟩⟩⟩⟩⟩⟩⟩
theorem lw_p16 : lw_okq (⟨"LibraryVan$World", "takeBooksBack", "(I)V"⟩, 9) := ⟨⟨by decide +kernel, by decide +kernel⟩, List.mem_of_getElem? (i := 37) (by decide +kernel), List.mem_of_getElem? (i := 812) (by decide +kernel), List.mem_of_getElem? (i := 813) (by decide +kernel)⟩
theorem lw_p17 : lw_okq (⟨"LibraryVan$World", "readerWith", "(I)LLibraryVan$Reader;"⟩, 9) := ⟨⟨by decide +kernel, by decide +kernel⟩, List.mem_of_getElem? (i := 37) (by decide +kernel), List.mem_of_getElem? (i := 816) (by decide +kernel), List.mem_of_getElem? (i := 817) (by decide +kernel)⟩
theorem lw_p18 : lw_okq (⟨"LibraryVan$World", "lendReservedBooks", "(I)V"⟩, 9) := ⟨⟨by decide +kernel, by decide +kernel⟩, List.mem_of_getElem? (i := 37) (by decide +kernel), List.mem_of_getElem? (i := 824) (by decide +kernel), List.mem_of_getElem? (i := 825) (by decide +kernel)⟩
theorem lw_p19 : lw_okq (⟨"LibraryVan$World", "lendOtherBooks", "(I)V"⟩, 9) := ⟨⟨by decide +kernel, by decide +kernel⟩, List.mem_of_getElem? (i := 37) (by decide +kernel), List.mem_of_getElem? (i := 837) (by decide +kernel), List.mem_of_getElem? (i := 838) (by decide +kernel)⟩
theorem lw_p20 : lw_okq (⟨"LibraryVan$World", "lendOtherBookTo", "(LLibraryVan$Reader;)V"⟩, 9) := ⟨⟨by decide +kernel, by decide +kernel⟩, List.mem_of_getElem? (i := 37) (by decide +kernel), List.mem_of_getElem? (i := 841) (by decide +kernel), List.mem_of_getElem? (i := 842) (by decide +kernel)⟩
theorem lw_p21 : lw_okq (⟨"LibraryVan$World", "noteVisit", "(IZ)V"⟩, 9) := ⟨⟨by decide +kernel, by decide +kernel⟩, List.mem_of_getElem? (i := 37) (by decide +kernel), List.mem_of_getElem? (i := 845) (by decide +kernel), List.mem_of_getElem? (i := 846) (by decide +kernel)⟩
theorem lw_p22 : lw_okq (⟨"LibraryVan", "loansAhead", "(II)I"⟩, 2) := ⟨⟨by decide +kernel, by decide +kernel⟩, List.mem_of_getElem? (i := 29) (by decide +kernel), List.mem_of_getElem? (i := 922) (by decide +kernel), List.mem_of_getElem? (i := 923) (by decide +kernel)⟩
theorem lw_p23 : lw_okq (⟨"LibraryVanModel", "no", "(I)I"⟩, 13) := ⟨⟨by decide +kernel, by decide +kernel⟩, List.mem_of_getElem? (i := 927) (by decide +kernel), List.mem_of_getElem? (i := 1065) (by decide +kernel), List.mem_of_getElem? (i := 1066) (by decide +kernel)⟩
theorem lw_p24 : lw_okq (⟨"LibraryVanModel", "isHalt", "(I)Z"⟩, 13) := ⟨⟨by decide +kernel, by decide +kernel⟩, List.mem_of_getElem? (i := 927) (by decide +kernel), List.mem_of_getElem? (i := 1073) (by decide +kernel), List.mem_of_getElem? (i := 1074) (by decide +kernel)⟩
theorem lw_p25 : lw_okq (⟨"LibraryVanModel", "haltTold", "(II)I"⟩, 13) := ⟨⟨by decide +kernel, by decide +kernel⟩, List.mem_of_getElem? (i := 927) (by decide +kernel), List.mem_of_getElem? (i := 1094) (by decide +kernel), List.mem_of_getElem? (i := 1095) (by decide +kernel)⟩
theorem lw_p26 : lw_okq (⟨"LibraryVanModel", "laneTold", "(II)I"⟩, 13) := ⟨⟨by decide +kernel, by decide +kernel⟩, List.mem_of_getElem? (i := 927) (by decide +kernel), List.mem_of_getElem? (i := 1102) (by decide +kernel), List.mem_of_getElem? (i := 1103) (by decide +kernel)⟩
theorem lw_p27 : lw_okq (⟨"LibraryVanModel$State", "relax", "(III)Z"⟩, 17) := ⟨⟨by decide +kernel, by decide +kernel⟩, List.mem_of_getElem? (i := 933) (by decide +kernel), List.mem_of_getElem? (i := 1120) (by decide +kernel), List.mem_of_getElem? (i := 1121) (by decide +kernel)⟩
theorem lw_p28 : lw_okq (⟨"LibraryVanModel", "isReader", "(I)Z"⟩, 13) := ⟨⟨by decide +kernel, by decide +kernel⟩, List.mem_of_getElem? (i := 927) (by decide +kernel), List.mem_of_getElem? (i := 1137) (by decide +kernel), List.mem_of_getElem? (i := 1138) (by decide +kernel)⟩
theorem lw_p29 : lw_okq (⟨"LibraryVanModel", "isBook", "(I)Z"⟩, 13) := ⟨⟨by decide +kernel, by decide +kernel⟩, List.mem_of_getElem? (i := 927) (by decide +kernel), List.mem_of_getElem? (i := 1141) (by decide +kernel), List.mem_of_getElem? (i := 1142) (by decide +kernel)⟩
theorem lw_p30 : lw_okq (⟨"LibraryVanModel", "bookTold", "(II)I"⟩, 13) := ⟨⟨by decide +kernel, by decide +kernel⟩, List.mem_of_getElem? (i := 927) (by decide +kernel), List.mem_of_getElem? (i := 1161) (by decide +kernel), List.mem_of_getElem? (i := 1162) (by decide +kernel)⟩
theorem lw_p31 : lw_okq (⟨"LibraryVanModel", "readerTold", "(II)I"⟩, 13) := ⟨⟨by decide +kernel, by decide +kernel⟩, List.mem_of_getElem? (i := 927) (by decide +kernel), List.mem_of_getElem? (i := 1169) (by decide +kernel), List.mem_of_getElem? (i := 1170) (by decide +kernel)⟩
def lw_privs_2 : List (MethodName × Nat) := [(⟨"LibraryVan$World", "takeBooksBack", "(I)V"⟩, 9), (⟨"LibraryVan$World", "readerWith", "(I)LLibraryVan$Reader;"⟩, 9), (⟨"LibraryVan$World", "lendReservedBooks", "(I)V"⟩, 9), (⟨"LibraryVan$World", "lendOtherBooks", "(I)V"⟩, 9), (⟨"LibraryVan$World", "lendOtherBookTo", "(LLibraryVan$Reader;)V"⟩, 9), (⟨"LibraryVan$World", "noteVisit", "(IZ)V"⟩, 9), (⟨"LibraryVan", "loansAhead", "(II)I"⟩, 2), (⟨"LibraryVanModel", "no", "(I)I"⟩, 13), (⟨"LibraryVanModel", "isHalt", "(I)Z"⟩, 13), (⟨"LibraryVanModel", "haltTold", "(II)I"⟩, 13), (⟨"LibraryVanModel", "laneTold", "(II)I"⟩, 13), (⟨"LibraryVanModel$State", "relax", "(III)Z"⟩, 17), (⟨"LibraryVanModel", "isReader", "(I)Z"⟩, 13), (⟨"LibraryVanModel", "isBook", "(I)Z"⟩, 13), (⟨"LibraryVanModel", "bookTold", "(II)I"⟩, 13), (⟨"LibraryVanModel", "readerTold", "(II)I"⟩, 13)]
theorem lw_r2 : ∀ q ∈ lw_privs_2, lw_okq q := List.forall_mem_cons.mpr ⟨lw_p16, List.forall_mem_cons.mpr ⟨lw_p17, List.forall_mem_cons.mpr ⟨lw_p18, List.forall_mem_cons.mpr ⟨lw_p19, List.forall_mem_cons.mpr ⟨lw_p20, List.forall_mem_cons.mpr ⟨lw_p21, List.forall_mem_cons.mpr ⟨lw_p22, List.forall_mem_cons.mpr ⟨lw_p23, List.forall_mem_cons.mpr ⟨lw_p24, List.forall_mem_cons.mpr ⟨lw_p25, List.forall_mem_cons.mpr ⟨lw_p26, List.forall_mem_cons.mpr ⟨lw_p27, List.forall_mem_cons.mpr ⟨lw_p28, List.forall_mem_cons.mpr ⟨lw_p29, List.forall_mem_cons.mpr ⟨lw_p30, List.forall_mem_cons.mpr ⟨lw_p31, fun _ h => absurd h List.not_mem_nil⟩⟩⟩⟩⟩⟩⟩⟩⟩⟩⟩⟩⟩⟩⟩⟩
theorem lw_p32 : lw_okq (⟨"LibraryVanModel$State", "serve", "(I)V"⟩, 17) := ⟨⟨by decide +kernel, by decide +kernel⟩, List.mem_of_getElem? (i := 933) (by decide +kernel), List.mem_of_getElem? (i := 1196) (by decide +kernel), List.mem_of_getElem? (i := 1197) (by decide +kernel)⟩
theorem lw_p33 : lw_okq (⟨"LibraryVanModel$State", "bringBack", "(I)V"⟩, 17) := ⟨⟨by decide +kernel, by decide +kernel⟩, List.mem_of_getElem? (i := 933) (by decide +kernel), List.mem_of_getElem? (i := 1200) (by decide +kernel), List.mem_of_getElem? (i := 1201) (by decide +kernel)⟩
theorem lw_p34 : lw_okq (⟨"LibraryVanModel$State", "lend", "(II)V"⟩, 17) := ⟨⟨by decide +kernel, by decide +kernel⟩, List.mem_of_getElem? (i := 933) (by decide +kernel), List.mem_of_getElem? (i := 1206) (by decide +kernel), List.mem_of_getElem? (i := 1207) (by decide +kernel)⟩
theorem lw_p35 : lw_okq (⟨"LibraryVanModel$State", "choose", "(I)V"⟩, 17) := ⟨⟨by decide +kernel, by decide +kernel⟩, List.mem_of_getElem? (i := 933) (by decide +kernel), List.mem_of_getElem? (i := 1210) (by decide +kernel), List.mem_of_getElem? (i := 1211) (by decide +kernel)⟩
theorem lw_p36 : lw_okq (⟨"LibraryVanModel", "counted", "(I)I"⟩, 13) := ⟨⟨by decide +kernel, by decide +kernel⟩, List.mem_of_getElem? (i := 927) (by decide +kernel), List.mem_of_getElem? (i := 1218) (by decide +kernel), List.mem_of_getElem? (i := 1219) (by decide +kernel)⟩
theorem lw_p37 : lw_okq (⟨"LibraryVanModel$State", "copy", "([I[I)V"⟩, 17) := ⟨⟨by decide +kernel, by decide +kernel⟩, List.mem_of_getElem? (i := 933) (by decide +kernel), List.mem_of_getElem? (i := 1234) (by decide +kernel), List.mem_of_getElem? (i := 1235) (by decide +kernel)⟩
def lw_privs_3 : List (MethodName × Nat) := [(⟨"LibraryVanModel$State", "serve", "(I)V"⟩, 17), (⟨"LibraryVanModel$State", "bringBack", "(I)V"⟩, 17), (⟨"LibraryVanModel$State", "lend", "(II)V"⟩, 17), (⟨"LibraryVanModel$State", "choose", "(I)V"⟩, 17), (⟨"LibraryVanModel", "counted", "(I)I"⟩, 13), (⟨"LibraryVanModel$State", "copy", "([I[I)V"⟩, 17)]
theorem lw_r3 : ∀ q ∈ lw_privs_3, lw_okq q := List.forall_mem_cons.mpr ⟨lw_p32, List.forall_mem_cons.mpr ⟨lw_p33, List.forall_mem_cons.mpr ⟨lw_p34, List.forall_mem_cons.mpr ⟨lw_p35, List.forall_mem_cons.mpr ⟨lw_p36, List.forall_mem_cons.mpr ⟨lw_p37, fun _ h => absurd h List.not_mem_nil⟩⟩⟩⟩⟩⟩
def lw_privs : List (MethodName × Nat) := lw_privs_1 ++ (lw_privs_2 ++ (lw_privs_3))
def lw_tbl : List Cond := k2_sels lw_privs ++ tables_1
theorem lw_privs_ok : ∀ q ∈ lw_privs, lw_okq q := by
  show ∀ q ∈ lw_privs_1 ++ (lw_privs_2 ++ (lw_privs_3)), lw_okq q
  exact List.forall_mem_append.mpr ⟨lw_r1, List.forall_mem_append.mpr ⟨lw_r2, lw_r3⟩⟩
/-- the streams that the claim lets the run draw from -/
abbrev lw_cs : List Choice := [Jvm.Choice.named "NaN.bits"]
theorem lw_bits : nanBits ∈ lw_cs := by first | decide | exact List.mem_cons_self | simp [lw_cs, nanBits]
end
section
def RX0 : String := "LibraryVan$Book"
def TX0 : u_T := fun k => match k with
  | 0 => ("LibraryVan$Book", "number", "I", true)
  | 1 => ("LibraryVan$Book", "shelf", "I", true)
  | 2 => ("LibraryVan$Book", "queue", "LLibraryVan$Queue;", true)
  | 3 => ("LibraryVan$Book", "holder", "I", false)
  | 4 => ("LibraryVan$Book", "since", "I", false)
  | _ => ("LibraryVan$Book", "loans", "I", false)
def tyX0 : Nat → FieldType := fun k => match k with
  | 0 => .int
  | 1 => .int
  | 2 => .object "LibraryVan$Queue"
  | 3 => .int
  | 4 => .int
  | _ => .int
theorem nmX0 : ∀ a, a < 6 → ∀ b, b < 6 → a ≠ b → (TX0 a).2.1 ≠ (TX0 b).2.1 := by decide +kernel
theorem tyX0_ok : ∀ k, k < 6 → parseFieldDescriptor (TX0 k).2.2.1 = some (tyX0 k) := by decide +kernel
abbrev cX0_init : ByteArray := prog_2_method_1_code
def yX0_init : MethodName := ⟨RX0, "<init>", "(II)V"⟩
abbrev cX0_isOnVan : ByteArray := prog_2_method_2_code
def yX0_isOnVan : MethodName := ⟨RX0, "isOnVan", "()Z"⟩
abbrev cX0_lendTo : ByteArray := prog_2_method_3_code
def yX0_lendTo : MethodName := ⟨RX0, "lendTo", "(LLibraryVan$Reader;I)V"⟩
abbrev cX0_comeBackFrom : ByteArray := prog_2_method_4_code
def yX0_comeBackFrom : MethodName := ⟨RX0, "comeBackFrom", "(LLibraryVan$Reader;I)V"⟩
abbrev cX0_copyFrom : ByteArray := prog_2_method_5_code
def yX0_copyFrom : MethodName := ⟨RX0, "copyFrom", "(LLibraryVan$Book;)V"⟩
def RX1 : String := "LibraryVan$Halt"
def TX1 : u_T := fun k => match k with
  | 0 => ("LibraryVan$Halt", "served", "I", false)
  | _ => ("LibraryVan$Halt", "missed", "I", false)
def tyX1 : Nat → FieldType := fun k => match k with
  | 0 => .int
  | _ => .int
theorem nmX1 : ∀ a, a < 2 → ∀ b, b < 2 → a ≠ b → (TX1 a).2.1 ≠ (TX1 b).2.1 := by decide +kernel
theorem tyX1_ok : ∀ k, k < 2 → parseFieldDescriptor (TX1 k).2.2.1 = some (tyX1 k) := by decide +kernel
abbrev cX1_init : ByteArray := prog_3_method_1_code
def yX1_init : MethodName := ⟨RX1, "<init>", "()V"⟩
abbrev cX1_copyFrom : ByteArray := prog_3_method_2_code
def yX1_copyFrom : MethodName := ⟨RX1, "copyFrom", "(LLibraryVan$Halt;)V"⟩
def RX2 : String := "LibraryVan$Lane"
def TX2 : u_T := fun k => match k with
  | 0 => ("LibraryVan$Lane", "a", "I", true)
  | 1 => ("LibraryVan$Lane", "b", "I", true)
  | 2 => ("LibraryVan$Lane", "length", "I", true)
  | 3 => ("LibraryVan$Lane", "clay", "I", true)
  | _ => ("LibraryVan$Lane", "mud", "I", false)
def tyX2 : Nat → FieldType := fun k => match k with
  | 0 => .int
  | 1 => .int
  | 2 => .int
  | 3 => .int
  | _ => .int
theorem nmX2 : ∀ a, a < 5 → ∀ b, b < 5 → a ≠ b → (TX2 a).2.1 ≠ (TX2 b).2.1 := by decide +kernel
theorem tyX2_ok : ∀ k, k < 5 → parseFieldDescriptor (TX2 k).2.2.1 = some (tyX2 k) := by decide +kernel
abbrev cX2_init : ByteArray := prog_4_method_1_code
def yX2_init : MethodName := ⟨RX2, "<init>", "(IIII)V"⟩
abbrev cX2_isUsable : ByteArray := prog_4_method_2_code
def yX2_isUsable : MethodName := ⟨RX2, "isUsable", "()Z"⟩
abbrev cX2_minutes : ByteArray := prog_4_method_3_code
def yX2_minutes : MethodName := ⟨RX2, "minutes", "()I"⟩
abbrev cX2_weather : ByteArray := prog_4_method_4_code
def yX2_weather : MethodName := ⟨RX2, "weather", "(I)V"⟩
abbrev cX2_copyFrom : ByteArray := prog_4_method_5_code
def yX2_copyFrom : MethodName := ⟨RX2, "copyFrom", "(LLibraryVan$Lane;)V"⟩
def RX3 : String := "LibraryVan$Queue"
def TX3 : u_T := fun k => match k with
  | 0 => ("LibraryVan$Queue", "readers", "[I", true)
  | _ => ("LibraryVan$Queue", "size", "I", false)
def tyX3 : Nat → FieldType := fun k => match k with
  | 0 => .array .int
  | _ => .int
theorem nmX3 : ∀ a, a < 2 → ∀ b, b < 2 → a ≠ b → (TX3 a).2.1 ≠ (TX3 b).2.1 := by decide +kernel
theorem tyX3_ok : ∀ k, k < 2 → parseFieldDescriptor (TX3 k).2.2.1 = some (tyX3 k) := by decide +kernel
abbrev cX3_init : ByteArray := prog_5_method_1_code
def yX3_init : MethodName := ⟨RX3, "<init>", "()V"⟩
abbrev cX3_size : ByteArray := prog_5_method_2_code
def yX3_size : MethodName := ⟨RX3, "size", "()I"⟩
abbrev cX3_readerAt : ByteArray := prog_5_method_3_code
def yX3_readerAt : MethodName := ⟨RX3, "readerAt", "(I)I"⟩
abbrev cX3_first : ByteArray := prog_5_method_4_code
def yX3_first : MethodName := ⟨RX3, "first", "()I"⟩
abbrev cX3_placeOf : ByteArray := prog_5_method_5_code
def yX3_placeOf : MethodName := ⟨RX3, "placeOf", "(I)I"⟩
abbrev cX3_join : ByteArray := prog_5_method_6_code
def yX3_join : MethodName := ⟨RX3, "join", "(I)V"⟩
abbrev cX3_dropPlace : ByteArray := prog_5_method_7_code
def yX3_dropPlace : MethodName := ⟨RX3, "dropPlace", "(I)V"⟩
abbrev cX3_copyFrom : ByteArray := prog_5_method_8_code
def yX3_copyFrom : MethodName := ⟨RX3, "copyFrom", "(LLibraryVan$Queue;)V"⟩
def RX4 : String := "LibraryVan$Reader"
def TX4 : u_T := fun k => match k with
  | 0 => ("LibraryVan$Reader", "number", "I", true)
  | 1 => ("LibraryVan$Reader", "halt", "I", true)
  | 2 => ("LibraryVan$Reader", "shelf", "I", true)
  | 3 => ("LibraryVan$Reader", "keeps", "I", true)
  | 4 => ("LibraryVan$Reader", "has", "I", false)
  | 5 => ("LibraryVan$Reader", "read", "I", false)
  | 6 => ("LibraryVan$Reader", "pence", "I", false)
  | _ => ("LibraryVan$Reader", "loans", "I", false)
def tyX4 : Nat → FieldType := fun k => match k with
  | 0 => .int
  | 1 => .int
  | 2 => .int
  | 3 => .int
  | 4 => .int
  | 5 => .int
  | 6 => .int
  | _ => .int
theorem nmX4 : ∀ a, a < 8 → ∀ b, b < 8 → a ≠ b → (TX4 a).2.1 ≠ (TX4 b).2.1 := by decide +kernel
theorem tyX4_ok : ∀ k, k < 8 → parseFieldDescriptor (TX4 k).2.2.1 = some (tyX4 k) := by decide +kernel
abbrev cX4_init : ByteArray := prog_6_method_1_code
def yX4_init : MethodName := ⟨RX4, "<init>", "(IIII)V"⟩
abbrev cX4_takesMore : ByteArray := prog_6_method_2_code
def yX4_takesMore : MethodName := ⟨RX4, "takesMore", "()Z"⟩
abbrev cX4_hasRead : ByteArray := prog_6_method_3_code
def yX4_hasRead : MethodName := ⟨RX4, "hasRead", "(I)Z"⟩
abbrev cX4_copyFrom : ByteArray := prog_6_method_4_code
def yX4_copyFrom : MethodName := ⟨RX4, "copyFrom", "(LLibraryVan$Reader;)V"⟩
def RX5 : String := "LibraryVan$Round"
def TX5 : u_T := fun k => match k with
  | 0 => ("LibraryVan$Round", "halts", "[I", true)
  | 1 => ("LibraryVan$Round", "size", "I", false)
  | _ => ("LibraryVan$Round", "minutes", "I", false)
def tyX5 : Nat → FieldType := fun k => match k with
  | 0 => .array .int
  | 1 => .int
  | _ => .int
theorem nmX5 : ∀ a, a < 3 → ∀ b, b < 3 → a ≠ b → (TX5 a).2.1 ≠ (TX5 b).2.1 := by decide +kernel
theorem tyX5_ok : ∀ k, k < 3 → parseFieldDescriptor (TX5 k).2.2.1 = some (tyX5 k) := by decide +kernel
abbrev cX5_init : ByteArray := prog_7_method_1_code
def yX5_init : MethodName := ⟨RX5, "<init>", "()V"⟩
abbrev cX5_size : ByteArray := prog_7_method_2_code
def yX5_size : MethodName := ⟨RX5, "size", "()I"⟩
abbrev cX5_haltAt : ByteArray := prog_7_method_3_code
def yX5_haltAt : MethodName := ⟨RX5, "haltAt", "(I)I"⟩
abbrev cX5_append : ByteArray := prog_7_method_4_code
def yX5_append : MethodName := ⟨RX5, "append", "(I)V"⟩
abbrev cX5_tellAnew : ByteArray := prog_7_method_5_code
def yX5_tellAnew : MethodName := ⟨RX5, "tellAnew", "(II)V"⟩
abbrev cX5_timesOf : ByteArray := prog_7_method_6_code
def yX5_timesOf : MethodName := ⟨RX5, "timesOf", "(I)I"⟩
abbrev cX5_copyFrom : ByteArray := prog_7_method_7_code
def yX5_copyFrom : MethodName := ⟨RX5, "copyFrom", "(LLibraryVan$Round;)V"⟩
def RX6 : String := "LibraryVan$Ways"
def TX6 : u_T := fun k => match k with
  | _ => ("LibraryVan$Ways", "times", "[I", true)
def tyX6 : Nat → FieldType := fun k => match k with
  | _ => .array .int
theorem nmX6 : ∀ a, a < 1 → ∀ b, b < 1 → a ≠ b → (TX6 a).2.1 ≠ (TX6 b).2.1 := by decide +kernel
theorem tyX6_ok : ∀ k, k < 1 → parseFieldDescriptor (TX6 k).2.2.1 = some (tyX6 k) := by decide +kernel
abbrev cX6_init : ByteArray := prog_8_method_1_code
def yX6_init : MethodName := ⟨RX6, "<init>", "()V"⟩
abbrev cX6_measure : ByteArray := prog_8_method_2_code
def yX6_measure : MethodName := ⟨RX6, "measure", "(ILjava/util/ArrayList;)V"⟩
abbrev cX6_time : ByteArray := prog_8_method_3_code
def yX6_time : MethodName := ⟨RX6, "time", "(II)I"⟩
abbrev cX6_shorten : ByteArray := prog_8_method_4_code
def yX6_shorten : MethodName := ⟨RX6, "shorten", "(III)V"⟩
def RX7 : String := "LibraryVan$World"
def TX7 : u_T := fun k => match k with
  | 0 => ("LibraryVan$World", "halts", "Ljava/util/ArrayList;", true)
  | 1 => ("LibraryVan$World", "lanes", "Ljava/util/ArrayList;", true)
  | 2 => ("LibraryVan$World", "books", "Ljava/util/ArrayList;", true)
  | 3 => ("LibraryVan$World", "readers", "Ljava/util/ArrayList;", true)
  | 4 => ("LibraryVan$World", "ways", "LLibraryVan$Ways;", true)
  | 5 => ("LibraryVan$World", "round", "LLibraryVan$Round;", true)
  | 6 => ("LibraryVan$World", "rain", "[I", true)
  | 7 => ("LibraryVan$World", "day", "I", false)
  | _ => ("LibraryVan$World", "latestMinutes", "I", false)
def tyX7 : Nat → FieldType := fun k => match k with
  | 0 => .object "java/util/ArrayList"
  | 1 => .object "java/util/ArrayList"
  | 2 => .object "java/util/ArrayList"
  | 3 => .object "java/util/ArrayList"
  | 4 => .object "LibraryVan$Ways"
  | 5 => .object "LibraryVan$Round"
  | 6 => .array .int
  | 7 => .int
  | _ => .int
theorem nmX7 : ∀ a, a < 9 → ∀ b, b < 9 → a ≠ b → (TX7 a).2.1 ≠ (TX7 b).2.1 := by decide +kernel
theorem tyX7_ok : ∀ k, k < 9 → parseFieldDescriptor (TX7 k).2.2.1 = some (tyX7 k) := by decide +kernel
abbrev cX7_init : ByteArray := prog_9_method_1_code
def yX7_init : MethodName := ⟨RX7, "<init>", "()V"⟩
abbrev cX7_changeRain : ByteArray := prog_9_method_2_code
def yX7_changeRain : MethodName := ⟨RX7, "changeRain", "(II)I"⟩
abbrev cX7_rainOf : ByteArray := prog_9_method_3_code
def yX7_rainOf : MethodName := ⟨RX7, "rainOf", "(I)I"⟩
abbrev cX7_minutesOfWay : ByteArray := prog_9_method_4_code
def yX7_minutesOfWay : MethodName := ⟨RX7, "minutesOfWay", "(II)I"⟩
abbrev cX7_holderOf : ByteArray := prog_9_method_5_code
def yX7_holderOf : MethodName := ⟨RX7, "holderOf", "(I)I"⟩
abbrev cX7_copyFrom : ByteArray := prog_9_method_6_code
def yX7_copyFrom : MethodName := ⟨RX7, "copyFrom", "(LLibraryVan$World;)V"⟩
abbrev cX7_passDays : ByteArray := prog_9_method_7_code
def yX7_passDays : MethodName := ⟨RX7, "passDays", "(I)V"⟩
abbrev cX7_weather : ByteArray := prog_9_method_8_code
def yX7_weather : MethodName := ⟨RX7, "weather", "()V"⟩
abbrev cX7_goRound : ByteArray := prog_9_method_9_code
def yX7_goRound : MethodName := ⟨RX7, "goRound", "()V"⟩
abbrev cX7_noteVisit : ByteArray := prog_9_method_10_code
def yX7_noteVisit : MethodName := ⟨RX7, "noteVisit", "(IZ)V"⟩
abbrev cX7_takeBooksBack : ByteArray := prog_9_method_11_code
def yX7_takeBooksBack : MethodName := ⟨RX7, "takeBooksBack", "(I)V"⟩
abbrev cX7_lendReservedBooks : ByteArray := prog_9_method_12_code
def yX7_lendReservedBooks : MethodName := ⟨RX7, "lendReservedBooks", "(I)V"⟩
abbrev cX7_readerWith : ByteArray := prog_9_method_13_code
def yX7_readerWith : MethodName := ⟨RX7, "readerWith", "(I)LLibraryVan$Reader;"⟩
abbrev cX7_lendOtherBooks : ByteArray := prog_9_method_14_code
def yX7_lendOtherBooks : MethodName := ⟨RX7, "lendOtherBooks", "(I)V"⟩
abbrev cX7_lendOtherBookTo : ByteArray := prog_9_method_15_code
def yX7_lendOtherBookTo : MethodName := ⟨RX7, "lendOtherBookTo", "(LLibraryVan$Reader;)V"⟩
abbrev cX7_haltAnswer : ByteArray := prog_9_method_16_code
def yX7_haltAnswer : MethodName := ⟨RX7, "haltAnswer", "(II)I"⟩
abbrev cX7_laneAnswer : ByteArray := prog_9_method_17_code
def yX7_laneAnswer : MethodName := ⟨RX7, "laneAnswer", "(II)I"⟩
abbrev cX7_bookAnswer : ByteArray := prog_9_method_18_code
def yX7_bookAnswer : MethodName := ⟨RX7, "bookAnswer", "(II)I"⟩
abbrev cX7_readerAnswer : ByteArray := prog_9_method_19_code
def yX7_readerAnswer : MethodName := ⟨RX7, "readerAnswer", "(II)I"⟩
abbrev cX7_countAnswer : ByteArray := prog_9_method_20_code
def yX7_countAnswer : MethodName := ⟨RX7, "countAnswer", "(I)I"⟩
abbrev cX7_readersAt : ByteArray := prog_9_method_21_code
def yX7_readersAt : MethodName := ⟨RX7, "readersAt", "(I)I"⟩
abbrev cX7_lanesAt : ByteArray := prog_9_method_22_code
def yX7_lanesAt : MethodName := ⟨RX7, "lanesAt", "(I)I"⟩
abbrev cX7_readersWhoRead : ByteArray := prog_9_method_23_code
def yX7_readersWhoRead : MethodName := ⟨RX7, "readersWhoRead", "(I)I"⟩
abbrev cX7_booksReservedBy : ByteArray := prog_9_method_24_code
def yX7_booksReservedBy : MethodName := ⟨RX7, "booksReservedBy", "(I)I"⟩
abbrev cX7_booksOnVan : ByteArray := prog_9_method_25_code
def yX7_booksOnVan : MethodName := ⟨RX7, "booksOnVan", "()I"⟩
abbrev cX7_loansOfAll : ByteArray := prog_9_method_26_code
def yX7_loansOfAll : MethodName := ⟨RX7, "loansOfAll", "()I"⟩
abbrev cX7_missesOfAll : ByteArray := prog_9_method_27_code
def yX7_missesOfAll : MethodName := ⟨RX7, "missesOfAll", "()I"⟩
abbrev cX7_penceOfAll : ByteArray := prog_9_method_28_code
def yX7_penceOfAll : MethodName := ⟨RX7, "penceOfAll", "()I"⟩
abbrev cX7_lanesTooMuddy : ByteArray := prog_9_method_29_code
def yX7_lanesTooMuddy : MethodName := ⟨RX7, "lanesTooMuddy", "()I"⟩
abbrev cX7_mixVan : ByteArray := prog_9_method_30_code
def yX7_mixVan : MethodName := ⟨RX7, "mixVan", "(J)J"⟩
abbrev cX7_mixHaltsAndLanes : ByteArray := prog_9_method_31_code
def yX7_mixHaltsAndLanes : MethodName := ⟨RX7, "mixHaltsAndLanes", "(J)J"⟩
abbrev cX7_mixBooksAndReaders : ByteArray := prog_9_method_32_code
def yX7_mixBooksAndReaders : MethodName := ⟨RX7, "mixBooksAndReaders", "(J)J"⟩
def RX8 : String := "LibraryVan"
def TX8 : u_T := fun k => match k with
  | 0 => ("LibraryVan", "now", "LLibraryVan$World;", true)
  | _ => ("LibraryVan", "trial", "LLibraryVan$World;", true)
def tyX8 : Nat → FieldType := fun k => match k with
  | 0 => .object "LibraryVan$World"
  | _ => .object "LibraryVan$World"
theorem nmX8 : ∀ a, a < 2 → ∀ b, b < 2 → a ≠ b → (TX8 a).2.1 ≠ (TX8 b).2.1 := by decide +kernel
theorem tyX8_ok : ∀ k, k < 2 → parseFieldDescriptor (TX8 k).2.2.1 = some (tyX8 k) := by decide +kernel
abbrev cX8_init : ByteArray := prog_1_method_1_code
def yX8_init : MethodName := ⟨RX8, "<init>", "()V"⟩
abbrev cX8_addHalt : ByteArray := prog_1_method_2_code
def yX8_addHalt : MethodName := ⟨RX8, "addHalt", "()I"⟩
abbrev cX8_addLane : ByteArray := prog_1_method_3_code
def yX8_addLane : MethodName := ⟨RX8, "addLane", "(IIII)I"⟩
abbrev cX8_setRain : ByteArray := prog_1_method_4_code
def yX8_setRain : MethodName := ⟨RX8, "setRain", "(II)I"⟩
abbrev cX8_setRound : ByteArray := prog_1_method_5_code
def yX8_setRound : MethodName := ⟨RX8, "setRound", "(II)I"⟩
abbrev cX8_halt : ByteArray := prog_1_method_6_code
def yX8_halt : MethodName := ⟨RX8, "halt", "(II)I"⟩
abbrev cX8_lane : ByteArray := prog_1_method_7_code
def yX8_lane : MethodName := ⟨RX8, "lane", "(II)I"⟩
abbrev cX8_way : ByteArray := prog_1_method_8_code
def yX8_way : MethodName := ⟨RX8, "way", "(II)I"⟩
abbrev cX8_addBook : ByteArray := prog_1_method_9_code
def yX8_addBook : MethodName := ⟨RX8, "addBook", "(I)I"⟩
abbrev cX8_addReader : ByteArray := prog_1_method_10_code
def yX8_addReader : MethodName := ⟨RX8, "addReader", "(III)I"⟩
abbrev cX8_reserve : ByteArray := prog_1_method_11_code
def yX8_reserve : MethodName := ⟨RX8, "reserve", "(II)I"⟩
abbrev cX8_cancel : ByteArray := prog_1_method_12_code
def yX8_cancel : MethodName := ⟨RX8, "cancel", "(II)I"⟩
abbrev cX8_book : ByteArray := prog_1_method_13_code
def yX8_book : MethodName := ⟨RX8, "book", "(II)I"⟩
abbrev cX8_reader : ByteArray := prog_1_method_14_code
def yX8_reader : MethodName := ⟨RX8, "reader", "(II)I"⟩
abbrev cX8_pay : ByteArray := prog_1_method_15_code
def yX8_pay : MethodName := ⟨RX8, "pay", "(II)I"⟩
abbrev cX8_pass : ByteArray := prog_1_method_16_code
def yX8_pass : MethodName := ⟨RX8, "pass", "(I)I"⟩
abbrev cX8_count : ByteArray := prog_1_method_17_code
def yX8_count : MethodName := ⟨RX8, "count", "(I)I"⟩
abbrev cX8_foresee : ByteArray := prog_1_method_18_code
def yX8_foresee : MethodName := ⟨RX8, "foresee", "(II)I"⟩
abbrev cX8_gets : ByteArray := prog_1_method_19_code
def yX8_gets : MethodName := ⟨RX8, "gets", "(II)I"⟩
abbrev cX8_advise : ByteArray := prog_1_method_20_code
def yX8_advise : MethodName := ⟨RX8, "advise", "(I)I"⟩
abbrev cX8_daily : ByteArray := prog_1_method_21_code
def yX8_daily : MethodName := ⟨RX8, "daily", "()D"⟩
abbrev cX8_digest : ByteArray := prog_1_method_22_code
def yX8_digest : MethodName := ⟨RX8, "digest", "()J"⟩
abbrev cX8_isWithin : ByteArray := prog_1_method_23_code
def yX8_isWithin : MethodName := ⟨RX8, "isWithin", "(III)Z"⟩
abbrev cX8_needKind : ByteArray := prog_1_method_24_code
def yX8_needKind : MethodName := ⟨RX8, "needKind", "(II)V"⟩
abbrev cX8_needDays : ByteArray := prog_1_method_25_code
def yX8_needDays : MethodName := ⟨RX8, "needDays", "(II)V"⟩
abbrev cX8_needHalt : ByteArray := prog_1_method_26_code
def yX8_needHalt : MethodName := ⟨RX8, "needHalt", "(I)V"⟩
abbrev cX8_needBook : ByteArray := prog_1_method_27_code
def yX8_needBook : MethodName := ⟨RX8, "needBook", "(I)V"⟩
abbrev cX8_needReader : ByteArray := prog_1_method_28_code
def yX8_needReader : MethodName := ⟨RX8, "needReader", "(I)V"⟩
abbrev cX8_standsForHalts : ByteArray := prog_1_method_29_code
def yX8_standsForHalts : MethodName := ⟨RX8, "standsForHalts", "(II)Z"⟩
abbrev cX8_loansAhead : ByteArray := prog_1_method_30_code
def yX8_loansAhead : MethodName := ⟨RX8, "loansAhead", "(II)I"⟩
abbrev cX8_mix : ByteArray := prog_1_method_31_code
def yX8_mix : MethodName := ⟨RX8, "mix", "(JJ)J"⟩
abbrev cX8_copyRow : ByteArray := prog_1_method_32_code
def yX8_copyRow : MethodName := ⟨RX8, "copyRow", "([I[I)V"⟩
def RX9 : String := "LibraryVanModel$State"
def TX9 : u_T := fun k => match k with
  | 0 => ("LibraryVanModel$State", "day", "I", false)
  | 1 => ("LibraryVanModel$State", "used", "I", false)
  | 2 => ("LibraryVanModel$State", "loans", "I", false)
  | 3 => ("LibraryVanModel$State", "mud", "[I", true)
  | 4 => ("LibraryVanModel$State", "round", "[I", true)
  | 5 => ("LibraryVanModel$State", "size", "I", false)
  | 6 => ("LibraryVanModel$State", "served", "[I", true)
  | 7 => ("LibraryVanModel$State", "missed", "[I", true)
  | 8 => ("LibraryVanModel$State", "with", "[I", true)
  | 9 => ("LibraryVanModel$State", "since", "[I", true)
  | 10 => ("LibraryVanModel$State", "lent", "[I", true)
  | 11 => ("LibraryVanModel$State", "queue", "[I", true)
  | 12 => ("LibraryVanModel$State", "queued", "[I", true)
  | 13 => ("LibraryVanModel$State", "read", "[I", true)
  | 14 => ("LibraryVanModel$State", "owes", "[I", true)
  | 15 => ("LibraryVanModel$State", "had", "[I", true)
  | _ => ("LibraryVanModel$State", "this$0", "LLibraryVanModel;", true)
def tyX9 : Nat → FieldType := fun k => match k with
  | 0 => .int
  | 1 => .int
  | 2 => .int
  | 3 => .array .int
  | 4 => .array .int
  | 5 => .int
  | 6 => .array .int
  | 7 => .array .int
  | 8 => .array .int
  | 9 => .array .int
  | 10 => .array .int
  | 11 => .array .int
  | 12 => .array .int
  | 13 => .array .int
  | 14 => .array .int
  | 15 => .array .int
  | _ => .object "LibraryVanModel"
theorem nmX9 : ∀ a, a < 17 → ∀ b, b < 17 → a ≠ b → (TX9 a).2.1 ≠ (TX9 b).2.1 := by decide +kernel
theorem tyX9_ok : ∀ k, k < 17 → parseFieldDescriptor (TX9 k).2.2.1 = some (tyX9 k) := by decide +kernel
abbrev cX9_init : ByteArray := prog_12_method_1_code
def yX9_init : MethodName := ⟨RX9, "<init>", "(LLibraryVanModel;)V"⟩
abbrev cX9_copy : ByteArray := prog_12_method_2_code
def yX9_copy : MethodName := ⟨RX9, "copy", "([I[I)V"⟩
abbrev cX9_become : ByteArray := prog_12_method_3_code
def yX9_become : MethodName := ⟨RX9, "become", "(LLibraryVanModel$State;)V"⟩
abbrev cX9_minutesOf : ByteArray := prog_12_method_4_code
def yX9_minutesOf : MethodName := ⟨RX9, "minutesOf", "(I)I"⟩
abbrev cX9_find : ByteArray := prog_12_method_5_code
def yX9_find : MethodName := ⟨RX9, "find", "()V"⟩
abbrev cX9_relax : ByteArray := prog_12_method_6_code
def yX9_relax : MethodName := ⟨RX9, "relax", "(III)Z"⟩
abbrev cX9_many : ByteArray := prog_12_method_7_code
def yX9_many : MethodName := ⟨RX9, "many", "(I)I"⟩
abbrev cX9_placeOf : ByteArray := prog_12_method_8_code
def yX9_placeOf : MethodName := ⟨RX9, "placeOf", "(II)I"⟩
abbrev cX9_strike : ByteArray := prog_12_method_9_code
def yX9_strike : MethodName := ⟨RX9, "strike", "(II)V"⟩
abbrev cX9_pass : ByteArray := prog_12_method_10_code
def yX9_pass : MethodName := ⟨RX9, "pass", "()I"⟩
abbrev cX9_serve : ByteArray := prog_12_method_11_code
def yX9_serve : MethodName := ⟨RX9, "serve", "(I)V"⟩
abbrev cX9_bringBack : ByteArray := prog_12_method_12_code
def yX9_bringBack : MethodName := ⟨RX9, "bringBack", "(I)V"⟩
abbrev cX9_lend : ByteArray := prog_12_method_13_code
def yX9_lend : MethodName := ⟨RX9, "lend", "(II)V"⟩
abbrev cX9_choose : ByteArray := prog_12_method_14_code
def yX9_choose : MethodName := ⟨RX9, "choose", "(I)V"⟩
abbrev cX9_owed : ByteArray := prog_12_method_15_code
def yX9_owed : MethodName := ⟨RX9, "owed", "()I"⟩
abbrev cX9_missedOnes : ByteArray := prog_12_method_16_code
def yX9_missedOnes : MethodName := ⟨RX9, "missedOnes", "()I"⟩
def RX10 : String := "LibraryVanModel"
def TX10 : u_T := fun k => match k with
  | 0 => ("LibraryVanModel", "thrown", "I", false)
  | 1 => ("LibraryVanModel", "halts", "I", false)
  | 2 => ("LibraryVanModel", "lanes", "I", false)
  | 3 => ("LibraryVanModel", "lane", "[I", true)
  | 4 => ("LibraryVanModel", "rain", "[I", true)
  | 5 => ("LibraryVanModel", "minutes", "I", false)
  | 6 => ("LibraryVanModel", "books", "I", false)
  | 7 => ("LibraryVanModel", "shelf", "[I", true)
  | 8 => ("LibraryVanModel", "readers", "I", false)
  | 9 => ("LibraryVanModel", "reader", "[I", true)
  | 10 => ("LibraryVanModel", "times", "[I", true)
  | 11 => ("LibraryVanModel", "s", "LLibraryVanModel$State;", true)
  | _ => ("LibraryVanModel", "ahead", "LLibraryVanModel$State;", true)
def tyX10 : Nat → FieldType := fun k => match k with
  | 0 => .int
  | 1 => .int
  | 2 => .int
  | 3 => .array .int
  | 4 => .array .int
  | 5 => .int
  | 6 => .int
  | 7 => .array .int
  | 8 => .int
  | 9 => .array .int
  | 10 => .array .int
  | 11 => .object "LibraryVanModel$State"
  | _ => .object "LibraryVanModel$State"
theorem nmX10 : ∀ a, a < 13 → ∀ b, b < 13 → a ≠ b → (TX10 a).2.1 ≠ (TX10 b).2.1 := by decide +kernel
theorem tyX10_ok : ∀ k, k < 13 → parseFieldDescriptor (TX10 k).2.2.1 = some (tyX10 k) := by decide +kernel
abbrev cX10_init : ByteArray := prog_11_method_1_code
def yX10_init : MethodName := ⟨RX10, "<init>", "()V"⟩
abbrev cX10_thrown : ByteArray := prog_11_method_2_code
def yX10_thrown : MethodName := ⟨RX10, "thrown", "()I"⟩
abbrev cX10_no : ByteArray := prog_11_method_3_code
def yX10_no : MethodName := ⟨RX10, "no", "(I)I"⟩
abbrev cX10_isIn : ByteArray := prog_11_method_4_code
def yX10_isIn : MethodName := ⟨RX10, "isIn", "(III)Z"⟩
abbrev cX10_isHalt : ByteArray := prog_11_method_5_code
def yX10_isHalt : MethodName := ⟨RX10, "isHalt", "(I)Z"⟩
abbrev cX10_isReader : ByteArray := prog_11_method_6_code
def yX10_isReader : MethodName := ⟨RX10, "isReader", "(I)Z"⟩
abbrev cX10_isBook : ByteArray := prog_11_method_7_code
def yX10_isBook : MethodName := ⟨RX10, "isBook", "(I)Z"⟩
abbrev cX10_addHalt : ByteArray := prog_11_method_8_code
def yX10_addHalt : MethodName := ⟨RX10, "addHalt", "()I"⟩
abbrev cX10_addLane : ByteArray := prog_11_method_9_code
def yX10_addLane : MethodName := ⟨RX10, "addLane", "(IIII)I"⟩
abbrev cX10_setRain : ByteArray := prog_11_method_10_code
def yX10_setRain : MethodName := ⟨RX10, "setRain", "(II)I"⟩
abbrev cX10_setRound : ByteArray := prog_11_method_11_code
def yX10_setRound : MethodName := ⟨RX10, "setRound", "(II)I"⟩
abbrev cX10_haltTold : ByteArray := prog_11_method_12_code
def yX10_haltTold : MethodName := ⟨RX10, "haltTold", "(II)I"⟩
abbrev cX10_halt : ByteArray := prog_11_method_13_code
def yX10_halt : MethodName := ⟨RX10, "halt", "(II)I"⟩
abbrev cX10_laneTold : ByteArray := prog_11_method_14_code
def yX10_laneTold : MethodName := ⟨RX10, "laneTold", "(II)I"⟩
abbrev cX10_lane : ByteArray := prog_11_method_15_code
def yX10_lane : MethodName := ⟨RX10, "lane", "(II)I"⟩
abbrev cX10_way : ByteArray := prog_11_method_16_code
def yX10_way : MethodName := ⟨RX10, "way", "(II)I"⟩
abbrev cX10_addBook : ByteArray := prog_11_method_17_code
def yX10_addBook : MethodName := ⟨RX10, "addBook", "(I)I"⟩
abbrev cX10_addReader : ByteArray := prog_11_method_18_code
def yX10_addReader : MethodName := ⟨RX10, "addReader", "(III)I"⟩
abbrev cX10_reserve : ByteArray := prog_11_method_19_code
def yX10_reserve : MethodName := ⟨RX10, "reserve", "(II)I"⟩
abbrev cX10_cancel : ByteArray := prog_11_method_20_code
def yX10_cancel : MethodName := ⟨RX10, "cancel", "(II)I"⟩
abbrev cX10_bookTold : ByteArray := prog_11_method_21_code
def yX10_bookTold : MethodName := ⟨RX10, "bookTold", "(II)I"⟩
abbrev cX10_book : ByteArray := prog_11_method_22_code
def yX10_book : MethodName := ⟨RX10, "book", "(II)I"⟩
abbrev cX10_readerTold : ByteArray := prog_11_method_23_code
def yX10_readerTold : MethodName := ⟨RX10, "readerTold", "(II)I"⟩
abbrev cX10_reader : ByteArray := prog_11_method_24_code
def yX10_reader : MethodName := ⟨RX10, "reader", "(II)I"⟩
abbrev cX10_pay : ByteArray := prog_11_method_25_code
def yX10_pay : MethodName := ⟨RX10, "pay", "(II)I"⟩
abbrev cX10_pass : ByteArray := prog_11_method_26_code
def yX10_pass : MethodName := ⟨RX10, "pass", "(LLibraryVanModel$State;I)I"⟩
abbrev cX10_pass_ : ByteArray := prog_11_method_27_code
def yX10_pass_ : MethodName := ⟨RX10, "pass", "(I)I"⟩
abbrev cX10_counted : ByteArray := prog_11_method_28_code
def yX10_counted : MethodName := ⟨RX10, "counted", "(I)I"⟩
abbrev cX10_count : ByteArray := prog_11_method_29_code
def yX10_count : MethodName := ⟨RX10, "count", "(I)I"⟩
abbrev cX10_foresee : ByteArray := prog_11_method_30_code
def yX10_foresee : MethodName := ⟨RX10, "foresee", "(II)I"⟩
abbrev cX10_gets : ByteArray := prog_11_method_31_code
def yX10_gets : MethodName := ⟨RX10, "gets", "(II)I"⟩
abbrev cX10_advise : ByteArray := prog_11_method_32_code
def yX10_advise : MethodName := ⟨RX10, "advise", "(I)I"⟩
abbrev cX10_daily : ByteArray := prog_11_method_33_code
def yX10_daily : MethodName := ⟨RX10, "daily", "()D"⟩
abbrev cX10_digest : ByteArray := prog_11_method_34_code
def yX10_digest : MethodName := ⟨RX10, "digest", "()J"⟩
def RJx145de : String := "java/io/Serializable"
def TJx145de : u_T := fun k => match k with
  | _ => ("", "", "", false)
def tyJx145de : Nat → FieldType := fun k => match k with
  | _ => .int
theorem nmJx145de : ∀ a, a < 0 → ∀ b, b < 0 → a ≠ b → (TJx145de a).2.1 ≠ (TJx145de b).2.1 := by decide +kernel
theorem tyJx145de_ok : ∀ k, k < 0 → parseFieldDescriptor (TJx145de k).2.2.1 = some (tyJx145de k) := by decide +kernel
def RJx8e188 : String := "java/lang/Cloneable"
def TJx8e188 : u_T := fun k => match k with
  | _ => ("", "", "", false)
def tyJx8e188 : Nat → FieldType := fun k => match k with
  | _ => .int
theorem nmJx8e188 : ∀ a, a < 0 → ∀ b, b < 0 → a ≠ b → (TJx8e188 a).2.1 ≠ (TJx8e188 b).2.1 := by decide +kernel
theorem tyJx8e188_ok : ∀ k, k < 0 → parseFieldDescriptor (TJx8e188 k).2.2.1 = some (tyJx8e188 k) := by decide +kernel
def RJ6 : String := "java/lang/Integer"
def TJ6 : u_T := fun k => match k with
  | _ => ("", "", "", false)
def tyJ6 : Nat → FieldType := fun k => match k with
  | _ => .int
theorem nmJ6 : ∀ a, a < 0 → ∀ b, b < 0 → a ≠ b → (TJ6 a).2.1 ≠ (TJ6 b).2.1 := by decide +kernel
theorem tyJ6_ok : ∀ k, k < 0 → parseFieldDescriptor (TJ6 k).2.2.1 = some (tyJ6 k) := by decide +kernel
abbrev cJ6_bitCount_0f7a4 : ByteArray := prog_19_method_49_code
def yJ6_bitCount_0f7a4 : MethodName := ⟨RJ6, "bitCount", "(I)I"⟩
def RJxab1ab : String := "java/lang/Iterable"
def TJxab1ab : u_T := fun k => match k with
  | _ => ("", "", "", false)
def tyJxab1ab : Nat → FieldType := fun k => match k with
  | _ => .int
theorem nmJxab1ab : ∀ a, a < 0 → ∀ b, b < 0 → a ≠ b → (TJxab1ab a).2.1 ≠ (TJxab1ab b).2.1 := by decide +kernel
theorem tyJxab1ab_ok : ∀ k, k < 0 → parseFieldDescriptor (TJxab1ab k).2.2.1 = some (tyJxab1ab k) := by decide +kernel
def RJ9 : String := "java/lang/Math"
def TJ9 : u_T := fun k => match k with
  | _ => ("", "", "", false)
def tyJ9 : Nat → FieldType := fun k => match k with
  | _ => .int
theorem nmJ9 : ∀ a, a < 0 → ∀ b, b < 0 → a ≠ b → (TJ9 a).2.1 ≠ (TJ9 b).2.1 := by decide +kernel
theorem tyJ9_ok : ∀ k, k < 0 → parseFieldDescriptor (TJ9 k).2.2.1 = some (tyJ9 k) := by decide +kernel
abbrev cJ9_floorMod_7cf53 : ByteArray := prog_21_method_50_code
def yJ9_floorMod_7cf53 : MethodName := ⟨RJ9, "floorMod", "(II)I"⟩
abbrev cJ9_max_7cf53 : ByteArray := prog_21_method_65_code
def yJ9_max_7cf53 : MethodName := ⟨RJ9, "max", "(II)I"⟩
abbrev cJ9_min_7cf53 : ByteArray := prog_21_method_69_code
def yJ9_min_7cf53 : MethodName := ⟨RJ9, "min", "(II)I"⟩
def RJ0 : String := "java/lang/String"
def TJ0 : u_T := fun k => match k with
  | _ => ("", "", "", false)
def tyJ0 : Nat → FieldType := fun k => match k with
  | _ => .int
theorem nmJ0 : ∀ a, a < 0 → ∀ b, b < 0 → a ≠ b → (TJ0 a).2.1 ≠ (TJ0 b).2.1 := by decide +kernel
theorem tyJ0_ok : ∀ k, k < 0 → parseFieldDescriptor (TJ0 k).2.2.1 = some (tyJ0 k) := by decide +kernel
def RJ10 : String := "java/lang/System"
def TJ10 : u_T := fun k => match k with
  | _ => ("", "", "", false)
def tyJ10 : Nat → FieldType := fun k => match k with
  | _ => .int
theorem nmJ10 : ∀ a, a < 0 → ∀ b, b < 0 → a ≠ b → (TJ10 a).2.1 ≠ (TJ10 b).2.1 := by decide +kernel
theorem tyJ10_ok : ∀ k, k < 0 → parseFieldDescriptor (TJ10 k).2.2.1 = some (tyJ10 k) := by decide +kernel
def RJxa1e45 : String := "java/util/AbstractCollection"
def TJxa1e45 : u_T := fun k => match k with
  | _ => ("", "", "", false)
def tyJxa1e45 : Nat → FieldType := fun k => match k with
  | _ => .int
theorem nmJxa1e45 : ∀ a, a < 0 → ∀ b, b < 0 → a ≠ b → (TJxa1e45 a).2.1 ≠ (TJxa1e45 b).2.1 := by decide +kernel
theorem tyJxa1e45_ok : ∀ k, k < 0 → parseFieldDescriptor (TJxa1e45 k).2.2.1 = some (tyJxa1e45 k) := by decide +kernel
abbrev cJxa1e45_init_da8c8 : ByteArray := prog_26_method_1_code
def yJxa1e45_init_da8c8 : MethodName := ⟨RJxa1e45, "<init>", "()V"⟩
def RJxc12de : String := "java/util/AbstractList"
def TJxc12de : u_T := fun k => match k with
  | _ => ("", "", "", false)
def tyJxc12de : Nat → FieldType := fun k => match k with
  | _ => .int
theorem nmJxc12de : ∀ a, a < 0 → ∀ b, b < 0 → a ≠ b → (TJxc12de a).2.1 ≠ (TJxc12de b).2.1 := by decide +kernel
theorem tyJxc12de_ok : ∀ k, k < 0 → parseFieldDescriptor (TJxc12de k).2.2.1 = some (tyJxc12de k) := by decide +kernel
abbrev cJxc12de_init_da8c8 : ByteArray := prog_27_method_1_code
def yJxc12de_init_da8c8 : MethodName := ⟨RJxc12de, "<init>", "()V"⟩
def RJx4a65c : String := "java/util/ArrayList"
def TJx4a65c : u_T := fun k => match k with
  | 0 => ("java/util/AbstractList", "modCount", "I", false)
  | 1 => ("java/util/ArrayList", "elementData", "[Ljava/lang/Object;", false)
  | _ => ("java/util/ArrayList", "size", "I", false)
def tyJx4a65c : Nat → FieldType := fun k => match k with
  | 0 => .int
  | 1 => .array (.object "java/lang/Object")
  | _ => .int
theorem nmJx4a65c : ∀ a, a < 3 → ∀ b, b < 3 → a ≠ b → (TJx4a65c a).2.1 ≠ (TJx4a65c b).2.1 := by decide +kernel
theorem tyJx4a65c_ok : ∀ k, k < 3 → parseFieldDescriptor (TJx4a65c k).2.2.1 = some (tyJx4a65c k) := by decide +kernel
abbrev cJx4a65c_init_da8c8 : ByteArray := prog_28_method_2_code
def yJx4a65c_init_da8c8 : MethodName := ⟨RJx4a65c, "<init>", "()V"⟩
abbrev cJx4a65c_grow_92f84 : ByteArray := prog_28_method_6_code
def yJx4a65c_grow_92f84 : MethodName := ⟨RJx4a65c, "grow", "(I)[Ljava/lang/Object;"⟩
abbrev cJx4a65c_grow_d5877 : ByteArray := prog_28_method_7_code
def yJx4a65c_grow_d5877 : MethodName := ⟨RJx4a65c, "grow", "()[Ljava/lang/Object;"⟩
abbrev cJx4a65c_size_8abf5 : ByteArray := prog_28_method_8_code
def yJx4a65c_size_8abf5 : MethodName := ⟨RJx4a65c, "size", "()I"⟩
abbrev cJx4a65c_elementData_915e3 : ByteArray := prog_28_method_18_code
def yJx4a65c_elementData_915e3 : MethodName := ⟨RJx4a65c, "elementData", "(I)Ljava/lang/Object;"⟩
abbrev cJx4a65c_get_915e3 : ByteArray := prog_28_method_20_code
def yJx4a65c_get_915e3 : MethodName := ⟨RJx4a65c, "get", "(I)Ljava/lang/Object;"⟩
abbrev cJx4a65c_add_72be8 : ByteArray := prog_28_method_24_code
def yJx4a65c_add_72be8 : MethodName := ⟨RJx4a65c, "add", "(Ljava/lang/Object;[Ljava/lang/Object;I)V"⟩
abbrev cJx4a65c_add_9ea2d : ByteArray := prog_28_method_25_code
def yJx4a65c_add_9ea2d : MethodName := ⟨RJx4a65c, "add", "(Ljava/lang/Object;)Z"⟩
def RJ7 : String := "java/util/Arrays"
def TJ7 : u_T := fun k => match k with
  | _ => ("", "", "", false)
def tyJ7 : Nat → FieldType := fun k => match k with
  | _ => .int
theorem nmJ7 : ∀ a, a < 0 → ∀ b, b < 0 → a ≠ b → (TJ7 a).2.1 ≠ (TJ7 b).2.1 := by decide +kernel
theorem tyJ7_ok : ∀ k, k < 0 → parseFieldDescriptor (TJ7 k).2.2.1 = some (tyJ7 k) := by decide +kernel
abbrev cJ7_copyOf_1904c : ByteArray := prog_29_method_119_code
def yJ7_copyOf_1904c : MethodName := ⟨RJ7, "copyOf", "([Ljava/lang/Object;I)[Ljava/lang/Object;"⟩
abbrev cJ7_copyOf_6403c : ByteArray := prog_29_method_120_code
def yJ7_copyOf_6403c : MethodName := ⟨RJ7, "copyOf", "([Ljava/lang/Object;ILjava/lang/Class;)[Ljava/lang/Object;"⟩
def RJx5ef63 : String := "java/util/Collection"
def TJx5ef63 : u_T := fun k => match k with
  | _ => ("", "", "", false)
def tyJx5ef63 : Nat → FieldType := fun k => match k with
  | _ => .int
theorem nmJx5ef63 : ∀ a, a < 0 → ∀ b, b < 0 → a ≠ b → (TJx5ef63 a).2.1 ≠ (TJx5ef63 b).2.1 := by decide +kernel
theorem tyJx5ef63_ok : ∀ k, k < 0 → parseFieldDescriptor (TJx5ef63 k).2.2.1 = some (tyJx5ef63 k) := by decide +kernel
def RJxbd725 : String := "java/util/List"
def TJxbd725 : u_T := fun k => match k with
  | _ => ("", "", "", false)
def tyJxbd725 : Nat → FieldType := fun k => match k with
  | _ => .int
theorem nmJxbd725 : ∀ a, a < 0 → ∀ b, b < 0 → a ≠ b → (TJxbd725 a).2.1 ≠ (TJxbd725 b).2.1 := by decide +kernel
theorem tyJxbd725_ok : ∀ k, k < 0 → parseFieldDescriptor (TJxbd725 k).2.2.1 = some (tyJxbd725 k) := by decide +kernel
def RJ15 : String := "java/util/Objects"
def TJ15 : u_T := fun k => match k with
  | _ => ("", "", "", false)
def tyJ15 : Nat → FieldType := fun k => match k with
  | _ => .int
theorem nmJ15 : ∀ a, a < 0 → ∀ b, b < 0 → a ≠ b → (TJ15 a).2.1 ≠ (TJ15 b).2.1 := by decide +kernel
theorem tyJ15_ok : ∀ k, k < 0 → parseFieldDescriptor (TJ15 k).2.2.1 = some (tyJ15 k) := by decide +kernel
abbrev cJ15_checkIndex_7cf53 : ByteArray := prog_32_method_17_code
def yJ15_checkIndex_7cf53 : MethodName := ⟨RJ15, "checkIndex", "(II)I"⟩
def RJxf0a74 : String := "java/util/RandomAccess"
def TJxf0a74 : u_T := fun k => match k with
  | _ => ("", "", "", false)
def tyJxf0a74 : Nat → FieldType := fun k => match k with
  | _ => .int
theorem nmJxf0a74 : ∀ a, a < 0 → ∀ b, b < 0 → a ≠ b → (TJxf0a74 a).2.1 ≠ (TJxf0a74 b).2.1 := by decide +kernel
theorem tyJxf0a74_ok : ∀ k, k < 0 → parseFieldDescriptor (TJxf0a74 k).2.2.1 = some (tyJxf0a74 k) := by decide +kernel
def RJxa66e6 : String := "java/util/SequencedCollection"
def TJxa66e6 : u_T := fun k => match k with
  | _ => ("", "", "", false)
def tyJxa66e6 : Nat → FieldType := fun k => match k with
  | _ => .int
theorem nmJxa66e6 : ∀ a, a < 0 → ∀ b, b < 0 → a ≠ b → (TJxa66e6 a).2.1 ≠ (TJxa66e6 b).2.1 := by decide +kernel
theorem tyJxa66e6_ok : ∀ k, k < 0 → parseFieldDescriptor (TJxa66e6 k).2.2.1 = some (tyJxa66e6 k) := by decide +kernel
def RJ8 : String := "jdk/internal/util/ArraysSupport"
def TJ8 : u_T := fun k => match k with
  | _ => ("", "", "", false)
def tyJ8 : Nat → FieldType := fun k => match k with
  | _ => .int
theorem nmJ8 : ∀ a, a < 0 → ∀ b, b < 0 → a ≠ b → (TJ8 a).2.1 ≠ (TJ8 b).2.1 := by decide +kernel
theorem tyJ8_ok : ∀ k, k < 0 → parseFieldDescriptor (TJ8 k).2.2.1 = some (tyJ8 k) := by decide +kernel
abbrev cJ8_newLength_cabcc : ByteArray := prog_35_method_27_code
def yJ8_newLength_cabcc : MethodName := ⟨RJ8, "newLength", "(III)I"⟩
abbrev cJ8_hugeLength_7cf53 : ByteArray := prog_35_method_28_code
def yJ8_hugeLength_7cf53 : MethodName := ⟨RJ8, "hugeLength", "(II)I"⟩
def RJ3 : String := "jdk/internal/util/Preconditions"
def TJ3 : u_T := fun k => match k with
  | _ => ("", "", "", false)
def tyJ3 : Nat → FieldType := fun k => match k with
  | _ => .int
theorem nmJ3 : ∀ a, a < 0 → ∀ b, b < 0 → a ≠ b → (TJ3 a).2.1 ≠ (TJ3 b).2.1 := by decide +kernel
theorem tyJ3_ok : ∀ k, k < 0 → parseFieldDescriptor (TJ3 k).2.2.1 = some (tyJ3 k) := by decide +kernel
abbrev cJ3_checkIndex_8e157 : ByteArray := prog_36_method_11_code
def yJ3_checkIndex_8e157 : MethodName := ⟨RJ3, "checkIndex", "(IILjava/util/function/BiFunction;)I"⟩
def RL : String := "LibraryVanLaw"
abbrev cL_addHalt : ByteArray := method_3_code
def yL_addHalt : MethodName := ⟨RL, "addHalt", "(LLibraryVan;[J)I"⟩
abbrev cL_addLane : ByteArray := method_4_code
def yL_addLane : MethodName := ⟨RL, "addLane", "(LLibraryVan;IIII[J)I"⟩
abbrev cL_setRain : ByteArray := method_5_code
def yL_setRain : MethodName := ⟨RL, "setRain", "(LLibraryVan;II[J)I"⟩
abbrev cL_setRound : ByteArray := method_6_code
def yL_setRound : MethodName := ⟨RL, "setRound", "(LLibraryVan;II[J)I"⟩
abbrev cL_halt : ByteArray := method_7_code
def yL_halt : MethodName := ⟨RL, "halt", "(LLibraryVan;II[J)I"⟩
abbrev cL_lane : ByteArray := method_8_code
def yL_lane : MethodName := ⟨RL, "lane", "(LLibraryVan;II[J)I"⟩
abbrev cL_way : ByteArray := method_9_code
def yL_way : MethodName := ⟨RL, "way", "(LLibraryVan;II[J)I"⟩
abbrev cL_addBook : ByteArray := method_10_code
def yL_addBook : MethodName := ⟨RL, "addBook", "(LLibraryVan;I[J)I"⟩
abbrev cL_addReader : ByteArray := method_11_code
def yL_addReader : MethodName := ⟨RL, "addReader", "(LLibraryVan;III[J)I"⟩
abbrev cL_reserve : ByteArray := method_12_code
def yL_reserve : MethodName := ⟨RL, "reserve", "(LLibraryVan;II[J)I"⟩
abbrev cL_cancel : ByteArray := method_13_code
def yL_cancel : MethodName := ⟨RL, "cancel", "(LLibraryVan;II[J)I"⟩
abbrev cL_book : ByteArray := method_14_code
def yL_book : MethodName := ⟨RL, "book", "(LLibraryVan;II[J)I"⟩
abbrev cL_reader : ByteArray := method_15_code
def yL_reader : MethodName := ⟨RL, "reader", "(LLibraryVan;II[J)I"⟩
abbrev cL_pay : ByteArray := method_16_code
def yL_pay : MethodName := ⟨RL, "pay", "(LLibraryVan;II[J)I"⟩
abbrev cL_pass : ByteArray := method_17_code
def yL_pass : MethodName := ⟨RL, "pass", "(LLibraryVan;I[J)I"⟩
abbrev cL_count : ByteArray := method_18_code
def yL_count : MethodName := ⟨RL, "count", "(LLibraryVan;I[J)I"⟩
abbrev cL_foresee : ByteArray := method_19_code
def yL_foresee : MethodName := ⟨RL, "foresee", "(LLibraryVan;II[J)I"⟩
abbrev cL_gets : ByteArray := method_20_code
def yL_gets : MethodName := ⟨RL, "gets", "(LLibraryVan;II[J)I"⟩
abbrev cL_advise : ByteArray := method_21_code
def yL_advise : MethodName := ⟨RL, "advise", "(LLibraryVan;I[J)I"⟩
abbrev cL_law : ByteArray := code
def yL_law : MethodName := ⟨RL, "law", "([I)Z"⟩
abbrev vwCl : List vw_C := [(RJx4a65c, TJx4a65c, 3), (RX0, TX0, 6), (RX1, TX1, 2), (RX2, TX2, 5), (RX3, TX3, 2), (RX4, TX4, 8), (RX5, TX5, 3), (RX6, TX6, 1), (RX7, TX7, 9), (RX8, TX8, 2), (RX9, TX9, 17), (RX10, TX10, 13)]
def lw_all : List Cond := lw_tbl.filter goodWord
theorem lw_mem {w : Cond} (h : w ∈ lw_tbl) (g : goodWord w = true) : w ∈ lw_all := List.mem_filter.mpr ⟨h, g⟩
theorem lw_all_tbl {w : Cond} (h : w ∈ lw_all) : w ∈ lw_tbl := (List.mem_filter.mp h).1
theorem lw_good : GoodIn lw_all lw_all := fun w h => ⟨h, good_of_word (List.mem_filter.mp h).2⟩
abbrev ws_ (y : MethodName) (cc : ByteArray) (n : Nat) (r : Option FieldType) : List Cond := Cond.code y cc n r :: lw_all
theorem lw_good_ws {y : MethodName} {cc : ByteArray} {n : Nat} {r : Option FieldType} (h : Cond.code y cc n r ∈ lw_all) : GoodIn lw_all (ws_ y cc n r) := fun w hw => (List.mem_cons.mp hw).elim (fun e => by rw [e]; exact lw_good _ h) (fun h => lw_good _ h)
end
section
theorem wq_0 : Cond.selects RX7 yX7_lanesTooMuddy yX7_lanesTooMuddy ∈ lw_all := lw_mem (List.mem_of_getElem? (i := 0) (by decide +kernel)) rfl
theorem wq_1 : Cond.selects RX7 yX7_rainOf yX7_rainOf ∈ lw_all := lw_mem (List.mem_of_getElem? (i := 1) (by decide +kernel)) rfl
theorem wq_2 : Cond.selects RX7 yX7_readersAt yX7_readersAt ∈ lw_all := lw_mem (List.mem_of_getElem? (i := 2) (by decide +kernel)) rfl
theorem wq_3 : Cond.selects RX7 yX7_lanesAt yX7_lanesAt ∈ lw_all := lw_mem (List.mem_of_getElem? (i := 3) (by decide +kernel)) rfl
theorem wq_4 : Cond.selects RX7 yX7_readersWhoRead yX7_readersWhoRead ∈ lw_all := lw_mem (List.mem_of_getElem? (i := 4) (by decide +kernel)) rfl
theorem wq_5 : Cond.selects RX7 yX7_booksReservedBy yX7_booksReservedBy ∈ lw_all := lw_mem (List.mem_of_getElem? (i := 5) (by decide +kernel)) rfl
theorem wq_6 : Cond.selects "java/lang/Throwable" (⟨"java/lang/Throwable", "fillInStackTrace", "(I)Ljava/lang/Throwable;"⟩ : MethodName) (⟨"java/lang/Throwable", "fillInStackTrace", "(I)Ljava/lang/Throwable;"⟩ : MethodName) ∈ lw_all := lw_mem (List.mem_of_getElem? (i := 6) (by decide +kernel)) rfl
theorem wq_7 : Cond.selects RJx4a65c yJx4a65c_add_72be8 yJx4a65c_add_72be8 ∈ lw_all := lw_mem (List.mem_of_getElem? (i := 7) (by decide +kernel)) rfl
theorem wq_8 : Cond.selects RJx4a65c yJx4a65c_grow_d5877 yJx4a65c_grow_d5877 ∈ lw_all := lw_mem (List.mem_of_getElem? (i := 8) (by decide +kernel)) rfl
theorem wq_9 : Cond.selects RJx4a65c yJx4a65c_grow_92f84 yJx4a65c_grow_92f84 ∈ lw_all := lw_mem (List.mem_of_getElem? (i := 9) (by decide +kernel)) rfl
theorem wq_10 : Cond.selects RX8 yX8_needHalt yX8_needHalt ∈ lw_all := lw_mem (List.mem_of_getElem? (i := 10) (by decide +kernel)) rfl
theorem wq_11 : Cond.selects RX6 yX6_shorten yX6_shorten ∈ lw_all := lw_mem (List.mem_of_getElem? (i := 11) (by decide +kernel)) rfl
theorem wq_12 : Cond.selects RX8 yX8_needReader yX8_needReader ∈ lw_all := lw_mem (List.mem_of_getElem? (i := 12) (by decide +kernel)) rfl
theorem wq_13 : Cond.selects RX8 yX8_needBook yX8_needBook ∈ lw_all := lw_mem (List.mem_of_getElem? (i := 13) (by decide +kernel)) rfl
theorem wq_14 : Cond.selects RX7 yX7_weather yX7_weather ∈ lw_all := lw_mem (List.mem_of_getElem? (i := 14) (by decide +kernel)) rfl
theorem wq_15 : Cond.selects RX7 yX7_goRound yX7_goRound ∈ lw_all := lw_mem (List.mem_of_getElem? (i := 15) (by decide +kernel)) rfl
theorem wq_16 : Cond.selects RX7 yX7_takeBooksBack yX7_takeBooksBack ∈ lw_all := lw_mem (List.mem_of_getElem? (i := 16) (by decide +kernel)) rfl
theorem wq_17 : Cond.selects RX7 yX7_readerWith yX7_readerWith ∈ lw_all := lw_mem (List.mem_of_getElem? (i := 17) (by decide +kernel)) rfl
theorem wq_18 : Cond.selects RX7 yX7_lendReservedBooks yX7_lendReservedBooks ∈ lw_all := lw_mem (List.mem_of_getElem? (i := 18) (by decide +kernel)) rfl
theorem wq_19 : Cond.selects RX7 yX7_lendOtherBooks yX7_lendOtherBooks ∈ lw_all := lw_mem (List.mem_of_getElem? (i := 19) (by decide +kernel)) rfl
theorem wq_20 : Cond.selects RX7 yX7_lendOtherBookTo yX7_lendOtherBookTo ∈ lw_all := lw_mem (List.mem_of_getElem? (i := 20) (by decide +kernel)) rfl
theorem wq_21 : Cond.selects RX7 yX7_noteVisit yX7_noteVisit ∈ lw_all := lw_mem (List.mem_of_getElem? (i := 21) (by decide +kernel)) rfl
theorem wq_22 : Cond.selects RX8 yX8_loansAhead yX8_loansAhead ∈ lw_all := lw_mem (List.mem_of_getElem? (i := 22) (by decide +kernel)) rfl
theorem wq_23 : Cond.selects RX10 yX10_no yX10_no ∈ lw_all := lw_mem (List.mem_of_getElem? (i := 23) (by decide +kernel)) rfl
theorem wq_24 : Cond.selects RX10 yX10_isHalt yX10_isHalt ∈ lw_all := lw_mem (List.mem_of_getElem? (i := 24) (by decide +kernel)) rfl
theorem wq_25 : Cond.selects RX10 yX10_haltTold yX10_haltTold ∈ lw_all := lw_mem (List.mem_of_getElem? (i := 25) (by decide +kernel)) rfl
theorem wq_26 : Cond.selects RX10 yX10_laneTold yX10_laneTold ∈ lw_all := lw_mem (List.mem_of_getElem? (i := 26) (by decide +kernel)) rfl
theorem wq_27 : Cond.selects RX9 yX9_relax yX9_relax ∈ lw_all := lw_mem (List.mem_of_getElem? (i := 27) (by decide +kernel)) rfl
theorem wq_28 : Cond.selects RX10 yX10_isReader yX10_isReader ∈ lw_all := lw_mem (List.mem_of_getElem? (i := 28) (by decide +kernel)) rfl
theorem wq_29 : Cond.selects RX10 yX10_isBook yX10_isBook ∈ lw_all := lw_mem (List.mem_of_getElem? (i := 29) (by decide +kernel)) rfl
theorem wq_30 : Cond.selects RX10 yX10_bookTold yX10_bookTold ∈ lw_all := lw_mem (List.mem_of_getElem? (i := 30) (by decide +kernel)) rfl
theorem wq_31 : Cond.selects RX10 yX10_readerTold yX10_readerTold ∈ lw_all := lw_mem (List.mem_of_getElem? (i := 31) (by decide +kernel)) rfl
theorem wq_32 : Cond.selects RX9 yX9_serve yX9_serve ∈ lw_all := lw_mem (List.mem_of_getElem? (i := 32) (by decide +kernel)) rfl
theorem wq_33 : Cond.selects RX9 yX9_bringBack yX9_bringBack ∈ lw_all := lw_mem (List.mem_of_getElem? (i := 33) (by decide +kernel)) rfl
theorem wq_34 : Cond.selects RX9 yX9_lend yX9_lend ∈ lw_all := lw_mem (List.mem_of_getElem? (i := 34) (by decide +kernel)) rfl
theorem wq_35 : Cond.selects RX9 yX9_choose yX9_choose ∈ lw_all := lw_mem (List.mem_of_getElem? (i := 35) (by decide +kernel)) rfl
theorem wq_36 : Cond.selects RX10 yX10_counted yX10_counted ∈ lw_all := lw_mem (List.mem_of_getElem? (i := 36) (by decide +kernel)) rfl
theorem wq_37 : Cond.selects RX9 yX9_copy yX9_copy ∈ lw_all := lw_mem (List.mem_of_getElem? (i := 37) (by decide +kernel)) rfl
theorem wq_38 : Cond.initialized RL ∈ lw_all := lw_mem (List.mem_of_getElem? (i := 38) (by decide +kernel)) rfl
theorem wq_39 : Cond.initialized RX8 ∈ lw_all := lw_mem (List.mem_of_getElem? (i := 39) (by decide +kernel)) rfl
theorem wq_40 : Cond.initialized RX7 ∈ lw_all := lw_mem (List.mem_of_getElem? (i := 40) (by decide +kernel)) rfl
theorem wq_41 : Cond.initialized RJxa1e45 ∈ lw_all := lw_mem (List.mem_of_getElem? (i := 41) (by decide +kernel)) rfl
theorem wq_42 : Cond.initialized RJxc12de ∈ lw_all := lw_mem (List.mem_of_getElem? (i := 42) (by decide +kernel)) rfl
theorem wq_43 : Cond.initialized RJx4a65c ∈ lw_all := lw_mem (List.mem_of_getElem? (i := 43) (by decide +kernel)) rfl
theorem wq_44 : Cond.initialized RX6 ∈ lw_all := lw_mem (List.mem_of_getElem? (i := 44) (by decide +kernel)) rfl
theorem wq_45 : Cond.initialized RX5 ∈ lw_all := lw_mem (List.mem_of_getElem? (i := 45) (by decide +kernel)) rfl
theorem wq_46 : Cond.initialized RX10 ∈ lw_all := lw_mem (List.mem_of_getElem? (i := 46) (by decide +kernel)) rfl
theorem wq_47 : Cond.initialized RX9 ∈ lw_all := lw_mem (List.mem_of_getElem? (i := 47) (by decide +kernel)) rfl
theorem wq_48 : Cond.initialized "java/lang/Throwable" ∈ lw_all := lw_mem (List.mem_of_getElem? (i := 48) (by decide +kernel)) rfl
theorem wq_49 : Cond.initialized "java/lang/Exception" ∈ lw_all := lw_mem (List.mem_of_getElem? (i := 49) (by decide +kernel)) rfl
theorem wq_50 : Cond.initialized "java/lang/RuntimeException" ∈ lw_all := lw_mem (List.mem_of_getElem? (i := 50) (by decide +kernel)) rfl
theorem wq_51 : Cond.initialized "java/lang/IllegalStateException" ∈ lw_all := lw_mem (List.mem_of_getElem? (i := 51) (by decide +kernel)) rfl
theorem wq_52 : Cond.initialized RX1 ∈ lw_all := lw_mem (List.mem_of_getElem? (i := 52) (by decide +kernel)) rfl
theorem wq_53 : Cond.initialized RJ8 ∈ lw_all := lw_mem (List.mem_of_getElem? (i := 53) (by decide +kernel)) rfl
theorem wq_54 : Cond.initialized RJ9 ∈ lw_all := lw_mem (List.mem_of_getElem? (i := 54) (by decide +kernel)) rfl
theorem wq_55 : Cond.initialized RJ7 ∈ lw_all := lw_mem (List.mem_of_getElem? (i := 55) (by decide +kernel)) rfl
theorem wq_56 : Cond.initialized RJ10 ∈ lw_all := lw_mem (List.mem_of_getElem? (i := 56) (by decide +kernel)) rfl
theorem wq_57 : Cond.initialized "java/lang/IndexOutOfBoundsException" ∈ lw_all := lw_mem (List.mem_of_getElem? (i := 57) (by decide +kernel)) rfl
theorem wq_58 : Cond.initialized "java/lang/IllegalArgumentException" ∈ lw_all := lw_mem (List.mem_of_getElem? (i := 58) (by decide +kernel)) rfl
theorem wq_59 : Cond.initialized RX2 ∈ lw_all := lw_mem (List.mem_of_getElem? (i := 59) (by decide +kernel)) rfl
theorem wq_60 : Cond.initialized RJ15 ∈ lw_all := lw_mem (List.mem_of_getElem? (i := 60) (by decide +kernel)) rfl
theorem wq_61 : Cond.initialized RJ3 ∈ lw_all := lw_mem (List.mem_of_getElem? (i := 61) (by decide +kernel)) rfl
theorem wq_62 : Cond.initialized RX0 ∈ lw_all := lw_mem (List.mem_of_getElem? (i := 62) (by decide +kernel)) rfl
theorem wq_63 : Cond.initialized RX3 ∈ lw_all := lw_mem (List.mem_of_getElem? (i := 63) (by decide +kernel)) rfl
theorem wq_64 : Cond.initialized RX4 ∈ lw_all := lw_mem (List.mem_of_getElem? (i := 64) (by decide +kernel)) rfl
theorem wq_65 : Cond.initialized RJ6 ∈ lw_all := lw_mem (List.mem_of_getElem? (i := 65) (by decide +kernel)) rfl
theorem wq_66 : Cond.classLink RL 8 "LibraryVan" ∈ lw_all := lw_mem (List.mem_of_getElem? (i := 66) (by decide +kernel)) rfl
theorem wq_67 : Cond.instantiable RX8 2 ∈ lw_all := lw_mem (List.mem_of_getElem? (i := 67) (by decide +kernel)) rfl
theorem wq_68 : Cond.methodLink RL 77 yX8_init ∈ lw_all := lw_mem (List.mem_of_getElem? (i := 68) (by decide +kernel)) rfl
theorem wq_69 : Cond.instanceMethod yX8_init ∈ lw_all := lw_mem (List.mem_of_getElem? (i := 69) (by decide +kernel)) rfl
theorem wq_70 : Cond.code yX8_init cX8_init 1 (Option.none : Option Jvm.ClassFile.FieldType) ∈ lw_all := lw_mem (List.mem_of_getElem? (i := 70) (by decide +kernel)) rfl
theorem wq_71 : Cond.methodLink RX8 1 (⟨"java/lang/Object", "<init>", "()V"⟩ : MethodName) ∈ lw_all := lw_mem (List.mem_of_getElem? (i := 71) (by decide +kernel)) rfl
theorem wq_72 : Cond.instanceMethod (⟨"java/lang/Object", "<init>", "()V"⟩ : MethodName) ∈ lw_all := lw_mem (List.mem_of_getElem? (i := 72) (by decide +kernel)) rfl
theorem wq_73 : Cond.code (⟨"java/lang/Object", "<init>", "()V"⟩ : MethodName) object_method_1_code 1 (Option.none : Option Jvm.ClassFile.FieldType) ∈ lw_all := lw_mem (List.mem_of_getElem? (i := 73) (by decide +kernel)) rfl
theorem wq_74 : Cond.classLink RX8 7 "LibraryVan$World" ∈ lw_all := lw_mem (List.mem_of_getElem? (i := 74) (by decide +kernel)) rfl
theorem wq_75 : Cond.instantiable RX7 9 ∈ lw_all := lw_mem (List.mem_of_getElem? (i := 75) (by decide +kernel)) rfl
theorem wq_76 : Cond.methodLinkNest RX8 9 yX7_init "LibraryVan" ∈ lw_tbl := List.mem_of_getElem? (i := 76) (by decide +kernel)
theorem wq_77 : Cond.instanceMethod yX7_init ∈ lw_all := lw_mem (List.mem_of_getElem? (i := 77) (by decide +kernel)) rfl
theorem wq_78 : Cond.code yX7_init cX7_init 1 (Option.none : Option Jvm.ClassFile.FieldType) ∈ lw_all := lw_mem (List.mem_of_getElem? (i := 78) (by decide +kernel)) rfl
theorem wq_79 : Cond.methodLink RX7 3 (⟨"java/lang/Object", "<init>", "()V"⟩ : MethodName) ∈ lw_all := lw_mem (List.mem_of_getElem? (i := 79) (by decide +kernel)) rfl
theorem wq_80 : Cond.classLink RX7 9 "java/util/ArrayList" ∈ lw_all := lw_mem (List.mem_of_getElem? (i := 80) (by decide +kernel)) rfl
theorem wq_81 : Cond.instantiable RJx4a65c 3 ∈ lw_all := lw_mem (List.mem_of_getElem? (i := 81) (by decide +kernel)) rfl
theorem wq_82 : Cond.methodLink RX7 11 yJx4a65c_init_da8c8 ∈ lw_all := lw_mem (List.mem_of_getElem? (i := 82) (by decide +kernel)) rfl
theorem wq_83 : Cond.instanceMethod yJx4a65c_init_da8c8 ∈ lw_all := lw_mem (List.mem_of_getElem? (i := 83) (by decide +kernel)) rfl
theorem wq_84 : Cond.code yJx4a65c_init_da8c8 cJx4a65c_init_da8c8 1 (Option.none : Option Jvm.ClassFile.FieldType) ∈ lw_all := lw_mem (List.mem_of_getElem? (i := 84) (by decide +kernel)) rfl
theorem wq_85 : Cond.methodLink RJx4a65c 1 yJxc12de_init_da8c8 ∈ lw_all := lw_mem (List.mem_of_getElem? (i := 85) (by decide +kernel)) rfl
theorem wq_86 : Cond.instanceMethod yJxc12de_init_da8c8 ∈ lw_all := lw_mem (List.mem_of_getElem? (i := 86) (by decide +kernel)) rfl
theorem wq_87 : Cond.code yJxc12de_init_da8c8 cJxc12de_init_da8c8 1 (Option.none : Option Jvm.ClassFile.FieldType) ∈ lw_all := lw_mem (List.mem_of_getElem? (i := 87) (by decide +kernel)) rfl
theorem wq_88 : Cond.methodLink RJxc12de 1 yJxa1e45_init_da8c8 ∈ lw_all := lw_mem (List.mem_of_getElem? (i := 88) (by decide +kernel)) rfl
theorem wq_89 : Cond.instanceMethod yJxa1e45_init_da8c8 ∈ lw_all := lw_mem (List.mem_of_getElem? (i := 89) (by decide +kernel)) rfl
theorem wq_90 : Cond.code yJxa1e45_init_da8c8 cJxa1e45_init_da8c8 1 (Option.none : Option Jvm.ClassFile.FieldType) ∈ lw_all := lw_mem (List.mem_of_getElem? (i := 90) (by decide +kernel)) rfl
theorem wq_91 : Cond.methodLink RJxa1e45 1 (⟨"java/lang/Object", "<init>", "()V"⟩ : MethodName) ∈ lw_all := lw_mem (List.mem_of_getElem? (i := 91) (by decide +kernel)) rfl
theorem wq_92 : Cond.fieldLink RJx4a65c 39 "java/util/ArrayList" "DEFAULTCAPACITY_EMPTY_ELEMENTDATA" "[Ljava/lang/Object;" ∈ lw_all := lw_mem (List.mem_of_getElem? (i := 92) (by decide +kernel)) rfl
theorem wq_93 : Cond.laysStatic "java/util/ArrayList" "DEFAULTCAPACITY_EMPTY_ELEMENTDATA" "[Ljava/lang/Object;" ∈ lw_tbl := List.mem_of_getElem? (i := 93) (by decide +kernel)
theorem wq_94 : Cond.fieldLink RJx4a65c 9 "java/util/ArrayList" "elementData" "[Ljava/lang/Object;" ∈ lw_all := lw_mem (List.mem_of_getElem? (i := 94) (by decide +kernel)) rfl
theorem wq_95 : Cond.fieldLink RJx4a65c 48 "java/util/ArrayList" "size" "I" ∈ lw_all := lw_mem (List.mem_of_getElem? (i := 95) (by decide +kernel)) rfl
theorem wq_96 : Cond.fieldLink RJxc12de 7 "java/util/AbstractList" "modCount" "I" ∈ lw_all := lw_mem (List.mem_of_getElem? (i := 96) (by decide +kernel)) rfl
theorem wq_97 : Cond.fieldLink RJx4a65c 63 "java/util/ArrayList" "modCount" "I" ∈ lw_all := lw_mem (List.mem_of_getElem? (i := 97) (by decide +kernel)) rfl
theorem wq_98 : Cond.sameField "java/util/ArrayList" "java/util/AbstractList" "modCount" "I" ∈ lw_tbl := List.mem_of_getElem? (i := 98) (by decide +kernel)
theorem wq_99 : Cond.lays RJx4a65c "java/util/ArrayList" "elementData" "[Ljava/lang/Object;" ∈ lw_all := lw_mem (List.mem_of_getElem? (i := 99) (by decide +kernel)) rfl
theorem wq_101 : Cond.lays RJx4a65c "java/util/ArrayList" "size" "I" ∈ lw_all := lw_mem (List.mem_of_getElem? (i := 101) (by decide +kernel)) rfl
theorem wq_103 : Cond.lays RJx4a65c "java/util/AbstractList" "modCount" "I" ∈ lw_all := lw_mem (List.mem_of_getElem? (i := 103) (by decide +kernel)) rfl
theorem wq_106 : Cond.classLink RX7 27 "LibraryVan$Ways" ∈ lw_all := lw_mem (List.mem_of_getElem? (i := 106) (by decide +kernel)) rfl
theorem wq_107 : Cond.instantiable RX6 1 ∈ lw_all := lw_mem (List.mem_of_getElem? (i := 107) (by decide +kernel)) rfl
theorem wq_108 : Cond.methodLinkNest RX7 29 yX6_init "LibraryVan" ∈ lw_tbl := List.mem_of_getElem? (i := 108) (by decide +kernel)
theorem wq_109 : Cond.instanceMethod yX6_init ∈ lw_all := lw_mem (List.mem_of_getElem? (i := 109) (by decide +kernel)) rfl
theorem wq_110 : Cond.code yX6_init cX6_init 1 (Option.none : Option Jvm.ClassFile.FieldType) ∈ lw_all := lw_mem (List.mem_of_getElem? (i := 110) (by decide +kernel)) rfl
theorem wq_111 : Cond.methodLink RX6 3 (⟨"java/lang/Object", "<init>", "()V"⟩ : MethodName) ∈ lw_all := lw_mem (List.mem_of_getElem? (i := 111) (by decide +kernel)) rfl
theorem wq_112 : Cond.fieldLink RX6 9 "LibraryVan$Ways" "times" "[I" ∈ lw_all := lw_mem (List.mem_of_getElem? (i := 112) (by decide +kernel)) rfl
theorem wq_113 : Cond.laysFinal RX6 "LibraryVan$Ways" "times" "[I" ∈ lw_all := lw_mem (List.mem_of_getElem? (i := 113) (by decide +kernel)) rfl
theorem wq_116 : Cond.arrayClass Jvm.ClassFile.FieldType.int ∈ lw_all := lw_mem (List.mem_of_getElem? (i := 116) (by decide +kernel)) rfl
theorem wq_117 : Cond.classLink RX7 34 "LibraryVan$Round" ∈ lw_all := lw_mem (List.mem_of_getElem? (i := 117) (by decide +kernel)) rfl
theorem wq_118 : Cond.instantiable RX5 3 ∈ lw_all := lw_mem (List.mem_of_getElem? (i := 118) (by decide +kernel)) rfl
theorem wq_119 : Cond.methodLinkNest RX7 36 yX5_init "LibraryVan" ∈ lw_tbl := List.mem_of_getElem? (i := 119) (by decide +kernel)
theorem wq_120 : Cond.instanceMethod yX5_init ∈ lw_all := lw_mem (List.mem_of_getElem? (i := 120) (by decide +kernel)) rfl
theorem wq_121 : Cond.code yX5_init cX5_init 1 (Option.none : Option Jvm.ClassFile.FieldType) ∈ lw_all := lw_mem (List.mem_of_getElem? (i := 121) (by decide +kernel)) rfl
theorem wq_122 : Cond.methodLink RX5 3 (⟨"java/lang/Object", "<init>", "()V"⟩ : MethodName) ∈ lw_all := lw_mem (List.mem_of_getElem? (i := 122) (by decide +kernel)) rfl
theorem wq_123 : Cond.fieldLink RX5 9 "LibraryVan$Round" "halts" "[I" ∈ lw_all := lw_mem (List.mem_of_getElem? (i := 123) (by decide +kernel)) rfl
theorem wq_124 : Cond.fieldLink RX5 19 "LibraryVan$Round" "size" "I" ∈ lw_all := lw_mem (List.mem_of_getElem? (i := 124) (by decide +kernel)) rfl
theorem wq_125 : Cond.fieldLink RX5 15 "LibraryVan$Round" "minutes" "I" ∈ lw_all := lw_mem (List.mem_of_getElem? (i := 125) (by decide +kernel)) rfl
theorem wq_126 : Cond.fieldLinkNest RX7 122 "LibraryVan$Round" "minutes" "I" "LibraryVan" ∈ lw_tbl := List.mem_of_getElem? (i := 126) (by decide +kernel)
theorem wq_127 : Cond.laysFinal RX5 "LibraryVan$Round" "halts" "[I" ∈ lw_all := lw_mem (List.mem_of_getElem? (i := 127) (by decide +kernel)) rfl
theorem wq_129 : Cond.lays RX5 "LibraryVan$Round" "size" "I" ∈ lw_all := lw_mem (List.mem_of_getElem? (i := 129) (by decide +kernel)) rfl
theorem wq_131 : Cond.lays RX5 "LibraryVan$Round" "minutes" "I" ∈ lw_all := lw_mem (List.mem_of_getElem? (i := 131) (by decide +kernel)) rfl
theorem wq_134 : Cond.fieldLink RX7 12 "LibraryVan$World" "halts" "Ljava/util/ArrayList;" ∈ lw_all := lw_mem (List.mem_of_getElem? (i := 134) (by decide +kernel)) rfl
theorem wq_135 : Cond.fieldLinkNest RX8 19 "LibraryVan$World" "halts" "Ljava/util/ArrayList;" "LibraryVan" ∈ lw_tbl := List.mem_of_getElem? (i := 135) (by decide +kernel)
theorem wq_136 : Cond.fieldLink RX7 18 "LibraryVan$World" "lanes" "Ljava/util/ArrayList;" ∈ lw_all := lw_mem (List.mem_of_getElem? (i := 136) (by decide +kernel)) rfl
theorem wq_137 : Cond.fieldLinkNest RX8 60 "LibraryVan$World" "lanes" "Ljava/util/ArrayList;" "LibraryVan" ∈ lw_tbl := List.mem_of_getElem? (i := 137) (by decide +kernel)
theorem wq_138 : Cond.fieldLink RX7 21 "LibraryVan$World" "books" "Ljava/util/ArrayList;" ∈ lw_all := lw_mem (List.mem_of_getElem? (i := 138) (by decide +kernel)) rfl
theorem wq_139 : Cond.fieldLinkNest RX8 112 "LibraryVan$World" "books" "Ljava/util/ArrayList;" "LibraryVan" ∈ lw_tbl := List.mem_of_getElem? (i := 139) (by decide +kernel)
theorem wq_140 : Cond.fieldLink RX7 24 "LibraryVan$World" "readers" "Ljava/util/ArrayList;" ∈ lw_all := lw_mem (List.mem_of_getElem? (i := 140) (by decide +kernel)) rfl
theorem wq_141 : Cond.fieldLinkNest RX8 123 "LibraryVan$World" "readers" "Ljava/util/ArrayList;" "LibraryVan" ∈ lw_tbl := List.mem_of_getElem? (i := 141) (by decide +kernel)
theorem wq_142 : Cond.fieldLink RX7 30 "LibraryVan$World" "ways" "LLibraryVan$Ways;" ∈ lw_all := lw_mem (List.mem_of_getElem? (i := 142) (by decide +kernel)) rfl
theorem wq_143 : Cond.fieldLink RX7 37 "LibraryVan$World" "round" "LLibraryVan$Round;" ∈ lw_all := lw_mem (List.mem_of_getElem? (i := 143) (by decide +kernel)) rfl
theorem wq_144 : Cond.fieldLinkNest RX8 91 "LibraryVan$World" "round" "LLibraryVan$Round;" "LibraryVan" ∈ lw_tbl := List.mem_of_getElem? (i := 144) (by decide +kernel)
theorem wq_145 : Cond.fieldLink RX7 41 "LibraryVan$World" "rain" "[I" ∈ lw_all := lw_mem (List.mem_of_getElem? (i := 145) (by decide +kernel)) rfl
theorem wq_146 : Cond.fieldLink RX7 94 "LibraryVan$World" "day" "I" ∈ lw_all := lw_mem (List.mem_of_getElem? (i := 146) (by decide +kernel)) rfl
theorem wq_147 : Cond.fieldLinkNest RX8 210 "LibraryVan$World" "day" "I" "LibraryVan" ∈ lw_tbl := List.mem_of_getElem? (i := 147) (by decide +kernel)
theorem wq_148 : Cond.fieldLink RX7 97 "LibraryVan$World" "latestMinutes" "I" ∈ lw_all := lw_mem (List.mem_of_getElem? (i := 148) (by decide +kernel)) rfl
theorem wq_149 : Cond.laysFinal RX7 "LibraryVan$World" "halts" "Ljava/util/ArrayList;" ∈ lw_all := lw_mem (List.mem_of_getElem? (i := 149) (by decide +kernel)) rfl
theorem wq_151 : Cond.laysFinal RX7 "LibraryVan$World" "lanes" "Ljava/util/ArrayList;" ∈ lw_all := lw_mem (List.mem_of_getElem? (i := 151) (by decide +kernel)) rfl
theorem wq_153 : Cond.laysFinal RX7 "LibraryVan$World" "books" "Ljava/util/ArrayList;" ∈ lw_all := lw_mem (List.mem_of_getElem? (i := 153) (by decide +kernel)) rfl
theorem wq_155 : Cond.laysFinal RX7 "LibraryVan$World" "readers" "Ljava/util/ArrayList;" ∈ lw_all := lw_mem (List.mem_of_getElem? (i := 155) (by decide +kernel)) rfl
theorem wq_157 : Cond.laysFinal RX7 "LibraryVan$World" "ways" "LLibraryVan$Ways;" ∈ lw_all := lw_mem (List.mem_of_getElem? (i := 157) (by decide +kernel)) rfl
theorem wq_159 : Cond.laysFinal RX7 "LibraryVan$World" "round" "LLibraryVan$Round;" ∈ lw_all := lw_mem (List.mem_of_getElem? (i := 159) (by decide +kernel)) rfl
theorem wq_161 : Cond.laysFinal RX7 "LibraryVan$World" "rain" "[I" ∈ lw_all := lw_mem (List.mem_of_getElem? (i := 161) (by decide +kernel)) rfl
theorem wq_163 : Cond.lays RX7 "LibraryVan$World" "day" "I" ∈ lw_all := lw_mem (List.mem_of_getElem? (i := 163) (by decide +kernel)) rfl
theorem wq_165 : Cond.lays RX7 "LibraryVan$World" "latestMinutes" "I" ∈ lw_all := lw_mem (List.mem_of_getElem? (i := 165) (by decide +kernel)) rfl
theorem wq_168 : Cond.fieldLink RX8 10 "LibraryVan" "now" "LLibraryVan$World;" ∈ lw_all := lw_mem (List.mem_of_getElem? (i := 168) (by decide +kernel)) rfl
theorem wq_169 : Cond.fieldLink RX8 16 "LibraryVan" "trial" "LLibraryVan$World;" ∈ lw_all := lw_mem (List.mem_of_getElem? (i := 169) (by decide +kernel)) rfl
theorem wq_170 : Cond.laysFinal RX8 "LibraryVan" "now" "LLibraryVan$World;" ∈ lw_all := lw_mem (List.mem_of_getElem? (i := 170) (by decide +kernel)) rfl
theorem wq_172 : Cond.laysFinal RX8 "LibraryVan" "trial" "LLibraryVan$World;" ∈ lw_all := lw_mem (List.mem_of_getElem? (i := 172) (by decide +kernel)) rfl
theorem wq_175 : Cond.methodLink RL 148 yX8_daily ∈ lw_all := lw_mem (List.mem_of_getElem? (i := 175) (by decide +kernel)) rfl
theorem wq_176 : Cond.instanceMethod yX8_daily ∈ lw_all := lw_mem (List.mem_of_getElem? (i := 176) (by decide +kernel)) rfl
theorem wq_177 : Cond.selects RX8 yX8_daily yX8_daily ∈ lw_all := lw_mem (List.mem_of_getElem? (i := 177) (by decide +kernel)) rfl
theorem wq_178 : Cond.code yX8_daily cX8_daily 1 (Option.some Jvm.ClassFile.FieldType.double) ∈ lw_all := lw_mem (List.mem_of_getElem? (i := 178) (by decide +kernel)) rfl
theorem wq_179 : Cond.methodLink RX8 180 yX7_loansOfAll ∈ lw_all := lw_mem (List.mem_of_getElem? (i := 179) (by decide +kernel)) rfl
theorem wq_180 : Cond.instanceMethod yX7_loansOfAll ∈ lw_all := lw_mem (List.mem_of_getElem? (i := 180) (by decide +kernel)) rfl
theorem wq_181 : Cond.selects RX7 yX7_loansOfAll yX7_loansOfAll ∈ lw_all := lw_mem (List.mem_of_getElem? (i := 181) (by decide +kernel)) rfl
theorem wq_182 : Cond.code yX7_loansOfAll cX7_loansOfAll 3 (Option.some Jvm.ClassFile.FieldType.int) ∈ lw_all := lw_mem (List.mem_of_getElem? (i := 182) (by decide +kernel)) rfl
theorem wq_183 : Cond.methodLink RX7 45 yJx4a65c_size_8abf5 ∈ lw_all := lw_mem (List.mem_of_getElem? (i := 183) (by decide +kernel)) rfl
theorem wq_184 : Cond.instanceMethod yJx4a65c_size_8abf5 ∈ lw_all := lw_mem (List.mem_of_getElem? (i := 184) (by decide +kernel)) rfl
theorem wq_185 : Cond.selects RJx4a65c yJx4a65c_size_8abf5 yJx4a65c_size_8abf5 ∈ lw_all := lw_mem (List.mem_of_getElem? (i := 185) (by decide +kernel)) rfl
theorem wq_186 : Cond.code yJx4a65c_size_8abf5 cJx4a65c_size_8abf5 1 (Option.some Jvm.ClassFile.FieldType.int) ∈ lw_all := lw_mem (List.mem_of_getElem? (i := 186) (by decide +kernel)) rfl
theorem wq_187 : Cond.methodLink RX7 58 yJx4a65c_get_915e3 ∈ lw_all := lw_mem (List.mem_of_getElem? (i := 187) (by decide +kernel)) rfl
theorem wq_188 : Cond.instanceMethod yJx4a65c_get_915e3 ∈ lw_all := lw_mem (List.mem_of_getElem? (i := 188) (by decide +kernel)) rfl
theorem wq_189 : Cond.selects RJx4a65c yJx4a65c_get_915e3 yJx4a65c_get_915e3 ∈ lw_all := lw_mem (List.mem_of_getElem? (i := 189) (by decide +kernel)) rfl
theorem wq_190 : Cond.code yJx4a65c_get_915e3 cJx4a65c_get_915e3 2 (Option.some (Jvm.ClassFile.FieldType.object "java/lang/Object")) ∈ lw_all := lw_mem (List.mem_of_getElem? (i := 190) (by decide +kernel)) rfl
theorem wq_191 : Cond.methodLink RJx4a65c 118 yJ15_checkIndex_7cf53 ∈ lw_all := lw_mem (List.mem_of_getElem? (i := 191) (by decide +kernel)) rfl
theorem wq_192 : Cond.static yJ15_checkIndex_7cf53 ∈ lw_all := lw_mem (List.mem_of_getElem? (i := 192) (by decide +kernel)) rfl
theorem wq_193 : Cond.code yJ15_checkIndex_7cf53 cJ15_checkIndex_7cf53 2 (Option.some Jvm.ClassFile.FieldType.int) ∈ lw_all := lw_mem (List.mem_of_getElem? (i := 193) (by decide +kernel)) rfl
theorem wq_194 : Cond.methodLink RJ15 105 yJ3_checkIndex_8e157 ∈ lw_all := lw_mem (List.mem_of_getElem? (i := 194) (by decide +kernel)) rfl
theorem wq_195 : Cond.static yJ3_checkIndex_8e157 ∈ lw_all := lw_mem (List.mem_of_getElem? (i := 195) (by decide +kernel)) rfl
theorem wq_196 : Cond.code yJ3_checkIndex_8e157 cJ3_checkIndex_8e157 3 (Option.some Jvm.ClassFile.FieldType.int) ∈ lw_all := lw_mem (List.mem_of_getElem? (i := 196) (by decide +kernel)) rfl
theorem wq_197 : Cond.methodLink RJx4a65c 123 yJx4a65c_elementData_915e3 ∈ lw_all := lw_mem (List.mem_of_getElem? (i := 197) (by decide +kernel)) rfl
theorem wq_198 : Cond.instanceMethod yJx4a65c_elementData_915e3 ∈ lw_all := lw_mem (List.mem_of_getElem? (i := 198) (by decide +kernel)) rfl
theorem wq_199 : Cond.selects RJx4a65c yJx4a65c_elementData_915e3 yJx4a65c_elementData_915e3 ∈ lw_all := lw_mem (List.mem_of_getElem? (i := 199) (by decide +kernel)) rfl
theorem wq_200 : Cond.code yJx4a65c_elementData_915e3 cJx4a65c_elementData_915e3 2 (Option.some (Jvm.ClassFile.FieldType.object "java/lang/Object")) ∈ lw_all := lw_mem (List.mem_of_getElem? (i := 200) (by decide +kernel)) rfl
theorem wq_201 : Cond.classLink RX7 62 "LibraryVan$Book" ∈ lw_all := lw_mem (List.mem_of_getElem? (i := 201) (by decide +kernel)) rfl
theorem wq_202 : Cond.methodLink RL 153 yX8_digest ∈ lw_all := lw_mem (List.mem_of_getElem? (i := 202) (by decide +kernel)) rfl
theorem wq_203 : Cond.instanceMethod yX8_digest ∈ lw_all := lw_mem (List.mem_of_getElem? (i := 203) (by decide +kernel)) rfl
theorem wq_204 : Cond.selects RX8 yX8_digest yX8_digest ∈ lw_all := lw_mem (List.mem_of_getElem? (i := 204) (by decide +kernel)) rfl
theorem wq_205 : Cond.code yX8_digest cX8_digest 3 (Option.some Jvm.ClassFile.FieldType.long) ∈ lw_all := lw_mem (List.mem_of_getElem? (i := 205) (by decide +kernel)) rfl
theorem wq_206 : Cond.constantLong RX8 213 607 ∈ lw_all := lw_mem (List.mem_of_getElem? (i := 206) (by decide +kernel)) rfl
theorem wq_207 : Cond.methodLink RX8 215 yX7_mixVan ∈ lw_all := lw_mem (List.mem_of_getElem? (i := 207) (by decide +kernel)) rfl
theorem wq_208 : Cond.instanceMethod yX7_mixVan ∈ lw_all := lw_mem (List.mem_of_getElem? (i := 208) (by decide +kernel)) rfl
theorem wq_209 : Cond.selects RX7 yX7_mixVan yX7_mixVan ∈ lw_all := lw_mem (List.mem_of_getElem? (i := 209) (by decide +kernel)) rfl
theorem wq_210 : Cond.code yX7_mixVan cX7_mixVan 6 (Option.some Jvm.ClassFile.FieldType.long) ∈ lw_all := lw_mem (List.mem_of_getElem? (i := 210) (by decide +kernel)) rfl
theorem wq_211 : Cond.methodLink RX7 266 yX7_countAnswer ∈ lw_all := lw_mem (List.mem_of_getElem? (i := 211) (by decide +kernel)) rfl
theorem wq_212 : Cond.instanceMethod yX7_countAnswer ∈ lw_all := lw_mem (List.mem_of_getElem? (i := 212) (by decide +kernel)) rfl
theorem wq_213 : Cond.selects RX7 yX7_countAnswer yX7_countAnswer ∈ lw_all := lw_mem (List.mem_of_getElem? (i := 213) (by decide +kernel)) rfl
theorem wq_214 : Cond.code yX7_countAnswer cX7_countAnswer 2 (Option.some Jvm.ClassFile.FieldType.int) ∈ lw_all := lw_mem (List.mem_of_getElem? (i := 214) (by decide +kernel)) rfl
theorem wq_215 : Cond.methodLink RX7 251 yX7_booksOnVan ∈ lw_all := lw_mem (List.mem_of_getElem? (i := 215) (by decide +kernel)) rfl
theorem wq_216 : Cond.instanceMethod yX7_booksOnVan ∈ lw_all := lw_mem (List.mem_of_getElem? (i := 216) (by decide +kernel)) rfl
theorem wq_217 : Cond.selects RX7 yX7_booksOnVan yX7_booksOnVan ∈ lw_all := lw_mem (List.mem_of_getElem? (i := 217) (by decide +kernel)) rfl
theorem wq_218 : Cond.code yX7_booksOnVan cX7_booksOnVan 3 (Option.some Jvm.ClassFile.FieldType.int) ∈ lw_all := lw_mem (List.mem_of_getElem? (i := 218) (by decide +kernel)) rfl
theorem wq_219 : Cond.methodLink RX7 161 yX0_isOnVan ∈ lw_all := lw_mem (List.mem_of_getElem? (i := 219) (by decide +kernel)) rfl
theorem wq_220 : Cond.instanceMethod yX0_isOnVan ∈ lw_all := lw_mem (List.mem_of_getElem? (i := 220) (by decide +kernel)) rfl
theorem wq_221 : Cond.selects RX0 yX0_isOnVan yX0_isOnVan ∈ lw_all := lw_mem (List.mem_of_getElem? (i := 221) (by decide +kernel)) rfl
theorem wq_222 : Cond.code yX0_isOnVan cX0_isOnVan 1 (Option.some Jvm.ClassFile.FieldType.boolean) ∈ lw_all := lw_mem (List.mem_of_getElem? (i := 222) (by decide +kernel)) rfl
theorem wq_223 : Cond.methodLink RX7 254 yX7_loansOfAll ∈ lw_all := lw_mem (List.mem_of_getElem? (i := 223) (by decide +kernel)) rfl
theorem wq_224 : Cond.methodLink RX7 257 yX7_penceOfAll ∈ lw_all := lw_mem (List.mem_of_getElem? (i := 224) (by decide +kernel)) rfl
theorem wq_225 : Cond.instanceMethod yX7_penceOfAll ∈ lw_all := lw_mem (List.mem_of_getElem? (i := 225) (by decide +kernel)) rfl
theorem wq_226 : Cond.selects RX7 yX7_penceOfAll yX7_penceOfAll ∈ lw_all := lw_mem (List.mem_of_getElem? (i := 226) (by decide +kernel)) rfl
theorem wq_227 : Cond.code yX7_penceOfAll cX7_penceOfAll 3 (Option.some Jvm.ClassFile.FieldType.int) ∈ lw_all := lw_mem (List.mem_of_getElem? (i := 227) (by decide +kernel)) rfl
theorem wq_228 : Cond.classLink RX7 82 "LibraryVan$Reader" ∈ lw_all := lw_mem (List.mem_of_getElem? (i := 228) (by decide +kernel)) rfl
theorem wq_229 : Cond.methodLink RX7 260 yX7_lanesTooMuddy ∈ lw_all := lw_mem (List.mem_of_getElem? (i := 229) (by decide +kernel)) rfl
theorem wq_231 : Cond.instanceMethod yX7_lanesTooMuddy ∈ lw_all := lw_mem (List.mem_of_getElem? (i := 231) (by decide +kernel)) rfl
theorem wq_232 : Cond.code yX7_lanesTooMuddy cX7_lanesTooMuddy 3 (Option.some Jvm.ClassFile.FieldType.int) ∈ lw_all := lw_mem (List.mem_of_getElem? (i := 232) (by decide +kernel)) rfl
theorem wq_233 : Cond.classLink RX7 74 "LibraryVan$Lane" ∈ lw_all := lw_mem (List.mem_of_getElem? (i := 233) (by decide +kernel)) rfl
theorem wq_234 : Cond.methodLink RX7 222 yX2_isUsable ∈ lw_all := lw_mem (List.mem_of_getElem? (i := 234) (by decide +kernel)) rfl
theorem wq_235 : Cond.instanceMethod yX2_isUsable ∈ lw_all := lw_mem (List.mem_of_getElem? (i := 235) (by decide +kernel)) rfl
theorem wq_236 : Cond.selects RX2 yX2_isUsable yX2_isUsable ∈ lw_all := lw_mem (List.mem_of_getElem? (i := 236) (by decide +kernel)) rfl
theorem wq_237 : Cond.code yX2_isUsable cX2_isUsable 1 (Option.some Jvm.ClassFile.FieldType.boolean) ∈ lw_all := lw_mem (List.mem_of_getElem? (i := 237) (by decide +kernel)) rfl
theorem wq_238 : Cond.methodLinkNest RX7 269 yX8_mix "LibraryVan" ∈ lw_tbl := List.mem_of_getElem? (i := 238) (by decide +kernel)
theorem wq_239 : Cond.static yX8_mix ∈ lw_all := lw_mem (List.mem_of_getElem? (i := 239) (by decide +kernel)) rfl
theorem wq_240 : Cond.code yX8_mix cX8_mix 4 (Option.some Jvm.ClassFile.FieldType.long) ∈ lw_all := lw_mem (List.mem_of_getElem? (i := 240) (by decide +kernel)) rfl
theorem wq_241 : Cond.constantLong RX8 235 31 ∈ lw_all := lw_mem (List.mem_of_getElem? (i := 241) (by decide +kernel)) rfl
theorem wq_242 : Cond.methodLink RX7 111 yX7_rainOf ∈ lw_all := lw_mem (List.mem_of_getElem? (i := 242) (by decide +kernel)) rfl
theorem wq_244 : Cond.instanceMethod yX7_rainOf ∈ lw_all := lw_mem (List.mem_of_getElem? (i := 244) (by decide +kernel)) rfl
theorem wq_245 : Cond.code yX7_rainOf cX7_rainOf 2 (Option.some Jvm.ClassFile.FieldType.int) ∈ lw_all := lw_mem (List.mem_of_getElem? (i := 245) (by decide +kernel)) rfl
theorem wq_246 : Cond.methodLink RX7 118 yX5_size ∈ lw_all := lw_mem (List.mem_of_getElem? (i := 246) (by decide +kernel)) rfl
theorem wq_247 : Cond.instanceMethod yX5_size ∈ lw_all := lw_mem (List.mem_of_getElem? (i := 247) (by decide +kernel)) rfl
theorem wq_248 : Cond.selects RX5 yX5_size yX5_size ∈ lw_all := lw_mem (List.mem_of_getElem? (i := 248) (by decide +kernel)) rfl
theorem wq_249 : Cond.code yX5_size cX5_size 1 (Option.some Jvm.ClassFile.FieldType.int) ∈ lw_all := lw_mem (List.mem_of_getElem? (i := 249) (by decide +kernel)) rfl
theorem wq_250 : Cond.methodLink RX7 119 yX5_haltAt ∈ lw_all := lw_mem (List.mem_of_getElem? (i := 250) (by decide +kernel)) rfl
theorem wq_251 : Cond.instanceMethod yX5_haltAt ∈ lw_all := lw_mem (List.mem_of_getElem? (i := 251) (by decide +kernel)) rfl
theorem wq_252 : Cond.selects RX5 yX5_haltAt yX5_haltAt ∈ lw_all := lw_mem (List.mem_of_getElem? (i := 252) (by decide +kernel)) rfl
theorem wq_253 : Cond.code yX5_haltAt cX5_haltAt 2 (Option.some Jvm.ClassFile.FieldType.int) ∈ lw_all := lw_mem (List.mem_of_getElem? (i := 253) (by decide +kernel)) rfl
theorem wq_254 : Cond.methodLink RX8 219 yX7_mixHaltsAndLanes ∈ lw_all := lw_mem (List.mem_of_getElem? (i := 254) (by decide +kernel)) rfl
theorem wq_255 : Cond.instanceMethod yX7_mixHaltsAndLanes ∈ lw_all := lw_mem (List.mem_of_getElem? (i := 255) (by decide +kernel)) rfl
theorem wq_256 : Cond.selects RX7 yX7_mixHaltsAndLanes yX7_mixHaltsAndLanes ∈ lw_all := lw_mem (List.mem_of_getElem? (i := 256) (by decide +kernel)) rfl
theorem wq_257 : Cond.code yX7_mixHaltsAndLanes cX7_mixHaltsAndLanes 7 (Option.some Jvm.ClassFile.FieldType.long) ∈ lw_all := lw_mem (List.mem_of_getElem? (i := 257) (by decide +kernel)) rfl
theorem wq_258 : Cond.methodLink RX7 273 yX7_haltAnswer ∈ lw_all := lw_mem (List.mem_of_getElem? (i := 258) (by decide +kernel)) rfl
theorem wq_259 : Cond.instanceMethod yX7_haltAnswer ∈ lw_all := lw_mem (List.mem_of_getElem? (i := 259) (by decide +kernel)) rfl
theorem wq_260 : Cond.selects RX7 yX7_haltAnswer yX7_haltAnswer ∈ lw_all := lw_mem (List.mem_of_getElem? (i := 260) (by decide +kernel)) rfl
theorem wq_261 : Cond.code yX7_haltAnswer cX7_haltAnswer 4 (Option.some Jvm.ClassFile.FieldType.int) ∈ lw_all := lw_mem (List.mem_of_getElem? (i := 261) (by decide +kernel)) rfl
theorem wq_262 : Cond.classLink RX7 68 "LibraryVan$Halt" ∈ lw_all := lw_mem (List.mem_of_getElem? (i := 262) (by decide +kernel)) rfl
theorem wq_263 : Cond.methodLink RX7 198 yX7_readersAt ∈ lw_all := lw_mem (List.mem_of_getElem? (i := 263) (by decide +kernel)) rfl
theorem wq_265 : Cond.instanceMethod yX7_readersAt ∈ lw_all := lw_mem (List.mem_of_getElem? (i := 265) (by decide +kernel)) rfl
theorem wq_266 : Cond.code yX7_readersAt cX7_readersAt 4 (Option.some Jvm.ClassFile.FieldType.int) ∈ lw_all := lw_mem (List.mem_of_getElem? (i := 266) (by decide +kernel)) rfl
theorem wq_267 : Cond.methodLink RX7 201 yX7_lanesAt ∈ lw_all := lw_mem (List.mem_of_getElem? (i := 267) (by decide +kernel)) rfl
theorem wq_269 : Cond.instanceMethod yX7_lanesAt ∈ lw_all := lw_mem (List.mem_of_getElem? (i := 269) (by decide +kernel)) rfl
theorem wq_270 : Cond.code yX7_lanesAt cX7_lanesAt 5 (Option.some Jvm.ClassFile.FieldType.int) ∈ lw_all := lw_mem (List.mem_of_getElem? (i := 270) (by decide +kernel)) rfl
theorem wq_271 : Cond.methodLink RX7 204 yX5_timesOf ∈ lw_all := lw_mem (List.mem_of_getElem? (i := 271) (by decide +kernel)) rfl
theorem wq_272 : Cond.instanceMethod yX5_timesOf ∈ lw_all := lw_mem (List.mem_of_getElem? (i := 272) (by decide +kernel)) rfl
theorem wq_273 : Cond.selects RX5 yX5_timesOf yX5_timesOf ∈ lw_all := lw_mem (List.mem_of_getElem? (i := 273) (by decide +kernel)) rfl
theorem wq_274 : Cond.code yX5_timesOf cX5_timesOf 4 (Option.some Jvm.ClassFile.FieldType.int) ∈ lw_all := lw_mem (List.mem_of_getElem? (i := 274) (by decide +kernel)) rfl
theorem wq_275 : Cond.methodLink RX5 27 yX5_haltAt ∈ lw_all := lw_mem (List.mem_of_getElem? (i := 275) (by decide +kernel)) rfl
theorem wq_276 : Cond.methodLink RX7 276 yX7_laneAnswer ∈ lw_all := lw_mem (List.mem_of_getElem? (i := 276) (by decide +kernel)) rfl
theorem wq_277 : Cond.instanceMethod yX7_laneAnswer ∈ lw_all := lw_mem (List.mem_of_getElem? (i := 277) (by decide +kernel)) rfl
theorem wq_278 : Cond.selects RX7 yX7_laneAnswer yX7_laneAnswer ∈ lw_all := lw_mem (List.mem_of_getElem? (i := 278) (by decide +kernel)) rfl
theorem wq_279 : Cond.code yX7_laneAnswer cX7_laneAnswer 4 (Option.some Jvm.ClassFile.FieldType.int) ∈ lw_all := lw_mem (List.mem_of_getElem? (i := 279) (by decide +kernel)) rfl
theorem wq_280 : Cond.methodLink RX7 225 yX2_minutes ∈ lw_all := lw_mem (List.mem_of_getElem? (i := 280) (by decide +kernel)) rfl
theorem wq_281 : Cond.instanceMethod yX2_minutes ∈ lw_all := lw_mem (List.mem_of_getElem? (i := 281) (by decide +kernel)) rfl
theorem wq_282 : Cond.selects RX2 yX2_minutes yX2_minutes ∈ lw_all := lw_mem (List.mem_of_getElem? (i := 282) (by decide +kernel)) rfl
theorem wq_283 : Cond.code yX2_minutes cX2_minutes 1 (Option.some Jvm.ClassFile.FieldType.int) ∈ lw_all := lw_mem (List.mem_of_getElem? (i := 283) (by decide +kernel)) rfl
theorem wq_284 : Cond.methodLink RX8 222 yX7_mixBooksAndReaders ∈ lw_all := lw_mem (List.mem_of_getElem? (i := 284) (by decide +kernel)) rfl
theorem wq_285 : Cond.instanceMethod yX7_mixBooksAndReaders ∈ lw_all := lw_mem (List.mem_of_getElem? (i := 285) (by decide +kernel)) rfl
theorem wq_286 : Cond.selects RX7 yX7_mixBooksAndReaders yX7_mixBooksAndReaders ∈ lw_all := lw_mem (List.mem_of_getElem? (i := 286) (by decide +kernel)) rfl
theorem wq_287 : Cond.code yX7_mixBooksAndReaders cX7_mixBooksAndReaders 8 (Option.some Jvm.ClassFile.FieldType.long) ∈ lw_all := lw_mem (List.mem_of_getElem? (i := 287) (by decide +kernel)) rfl
theorem wq_288 : Cond.methodLink RX7 279 yX7_bookAnswer ∈ lw_all := lw_mem (List.mem_of_getElem? (i := 288) (by decide +kernel)) rfl
theorem wq_289 : Cond.instanceMethod yX7_bookAnswer ∈ lw_all := lw_mem (List.mem_of_getElem? (i := 289) (by decide +kernel)) rfl
theorem wq_290 : Cond.selects RX7 yX7_bookAnswer yX7_bookAnswer ∈ lw_all := lw_mem (List.mem_of_getElem? (i := 290) (by decide +kernel)) rfl
theorem wq_291 : Cond.code yX7_bookAnswer cX7_bookAnswer 4 (Option.some Jvm.ClassFile.FieldType.int) ∈ lw_all := lw_mem (List.mem_of_getElem? (i := 291) (by decide +kernel)) rfl
theorem wq_292 : Cond.methodLink RX7 190 yX3_size ∈ lw_all := lw_mem (List.mem_of_getElem? (i := 292) (by decide +kernel)) rfl
theorem wq_293 : Cond.instanceMethod yX3_size ∈ lw_all := lw_mem (List.mem_of_getElem? (i := 293) (by decide +kernel)) rfl
theorem wq_294 : Cond.selects RX3 yX3_size yX3_size ∈ lw_all := lw_mem (List.mem_of_getElem? (i := 294) (by decide +kernel)) rfl
theorem wq_295 : Cond.code yX3_size cX3_size 1 (Option.some Jvm.ClassFile.FieldType.int) ∈ lw_all := lw_mem (List.mem_of_getElem? (i := 295) (by decide +kernel)) rfl
theorem wq_296 : Cond.methodLink RX7 169 yX3_first ∈ lw_all := lw_mem (List.mem_of_getElem? (i := 296) (by decide +kernel)) rfl
theorem wq_297 : Cond.instanceMethod yX3_first ∈ lw_all := lw_mem (List.mem_of_getElem? (i := 297) (by decide +kernel)) rfl
theorem wq_298 : Cond.selects RX3 yX3_first yX3_first ∈ lw_all := lw_mem (List.mem_of_getElem? (i := 298) (by decide +kernel)) rfl
theorem wq_299 : Cond.code yX3_first cX3_first 1 (Option.some Jvm.ClassFile.FieldType.int) ∈ lw_all := lw_mem (List.mem_of_getElem? (i := 299) (by decide +kernel)) rfl
theorem wq_300 : Cond.methodLink RX7 230 yX7_readersWhoRead ∈ lw_all := lw_mem (List.mem_of_getElem? (i := 300) (by decide +kernel)) rfl
theorem wq_302 : Cond.instanceMethod yX7_readersWhoRead ∈ lw_all := lw_mem (List.mem_of_getElem? (i := 302) (by decide +kernel)) rfl
theorem wq_303 : Cond.code yX7_readersWhoRead cX7_readersWhoRead 4 (Option.some Jvm.ClassFile.FieldType.int) ∈ lw_all := lw_mem (List.mem_of_getElem? (i := 303) (by decide +kernel)) rfl
theorem wq_304 : Cond.methodLink RX7 194 yX4_hasRead ∈ lw_all := lw_mem (List.mem_of_getElem? (i := 304) (by decide +kernel)) rfl
theorem wq_305 : Cond.instanceMethod yX4_hasRead ∈ lw_all := lw_mem (List.mem_of_getElem? (i := 305) (by decide +kernel)) rfl
theorem wq_306 : Cond.selects RX4 yX4_hasRead yX4_hasRead ∈ lw_all := lw_mem (List.mem_of_getElem? (i := 306) (by decide +kernel)) rfl
theorem wq_307 : Cond.code yX4_hasRead cX4_hasRead 2 (Option.some Jvm.ClassFile.FieldType.boolean) ∈ lw_all := lw_mem (List.mem_of_getElem? (i := 307) (by decide +kernel)) rfl
theorem wq_308 : Cond.methodLink RX7 282 yX3_readerAt ∈ lw_all := lw_mem (List.mem_of_getElem? (i := 308) (by decide +kernel)) rfl
theorem wq_309 : Cond.instanceMethod yX3_readerAt ∈ lw_all := lw_mem (List.mem_of_getElem? (i := 309) (by decide +kernel)) rfl
theorem wq_310 : Cond.selects RX3 yX3_readerAt yX3_readerAt ∈ lw_all := lw_mem (List.mem_of_getElem? (i := 310) (by decide +kernel)) rfl
theorem wq_311 : Cond.code yX3_readerAt cX3_readerAt 2 (Option.some Jvm.ClassFile.FieldType.int) ∈ lw_all := lw_mem (List.mem_of_getElem? (i := 311) (by decide +kernel)) rfl
theorem wq_312 : Cond.methodLink RX7 285 yX7_readerAnswer ∈ lw_all := lw_mem (List.mem_of_getElem? (i := 312) (by decide +kernel)) rfl
theorem wq_313 : Cond.instanceMethod yX7_readerAnswer ∈ lw_all := lw_mem (List.mem_of_getElem? (i := 313) (by decide +kernel)) rfl
theorem wq_314 : Cond.selects RX7 yX7_readerAnswer yX7_readerAnswer ∈ lw_all := lw_mem (List.mem_of_getElem? (i := 314) (by decide +kernel)) rfl
theorem wq_315 : Cond.code yX7_readerAnswer cX7_readerAnswer 4 (Option.some Jvm.ClassFile.FieldType.int) ∈ lw_all := lw_mem (List.mem_of_getElem? (i := 315) (by decide +kernel)) rfl
theorem wq_316 : Cond.methodLink RX7 239 yJ6_bitCount_0f7a4 ∈ lw_all := lw_mem (List.mem_of_getElem? (i := 316) (by decide +kernel)) rfl
theorem wq_317 : Cond.static yJ6_bitCount_0f7a4 ∈ lw_all := lw_mem (List.mem_of_getElem? (i := 317) (by decide +kernel)) rfl
theorem wq_318 : Cond.code yJ6_bitCount_0f7a4 cJ6_bitCount_0f7a4 1 (Option.some Jvm.ClassFile.FieldType.int) ∈ lw_all := lw_mem (List.mem_of_getElem? (i := 318) (by decide +kernel)) rfl
theorem wq_319 : Cond.constant RJ6 265 1431655765 ∈ lw_all := lw_mem (List.mem_of_getElem? (i := 319) (by decide +kernel)) rfl
theorem wq_320 : Cond.constant RJ6 266 858993459 ∈ lw_all := lw_mem (List.mem_of_getElem? (i := 320) (by decide +kernel)) rfl
theorem wq_321 : Cond.constant RJ6 267 252645135 ∈ lw_all := lw_mem (List.mem_of_getElem? (i := 321) (by decide +kernel)) rfl
theorem wq_322 : Cond.methodLink RX7 247 yX7_booksReservedBy ∈ lw_all := lw_mem (List.mem_of_getElem? (i := 322) (by decide +kernel)) rfl
theorem wq_324 : Cond.instanceMethod yX7_booksReservedBy ∈ lw_all := lw_mem (List.mem_of_getElem? (i := 324) (by decide +kernel)) rfl
theorem wq_325 : Cond.code yX7_booksReservedBy cX7_booksReservedBy 4 (Option.some Jvm.ClassFile.FieldType.int) ∈ lw_all := lw_mem (List.mem_of_getElem? (i := 325) (by decide +kernel)) rfl
theorem wq_326 : Cond.methodLink RX7 263 yX3_placeOf ∈ lw_all := lw_mem (List.mem_of_getElem? (i := 326) (by decide +kernel)) rfl
theorem wq_327 : Cond.instanceMethod yX3_placeOf ∈ lw_all := lw_mem (List.mem_of_getElem? (i := 327) (by decide +kernel)) rfl
theorem wq_328 : Cond.selects RX3 yX3_placeOf yX3_placeOf ∈ lw_all := lw_mem (List.mem_of_getElem? (i := 328) (by decide +kernel)) rfl
theorem wq_329 : Cond.code yX3_placeOf cX3_placeOf 3 (Option.some Jvm.ClassFile.FieldType.int) ∈ lw_all := lw_mem (List.mem_of_getElem? (i := 329) (by decide +kernel)) rfl
theorem wq_330 : Cond.methodLink RL 81 yL_addHalt ∈ lw_all := lw_mem (List.mem_of_getElem? (i := 330) (by decide +kernel)) rfl
theorem wq_331 : Cond.static yL_addHalt ∈ lw_all := lw_mem (List.mem_of_getElem? (i := 331) (by decide +kernel)) rfl
theorem wq_332 : Cond.codeWith yL_addHalt method_3_code 3 (Option.some Jvm.ClassFile.FieldType.int) [((0 : Nat), (8 : Nat), (11 : Nat), (13 : Nat))] ∈ lw_all := lw_mem (List.mem_of_getElem? (i := 332) (by decide +kernel)) rfl
theorem wq_333 : Cond.classLink RL 13 "java/lang/IllegalStateException" ∈ lw_all := lw_mem (List.mem_of_getElem? (i := 333) (by decide +kernel)) rfl
theorem wq_334 : Cond.methodLink RL 7 yX8_addHalt ∈ lw_all := lw_mem (List.mem_of_getElem? (i := 334) (by decide +kernel)) rfl
theorem wq_335 : Cond.instanceMethod yX8_addHalt ∈ lw_all := lw_mem (List.mem_of_getElem? (i := 335) (by decide +kernel)) rfl
theorem wq_336 : Cond.selects RX8 yX8_addHalt yX8_addHalt ∈ lw_all := lw_mem (List.mem_of_getElem? (i := 336) (by decide +kernel)) rfl
theorem wq_337 : Cond.code yX8_addHalt cX8_addHalt 2 (Option.some Jvm.ClassFile.FieldType.int) ∈ lw_all := lw_mem (List.mem_of_getElem? (i := 337) (by decide +kernel)) rfl
theorem wq_338 : Cond.methodLink RX8 23 yJx4a65c_size_8abf5 ∈ lw_all := lw_mem (List.mem_of_getElem? (i := 338) (by decide +kernel)) rfl
theorem wq_339 : Cond.classLink RX8 29 "java/lang/IllegalStateException" ∈ lw_all := lw_mem (List.mem_of_getElem? (i := 339) (by decide +kernel)) rfl
theorem wq_340 : Cond.instantiable "java/lang/IllegalStateException" 6 ∈ lw_all := lw_mem (List.mem_of_getElem? (i := 340) (by decide +kernel)) rfl
theorem wq_341 : Cond.castable "java/lang/IllegalStateException" "java/lang/IllegalStateException" ∈ lw_tbl := List.mem_of_getElem? (i := 341) (by decide +kernel)
theorem wq_348 : Cond.selects "java/lang/IllegalStateException" (⟨"java/lang/Throwable", "fillInStackTrace", "(I)Ljava/lang/Throwable;"⟩ : MethodName) (⟨"java/lang/Throwable", "fillInStackTrace", "(I)Ljava/lang/Throwable;"⟩ : MethodName) ∈ lw_all := lw_mem (List.mem_of_getElem? (i := 348) (by decide +kernel)) rfl
theorem wq_349 : Cond.selects "java/lang/IllegalStateException" (⟨"java/lang/Throwable", "fillInStackTrace", "()Ljava/lang/Throwable;"⟩ : MethodName) (⟨"java/lang/Throwable", "fillInStackTrace", "()Ljava/lang/Throwable;"⟩ : MethodName) ∈ lw_all := lw_mem (List.mem_of_getElem? (i := 349) (by decide +kernel)) rfl
theorem wq_350 : Cond.lays "java/lang/IllegalStateException" "java/lang/Throwable" "cause" "Ljava/lang/Throwable;" ∈ lw_all := lw_mem (List.mem_of_getElem? (i := 350) (by decide +kernel)) rfl
theorem wq_351 : Cond.lays "java/lang/Throwable" "java/lang/Throwable" "cause" "Ljava/lang/Throwable;" ∈ lw_all := lw_mem (List.mem_of_getElem? (i := 351) (by decide +kernel)) rfl
theorem wq_352 : Cond.lays "java/lang/IllegalStateException" "java/lang/Throwable" "stackTrace" "[Ljava/lang/StackTraceElement;" ∈ lw_all := lw_mem (List.mem_of_getElem? (i := 352) (by decide +kernel)) rfl
theorem wq_353 : Cond.lays "java/lang/Throwable" "java/lang/Throwable" "stackTrace" "[Ljava/lang/StackTraceElement;" ∈ lw_all := lw_mem (List.mem_of_getElem? (i := 353) (by decide +kernel)) rfl
theorem wq_354 : Cond.lays "java/lang/IllegalStateException" "java/lang/Throwable" "suppressedExceptions" "Ljava/util/List;" ∈ lw_all := lw_mem (List.mem_of_getElem? (i := 354) (by decide +kernel)) rfl
theorem wq_355 : Cond.lays "java/lang/Throwable" "java/lang/Throwable" "suppressedExceptions" "Ljava/util/List;" ∈ lw_all := lw_mem (List.mem_of_getElem? (i := 355) (by decide +kernel)) rfl
theorem wq_356 : Cond.lays "java/lang/IllegalStateException" "java/lang/Throwable" "detailMessage" "Ljava/lang/String;" ∈ lw_all := lw_mem (List.mem_of_getElem? (i := 356) (by decide +kernel)) rfl
theorem wq_357 : Cond.lays "java/lang/Throwable" "java/lang/Throwable" "detailMessage" "Ljava/lang/String;" ∈ lw_all := lw_mem (List.mem_of_getElem? (i := 357) (by decide +kernel)) rfl
theorem wq_358 : Cond.lays "java/lang/IllegalStateException" "java/lang/Throwable" "backtrace" "Ljava/lang/Object;" ∈ lw_all := lw_mem (List.mem_of_getElem? (i := 358) (by decide +kernel)) rfl
theorem wq_359 : Cond.lays "java/lang/Throwable" "java/lang/Throwable" "backtrace" "Ljava/lang/Object;" ∈ lw_all := lw_mem (List.mem_of_getElem? (i := 359) (by decide +kernel)) rfl
theorem wq_360 : Cond.fieldLink "java/lang/Throwable" 198 "java/lang/Throwable" "backtrace" "Ljava/lang/Object;" ∈ lw_all := lw_mem (List.mem_of_getElem? (i := 360) (by decide +kernel)) rfl
theorem wq_362 : Cond.instanceMethod (⟨"java/lang/Throwable", "<init>", "()V"⟩ : MethodName) ∈ lw_all := lw_mem (List.mem_of_getElem? (i := 362) (by decide +kernel)) rfl
theorem wq_363 : Cond.code (⟨"java/lang/Throwable", "<init>", "()V"⟩ : MethodName) prog_25_method_1_code 1 (Option.none : Option Jvm.ClassFile.FieldType) ∈ lw_all := lw_mem (List.mem_of_getElem? (i := 363) (by decide +kernel)) rfl
theorem wq_364 : Cond.methodLink "java/lang/Throwable" 1 (⟨"java/lang/Object", "<init>", "()V"⟩ : MethodName) ∈ lw_all := lw_mem (List.mem_of_getElem? (i := 364) (by decide +kernel)) rfl
theorem wq_365 : Cond.fieldLink "java/lang/Throwable" 13 "java/lang/Throwable" "UNASSIGNED_STACK" "[Ljava/lang/StackTraceElement;" ∈ lw_all := lw_mem (List.mem_of_getElem? (i := 365) (by decide +kernel)) rfl
theorem wq_366 : Cond.laysStatic "java/lang/Throwable" "UNASSIGNED_STACK" "[Ljava/lang/StackTraceElement;" ∈ lw_tbl := List.mem_of_getElem? (i := 366) (by decide +kernel)
theorem wq_367 : Cond.fieldLink "java/lang/Throwable" 20 "java/lang/Throwable" "SUPPRESSED_SENTINEL" "Ljava/util/List;" ∈ lw_all := lw_mem (List.mem_of_getElem? (i := 367) (by decide +kernel)) rfl
theorem wq_368 : Cond.laysStatic "java/lang/Throwable" "SUPPRESSED_SENTINEL" "Ljava/util/List;" ∈ lw_tbl := List.mem_of_getElem? (i := 368) (by decide +kernel)
theorem wq_369 : Cond.methodLink "java/lang/Throwable" 27 (⟨"java/lang/Throwable", "fillInStackTrace", "()Ljava/lang/Throwable;"⟩ : MethodName) ∈ lw_all := lw_mem (List.mem_of_getElem? (i := 369) (by decide +kernel)) rfl
theorem wq_370 : Cond.instanceMethod (⟨"java/lang/Throwable", "fillInStackTrace", "()Ljava/lang/Throwable;"⟩ : MethodName) ∈ lw_all := lw_mem (List.mem_of_getElem? (i := 370) (by decide +kernel)) rfl
theorem wq_372 : Cond.selects "java/lang/IllegalArgumentException" (⟨"java/lang/Throwable", "fillInStackTrace", "()Ljava/lang/Throwable;"⟩ : MethodName) (⟨"java/lang/Throwable", "fillInStackTrace", "()Ljava/lang/Throwable;"⟩ : MethodName) ∈ lw_all := lw_mem (List.mem_of_getElem? (i := 372) (by decide +kernel)) rfl
theorem wq_373 : Cond.selects "java/lang/IndexOutOfBoundsException" (⟨"java/lang/Throwable", "fillInStackTrace", "()Ljava/lang/Throwable;"⟩ : MethodName) (⟨"java/lang/Throwable", "fillInStackTrace", "()Ljava/lang/Throwable;"⟩ : MethodName) ∈ lw_all := lw_mem (List.mem_of_getElem? (i := 373) (by decide +kernel)) rfl
theorem wq_375 : Cond.methodLink "java/lang/Throwable" 202 (⟨"java/lang/Throwable", "fillInStackTrace", "(I)Ljava/lang/Throwable;"⟩ : MethodName) ∈ lw_all := lw_mem (List.mem_of_getElem? (i := 375) (by decide +kernel)) rfl
theorem wq_377 : Cond.instanceMethod (⟨"java/lang/Throwable", "fillInStackTrace", "(I)Ljava/lang/Throwable;"⟩ : MethodName) ∈ lw_all := lw_mem (List.mem_of_getElem? (i := 377) (by decide +kernel)) rfl
theorem wq_378 : Cond.instantiable "java/lang/Throwable" 6 ∈ lw_all := lw_mem (List.mem_of_getElem? (i := 378) (by decide +kernel)) rfl
theorem wq_379 : Cond.native (⟨"java/lang/Throwable", "fillInStackTrace", "(I)Ljava/lang/Throwable;"⟩ : MethodName) ∈ lw_tbl := List.mem_of_getElem? (i := 379) (by decide +kernel)
theorem wq_381 : Cond.methodLink RX8 33 (⟨"java/lang/IllegalStateException", "<init>", "(Ljava/lang/String;)V"⟩ : MethodName) ∈ lw_all := lw_mem (List.mem_of_getElem? (i := 381) (by decide +kernel)) rfl
theorem wq_382 : Cond.instanceMethod (⟨"java/lang/IllegalStateException", "<init>", "(Ljava/lang/String;)V"⟩ : MethodName) ∈ lw_all := lw_mem (List.mem_of_getElem? (i := 382) (by decide +kernel)) rfl
theorem wq_383 : Cond.code (⟨"java/lang/IllegalStateException", "<init>", "(Ljava/lang/String;)V"⟩ : MethodName) prog_17_method_2_code 2 (Option.none : Option Jvm.ClassFile.FieldType) ∈ lw_all := lw_mem (List.mem_of_getElem? (i := 383) (by decide +kernel)) rfl
theorem wq_384 : Cond.methodLink "java/lang/IllegalStateException" 7 (⟨"java/lang/RuntimeException", "<init>", "(Ljava/lang/String;)V"⟩ : MethodName) ∈ lw_all := lw_mem (List.mem_of_getElem? (i := 384) (by decide +kernel)) rfl
theorem wq_385 : Cond.instanceMethod (⟨"java/lang/RuntimeException", "<init>", "(Ljava/lang/String;)V"⟩ : MethodName) ∈ lw_all := lw_mem (List.mem_of_getElem? (i := 385) (by decide +kernel)) rfl
theorem wq_386 : Cond.code (⟨"java/lang/RuntimeException", "<init>", "(Ljava/lang/String;)V"⟩ : MethodName) prog_22_method_2_code 2 (Option.none : Option Jvm.ClassFile.FieldType) ∈ lw_all := lw_mem (List.mem_of_getElem? (i := 386) (by decide +kernel)) rfl
theorem wq_387 : Cond.methodLink "java/lang/RuntimeException" 7 (⟨"java/lang/Exception", "<init>", "(Ljava/lang/String;)V"⟩ : MethodName) ∈ lw_all := lw_mem (List.mem_of_getElem? (i := 387) (by decide +kernel)) rfl
theorem wq_388 : Cond.instanceMethod (⟨"java/lang/Exception", "<init>", "(Ljava/lang/String;)V"⟩ : MethodName) ∈ lw_all := lw_mem (List.mem_of_getElem? (i := 388) (by decide +kernel)) rfl
theorem wq_389 : Cond.code (⟨"java/lang/Exception", "<init>", "(Ljava/lang/String;)V"⟩ : MethodName) prog_15_method_2_code 2 (Option.none : Option Jvm.ClassFile.FieldType) ∈ lw_all := lw_mem (List.mem_of_getElem? (i := 389) (by decide +kernel)) rfl
theorem wq_390 : Cond.methodLink "java/lang/Exception" 7 (⟨"java/lang/Throwable", "<init>", "(Ljava/lang/String;)V"⟩ : MethodName) ∈ lw_all := lw_mem (List.mem_of_getElem? (i := 390) (by decide +kernel)) rfl
theorem wq_391 : Cond.instanceMethod (⟨"java/lang/Throwable", "<init>", "(Ljava/lang/String;)V"⟩ : MethodName) ∈ lw_all := lw_mem (List.mem_of_getElem? (i := 391) (by decide +kernel)) rfl
theorem wq_392 : Cond.code (⟨"java/lang/Throwable", "<init>", "(Ljava/lang/String;)V"⟩ : MethodName) prog_25_method_2_code 2 (Option.none : Option Jvm.ClassFile.FieldType) ∈ lw_all := lw_mem (List.mem_of_getElem? (i := 392) (by decide +kernel)) rfl
theorem wq_394 : Cond.fieldLink "java/lang/Throwable" 31 "java/lang/Throwable" "detailMessage" "Ljava/lang/String;" ∈ lw_all := lw_mem (List.mem_of_getElem? (i := 394) (by decide +kernel)) rfl
theorem wq_395 : Cond.fieldLink "java/lang/Throwable" 7 "java/lang/Throwable" "cause" "Ljava/lang/Throwable;" ∈ lw_all := lw_mem (List.mem_of_getElem? (i := 395) (by decide +kernel)) rfl
theorem wq_396 : Cond.fieldLink "java/lang/Throwable" 17 "java/lang/Throwable" "stackTrace" "[Ljava/lang/StackTraceElement;" ∈ lw_all := lw_mem (List.mem_of_getElem? (i := 396) (by decide +kernel)) rfl
theorem wq_397 : Cond.fieldLink "java/lang/Throwable" 24 "java/lang/Throwable" "suppressedExceptions" "Ljava/util/List;" ∈ lw_all := lw_mem (List.mem_of_getElem? (i := 397) (by decide +kernel)) rfl
theorem wq_402 : Cond.lays "java/lang/IllegalStateException" "java/lang/Throwable" "depth" "I" ∈ lw_all := lw_mem (List.mem_of_getElem? (i := 402) (by decide +kernel)) rfl
theorem wq_406 : Cond.arrayClass Jvm.ClassFile.FieldType.byte ∈ lw_all := lw_mem (List.mem_of_getElem? (i := 406) (by decide +kernel)) rfl
theorem wq_407 : Cond.classLink RX8 36 "LibraryVan$Halt" ∈ lw_all := lw_mem (List.mem_of_getElem? (i := 407) (by decide +kernel)) rfl
theorem wq_408 : Cond.instantiable RX1 2 ∈ lw_all := lw_mem (List.mem_of_getElem? (i := 408) (by decide +kernel)) rfl
theorem wq_409 : Cond.methodLinkNest RX8 38 yX1_init "LibraryVan" ∈ lw_tbl := List.mem_of_getElem? (i := 409) (by decide +kernel)
theorem wq_410 : Cond.instanceMethod yX1_init ∈ lw_all := lw_mem (List.mem_of_getElem? (i := 410) (by decide +kernel)) rfl
theorem wq_411 : Cond.code yX1_init cX1_init 1 (Option.none : Option Jvm.ClassFile.FieldType) ∈ lw_all := lw_mem (List.mem_of_getElem? (i := 411) (by decide +kernel)) rfl
theorem wq_412 : Cond.methodLink RX1 1 (⟨"java/lang/Object", "<init>", "()V"⟩ : MethodName) ∈ lw_all := lw_mem (List.mem_of_getElem? (i := 412) (by decide +kernel)) rfl
theorem wq_413 : Cond.fieldLink RX1 7 "LibraryVan$Halt" "served" "I" ∈ lw_all := lw_mem (List.mem_of_getElem? (i := 413) (by decide +kernel)) rfl
theorem wq_414 : Cond.fieldLinkNest RX7 138 "LibraryVan$Halt" "served" "I" "LibraryVan" ∈ lw_tbl := List.mem_of_getElem? (i := 414) (by decide +kernel)
theorem wq_415 : Cond.fieldLink RX1 13 "LibraryVan$Halt" "missed" "I" ∈ lw_all := lw_mem (List.mem_of_getElem? (i := 415) (by decide +kernel)) rfl
theorem wq_416 : Cond.fieldLinkNest RX7 141 "LibraryVan$Halt" "missed" "I" "LibraryVan" ∈ lw_tbl := List.mem_of_getElem? (i := 416) (by decide +kernel)
theorem wq_417 : Cond.lays RX1 "LibraryVan$Halt" "served" "I" ∈ lw_all := lw_mem (List.mem_of_getElem? (i := 417) (by decide +kernel)) rfl
theorem wq_419 : Cond.lays RX1 "LibraryVan$Halt" "missed" "I" ∈ lw_all := lw_mem (List.mem_of_getElem? (i := 419) (by decide +kernel)) rfl
theorem wq_422 : Cond.methodLink RX8 39 yJx4a65c_add_9ea2d ∈ lw_all := lw_mem (List.mem_of_getElem? (i := 422) (by decide +kernel)) rfl
theorem wq_423 : Cond.instanceMethod yJx4a65c_add_9ea2d ∈ lw_all := lw_mem (List.mem_of_getElem? (i := 423) (by decide +kernel)) rfl
theorem wq_424 : Cond.selects RJx4a65c yJx4a65c_add_9ea2d yJx4a65c_add_9ea2d ∈ lw_all := lw_mem (List.mem_of_getElem? (i := 424) (by decide +kernel)) rfl
theorem wq_425 : Cond.code yJx4a65c_add_9ea2d cJx4a65c_add_9ea2d 2 (Option.some Jvm.ClassFile.FieldType.boolean) ∈ lw_all := lw_mem (List.mem_of_getElem? (i := 425) (by decide +kernel)) rfl
theorem wq_426 : Cond.methodLink RJx4a65c 131 yJx4a65c_add_72be8 ∈ lw_all := lw_mem (List.mem_of_getElem? (i := 426) (by decide +kernel)) rfl
theorem wq_428 : Cond.instanceMethod yJx4a65c_add_72be8 ∈ lw_all := lw_mem (List.mem_of_getElem? (i := 428) (by decide +kernel)) rfl
theorem wq_429 : Cond.code yJx4a65c_add_72be8 cJx4a65c_add_72be8 4 (Option.none : Option Jvm.ClassFile.FieldType) ∈ lw_all := lw_mem (List.mem_of_getElem? (i := 429) (by decide +kernel)) rfl
theorem wq_430 : Cond.methodLink RJx4a65c 129 yJx4a65c_grow_d5877 ∈ lw_all := lw_mem (List.mem_of_getElem? (i := 430) (by decide +kernel)) rfl
theorem wq_432 : Cond.instanceMethod yJx4a65c_grow_d5877 ∈ lw_all := lw_mem (List.mem_of_getElem? (i := 432) (by decide +kernel)) rfl
theorem wq_433 : Cond.code yJx4a65c_grow_d5877 cJx4a65c_grow_d5877 1 (Option.some (Jvm.ClassFile.FieldType.array (Jvm.ClassFile.FieldType.object "java/lang/Object"))) ∈ lw_all := lw_mem (List.mem_of_getElem? (i := 433) (by decide +kernel)) rfl
theorem wq_434 : Cond.methodLink RJx4a65c 69 yJx4a65c_grow_92f84 ∈ lw_all := lw_mem (List.mem_of_getElem? (i := 434) (by decide +kernel)) rfl
theorem wq_436 : Cond.instanceMethod yJx4a65c_grow_92f84 ∈ lw_all := lw_mem (List.mem_of_getElem? (i := 436) (by decide +kernel)) rfl
theorem wq_437 : Cond.code yJx4a65c_grow_92f84 cJx4a65c_grow_92f84 4 (Option.some (Jvm.ClassFile.FieldType.array (Jvm.ClassFile.FieldType.object "java/lang/Object"))) ∈ lw_all := lw_mem (List.mem_of_getElem? (i := 437) (by decide +kernel)) rfl
theorem wq_438 : Cond.methodLink RJx4a65c 73 yJ8_newLength_cabcc ∈ lw_all := lw_mem (List.mem_of_getElem? (i := 438) (by decide +kernel)) rfl
theorem wq_439 : Cond.static yJ8_newLength_cabcc ∈ lw_all := lw_mem (List.mem_of_getElem? (i := 439) (by decide +kernel)) rfl
theorem wq_440 : Cond.code yJ8_newLength_cabcc cJ8_newLength_cabcc 4 (Option.some Jvm.ClassFile.FieldType.int) ∈ lw_all := lw_mem (List.mem_of_getElem? (i := 440) (by decide +kernel)) rfl
theorem wq_441 : Cond.methodLink RJ8 194 yJ9_max_7cf53 ∈ lw_all := lw_mem (List.mem_of_getElem? (i := 441) (by decide +kernel)) rfl
end
section
theorem wq_442 : Cond.static yJ9_max_7cf53 ∈ lw_all := lw_mem (List.mem_of_getElem? (i := 442) (by decide +kernel)) rfl
theorem wq_443 : Cond.code yJ9_max_7cf53 cJ9_max_7cf53 2 (Option.some Jvm.ClassFile.FieldType.int) ∈ lw_all := lw_mem (List.mem_of_getElem? (i := 443) (by decide +kernel)) rfl
theorem wq_444 : Cond.constant RJ8 200 2147483639 ∈ lw_all := lw_mem (List.mem_of_getElem? (i := 444) (by decide +kernel)) rfl
theorem wq_445 : Cond.methodLink RJ8 201 yJ8_hugeLength_7cf53 ∈ lw_all := lw_mem (List.mem_of_getElem? (i := 445) (by decide +kernel)) rfl
theorem wq_446 : Cond.static yJ8_hugeLength_7cf53 ∈ lw_all := lw_mem (List.mem_of_getElem? (i := 446) (by decide +kernel)) rfl
theorem wq_447 : Cond.code yJ8_hugeLength_7cf53 cJ8_hugeLength_7cf53 3 (Option.some Jvm.ClassFile.FieldType.int) ∈ lw_all := lw_mem (List.mem_of_getElem? (i := 447) (by decide +kernel)) rfl
theorem wq_448 : Cond.methodLink RJx4a65c 66 yJ7_copyOf_1904c ∈ lw_all := lw_mem (List.mem_of_getElem? (i := 448) (by decide +kernel)) rfl
theorem wq_449 : Cond.static yJ7_copyOf_1904c ∈ lw_all := lw_mem (List.mem_of_getElem? (i := 449) (by decide +kernel)) rfl
theorem wq_450 : Cond.code yJ7_copyOf_1904c cJ7_copyOf_1904c 2 (Option.some (Jvm.ClassFile.FieldType.array (Jvm.ClassFile.FieldType.object "java/lang/Object"))) ∈ lw_all := lw_mem (List.mem_of_getElem? (i := 450) (by decide +kernel)) rfl
theorem wq_451 : Cond.methodLink RJ7 86 (⟨"java/lang/Object", "getClass", "()Ljava/lang/Class;"⟩ : MethodName) ∈ lw_all := lw_mem (List.mem_of_getElem? (i := 451) (by decide +kernel)) rfl
theorem wq_452 : Cond.instanceMethod (⟨"java/lang/Object", "getClass", "()Ljava/lang/Class;"⟩ : MethodName) ∈ lw_all := lw_mem (List.mem_of_getElem? (i := 452) (by decide +kernel)) rfl
theorem wq_454 : Cond.selects RX8 (⟨"java/lang/Object", "getClass", "()Ljava/lang/Class;"⟩ : MethodName) (⟨"java/lang/Object", "getClass", "()Ljava/lang/Class;"⟩ : MethodName) ∈ lw_all := lw_mem (List.mem_of_getElem? (i := 454) (by decide +kernel)) rfl
theorem wq_455 : Cond.selects RX0 (⟨"java/lang/Object", "getClass", "()Ljava/lang/Class;"⟩ : MethodName) (⟨"java/lang/Object", "getClass", "()Ljava/lang/Class;"⟩ : MethodName) ∈ lw_all := lw_mem (List.mem_of_getElem? (i := 455) (by decide +kernel)) rfl
theorem wq_456 : Cond.selects RX1 (⟨"java/lang/Object", "getClass", "()Ljava/lang/Class;"⟩ : MethodName) (⟨"java/lang/Object", "getClass", "()Ljava/lang/Class;"⟩ : MethodName) ∈ lw_all := lw_mem (List.mem_of_getElem? (i := 456) (by decide +kernel)) rfl
theorem wq_457 : Cond.selects RX2 (⟨"java/lang/Object", "getClass", "()Ljava/lang/Class;"⟩ : MethodName) (⟨"java/lang/Object", "getClass", "()Ljava/lang/Class;"⟩ : MethodName) ∈ lw_all := lw_mem (List.mem_of_getElem? (i := 457) (by decide +kernel)) rfl
theorem wq_458 : Cond.selects RX3 (⟨"java/lang/Object", "getClass", "()Ljava/lang/Class;"⟩ : MethodName) (⟨"java/lang/Object", "getClass", "()Ljava/lang/Class;"⟩ : MethodName) ∈ lw_all := lw_mem (List.mem_of_getElem? (i := 458) (by decide +kernel)) rfl
theorem wq_459 : Cond.selects RX4 (⟨"java/lang/Object", "getClass", "()Ljava/lang/Class;"⟩ : MethodName) (⟨"java/lang/Object", "getClass", "()Ljava/lang/Class;"⟩ : MethodName) ∈ lw_all := lw_mem (List.mem_of_getElem? (i := 459) (by decide +kernel)) rfl
theorem wq_460 : Cond.selects RX5 (⟨"java/lang/Object", "getClass", "()Ljava/lang/Class;"⟩ : MethodName) (⟨"java/lang/Object", "getClass", "()Ljava/lang/Class;"⟩ : MethodName) ∈ lw_all := lw_mem (List.mem_of_getElem? (i := 460) (by decide +kernel)) rfl
theorem wq_461 : Cond.selects RX6 (⟨"java/lang/Object", "getClass", "()Ljava/lang/Class;"⟩ : MethodName) (⟨"java/lang/Object", "getClass", "()Ljava/lang/Class;"⟩ : MethodName) ∈ lw_all := lw_mem (List.mem_of_getElem? (i := 461) (by decide +kernel)) rfl
theorem wq_462 : Cond.selects RX7 (⟨"java/lang/Object", "getClass", "()Ljava/lang/Class;"⟩ : MethodName) (⟨"java/lang/Object", "getClass", "()Ljava/lang/Class;"⟩ : MethodName) ∈ lw_all := lw_mem (List.mem_of_getElem? (i := 462) (by decide +kernel)) rfl
theorem wq_463 : Cond.selects RX10 (⟨"java/lang/Object", "getClass", "()Ljava/lang/Class;"⟩ : MethodName) (⟨"java/lang/Object", "getClass", "()Ljava/lang/Class;"⟩ : MethodName) ∈ lw_all := lw_mem (List.mem_of_getElem? (i := 463) (by decide +kernel)) rfl
theorem wq_464 : Cond.selects RX9 (⟨"java/lang/Object", "getClass", "()Ljava/lang/Class;"⟩ : MethodName) (⟨"java/lang/Object", "getClass", "()Ljava/lang/Class;"⟩ : MethodName) ∈ lw_all := lw_mem (List.mem_of_getElem? (i := 464) (by decide +kernel)) rfl
theorem wq_465 : Cond.selects "java/lang/IllegalArgumentException" (⟨"java/lang/Object", "getClass", "()Ljava/lang/Class;"⟩ : MethodName) (⟨"java/lang/Object", "getClass", "()Ljava/lang/Class;"⟩ : MethodName) ∈ lw_all := lw_mem (List.mem_of_getElem? (i := 465) (by decide +kernel)) rfl
theorem wq_466 : Cond.selects "java/lang/IllegalStateException" (⟨"java/lang/Object", "getClass", "()Ljava/lang/Class;"⟩ : MethodName) (⟨"java/lang/Object", "getClass", "()Ljava/lang/Class;"⟩ : MethodName) ∈ lw_all := lw_mem (List.mem_of_getElem? (i := 466) (by decide +kernel)) rfl
theorem wq_467 : Cond.selects "java/lang/IndexOutOfBoundsException" (⟨"java/lang/Object", "getClass", "()Ljava/lang/Class;"⟩ : MethodName) (⟨"java/lang/Object", "getClass", "()Ljava/lang/Class;"⟩ : MethodName) ∈ lw_all := lw_mem (List.mem_of_getElem? (i := 467) (by decide +kernel)) rfl
theorem wq_468 : Cond.selects RJx4a65c (⟨"java/lang/Object", "getClass", "()Ljava/lang/Class;"⟩ : MethodName) (⟨"java/lang/Object", "getClass", "()Ljava/lang/Class;"⟩ : MethodName) ∈ lw_all := lw_mem (List.mem_of_getElem? (i := 468) (by decide +kernel)) rfl
theorem wq_469 : Cond.native (⟨"java/lang/Object", "getClass", "()Ljava/lang/Class;"⟩ : MethodName) ∈ lw_tbl := List.mem_of_getElem? (i := 469) (by decide +kernel)
theorem wq_470 : Cond.methodLink RJ7 300 yJ7_copyOf_6403c ∈ lw_all := lw_mem (List.mem_of_getElem? (i := 470) (by decide +kernel)) rfl
theorem wq_471 : Cond.static yJ7_copyOf_6403c ∈ lw_all := lw_mem (List.mem_of_getElem? (i := 471) (by decide +kernel)) rfl
theorem wq_472 : Cond.code yJ7_copyOf_6403c cJ7_copyOf_6403c 4 (Option.some (Jvm.ClassFile.FieldType.array (Jvm.ClassFile.FieldType.object "java/lang/Object"))) ∈ lw_all := lw_mem (List.mem_of_getElem? (i := 472) (by decide +kernel)) rfl
theorem wq_473 : Cond.classLink RJ7 110 "[Ljava/lang/Object;" ∈ lw_all := lw_mem (List.mem_of_getElem? (i := 473) (by decide +kernel)) rfl
theorem wq_474 : Cond.arrayOver (Jvm.ClassFile.FieldType.object "java/lang/Object") ∈ lw_tbl := List.mem_of_getElem? (i := 474) (by decide +kernel)
theorem wq_475 : Cond.classLink RJ7 2 "java/lang/Object" ∈ lw_all := lw_mem (List.mem_of_getElem? (i := 475) (by decide +kernel)) rfl
theorem wq_476 : Cond.methodLink RJ7 304 yJ9_min_7cf53 ∈ lw_all := lw_mem (List.mem_of_getElem? (i := 476) (by decide +kernel)) rfl
theorem wq_477 : Cond.static yJ9_min_7cf53 ∈ lw_all := lw_mem (List.mem_of_getElem? (i := 477) (by decide +kernel)) rfl
theorem wq_478 : Cond.code yJ9_min_7cf53 cJ9_min_7cf53 2 (Option.some Jvm.ClassFile.FieldType.int) ∈ lw_all := lw_mem (List.mem_of_getElem? (i := 478) (by decide +kernel)) rfl
theorem wq_479 : Cond.methodLink RJ7 150 (⟨"java/lang/System", "arraycopy", "(Ljava/lang/Object;ILjava/lang/Object;II)V"⟩ : MethodName) ∈ lw_all := lw_mem (List.mem_of_getElem? (i := 479) (by decide +kernel)) rfl
theorem wq_480 : Cond.static (⟨"java/lang/System", "arraycopy", "(Ljava/lang/Object;ILjava/lang/Object;II)V"⟩ : MethodName) ∈ lw_all := lw_mem (List.mem_of_getElem? (i := 480) (by decide +kernel)) rfl
theorem wq_481 : Cond.native (⟨"java/lang/System", "arraycopy", "(Ljava/lang/Object;ILjava/lang/Object;II)V"⟩ : MethodName) ∈ lw_tbl := List.mem_of_getElem? (i := 481) (by decide +kernel)
theorem wq_482 : Cond.methodLink RJx4a65c 79 yJ9_max_7cf53 ∈ lw_all := lw_mem (List.mem_of_getElem? (i := 482) (by decide +kernel)) rfl
theorem wq_483 : Cond.classLink RJx4a65c 7 "java/lang/Object" ∈ lw_all := lw_mem (List.mem_of_getElem? (i := 483) (by decide +kernel)) rfl
theorem wq_484 : Cond.methodLink RL 90 yL_addLane ∈ lw_all := lw_mem (List.mem_of_getElem? (i := 484) (by decide +kernel)) rfl
theorem wq_485 : Cond.static yL_addLane ∈ lw_all := lw_mem (List.mem_of_getElem? (i := 485) (by decide +kernel)) rfl
theorem wq_486 : Cond.codeWith yL_addLane method_4_code 7 (Option.some Jvm.ClassFile.FieldType.int) [((0 : Nat), (14 : Nat), (17 : Nat), (19 : Nat)), ((0 : Nat), (14 : Nat), (21 : Nat), (21 : Nat)), ((0 : Nat), (14 : Nat), (25 : Nat), (13 : Nat))] ∈ lw_all := lw_mem (List.mem_of_getElem? (i := 486) (by decide +kernel)) rfl
theorem wq_487 : Cond.classLink RL 19 "java/lang/IndexOutOfBoundsException" ∈ lw_all := lw_mem (List.mem_of_getElem? (i := 487) (by decide +kernel)) rfl
theorem wq_488 : Cond.classLink RL 21 "java/lang/IllegalArgumentException" ∈ lw_all := lw_mem (List.mem_of_getElem? (i := 488) (by decide +kernel)) rfl
theorem wq_489 : Cond.methodLink RL 15 yX8_addLane ∈ lw_all := lw_mem (List.mem_of_getElem? (i := 489) (by decide +kernel)) rfl
theorem wq_490 : Cond.instanceMethod yX8_addLane ∈ lw_all := lw_mem (List.mem_of_getElem? (i := 490) (by decide +kernel)) rfl
theorem wq_491 : Cond.selects RX8 yX8_addLane yX8_addLane ∈ lw_all := lw_mem (List.mem_of_getElem? (i := 491) (by decide +kernel)) rfl
theorem wq_492 : Cond.code yX8_addLane cX8_addLane 6 (Option.some Jvm.ClassFile.FieldType.int) ∈ lw_all := lw_mem (List.mem_of_getElem? (i := 492) (by decide +kernel)) rfl
theorem wq_493 : Cond.methodLink RX8 43 yX8_needHalt ∈ lw_all := lw_mem (List.mem_of_getElem? (i := 493) (by decide +kernel)) rfl
theorem wq_495 : Cond.instanceMethod yX8_needHalt ∈ lw_all := lw_mem (List.mem_of_getElem? (i := 495) (by decide +kernel)) rfl
theorem wq_496 : Cond.code yX8_needHalt cX8_needHalt 2 (Option.none : Option Jvm.ClassFile.FieldType) ∈ lw_all := lw_mem (List.mem_of_getElem? (i := 496) (by decide +kernel)) rfl
theorem wq_497 : Cond.methodLink RX8 70 yX8_needKind ∈ lw_all := lw_mem (List.mem_of_getElem? (i := 497) (by decide +kernel)) rfl
theorem wq_498 : Cond.static yX8_needKind ∈ lw_all := lw_mem (List.mem_of_getElem? (i := 498) (by decide +kernel)) rfl
theorem wq_499 : Cond.code yX8_needKind cX8_needKind 2 (Option.none : Option Jvm.ClassFile.FieldType) ∈ lw_all := lw_mem (List.mem_of_getElem? (i := 499) (by decide +kernel)) rfl
theorem wq_500 : Cond.classLink RX8 225 "java/lang/IndexOutOfBoundsException" ∈ lw_all := lw_mem (List.mem_of_getElem? (i := 500) (by decide +kernel)) rfl
theorem wq_501 : Cond.instantiable "java/lang/IndexOutOfBoundsException" 6 ∈ lw_all := lw_mem (List.mem_of_getElem? (i := 501) (by decide +kernel)) rfl
theorem wq_502 : Cond.castable "java/lang/IndexOutOfBoundsException" "java/lang/IndexOutOfBoundsException" ∈ lw_tbl := List.mem_of_getElem? (i := 502) (by decide +kernel)
theorem wq_503 : Cond.selects "java/lang/IndexOutOfBoundsException" (⟨"java/lang/Throwable", "fillInStackTrace", "(I)Ljava/lang/Throwable;"⟩ : MethodName) (⟨"java/lang/Throwable", "fillInStackTrace", "(I)Ljava/lang/Throwable;"⟩ : MethodName) ∈ lw_all := lw_mem (List.mem_of_getElem? (i := 503) (by decide +kernel)) rfl
theorem wq_504 : Cond.lays "java/lang/IndexOutOfBoundsException" "java/lang/Throwable" "cause" "Ljava/lang/Throwable;" ∈ lw_all := lw_mem (List.mem_of_getElem? (i := 504) (by decide +kernel)) rfl
theorem wq_505 : Cond.lays "java/lang/IndexOutOfBoundsException" "java/lang/Throwable" "stackTrace" "[Ljava/lang/StackTraceElement;" ∈ lw_all := lw_mem (List.mem_of_getElem? (i := 505) (by decide +kernel)) rfl
theorem wq_506 : Cond.lays "java/lang/IndexOutOfBoundsException" "java/lang/Throwable" "suppressedExceptions" "Ljava/util/List;" ∈ lw_all := lw_mem (List.mem_of_getElem? (i := 506) (by decide +kernel)) rfl
theorem wq_507 : Cond.lays "java/lang/IndexOutOfBoundsException" "java/lang/Throwable" "detailMessage" "Ljava/lang/String;" ∈ lw_all := lw_mem (List.mem_of_getElem? (i := 507) (by decide +kernel)) rfl
theorem wq_508 : Cond.lays "java/lang/IndexOutOfBoundsException" "java/lang/Throwable" "backtrace" "Ljava/lang/Object;" ∈ lw_all := lw_mem (List.mem_of_getElem? (i := 508) (by decide +kernel)) rfl
theorem wq_510 : Cond.methodLink RX8 229 (⟨"java/lang/IndexOutOfBoundsException", "<init>", "(Ljava/lang/String;)V"⟩ : MethodName) ∈ lw_all := lw_mem (List.mem_of_getElem? (i := 510) (by decide +kernel)) rfl
theorem wq_511 : Cond.instanceMethod (⟨"java/lang/IndexOutOfBoundsException", "<init>", "(Ljava/lang/String;)V"⟩ : MethodName) ∈ lw_all := lw_mem (List.mem_of_getElem? (i := 511) (by decide +kernel)) rfl
theorem wq_512 : Cond.code (⟨"java/lang/IndexOutOfBoundsException", "<init>", "(Ljava/lang/String;)V"⟩ : MethodName) prog_18_method_2_code 2 (Option.none : Option Jvm.ClassFile.FieldType) ∈ lw_all := lw_mem (List.mem_of_getElem? (i := 512) (by decide +kernel)) rfl
theorem wq_513 : Cond.methodLink "java/lang/IndexOutOfBoundsException" 7 (⟨"java/lang/RuntimeException", "<init>", "(Ljava/lang/String;)V"⟩ : MethodName) ∈ lw_all := lw_mem (List.mem_of_getElem? (i := 513) (by decide +kernel)) rfl
theorem wq_514 : Cond.lays "java/lang/IndexOutOfBoundsException" "java/lang/Throwable" "depth" "I" ∈ lw_all := lw_mem (List.mem_of_getElem? (i := 514) (by decide +kernel)) rfl
theorem wq_516 : Cond.classLink RX8 47 "java/lang/IllegalArgumentException" ∈ lw_all := lw_mem (List.mem_of_getElem? (i := 516) (by decide +kernel)) rfl
theorem wq_517 : Cond.instantiable "java/lang/IllegalArgumentException" 6 ∈ lw_all := lw_mem (List.mem_of_getElem? (i := 517) (by decide +kernel)) rfl
theorem wq_518 : Cond.castable "java/lang/IllegalArgumentException" "java/lang/IllegalArgumentException" ∈ lw_tbl := List.mem_of_getElem? (i := 518) (by decide +kernel)
theorem wq_519 : Cond.selects "java/lang/IllegalArgumentException" (⟨"java/lang/Throwable", "fillInStackTrace", "(I)Ljava/lang/Throwable;"⟩ : MethodName) (⟨"java/lang/Throwable", "fillInStackTrace", "(I)Ljava/lang/Throwable;"⟩ : MethodName) ∈ lw_all := lw_mem (List.mem_of_getElem? (i := 519) (by decide +kernel)) rfl
theorem wq_520 : Cond.lays "java/lang/IllegalArgumentException" "java/lang/Throwable" "cause" "Ljava/lang/Throwable;" ∈ lw_all := lw_mem (List.mem_of_getElem? (i := 520) (by decide +kernel)) rfl
theorem wq_521 : Cond.lays "java/lang/IllegalArgumentException" "java/lang/Throwable" "stackTrace" "[Ljava/lang/StackTraceElement;" ∈ lw_all := lw_mem (List.mem_of_getElem? (i := 521) (by decide +kernel)) rfl
theorem wq_522 : Cond.lays "java/lang/IllegalArgumentException" "java/lang/Throwable" "suppressedExceptions" "Ljava/util/List;" ∈ lw_all := lw_mem (List.mem_of_getElem? (i := 522) (by decide +kernel)) rfl
theorem wq_523 : Cond.lays "java/lang/IllegalArgumentException" "java/lang/Throwable" "detailMessage" "Ljava/lang/String;" ∈ lw_all := lw_mem (List.mem_of_getElem? (i := 523) (by decide +kernel)) rfl
theorem wq_524 : Cond.lays "java/lang/IllegalArgumentException" "java/lang/Throwable" "backtrace" "Ljava/lang/Object;" ∈ lw_all := lw_mem (List.mem_of_getElem? (i := 524) (by decide +kernel)) rfl
theorem wq_526 : Cond.methodLink RX8 51 (⟨"java/lang/IllegalArgumentException", "<init>", "(Ljava/lang/String;)V"⟩ : MethodName) ∈ lw_all := lw_mem (List.mem_of_getElem? (i := 526) (by decide +kernel)) rfl
theorem wq_527 : Cond.instanceMethod (⟨"java/lang/IllegalArgumentException", "<init>", "(Ljava/lang/String;)V"⟩ : MethodName) ∈ lw_all := lw_mem (List.mem_of_getElem? (i := 527) (by decide +kernel)) rfl
theorem wq_528 : Cond.code (⟨"java/lang/IllegalArgumentException", "<init>", "(Ljava/lang/String;)V"⟩ : MethodName) prog_16_method_2_code 2 (Option.none : Option Jvm.ClassFile.FieldType) ∈ lw_all := lw_mem (List.mem_of_getElem? (i := 528) (by decide +kernel)) rfl
theorem wq_529 : Cond.methodLink "java/lang/IllegalArgumentException" 7 (⟨"java/lang/RuntimeException", "<init>", "(Ljava/lang/String;)V"⟩ : MethodName) ∈ lw_all := lw_mem (List.mem_of_getElem? (i := 529) (by decide +kernel)) rfl
theorem wq_530 : Cond.lays "java/lang/IllegalArgumentException" "java/lang/Throwable" "depth" "I" ∈ lw_all := lw_mem (List.mem_of_getElem? (i := 530) (by decide +kernel)) rfl
theorem wq_532 : Cond.methodLink RX8 52 yX8_isWithin ∈ lw_all := lw_mem (List.mem_of_getElem? (i := 532) (by decide +kernel)) rfl
theorem wq_533 : Cond.static yX8_isWithin ∈ lw_all := lw_mem (List.mem_of_getElem? (i := 533) (by decide +kernel)) rfl
theorem wq_534 : Cond.code yX8_isWithin cX8_isWithin 3 (Option.some Jvm.ClassFile.FieldType.boolean) ∈ lw_all := lw_mem (List.mem_of_getElem? (i := 534) (by decide +kernel)) rfl
theorem wq_538 : Cond.classLink RX8 65 "LibraryVan$Lane" ∈ lw_all := lw_mem (List.mem_of_getElem? (i := 538) (by decide +kernel)) rfl
theorem wq_539 : Cond.instantiable RX2 5 ∈ lw_all := lw_mem (List.mem_of_getElem? (i := 539) (by decide +kernel)) rfl
theorem wq_540 : Cond.methodLink RX8 67 yX2_init ∈ lw_all := lw_mem (List.mem_of_getElem? (i := 540) (by decide +kernel)) rfl
theorem wq_541 : Cond.instanceMethod yX2_init ∈ lw_all := lw_mem (List.mem_of_getElem? (i := 541) (by decide +kernel)) rfl
theorem wq_542 : Cond.code yX2_init cX2_init 5 (Option.none : Option Jvm.ClassFile.FieldType) ∈ lw_all := lw_mem (List.mem_of_getElem? (i := 542) (by decide +kernel)) rfl
theorem wq_543 : Cond.methodLink RX2 3 (⟨"java/lang/Object", "<init>", "()V"⟩ : MethodName) ∈ lw_all := lw_mem (List.mem_of_getElem? (i := 543) (by decide +kernel)) rfl
theorem wq_544 : Cond.fieldLink RX2 9 "LibraryVan$Lane" "a" "I" ∈ lw_all := lw_mem (List.mem_of_getElem? (i := 544) (by decide +kernel)) rfl
theorem wq_545 : Cond.fieldLinkNest RX6 32 "LibraryVan$Lane" "a" "I" "LibraryVan" ∈ lw_tbl := List.mem_of_getElem? (i := 545) (by decide +kernel)
theorem wq_546 : Cond.fieldLinkNest RX7 207 "LibraryVan$Lane" "a" "I" "LibraryVan" ∈ lw_tbl := List.mem_of_getElem? (i := 546) (by decide +kernel)
theorem wq_547 : Cond.fieldLink RX2 15 "LibraryVan$Lane" "b" "I" ∈ lw_all := lw_mem (List.mem_of_getElem? (i := 547) (by decide +kernel)) rfl
theorem wq_548 : Cond.fieldLinkNest RX6 36 "LibraryVan$Lane" "b" "I" "LibraryVan" ∈ lw_tbl := List.mem_of_getElem? (i := 548) (by decide +kernel)
theorem wq_549 : Cond.fieldLinkNest RX7 210 "LibraryVan$Lane" "b" "I" "LibraryVan" ∈ lw_tbl := List.mem_of_getElem? (i := 549) (by decide +kernel)
theorem wq_550 : Cond.fieldLink RX2 18 "LibraryVan$Lane" "length" "I" ∈ lw_all := lw_mem (List.mem_of_getElem? (i := 550) (by decide +kernel)) rfl
theorem wq_551 : Cond.fieldLinkNest RX7 213 "LibraryVan$Lane" "length" "I" "LibraryVan" ∈ lw_tbl := List.mem_of_getElem? (i := 551) (by decide +kernel)
theorem wq_552 : Cond.fieldLink RX2 21 "LibraryVan$Lane" "clay" "I" ∈ lw_all := lw_mem (List.mem_of_getElem? (i := 552) (by decide +kernel)) rfl
theorem wq_553 : Cond.fieldLinkNest RX7 216 "LibraryVan$Lane" "clay" "I" "LibraryVan" ∈ lw_tbl := List.mem_of_getElem? (i := 553) (by decide +kernel)
theorem wq_554 : Cond.fieldLink RX2 24 "LibraryVan$Lane" "mud" "I" ∈ lw_all := lw_mem (List.mem_of_getElem? (i := 554) (by decide +kernel)) rfl
theorem wq_555 : Cond.fieldLinkNest RX7 219 "LibraryVan$Lane" "mud" "I" "LibraryVan" ∈ lw_tbl := List.mem_of_getElem? (i := 555) (by decide +kernel)
theorem wq_556 : Cond.laysFinal RX2 "LibraryVan$Lane" "a" "I" ∈ lw_all := lw_mem (List.mem_of_getElem? (i := 556) (by decide +kernel)) rfl
theorem wq_558 : Cond.laysFinal RX2 "LibraryVan$Lane" "b" "I" ∈ lw_all := lw_mem (List.mem_of_getElem? (i := 558) (by decide +kernel)) rfl
theorem wq_560 : Cond.laysFinal RX2 "LibraryVan$Lane" "length" "I" ∈ lw_all := lw_mem (List.mem_of_getElem? (i := 560) (by decide +kernel)) rfl
theorem wq_562 : Cond.laysFinal RX2 "LibraryVan$Lane" "clay" "I" ∈ lw_all := lw_mem (List.mem_of_getElem? (i := 562) (by decide +kernel)) rfl
theorem wq_564 : Cond.lays RX2 "LibraryVan$Lane" "mud" "I" ∈ lw_all := lw_mem (List.mem_of_getElem? (i := 564) (by decide +kernel)) rfl
theorem wq_567 : Cond.methodLink RL 94 yL_setRain ∈ lw_all := lw_mem (List.mem_of_getElem? (i := 567) (by decide +kernel)) rfl
theorem wq_568 : Cond.static yL_setRain ∈ lw_all := lw_mem (List.mem_of_getElem? (i := 568) (by decide +kernel)) rfl
theorem wq_569 : Cond.codeWith yL_setRain method_5_code 5 (Option.some Jvm.ClassFile.FieldType.int) [((0 : Nat), (10 : Nat), (13 : Nat), (19 : Nat)), ((0 : Nat), (10 : Nat), (17 : Nat), (21 : Nat))] ∈ lw_all := lw_mem (List.mem_of_getElem? (i := 569) (by decide +kernel)) rfl
theorem wq_570 : Cond.methodLink RL 23 yX8_setRain ∈ lw_all := lw_mem (List.mem_of_getElem? (i := 570) (by decide +kernel)) rfl
theorem wq_571 : Cond.instanceMethod yX8_setRain ∈ lw_all := lw_mem (List.mem_of_getElem? (i := 571) (by decide +kernel)) rfl
theorem wq_572 : Cond.selects RX8 yX8_setRain yX8_setRain ∈ lw_all := lw_mem (List.mem_of_getElem? (i := 572) (by decide +kernel)) rfl
theorem wq_573 : Cond.code yX8_setRain cX8_setRain 3 (Option.some Jvm.ClassFile.FieldType.int) ∈ lw_all := lw_mem (List.mem_of_getElem? (i := 573) (by decide +kernel)) rfl
theorem wq_575 : Cond.methodLink RX8 76 yX7_changeRain ∈ lw_all := lw_mem (List.mem_of_getElem? (i := 575) (by decide +kernel)) rfl
theorem wq_576 : Cond.instanceMethod yX7_changeRain ∈ lw_all := lw_mem (List.mem_of_getElem? (i := 576) (by decide +kernel)) rfl
theorem wq_577 : Cond.selects RX7 yX7_changeRain yX7_changeRain ∈ lw_all := lw_mem (List.mem_of_getElem? (i := 577) (by decide +kernel)) rfl
theorem wq_578 : Cond.code yX7_changeRain cX7_changeRain 4 (Option.some Jvm.ClassFile.FieldType.int) ∈ lw_all := lw_mem (List.mem_of_getElem? (i := 578) (by decide +kernel)) rfl
theorem wq_579 : Cond.methodLink RL 98 yL_setRound ∈ lw_all := lw_mem (List.mem_of_getElem? (i := 579) (by decide +kernel)) rfl
theorem wq_580 : Cond.static yL_setRound ∈ lw_all := lw_mem (List.mem_of_getElem? (i := 580) (by decide +kernel)) rfl
theorem wq_581 : Cond.codeWith yL_setRound method_6_code 5 (Option.some Jvm.ClassFile.FieldType.int) [((0 : Nat), (10 : Nat), (13 : Nat), (21 : Nat))] ∈ lw_all := lw_mem (List.mem_of_getElem? (i := 581) (by decide +kernel)) rfl
theorem wq_582 : Cond.methodLink RL 27 yX8_setRound ∈ lw_all := lw_mem (List.mem_of_getElem? (i := 582) (by decide +kernel)) rfl
theorem wq_583 : Cond.instanceMethod yX8_setRound ∈ lw_all := lw_mem (List.mem_of_getElem? (i := 583) (by decide +kernel)) rfl
theorem wq_584 : Cond.selects RX8 yX8_setRound yX8_setRound ∈ lw_all := lw_mem (List.mem_of_getElem? (i := 584) (by decide +kernel)) rfl
theorem wq_585 : Cond.code yX8_setRound cX8_setRound 3 (Option.some Jvm.ClassFile.FieldType.int) ∈ lw_all := lw_mem (List.mem_of_getElem? (i := 585) (by decide +kernel)) rfl
theorem wq_586 : Cond.constant RX8 80 99999999 ∈ lw_all := lw_mem (List.mem_of_getElem? (i := 586) (by decide +kernel)) rfl
theorem wq_588 : Cond.methodLink RX8 83 yX8_standsForHalts ∈ lw_all := lw_mem (List.mem_of_getElem? (i := 588) (by decide +kernel)) rfl
theorem wq_589 : Cond.static yX8_standsForHalts ∈ lw_all := lw_mem (List.mem_of_getElem? (i := 589) (by decide +kernel)) rfl
theorem wq_590 : Cond.code yX8_standsForHalts cX8_standsForHalts 3 (Option.some Jvm.ClassFile.FieldType.boolean) ∈ lw_all := lw_mem (List.mem_of_getElem? (i := 590) (by decide +kernel)) rfl
theorem wq_593 : Cond.methodLink RX8 95 yX5_tellAnew ∈ lw_all := lw_mem (List.mem_of_getElem? (i := 593) (by decide +kernel)) rfl
theorem wq_594 : Cond.instanceMethod yX5_tellAnew ∈ lw_all := lw_mem (List.mem_of_getElem? (i := 594) (by decide +kernel)) rfl
theorem wq_595 : Cond.selects RX5 yX5_tellAnew yX5_tellAnew ∈ lw_all := lw_mem (List.mem_of_getElem? (i := 595) (by decide +kernel)) rfl
theorem wq_596 : Cond.code yX5_tellAnew cX5_tellAnew 5 (Option.none : Option Jvm.ClassFile.FieldType) ∈ lw_all := lw_mem (List.mem_of_getElem? (i := 596) (by decide +kernel)) rfl
theorem wq_597 : Cond.constant RX5 22 10000000 ∈ lw_all := lw_mem (List.mem_of_getElem? (i := 597) (by decide +kernel)) rfl
theorem wq_598 : Cond.methodLink RX5 23 yX5_append ∈ lw_all := lw_mem (List.mem_of_getElem? (i := 598) (by decide +kernel)) rfl
theorem wq_599 : Cond.instanceMethod yX5_append ∈ lw_all := lw_mem (List.mem_of_getElem? (i := 599) (by decide +kernel)) rfl
theorem wq_600 : Cond.selects RX5 yX5_append yX5_append ∈ lw_all := lw_mem (List.mem_of_getElem? (i := 600) (by decide +kernel)) rfl
theorem wq_601 : Cond.code yX5_append cX5_append 2 (Option.none : Option Jvm.ClassFile.FieldType) ∈ lw_all := lw_mem (List.mem_of_getElem? (i := 601) (by decide +kernel)) rfl
theorem wq_602 : Cond.methodLink RX8 100 yX5_size ∈ lw_all := lw_mem (List.mem_of_getElem? (i := 602) (by decide +kernel)) rfl
theorem wq_603 : Cond.methodLink RL 101 yL_halt ∈ lw_all := lw_mem (List.mem_of_getElem? (i := 603) (by decide +kernel)) rfl
theorem wq_604 : Cond.static yL_halt ∈ lw_all := lw_mem (List.mem_of_getElem? (i := 604) (by decide +kernel)) rfl
theorem wq_605 : Cond.codeWith yL_halt method_7_code 5 (Option.some Jvm.ClassFile.FieldType.int) [((0 : Nat), (10 : Nat), (13 : Nat), (19 : Nat))] ∈ lw_all := lw_mem (List.mem_of_getElem? (i := 605) (by decide +kernel)) rfl
theorem wq_606 : Cond.methodLink RL 30 yX8_halt ∈ lw_all := lw_mem (List.mem_of_getElem? (i := 606) (by decide +kernel)) rfl
theorem wq_607 : Cond.instanceMethod yX8_halt ∈ lw_all := lw_mem (List.mem_of_getElem? (i := 607) (by decide +kernel)) rfl
theorem wq_608 : Cond.selects RX8 yX8_halt yX8_halt ∈ lw_all := lw_mem (List.mem_of_getElem? (i := 608) (by decide +kernel)) rfl
theorem wq_609 : Cond.code yX8_halt cX8_halt 3 (Option.some Jvm.ClassFile.FieldType.int) ∈ lw_all := lw_mem (List.mem_of_getElem? (i := 609) (by decide +kernel)) rfl
theorem wq_610 : Cond.methodLink RX8 101 yX7_haltAnswer ∈ lw_all := lw_mem (List.mem_of_getElem? (i := 610) (by decide +kernel)) rfl
theorem wq_611 : Cond.methodLink RL 104 yL_lane ∈ lw_all := lw_mem (List.mem_of_getElem? (i := 611) (by decide +kernel)) rfl
theorem wq_612 : Cond.static yL_lane ∈ lw_all := lw_mem (List.mem_of_getElem? (i := 612) (by decide +kernel)) rfl
theorem wq_613 : Cond.codeWith yL_lane method_8_code 5 (Option.some Jvm.ClassFile.FieldType.int) [((0 : Nat), (10 : Nat), (13 : Nat), (19 : Nat))] ∈ lw_all := lw_mem (List.mem_of_getElem? (i := 613) (by decide +kernel)) rfl
theorem wq_614 : Cond.methodLink RL 33 yX8_lane ∈ lw_all := lw_mem (List.mem_of_getElem? (i := 614) (by decide +kernel)) rfl
theorem wq_615 : Cond.instanceMethod yX8_lane ∈ lw_all := lw_mem (List.mem_of_getElem? (i := 615) (by decide +kernel)) rfl
theorem wq_616 : Cond.selects RX8 yX8_lane yX8_lane ∈ lw_all := lw_mem (List.mem_of_getElem? (i := 616) (by decide +kernel)) rfl
theorem wq_617 : Cond.code yX8_lane cX8_lane 3 (Option.some Jvm.ClassFile.FieldType.int) ∈ lw_all := lw_mem (List.mem_of_getElem? (i := 617) (by decide +kernel)) rfl
theorem wq_618 : Cond.methodLink RX8 104 yX7_laneAnswer ∈ lw_all := lw_mem (List.mem_of_getElem? (i := 618) (by decide +kernel)) rfl
theorem wq_619 : Cond.methodLink RL 107 yL_way ∈ lw_all := lw_mem (List.mem_of_getElem? (i := 619) (by decide +kernel)) rfl
theorem wq_620 : Cond.static yL_way ∈ lw_all := lw_mem (List.mem_of_getElem? (i := 620) (by decide +kernel)) rfl
theorem wq_621 : Cond.codeWith yL_way method_9_code 5 (Option.some Jvm.ClassFile.FieldType.int) [((0 : Nat), (10 : Nat), (13 : Nat), (19 : Nat))] ∈ lw_all := lw_mem (List.mem_of_getElem? (i := 621) (by decide +kernel)) rfl
theorem wq_622 : Cond.methodLink RL 36 yX8_way ∈ lw_all := lw_mem (List.mem_of_getElem? (i := 622) (by decide +kernel)) rfl
theorem wq_623 : Cond.instanceMethod yX8_way ∈ lw_all := lw_mem (List.mem_of_getElem? (i := 623) (by decide +kernel)) rfl
theorem wq_624 : Cond.selects RX8 yX8_way yX8_way ∈ lw_all := lw_mem (List.mem_of_getElem? (i := 624) (by decide +kernel)) rfl
theorem wq_625 : Cond.code yX8_way cX8_way 3 (Option.some Jvm.ClassFile.FieldType.int) ∈ lw_all := lw_mem (List.mem_of_getElem? (i := 625) (by decide +kernel)) rfl
theorem wq_626 : Cond.methodLink RX8 107 yX7_minutesOfWay ∈ lw_all := lw_mem (List.mem_of_getElem? (i := 626) (by decide +kernel)) rfl
theorem wq_627 : Cond.instanceMethod yX7_minutesOfWay ∈ lw_all := lw_mem (List.mem_of_getElem? (i := 627) (by decide +kernel)) rfl
theorem wq_628 : Cond.selects RX7 yX7_minutesOfWay yX7_minutesOfWay ∈ lw_all := lw_mem (List.mem_of_getElem? (i := 628) (by decide +kernel)) rfl
theorem wq_629 : Cond.code yX7_minutesOfWay cX7_minutesOfWay 4 (Option.some Jvm.ClassFile.FieldType.int) ∈ lw_all := lw_mem (List.mem_of_getElem? (i := 629) (by decide +kernel)) rfl
theorem wq_630 : Cond.methodLink RX7 49 yX6_measure ∈ lw_all := lw_mem (List.mem_of_getElem? (i := 630) (by decide +kernel)) rfl
theorem wq_631 : Cond.instanceMethod yX6_measure ∈ lw_all := lw_mem (List.mem_of_getElem? (i := 631) (by decide +kernel)) rfl
theorem wq_632 : Cond.selects RX6 yX6_measure yX6_measure ∈ lw_all := lw_mem (List.mem_of_getElem? (i := 632) (by decide +kernel)) rfl
theorem wq_633 : Cond.code yX6_measure cX6_measure 7 (Option.none : Option Jvm.ClassFile.FieldType) ∈ lw_all := lw_mem (List.mem_of_getElem? (i := 633) (by decide +kernel)) rfl
theorem wq_634 : Cond.constant RX6 15 1000000 ∈ lw_all := lw_mem (List.mem_of_getElem? (i := 634) (by decide +kernel)) rfl
theorem wq_635 : Cond.methodLink RX6 16 yJx4a65c_size_8abf5 ∈ lw_all := lw_mem (List.mem_of_getElem? (i := 635) (by decide +kernel)) rfl
theorem wq_636 : Cond.methodLink RX6 22 yJx4a65c_get_915e3 ∈ lw_all := lw_mem (List.mem_of_getElem? (i := 636) (by decide +kernel)) rfl
theorem wq_637 : Cond.classLink RX6 26 "LibraryVan$Lane" ∈ lw_all := lw_mem (List.mem_of_getElem? (i := 637) (by decide +kernel)) rfl
theorem wq_638 : Cond.methodLink RX6 28 yX2_isUsable ∈ lw_all := lw_mem (List.mem_of_getElem? (i := 638) (by decide +kernel)) rfl
theorem wq_639 : Cond.methodLink RX6 39 yX2_minutes ∈ lw_all := lw_mem (List.mem_of_getElem? (i := 639) (by decide +kernel)) rfl
theorem wq_640 : Cond.methodLink RX6 42 yX6_shorten ∈ lw_all := lw_mem (List.mem_of_getElem? (i := 640) (by decide +kernel)) rfl
theorem wq_642 : Cond.instanceMethod yX6_shorten ∈ lw_all := lw_mem (List.mem_of_getElem? (i := 642) (by decide +kernel)) rfl
theorem wq_643 : Cond.code yX6_shorten cX6_shorten 5 (Option.none : Option Jvm.ClassFile.FieldType) ∈ lw_all := lw_mem (List.mem_of_getElem? (i := 643) (by decide +kernel)) rfl
theorem wq_644 : Cond.methodLink RX6 46 yX6_time ∈ lw_all := lw_mem (List.mem_of_getElem? (i := 644) (by decide +kernel)) rfl
theorem wq_645 : Cond.instanceMethod yX6_time ∈ lw_all := lw_mem (List.mem_of_getElem? (i := 645) (by decide +kernel)) rfl
theorem wq_646 : Cond.selects RX6 yX6_time yX6_time ∈ lw_all := lw_mem (List.mem_of_getElem? (i := 646) (by decide +kernel)) rfl
theorem wq_647 : Cond.code yX6_time cX6_time 4 (Option.some Jvm.ClassFile.FieldType.int) ∈ lw_all := lw_mem (List.mem_of_getElem? (i := 647) (by decide +kernel)) rfl
theorem wq_648 : Cond.methodLink RX7 53 yX6_time ∈ lw_all := lw_mem (List.mem_of_getElem? (i := 648) (by decide +kernel)) rfl
theorem wq_649 : Cond.constant RX7 57 1000000 ∈ lw_all := lw_mem (List.mem_of_getElem? (i := 649) (by decide +kernel)) rfl
theorem wq_650 : Cond.methodLink RL 110 yL_addBook ∈ lw_all := lw_mem (List.mem_of_getElem? (i := 650) (by decide +kernel)) rfl
theorem wq_651 : Cond.static yL_addBook ∈ lw_all := lw_mem (List.mem_of_getElem? (i := 651) (by decide +kernel)) rfl
theorem wq_652 : Cond.codeWith yL_addBook method_10_code 4 (Option.some Jvm.ClassFile.FieldType.int) [((0 : Nat), (9 : Nat), (12 : Nat), (21 : Nat)), ((0 : Nat), (9 : Nat), (15 : Nat), (13 : Nat))] ∈ lw_all := lw_mem (List.mem_of_getElem? (i := 652) (by decide +kernel)) rfl
theorem wq_653 : Cond.methodLink RL 39 yX8_addBook ∈ lw_all := lw_mem (List.mem_of_getElem? (i := 653) (by decide +kernel)) rfl
theorem wq_654 : Cond.instanceMethod yX8_addBook ∈ lw_all := lw_mem (List.mem_of_getElem? (i := 654) (by decide +kernel)) rfl
theorem wq_655 : Cond.selects RX8 yX8_addBook yX8_addBook ∈ lw_all := lw_mem (List.mem_of_getElem? (i := 655) (by decide +kernel)) rfl
theorem wq_656 : Cond.code yX8_addBook cX8_addBook 3 (Option.some Jvm.ClassFile.FieldType.int) ∈ lw_all := lw_mem (List.mem_of_getElem? (i := 656) (by decide +kernel)) rfl
theorem wq_659 : Cond.classLink RX8 117 "LibraryVan$Book" ∈ lw_all := lw_mem (List.mem_of_getElem? (i := 659) (by decide +kernel)) rfl
theorem wq_660 : Cond.instantiable RX0 6 ∈ lw_all := lw_mem (List.mem_of_getElem? (i := 660) (by decide +kernel)) rfl
theorem wq_661 : Cond.methodLink RX8 119 yX0_init ∈ lw_all := lw_mem (List.mem_of_getElem? (i := 661) (by decide +kernel)) rfl
theorem wq_662 : Cond.instanceMethod yX0_init ∈ lw_all := lw_mem (List.mem_of_getElem? (i := 662) (by decide +kernel)) rfl
theorem wq_663 : Cond.code yX0_init cX0_init 3 (Option.none : Option Jvm.ClassFile.FieldType) ∈ lw_all := lw_mem (List.mem_of_getElem? (i := 663) (by decide +kernel)) rfl
theorem wq_664 : Cond.methodLink RX0 3 (⟨"java/lang/Object", "<init>", "()V"⟩ : MethodName) ∈ lw_all := lw_mem (List.mem_of_getElem? (i := 664) (by decide +kernel)) rfl
theorem wq_665 : Cond.classLink RX0 9 "LibraryVan$Queue" ∈ lw_all := lw_mem (List.mem_of_getElem? (i := 665) (by decide +kernel)) rfl
theorem wq_666 : Cond.instantiable RX3 2 ∈ lw_all := lw_mem (List.mem_of_getElem? (i := 666) (by decide +kernel)) rfl
theorem wq_667 : Cond.methodLinkNest RX0 11 yX3_init "LibraryVan" ∈ lw_tbl := List.mem_of_getElem? (i := 667) (by decide +kernel)
theorem wq_668 : Cond.instanceMethod yX3_init ∈ lw_all := lw_mem (List.mem_of_getElem? (i := 668) (by decide +kernel)) rfl
theorem wq_669 : Cond.code yX3_init cX3_init 1 (Option.none : Option Jvm.ClassFile.FieldType) ∈ lw_all := lw_mem (List.mem_of_getElem? (i := 669) (by decide +kernel)) rfl
theorem wq_670 : Cond.methodLink RX3 3 (⟨"java/lang/Object", "<init>", "()V"⟩ : MethodName) ∈ lw_all := lw_mem (List.mem_of_getElem? (i := 670) (by decide +kernel)) rfl
theorem wq_671 : Cond.fieldLink RX3 9 "LibraryVan$Queue" "readers" "[I" ∈ lw_all := lw_mem (List.mem_of_getElem? (i := 671) (by decide +kernel)) rfl
theorem wq_672 : Cond.fieldLink RX3 15 "LibraryVan$Queue" "size" "I" ∈ lw_all := lw_mem (List.mem_of_getElem? (i := 672) (by decide +kernel)) rfl
theorem wq_673 : Cond.laysFinal RX3 "LibraryVan$Queue" "readers" "[I" ∈ lw_all := lw_mem (List.mem_of_getElem? (i := 673) (by decide +kernel)) rfl
theorem wq_675 : Cond.lays RX3 "LibraryVan$Queue" "size" "I" ∈ lw_all := lw_mem (List.mem_of_getElem? (i := 675) (by decide +kernel)) rfl
theorem wq_678 : Cond.fieldLink RX0 25 "LibraryVan$Book" "number" "I" ∈ lw_all := lw_mem (List.mem_of_getElem? (i := 678) (by decide +kernel)) rfl
theorem wq_679 : Cond.fieldLinkNest RX7 191 "LibraryVan$Book" "number" "I" "LibraryVan" ∈ lw_tbl := List.mem_of_getElem? (i := 679) (by decide +kernel)
theorem wq_680 : Cond.fieldLink RX0 28 "LibraryVan$Book" "shelf" "I" ∈ lw_all := lw_mem (List.mem_of_getElem? (i := 680) (by decide +kernel)) rfl
theorem wq_681 : Cond.fieldLinkNest RX7 186 "LibraryVan$Book" "shelf" "I" "LibraryVan" ∈ lw_tbl := List.mem_of_getElem? (i := 681) (by decide +kernel)
theorem wq_682 : Cond.fieldLink RX0 12 "LibraryVan$Book" "queue" "LLibraryVan$Queue;" ∈ lw_all := lw_mem (List.mem_of_getElem? (i := 682) (by decide +kernel)) rfl
theorem wq_683 : Cond.fieldLinkNest RX8 141 "LibraryVan$Book" "queue" "LLibraryVan$Queue;" "LibraryVan" ∈ lw_tbl := List.mem_of_getElem? (i := 683) (by decide +kernel)
theorem wq_684 : Cond.fieldLinkNest RX7 165 "LibraryVan$Book" "queue" "LLibraryVan$Queue;" "LibraryVan" ∈ lw_tbl := List.mem_of_getElem? (i := 684) (by decide +kernel)
theorem wq_685 : Cond.fieldLink RX0 18 "LibraryVan$Book" "holder" "I" ∈ lw_all := lw_mem (List.mem_of_getElem? (i := 685) (by decide +kernel)) rfl
theorem wq_686 : Cond.fieldLinkNest RX7 64 "LibraryVan$Book" "holder" "I" "LibraryVan" ∈ lw_tbl := List.mem_of_getElem? (i := 686) (by decide +kernel)
theorem wq_687 : Cond.fieldLinkNest RX8 153 "LibraryVan$Book" "holder" "I" "LibraryVan" ∈ lw_tbl := List.mem_of_getElem? (i := 687) (by decide +kernel)
theorem wq_688 : Cond.fieldLink RX0 22 "LibraryVan$Book" "since" "I" ∈ lw_all := lw_mem (List.mem_of_getElem? (i := 688) (by decide +kernel)) rfl
theorem wq_689 : Cond.fieldLinkNest RX7 151 "LibraryVan$Book" "since" "I" "LibraryVan" ∈ lw_tbl := List.mem_of_getElem? (i := 689) (by decide +kernel)
theorem wq_690 : Cond.fieldLink RX0 34 "LibraryVan$Book" "loans" "I" ∈ lw_all := lw_mem (List.mem_of_getElem? (i := 690) (by decide +kernel)) rfl
theorem wq_691 : Cond.fieldLinkNest RX7 227 "LibraryVan$Book" "loans" "I" "LibraryVan" ∈ lw_tbl := List.mem_of_getElem? (i := 691) (by decide +kernel)
theorem wq_692 : Cond.laysFinal RX0 "LibraryVan$Book" "number" "I" ∈ lw_all := lw_mem (List.mem_of_getElem? (i := 692) (by decide +kernel)) rfl
theorem wq_694 : Cond.laysFinal RX0 "LibraryVan$Book" "shelf" "I" ∈ lw_all := lw_mem (List.mem_of_getElem? (i := 694) (by decide +kernel)) rfl
theorem wq_696 : Cond.laysFinal RX0 "LibraryVan$Book" "queue" "LLibraryVan$Queue;" ∈ lw_all := lw_mem (List.mem_of_getElem? (i := 696) (by decide +kernel)) rfl
theorem wq_698 : Cond.lays RX0 "LibraryVan$Book" "holder" "I" ∈ lw_all := lw_mem (List.mem_of_getElem? (i := 698) (by decide +kernel)) rfl
theorem wq_700 : Cond.lays RX0 "LibraryVan$Book" "since" "I" ∈ lw_all := lw_mem (List.mem_of_getElem? (i := 700) (by decide +kernel)) rfl
theorem wq_702 : Cond.lays RX0 "LibraryVan$Book" "loans" "I" ∈ lw_all := lw_mem (List.mem_of_getElem? (i := 702) (by decide +kernel)) rfl
theorem wq_705 : Cond.methodLink RL 114 yL_addReader ∈ lw_all := lw_mem (List.mem_of_getElem? (i := 705) (by decide +kernel)) rfl
theorem wq_706 : Cond.static yL_addReader ∈ lw_all := lw_mem (List.mem_of_getElem? (i := 706) (by decide +kernel)) rfl
theorem wq_707 : Cond.codeWith yL_addReader method_11_code 6 (Option.some Jvm.ClassFile.FieldType.int) [((0 : Nat), (12 : Nat), (15 : Nat), (19 : Nat)), ((0 : Nat), (12 : Nat), (19 : Nat), (21 : Nat)), ((0 : Nat), (12 : Nat), (23 : Nat), (13 : Nat))] ∈ lw_all := lw_mem (List.mem_of_getElem? (i := 707) (by decide +kernel)) rfl
theorem wq_708 : Cond.methodLink RL 43 yX8_addReader ∈ lw_all := lw_mem (List.mem_of_getElem? (i := 708) (by decide +kernel)) rfl
theorem wq_709 : Cond.instanceMethod yX8_addReader ∈ lw_all := lw_mem (List.mem_of_getElem? (i := 709) (by decide +kernel)) rfl
theorem wq_710 : Cond.selects RX8 yX8_addReader yX8_addReader ∈ lw_all := lw_mem (List.mem_of_getElem? (i := 710) (by decide +kernel)) rfl
theorem wq_711 : Cond.code yX8_addReader cX8_addReader 5 (Option.some Jvm.ClassFile.FieldType.int) ∈ lw_all := lw_mem (List.mem_of_getElem? (i := 711) (by decide +kernel)) rfl
theorem wq_714 : Cond.classLink RX8 128 "LibraryVan$Reader" ∈ lw_all := lw_mem (List.mem_of_getElem? (i := 714) (by decide +kernel)) rfl
theorem wq_715 : Cond.instantiable RX4 8 ∈ lw_all := lw_mem (List.mem_of_getElem? (i := 715) (by decide +kernel)) rfl
theorem wq_716 : Cond.methodLink RX8 130 yX4_init ∈ lw_all := lw_mem (List.mem_of_getElem? (i := 716) (by decide +kernel)) rfl
theorem wq_717 : Cond.instanceMethod yX4_init ∈ lw_all := lw_mem (List.mem_of_getElem? (i := 717) (by decide +kernel)) rfl
theorem wq_718 : Cond.code yX4_init cX4_init 5 (Option.none : Option Jvm.ClassFile.FieldType) ∈ lw_all := lw_mem (List.mem_of_getElem? (i := 718) (by decide +kernel)) rfl
theorem wq_719 : Cond.methodLink RX4 3 (⟨"java/lang/Object", "<init>", "()V"⟩ : MethodName) ∈ lw_all := lw_mem (List.mem_of_getElem? (i := 719) (by decide +kernel)) rfl
theorem wq_720 : Cond.fieldLink RX4 9 "LibraryVan$Reader" "number" "I" ∈ lw_all := lw_mem (List.mem_of_getElem? (i := 720) (by decide +kernel)) rfl
theorem wq_721 : Cond.fieldLinkNest RX0 31 "LibraryVan$Reader" "number" "I" "LibraryVan" ∈ lw_tbl := List.mem_of_getElem? (i := 721) (by decide +kernel)
theorem wq_722 : Cond.fieldLink RX4 15 "LibraryVan$Reader" "halt" "I" ∈ lw_all := lw_mem (List.mem_of_getElem? (i := 722) (by decide +kernel)) rfl
theorem wq_723 : Cond.fieldLinkNest RX7 148 "LibraryVan$Reader" "halt" "I" "LibraryVan" ∈ lw_tbl := List.mem_of_getElem? (i := 723) (by decide +kernel)
theorem wq_724 : Cond.fieldLink RX4 18 "LibraryVan$Reader" "shelf" "I" ∈ lw_all := lw_mem (List.mem_of_getElem? (i := 724) (by decide +kernel)) rfl
theorem wq_725 : Cond.fieldLinkNest RX7 189 "LibraryVan$Reader" "shelf" "I" "LibraryVan" ∈ lw_tbl := List.mem_of_getElem? (i := 725) (by decide +kernel)
theorem wq_726 : Cond.fieldLink RX4 21 "LibraryVan$Reader" "keeps" "I" ∈ lw_all := lw_mem (List.mem_of_getElem? (i := 726) (by decide +kernel)) rfl
theorem wq_727 : Cond.fieldLinkNest RX7 154 "LibraryVan$Reader" "keeps" "I" "LibraryVan" ∈ lw_tbl := List.mem_of_getElem? (i := 727) (by decide +kernel)
theorem wq_728 : Cond.fieldLink RX4 24 "LibraryVan$Reader" "has" "I" ∈ lw_all := lw_mem (List.mem_of_getElem? (i := 728) (by decide +kernel)) rfl
theorem wq_729 : Cond.fieldLinkNest RX0 37 "LibraryVan$Reader" "has" "I" "LibraryVan" ∈ lw_tbl := List.mem_of_getElem? (i := 729) (by decide +kernel)
theorem wq_730 : Cond.fieldLinkNest RX7 233 "LibraryVan$Reader" "has" "I" "LibraryVan" ∈ lw_tbl := List.mem_of_getElem? (i := 730) (by decide +kernel)
theorem wq_731 : Cond.fieldLink RX4 27 "LibraryVan$Reader" "read" "I" ∈ lw_all := lw_mem (List.mem_of_getElem? (i := 731) (by decide +kernel)) rfl
theorem wq_732 : Cond.fieldLinkNest RX0 40 "LibraryVan$Reader" "read" "I" "LibraryVan" ∈ lw_tbl := List.mem_of_getElem? (i := 732) (by decide +kernel)
theorem wq_733 : Cond.fieldLinkNest RX7 236 "LibraryVan$Reader" "read" "I" "LibraryVan" ∈ lw_tbl := List.mem_of_getElem? (i := 733) (by decide +kernel)
theorem wq_734 : Cond.fieldLink RX4 30 "LibraryVan$Reader" "pence" "I" ∈ lw_all := lw_mem (List.mem_of_getElem? (i := 734) (by decide +kernel)) rfl
theorem wq_735 : Cond.fieldLinkNest RX0 44 "LibraryVan$Reader" "pence" "I" "LibraryVan" ∈ lw_tbl := List.mem_of_getElem? (i := 735) (by decide +kernel)
theorem wq_736 : Cond.fieldLinkNest RX8 172 "LibraryVan$Reader" "pence" "I" "LibraryVan" ∈ lw_tbl := List.mem_of_getElem? (i := 736) (by decide +kernel)
theorem wq_737 : Cond.fieldLinkNest RX7 244 "LibraryVan$Reader" "pence" "I" "LibraryVan" ∈ lw_tbl := List.mem_of_getElem? (i := 737) (by decide +kernel)
theorem wq_738 : Cond.fieldLinkNest RX0 43 "LibraryVan$Reader" "loans" "I" "LibraryVan" ∈ lw_tbl := List.mem_of_getElem? (i := 738) (by decide +kernel)
theorem wq_739 : Cond.fieldLink RX4 33 "LibraryVan$Reader" "loans" "I" ∈ lw_all := lw_mem (List.mem_of_getElem? (i := 739) (by decide +kernel)) rfl
theorem wq_740 : Cond.fieldLinkNest RX7 250 "LibraryVan$Reader" "loans" "I" "LibraryVan" ∈ lw_tbl := List.mem_of_getElem? (i := 740) (by decide +kernel)
theorem wq_741 : Cond.laysFinal RX4 "LibraryVan$Reader" "number" "I" ∈ lw_all := lw_mem (List.mem_of_getElem? (i := 741) (by decide +kernel)) rfl
theorem wq_743 : Cond.laysFinal RX4 "LibraryVan$Reader" "halt" "I" ∈ lw_all := lw_mem (List.mem_of_getElem? (i := 743) (by decide +kernel)) rfl
theorem wq_745 : Cond.laysFinal RX4 "LibraryVan$Reader" "shelf" "I" ∈ lw_all := lw_mem (List.mem_of_getElem? (i := 745) (by decide +kernel)) rfl
theorem wq_747 : Cond.laysFinal RX4 "LibraryVan$Reader" "keeps" "I" ∈ lw_all := lw_mem (List.mem_of_getElem? (i := 747) (by decide +kernel)) rfl
theorem wq_749 : Cond.lays RX4 "LibraryVan$Reader" "has" "I" ∈ lw_all := lw_mem (List.mem_of_getElem? (i := 749) (by decide +kernel)) rfl
theorem wq_751 : Cond.lays RX4 "LibraryVan$Reader" "read" "I" ∈ lw_all := lw_mem (List.mem_of_getElem? (i := 751) (by decide +kernel)) rfl
theorem wq_753 : Cond.lays RX4 "LibraryVan$Reader" "pence" "I" ∈ lw_all := lw_mem (List.mem_of_getElem? (i := 753) (by decide +kernel)) rfl
theorem wq_755 : Cond.lays RX4 "LibraryVan$Reader" "loans" "I" ∈ lw_all := lw_mem (List.mem_of_getElem? (i := 755) (by decide +kernel)) rfl
theorem wq_758 : Cond.methodLink RL 118 yL_reserve ∈ lw_all := lw_mem (List.mem_of_getElem? (i := 758) (by decide +kernel)) rfl
theorem wq_759 : Cond.static yL_reserve ∈ lw_all := lw_mem (List.mem_of_getElem? (i := 759) (by decide +kernel)) rfl
theorem wq_760 : Cond.codeWith yL_reserve method_12_code 5 (Option.some Jvm.ClassFile.FieldType.int) [((0 : Nat), (10 : Nat), (13 : Nat), (19 : Nat)), ((0 : Nat), (10 : Nat), (17 : Nat), (13 : Nat))] ∈ lw_all := lw_mem (List.mem_of_getElem? (i := 760) (by decide +kernel)) rfl
theorem wq_761 : Cond.methodLink RL 47 yX8_reserve ∈ lw_all := lw_mem (List.mem_of_getElem? (i := 761) (by decide +kernel)) rfl
theorem wq_762 : Cond.instanceMethod yX8_reserve ∈ lw_all := lw_mem (List.mem_of_getElem? (i := 762) (by decide +kernel)) rfl
theorem wq_763 : Cond.selects RX8 yX8_reserve yX8_reserve ∈ lw_all := lw_mem (List.mem_of_getElem? (i := 763) (by decide +kernel)) rfl
theorem wq_764 : Cond.code yX8_reserve cX8_reserve 4 (Option.some Jvm.ClassFile.FieldType.int) ∈ lw_all := lw_mem (List.mem_of_getElem? (i := 764) (by decide +kernel)) rfl
theorem wq_765 : Cond.methodLink RX8 131 yX8_needReader ∈ lw_all := lw_mem (List.mem_of_getElem? (i := 765) (by decide +kernel)) rfl
theorem wq_767 : Cond.instanceMethod yX8_needReader ∈ lw_all := lw_mem (List.mem_of_getElem? (i := 767) (by decide +kernel)) rfl
theorem wq_768 : Cond.code yX8_needReader cX8_needReader 2 (Option.none : Option Jvm.ClassFile.FieldType) ∈ lw_all := lw_mem (List.mem_of_getElem? (i := 768) (by decide +kernel)) rfl
theorem wq_769 : Cond.methodLink RX8 134 yX8_needBook ∈ lw_all := lw_mem (List.mem_of_getElem? (i := 769) (by decide +kernel)) rfl
theorem wq_771 : Cond.instanceMethod yX8_needBook ∈ lw_all := lw_mem (List.mem_of_getElem? (i := 771) (by decide +kernel)) rfl
theorem wq_772 : Cond.code yX8_needBook cX8_needBook 2 (Option.none : Option Jvm.ClassFile.FieldType) ∈ lw_all := lw_mem (List.mem_of_getElem? (i := 772) (by decide +kernel)) rfl
theorem wq_773 : Cond.methodLink RX8 137 yJx4a65c_get_915e3 ∈ lw_all := lw_mem (List.mem_of_getElem? (i := 773) (by decide +kernel)) rfl
theorem wq_774 : Cond.methodLink RX8 145 yX3_placeOf ∈ lw_all := lw_mem (List.mem_of_getElem? (i := 774) (by decide +kernel)) rfl
theorem wq_777 : Cond.methodLink RX8 159 yX3_join ∈ lw_all := lw_mem (List.mem_of_getElem? (i := 777) (by decide +kernel)) rfl
theorem wq_778 : Cond.instanceMethod yX3_join ∈ lw_all := lw_mem (List.mem_of_getElem? (i := 778) (by decide +kernel)) rfl
theorem wq_779 : Cond.selects RX3 yX3_join yX3_join ∈ lw_all := lw_mem (List.mem_of_getElem? (i := 779) (by decide +kernel)) rfl
theorem wq_780 : Cond.code yX3_join cX3_join 2 (Option.none : Option Jvm.ClassFile.FieldType) ∈ lw_all := lw_mem (List.mem_of_getElem? (i := 780) (by decide +kernel)) rfl
theorem wq_781 : Cond.methodLink RX8 162 yX3_size ∈ lw_all := lw_mem (List.mem_of_getElem? (i := 781) (by decide +kernel)) rfl
theorem wq_782 : Cond.methodLink RL 121 yL_cancel ∈ lw_all := lw_mem (List.mem_of_getElem? (i := 782) (by decide +kernel)) rfl
theorem wq_783 : Cond.static yL_cancel ∈ lw_all := lw_mem (List.mem_of_getElem? (i := 783) (by decide +kernel)) rfl
theorem wq_784 : Cond.codeWith yL_cancel method_13_code 5 (Option.some Jvm.ClassFile.FieldType.int) [((0 : Nat), (10 : Nat), (13 : Nat), (19 : Nat))] ∈ lw_all := lw_mem (List.mem_of_getElem? (i := 784) (by decide +kernel)) rfl
theorem wq_785 : Cond.methodLink RL 50 yX8_cancel ∈ lw_all := lw_mem (List.mem_of_getElem? (i := 785) (by decide +kernel)) rfl
theorem wq_786 : Cond.instanceMethod yX8_cancel ∈ lw_all := lw_mem (List.mem_of_getElem? (i := 786) (by decide +kernel)) rfl
theorem wq_787 : Cond.selects RX8 yX8_cancel yX8_cancel ∈ lw_all := lw_mem (List.mem_of_getElem? (i := 787) (by decide +kernel)) rfl
theorem wq_788 : Cond.code yX8_cancel cX8_cancel 5 (Option.some Jvm.ClassFile.FieldType.int) ∈ lw_all := lw_mem (List.mem_of_getElem? (i := 788) (by decide +kernel)) rfl
theorem wq_789 : Cond.methodLink RX8 163 yX3_dropPlace ∈ lw_all := lw_mem (List.mem_of_getElem? (i := 789) (by decide +kernel)) rfl
theorem wq_790 : Cond.instanceMethod yX3_dropPlace ∈ lw_all := lw_mem (List.mem_of_getElem? (i := 790) (by decide +kernel)) rfl
theorem wq_791 : Cond.selects RX3 yX3_dropPlace yX3_dropPlace ∈ lw_all := lw_mem (List.mem_of_getElem? (i := 791) (by decide +kernel)) rfl
theorem wq_792 : Cond.code yX3_dropPlace cX3_dropPlace 3 (Option.none : Option Jvm.ClassFile.FieldType) ∈ lw_all := lw_mem (List.mem_of_getElem? (i := 792) (by decide +kernel)) rfl
theorem wq_793 : Cond.methodLink RL 124 yL_book ∈ lw_all := lw_mem (List.mem_of_getElem? (i := 793) (by decide +kernel)) rfl
theorem wq_794 : Cond.static yL_book ∈ lw_all := lw_mem (List.mem_of_getElem? (i := 794) (by decide +kernel)) rfl
theorem wq_795 : Cond.codeWith yL_book method_14_code 5 (Option.some Jvm.ClassFile.FieldType.int) [((0 : Nat), (10 : Nat), (13 : Nat), (19 : Nat))] ∈ lw_all := lw_mem (List.mem_of_getElem? (i := 795) (by decide +kernel)) rfl
theorem wq_796 : Cond.methodLink RL 53 yX8_book ∈ lw_all := lw_mem (List.mem_of_getElem? (i := 796) (by decide +kernel)) rfl
theorem wq_797 : Cond.instanceMethod yX8_book ∈ lw_all := lw_mem (List.mem_of_getElem? (i := 797) (by decide +kernel)) rfl
theorem wq_798 : Cond.selects RX8 yX8_book yX8_book ∈ lw_all := lw_mem (List.mem_of_getElem? (i := 798) (by decide +kernel)) rfl
theorem wq_799 : Cond.code yX8_book cX8_book 3 (Option.some Jvm.ClassFile.FieldType.int) ∈ lw_all := lw_mem (List.mem_of_getElem? (i := 799) (by decide +kernel)) rfl
theorem wq_800 : Cond.methodLink RX8 166 yX7_bookAnswer ∈ lw_all := lw_mem (List.mem_of_getElem? (i := 800) (by decide +kernel)) rfl
theorem wq_801 : Cond.methodLink RL 127 yL_reader ∈ lw_all := lw_mem (List.mem_of_getElem? (i := 801) (by decide +kernel)) rfl
theorem wq_802 : Cond.static yL_reader ∈ lw_all := lw_mem (List.mem_of_getElem? (i := 802) (by decide +kernel)) rfl
theorem wq_803 : Cond.codeWith yL_reader method_15_code 5 (Option.some Jvm.ClassFile.FieldType.int) [((0 : Nat), (10 : Nat), (13 : Nat), (19 : Nat))] ∈ lw_all := lw_mem (List.mem_of_getElem? (i := 803) (by decide +kernel)) rfl
theorem wq_804 : Cond.methodLink RL 56 yX8_reader ∈ lw_all := lw_mem (List.mem_of_getElem? (i := 804) (by decide +kernel)) rfl
theorem wq_805 : Cond.instanceMethod yX8_reader ∈ lw_all := lw_mem (List.mem_of_getElem? (i := 805) (by decide +kernel)) rfl
theorem wq_806 : Cond.selects RX8 yX8_reader yX8_reader ∈ lw_all := lw_mem (List.mem_of_getElem? (i := 806) (by decide +kernel)) rfl
theorem wq_807 : Cond.code yX8_reader cX8_reader 3 (Option.some Jvm.ClassFile.FieldType.int) ∈ lw_all := lw_mem (List.mem_of_getElem? (i := 807) (by decide +kernel)) rfl
theorem wq_808 : Cond.methodLink RX8 169 yX7_readerAnswer ∈ lw_all := lw_mem (List.mem_of_getElem? (i := 808) (by decide +kernel)) rfl
theorem wq_809 : Cond.methodLink RL 130 yL_pay ∈ lw_all := lw_mem (List.mem_of_getElem? (i := 809) (by decide +kernel)) rfl
theorem wq_810 : Cond.static yL_pay ∈ lw_all := lw_mem (List.mem_of_getElem? (i := 810) (by decide +kernel)) rfl
theorem wq_811 : Cond.codeWith yL_pay method_16_code 5 (Option.some Jvm.ClassFile.FieldType.int) [((0 : Nat), (10 : Nat), (13 : Nat), (19 : Nat)), ((0 : Nat), (10 : Nat), (17 : Nat), (21 : Nat))] ∈ lw_all := lw_mem (List.mem_of_getElem? (i := 811) (by decide +kernel)) rfl
theorem wq_812 : Cond.methodLink RL 59 yX8_pay ∈ lw_all := lw_mem (List.mem_of_getElem? (i := 812) (by decide +kernel)) rfl
theorem wq_813 : Cond.instanceMethod yX8_pay ∈ lw_all := lw_mem (List.mem_of_getElem? (i := 813) (by decide +kernel)) rfl
theorem wq_814 : Cond.selects RX8 yX8_pay yX8_pay ∈ lw_all := lw_mem (List.mem_of_getElem? (i := 814) (by decide +kernel)) rfl
theorem wq_815 : Cond.code yX8_pay cX8_pay 4 (Option.some Jvm.ClassFile.FieldType.int) ∈ lw_all := lw_mem (List.mem_of_getElem? (i := 815) (by decide +kernel)) rfl
theorem wq_817 : Cond.methodLink RL 133 yL_pass ∈ lw_all := lw_mem (List.mem_of_getElem? (i := 817) (by decide +kernel)) rfl
theorem wq_818 : Cond.static yL_pass ∈ lw_all := lw_mem (List.mem_of_getElem? (i := 818) (by decide +kernel)) rfl
theorem wq_819 : Cond.codeWith yL_pass method_17_code 4 (Option.some Jvm.ClassFile.FieldType.int) [((0 : Nat), (9 : Nat), (12 : Nat), (21 : Nat))] ∈ lw_all := lw_mem (List.mem_of_getElem? (i := 819) (by decide +kernel)) rfl
theorem wq_820 : Cond.methodLink RL 62 yX8_pass ∈ lw_all := lw_mem (List.mem_of_getElem? (i := 820) (by decide +kernel)) rfl
theorem wq_821 : Cond.instanceMethod yX8_pass ∈ lw_all := lw_mem (List.mem_of_getElem? (i := 821) (by decide +kernel)) rfl
theorem wq_822 : Cond.selects RX8 yX8_pass yX8_pass ∈ lw_all := lw_mem (List.mem_of_getElem? (i := 822) (by decide +kernel)) rfl
theorem wq_823 : Cond.code yX8_pass cX8_pass 3 (Option.some Jvm.ClassFile.FieldType.int) ∈ lw_all := lw_mem (List.mem_of_getElem? (i := 823) (by decide +kernel)) rfl
theorem wq_824 : Cond.methodLink RX8 177 yX8_needDays ∈ lw_all := lw_mem (List.mem_of_getElem? (i := 824) (by decide +kernel)) rfl
theorem wq_825 : Cond.static yX8_needDays ∈ lw_all := lw_mem (List.mem_of_getElem? (i := 825) (by decide +kernel)) rfl
theorem wq_826 : Cond.code yX8_needDays cX8_needDays 2 (Option.none : Option Jvm.ClassFile.FieldType) ∈ lw_all := lw_mem (List.mem_of_getElem? (i := 826) (by decide +kernel)) rfl
theorem wq_828 : Cond.methodLink RX8 183 yX7_passDays ∈ lw_all := lw_mem (List.mem_of_getElem? (i := 828) (by decide +kernel)) rfl
theorem wq_829 : Cond.instanceMethod yX7_passDays ∈ lw_all := lw_mem (List.mem_of_getElem? (i := 829) (by decide +kernel)) rfl
theorem wq_830 : Cond.selects RX7 yX7_passDays yX7_passDays ∈ lw_all := lw_mem (List.mem_of_getElem? (i := 830) (by decide +kernel)) rfl
theorem wq_831 : Cond.code yX7_passDays cX7_passDays 3 (Option.none : Option Jvm.ClassFile.FieldType) ∈ lw_all := lw_mem (List.mem_of_getElem? (i := 831) (by decide +kernel)) rfl
theorem wq_832 : Cond.methodLink RX7 100 yX7_weather ∈ lw_all := lw_mem (List.mem_of_getElem? (i := 832) (by decide +kernel)) rfl
theorem wq_834 : Cond.instanceMethod yX7_weather ∈ lw_all := lw_mem (List.mem_of_getElem? (i := 834) (by decide +kernel)) rfl
theorem wq_835 : Cond.code yX7_weather cX7_weather 3 (Option.none : Option Jvm.ClassFile.FieldType) ∈ lw_all := lw_mem (List.mem_of_getElem? (i := 835) (by decide +kernel)) rfl
theorem wq_836 : Cond.methodLink RX7 106 yJ9_floorMod_7cf53 ∈ lw_all := lw_mem (List.mem_of_getElem? (i := 836) (by decide +kernel)) rfl
theorem wq_837 : Cond.static yJ9_floorMod_7cf53 ∈ lw_all := lw_mem (List.mem_of_getElem? (i := 837) (by decide +kernel)) rfl
theorem wq_838 : Cond.code yJ9_floorMod_7cf53 cJ9_floorMod_7cf53 3 (Option.some Jvm.ClassFile.FieldType.int) ∈ lw_all := lw_mem (List.mem_of_getElem? (i := 838) (by decide +kernel)) rfl
theorem wq_839 : Cond.methodLink RX7 115 yX2_weather ∈ lw_all := lw_mem (List.mem_of_getElem? (i := 839) (by decide +kernel)) rfl
theorem wq_840 : Cond.instanceMethod yX2_weather ∈ lw_all := lw_mem (List.mem_of_getElem? (i := 840) (by decide +kernel)) rfl
theorem wq_841 : Cond.selects RX2 yX2_weather yX2_weather ∈ lw_all := lw_mem (List.mem_of_getElem? (i := 841) (by decide +kernel)) rfl
theorem wq_842 : Cond.code yX2_weather cX2_weather 2 (Option.none : Option Jvm.ClassFile.FieldType) ∈ lw_all := lw_mem (List.mem_of_getElem? (i := 842) (by decide +kernel)) rfl
theorem wq_843 : Cond.methodLink RX2 27 yJ9_min_7cf53 ∈ lw_all := lw_mem (List.mem_of_getElem? (i := 843) (by decide +kernel)) rfl
theorem wq_844 : Cond.methodLink RX2 33 yJ9_max_7cf53 ∈ lw_all := lw_mem (List.mem_of_getElem? (i := 844) (by decide +kernel)) rfl
theorem wq_845 : Cond.methodLink RX7 103 yX7_goRound ∈ lw_all := lw_mem (List.mem_of_getElem? (i := 845) (by decide +kernel)) rfl
theorem wq_847 : Cond.instanceMethod yX7_goRound ∈ lw_all := lw_mem (List.mem_of_getElem? (i := 847) (by decide +kernel)) rfl
theorem wq_848 : Cond.code yX7_goRound cX7_goRound 8 (Option.none : Option Jvm.ClassFile.FieldType) ∈ lw_all := lw_mem (List.mem_of_getElem? (i := 848) (by decide +kernel)) rfl
theorem wq_849 : Cond.methodLink RX7 125 yX7_takeBooksBack ∈ lw_all := lw_mem (List.mem_of_getElem? (i := 849) (by decide +kernel)) rfl
theorem wq_851 : Cond.instanceMethod yX7_takeBooksBack ∈ lw_all := lw_mem (List.mem_of_getElem? (i := 851) (by decide +kernel)) rfl
theorem wq_852 : Cond.code yX7_takeBooksBack cX7_takeBooksBack 5 (Option.none : Option Jvm.ClassFile.FieldType) ∈ lw_all := lw_mem (List.mem_of_getElem? (i := 852) (by decide +kernel)) rfl
theorem wq_853 : Cond.methodLink RX7 144 yX7_readerWith ∈ lw_all := lw_mem (List.mem_of_getElem? (i := 853) (by decide +kernel)) rfl
theorem wq_855 : Cond.instanceMethod yX7_readerWith ∈ lw_all := lw_mem (List.mem_of_getElem? (i := 855) (by decide +kernel)) rfl
theorem wq_856 : Cond.code yX7_readerWith cX7_readerWith 2 (Option.some (Jvm.ClassFile.FieldType.object "LibraryVan$Reader")) ∈ lw_all := lw_mem (List.mem_of_getElem? (i := 856) (by decide +kernel)) rfl
theorem wq_857 : Cond.methodLink RX7 157 yX0_comeBackFrom ∈ lw_all := lw_mem (List.mem_of_getElem? (i := 857) (by decide +kernel)) rfl
theorem wq_858 : Cond.instanceMethod yX0_comeBackFrom ∈ lw_all := lw_mem (List.mem_of_getElem? (i := 858) (by decide +kernel)) rfl
theorem wq_859 : Cond.selects RX0 yX0_comeBackFrom yX0_comeBackFrom ∈ lw_all := lw_mem (List.mem_of_getElem? (i := 859) (by decide +kernel)) rfl
theorem wq_860 : Cond.code yX0_comeBackFrom cX0_comeBackFrom 3 (Option.none : Option Jvm.ClassFile.FieldType) ∈ lw_all := lw_mem (List.mem_of_getElem? (i := 860) (by decide +kernel)) rfl
theorem wq_861 : Cond.methodLink RX7 128 yX7_lendReservedBooks ∈ lw_all := lw_mem (List.mem_of_getElem? (i := 861) (by decide +kernel)) rfl
theorem wq_863 : Cond.instanceMethod yX7_lendReservedBooks ∈ lw_all := lw_mem (List.mem_of_getElem? (i := 863) (by decide +kernel)) rfl
theorem wq_864 : Cond.code yX7_lendReservedBooks cX7_lendReservedBooks 5 (Option.none : Option Jvm.ClassFile.FieldType) ∈ lw_all := lw_mem (List.mem_of_getElem? (i := 864) (by decide +kernel)) rfl
theorem wq_865 : Cond.methodLink RX7 174 yX4_takesMore ∈ lw_all := lw_mem (List.mem_of_getElem? (i := 865) (by decide +kernel)) rfl
theorem wq_866 : Cond.instanceMethod yX4_takesMore ∈ lw_all := lw_mem (List.mem_of_getElem? (i := 866) (by decide +kernel)) rfl
theorem wq_867 : Cond.selects RX4 yX4_takesMore yX4_takesMore ∈ lw_all := lw_mem (List.mem_of_getElem? (i := 867) (by decide +kernel)) rfl
theorem wq_868 : Cond.code yX4_takesMore cX4_takesMore 1 (Option.some Jvm.ClassFile.FieldType.boolean) ∈ lw_all := lw_mem (List.mem_of_getElem? (i := 868) (by decide +kernel)) rfl
theorem wq_869 : Cond.methodLink RX7 177 yX3_dropPlace ∈ lw_all := lw_mem (List.mem_of_getElem? (i := 869) (by decide +kernel)) rfl
theorem wq_870 : Cond.methodLink RX7 180 yX0_lendTo ∈ lw_all := lw_mem (List.mem_of_getElem? (i := 870) (by decide +kernel)) rfl
theorem wq_871 : Cond.instanceMethod yX0_lendTo ∈ lw_all := lw_mem (List.mem_of_getElem? (i := 871) (by decide +kernel)) rfl
theorem wq_872 : Cond.selects RX0 yX0_lendTo yX0_lendTo ∈ lw_all := lw_mem (List.mem_of_getElem? (i := 872) (by decide +kernel)) rfl
theorem wq_873 : Cond.code yX0_lendTo cX0_lendTo 3 (Option.none : Option Jvm.ClassFile.FieldType) ∈ lw_all := lw_mem (List.mem_of_getElem? (i := 873) (by decide +kernel)) rfl
theorem wq_874 : Cond.methodLink RX7 131 yX7_lendOtherBooks ∈ lw_all := lw_mem (List.mem_of_getElem? (i := 874) (by decide +kernel)) rfl
theorem wq_876 : Cond.instanceMethod yX7_lendOtherBooks ∈ lw_all := lw_mem (List.mem_of_getElem? (i := 876) (by decide +kernel)) rfl
theorem wq_877 : Cond.code yX7_lendOtherBooks cX7_lendOtherBooks 4 (Option.none : Option Jvm.ClassFile.FieldType) ∈ lw_all := lw_mem (List.mem_of_getElem? (i := 877) (by decide +kernel)) rfl
theorem wq_878 : Cond.methodLink RX7 183 yX7_lendOtherBookTo ∈ lw_all := lw_mem (List.mem_of_getElem? (i := 878) (by decide +kernel)) rfl
theorem wq_880 : Cond.instanceMethod yX7_lendOtherBookTo ∈ lw_all := lw_mem (List.mem_of_getElem? (i := 880) (by decide +kernel)) rfl
theorem wq_881 : Cond.code yX7_lendOtherBookTo cX7_lendOtherBookTo 4 (Option.none : Option Jvm.ClassFile.FieldType) ∈ lw_all := lw_mem (List.mem_of_getElem? (i := 881) (by decide +kernel)) rfl
theorem wq_882 : Cond.methodLink RX7 134 yX7_noteVisit ∈ lw_all := lw_mem (List.mem_of_getElem? (i := 882) (by decide +kernel)) rfl
theorem wq_884 : Cond.instanceMethod yX7_noteVisit ∈ lw_all := lw_mem (List.mem_of_getElem? (i := 884) (by decide +kernel)) rfl
theorem wq_885 : Cond.code yX7_noteVisit cX7_noteVisit 4 (Option.none : Option Jvm.ClassFile.FieldType) ∈ lw_all := lw_mem (List.mem_of_getElem? (i := 885) (by decide +kernel)) rfl
theorem wq_886 : Cond.methodLink RL 136 yL_count ∈ lw_all := lw_mem (List.mem_of_getElem? (i := 886) (by decide +kernel)) rfl
end
section
theorem wq_887 : Cond.static yL_count ∈ lw_all := lw_mem (List.mem_of_getElem? (i := 887) (by decide +kernel)) rfl
theorem wq_888 : Cond.codeWith yL_count method_18_code 4 (Option.some Jvm.ClassFile.FieldType.int) [((0 : Nat), (9 : Nat), (12 : Nat), (19 : Nat))] ∈ lw_all := lw_mem (List.mem_of_getElem? (i := 888) (by decide +kernel)) rfl
theorem wq_889 : Cond.methodLink RL 65 yX8_count ∈ lw_all := lw_mem (List.mem_of_getElem? (i := 889) (by decide +kernel)) rfl
theorem wq_890 : Cond.instanceMethod yX8_count ∈ lw_all := lw_mem (List.mem_of_getElem? (i := 890) (by decide +kernel)) rfl
theorem wq_891 : Cond.selects RX8 yX8_count yX8_count ∈ lw_all := lw_mem (List.mem_of_getElem? (i := 891) (by decide +kernel)) rfl
theorem wq_892 : Cond.code yX8_count cX8_count 2 (Option.some Jvm.ClassFile.FieldType.int) ∈ lw_all := lw_mem (List.mem_of_getElem? (i := 892) (by decide +kernel)) rfl
theorem wq_893 : Cond.methodLink RX8 186 yX7_countAnswer ∈ lw_all := lw_mem (List.mem_of_getElem? (i := 893) (by decide +kernel)) rfl
theorem wq_894 : Cond.methodLink RL 139 yL_foresee ∈ lw_all := lw_mem (List.mem_of_getElem? (i := 894) (by decide +kernel)) rfl
theorem wq_895 : Cond.static yL_foresee ∈ lw_all := lw_mem (List.mem_of_getElem? (i := 895) (by decide +kernel)) rfl
theorem wq_896 : Cond.codeWith yL_foresee method_19_code 5 (Option.some Jvm.ClassFile.FieldType.int) [((0 : Nat), (10 : Nat), (13 : Nat), (21 : Nat)), ((0 : Nat), (10 : Nat), (17 : Nat), (19 : Nat))] ∈ lw_all := lw_mem (List.mem_of_getElem? (i := 896) (by decide +kernel)) rfl
theorem wq_897 : Cond.methodLink RL 68 yX8_foresee ∈ lw_all := lw_mem (List.mem_of_getElem? (i := 897) (by decide +kernel)) rfl
theorem wq_898 : Cond.instanceMethod yX8_foresee ∈ lw_all := lw_mem (List.mem_of_getElem? (i := 898) (by decide +kernel)) rfl
theorem wq_899 : Cond.selects RX8 yX8_foresee yX8_foresee ∈ lw_all := lw_mem (List.mem_of_getElem? (i := 899) (by decide +kernel)) rfl
theorem wq_900 : Cond.code yX8_foresee cX8_foresee 3 (Option.some Jvm.ClassFile.FieldType.int) ∈ lw_all := lw_mem (List.mem_of_getElem? (i := 900) (by decide +kernel)) rfl
theorem wq_901 : Cond.methodLink RX8 189 yX7_copyFrom ∈ lw_all := lw_mem (List.mem_of_getElem? (i := 901) (by decide +kernel)) rfl
theorem wq_902 : Cond.instanceMethod yX7_copyFrom ∈ lw_all := lw_mem (List.mem_of_getElem? (i := 902) (by decide +kernel)) rfl
theorem wq_903 : Cond.selects RX7 yX7_copyFrom yX7_copyFrom ∈ lw_all := lw_mem (List.mem_of_getElem? (i := 903) (by decide +kernel)) rfl
theorem wq_904 : Cond.code yX7_copyFrom cX7_copyFrom 3 (Option.none : Option Jvm.ClassFile.FieldType) ∈ lw_all := lw_mem (List.mem_of_getElem? (i := 904) (by decide +kernel)) rfl
theorem wq_905 : Cond.methodLink RX7 70 yX1_copyFrom ∈ lw_all := lw_mem (List.mem_of_getElem? (i := 905) (by decide +kernel)) rfl
theorem wq_906 : Cond.instanceMethod yX1_copyFrom ∈ lw_all := lw_mem (List.mem_of_getElem? (i := 906) (by decide +kernel)) rfl
theorem wq_907 : Cond.selects RX1 yX1_copyFrom yX1_copyFrom ∈ lw_all := lw_mem (List.mem_of_getElem? (i := 907) (by decide +kernel)) rfl
theorem wq_908 : Cond.code yX1_copyFrom cX1_copyFrom 2 (Option.none : Option Jvm.ClassFile.FieldType) ∈ lw_all := lw_mem (List.mem_of_getElem? (i := 908) (by decide +kernel)) rfl
theorem wq_909 : Cond.methodLink RX7 76 yX2_copyFrom ∈ lw_all := lw_mem (List.mem_of_getElem? (i := 909) (by decide +kernel)) rfl
theorem wq_910 : Cond.instanceMethod yX2_copyFrom ∈ lw_all := lw_mem (List.mem_of_getElem? (i := 910) (by decide +kernel)) rfl
theorem wq_911 : Cond.selects RX2 yX2_copyFrom yX2_copyFrom ∈ lw_all := lw_mem (List.mem_of_getElem? (i := 911) (by decide +kernel)) rfl
theorem wq_912 : Cond.code yX2_copyFrom cX2_copyFrom 2 (Option.none : Option Jvm.ClassFile.FieldType) ∈ lw_all := lw_mem (List.mem_of_getElem? (i := 912) (by decide +kernel)) rfl
theorem wq_913 : Cond.methodLink RX7 79 yX0_copyFrom ∈ lw_all := lw_mem (List.mem_of_getElem? (i := 913) (by decide +kernel)) rfl
theorem wq_914 : Cond.instanceMethod yX0_copyFrom ∈ lw_all := lw_mem (List.mem_of_getElem? (i := 914) (by decide +kernel)) rfl
theorem wq_915 : Cond.selects RX0 yX0_copyFrom yX0_copyFrom ∈ lw_all := lw_mem (List.mem_of_getElem? (i := 915) (by decide +kernel)) rfl
theorem wq_916 : Cond.code yX0_copyFrom cX0_copyFrom 2 (Option.none : Option Jvm.ClassFile.FieldType) ∈ lw_all := lw_mem (List.mem_of_getElem? (i := 916) (by decide +kernel)) rfl
theorem wq_917 : Cond.methodLink RX0 47 yX3_copyFrom ∈ lw_all := lw_mem (List.mem_of_getElem? (i := 917) (by decide +kernel)) rfl
theorem wq_918 : Cond.instanceMethod yX3_copyFrom ∈ lw_all := lw_mem (List.mem_of_getElem? (i := 918) (by decide +kernel)) rfl
theorem wq_919 : Cond.selects RX3 yX3_copyFrom yX3_copyFrom ∈ lw_all := lw_mem (List.mem_of_getElem? (i := 919) (by decide +kernel)) rfl
theorem wq_920 : Cond.code yX3_copyFrom cX3_copyFrom 2 (Option.none : Option Jvm.ClassFile.FieldType) ∈ lw_all := lw_mem (List.mem_of_getElem? (i := 920) (by decide +kernel)) rfl
theorem wq_921 : Cond.methodLinkNest RX3 19 yX8_copyRow "LibraryVan" ∈ lw_tbl := List.mem_of_getElem? (i := 921) (by decide +kernel)
theorem wq_922 : Cond.static yX8_copyRow ∈ lw_all := lw_mem (List.mem_of_getElem? (i := 922) (by decide +kernel)) rfl
theorem wq_923 : Cond.code yX8_copyRow cX8_copyRow 3 (Option.none : Option Jvm.ClassFile.FieldType) ∈ lw_all := lw_mem (List.mem_of_getElem? (i := 923) (by decide +kernel)) rfl
theorem wq_924 : Cond.methodLink RX7 84 yX4_copyFrom ∈ lw_all := lw_mem (List.mem_of_getElem? (i := 924) (by decide +kernel)) rfl
theorem wq_925 : Cond.instanceMethod yX4_copyFrom ∈ lw_all := lw_mem (List.mem_of_getElem? (i := 925) (by decide +kernel)) rfl
theorem wq_926 : Cond.selects RX4 yX4_copyFrom yX4_copyFrom ∈ lw_all := lw_mem (List.mem_of_getElem? (i := 926) (by decide +kernel)) rfl
theorem wq_927 : Cond.code yX4_copyFrom cX4_copyFrom 2 (Option.none : Option Jvm.ClassFile.FieldType) ∈ lw_all := lw_mem (List.mem_of_getElem? (i := 927) (by decide +kernel)) rfl
theorem wq_928 : Cond.methodLink RX7 87 yX5_copyFrom ∈ lw_all := lw_mem (List.mem_of_getElem? (i := 928) (by decide +kernel)) rfl
theorem wq_929 : Cond.instanceMethod yX5_copyFrom ∈ lw_all := lw_mem (List.mem_of_getElem? (i := 929) (by decide +kernel)) rfl
theorem wq_930 : Cond.selects RX5 yX5_copyFrom yX5_copyFrom ∈ lw_all := lw_mem (List.mem_of_getElem? (i := 930) (by decide +kernel)) rfl
theorem wq_931 : Cond.code yX5_copyFrom cX5_copyFrom 2 (Option.none : Option Jvm.ClassFile.FieldType) ∈ lw_all := lw_mem (List.mem_of_getElem? (i := 931) (by decide +kernel)) rfl
theorem wq_932 : Cond.methodLinkNest RX5 31 yX8_copyRow "LibraryVan" ∈ lw_tbl := List.mem_of_getElem? (i := 932) (by decide +kernel)
theorem wq_933 : Cond.methodLinkNest RX7 90 yX8_copyRow "LibraryVan" ∈ lw_tbl := List.mem_of_getElem? (i := 933) (by decide +kernel)
theorem wq_934 : Cond.methodLink RX8 193 yX7_missesOfAll ∈ lw_all := lw_mem (List.mem_of_getElem? (i := 934) (by decide +kernel)) rfl
theorem wq_935 : Cond.instanceMethod yX7_missesOfAll ∈ lw_all := lw_mem (List.mem_of_getElem? (i := 935) (by decide +kernel)) rfl
theorem wq_936 : Cond.selects RX7 yX7_missesOfAll yX7_missesOfAll ∈ lw_all := lw_mem (List.mem_of_getElem? (i := 936) (by decide +kernel)) rfl
theorem wq_937 : Cond.code yX7_missesOfAll cX7_missesOfAll 3 (Option.some Jvm.ClassFile.FieldType.int) ∈ lw_all := lw_mem (List.mem_of_getElem? (i := 937) (by decide +kernel)) rfl
theorem wq_938 : Cond.methodLink RX8 196 yX7_booksOnVan ∈ lw_all := lw_mem (List.mem_of_getElem? (i := 938) (by decide +kernel)) rfl
theorem wq_939 : Cond.methodLink RX8 199 yX7_penceOfAll ∈ lw_all := lw_mem (List.mem_of_getElem? (i := 939) (by decide +kernel)) rfl
theorem wq_940 : Cond.methodLink RL 142 yL_gets ∈ lw_all := lw_mem (List.mem_of_getElem? (i := 940) (by decide +kernel)) rfl
theorem wq_941 : Cond.static yL_gets ∈ lw_all := lw_mem (List.mem_of_getElem? (i := 941) (by decide +kernel)) rfl
theorem wq_942 : Cond.codeWith yL_gets method_20_code 5 (Option.some Jvm.ClassFile.FieldType.int) [((0 : Nat), (10 : Nat), (13 : Nat), (19 : Nat))] ∈ lw_all := lw_mem (List.mem_of_getElem? (i := 942) (by decide +kernel)) rfl
theorem wq_943 : Cond.methodLink RL 71 yX8_gets ∈ lw_all := lw_mem (List.mem_of_getElem? (i := 943) (by decide +kernel)) rfl
theorem wq_944 : Cond.instanceMethod yX8_gets ∈ lw_all := lw_mem (List.mem_of_getElem? (i := 944) (by decide +kernel)) rfl
theorem wq_945 : Cond.selects RX8 yX8_gets yX8_gets ∈ lw_all := lw_mem (List.mem_of_getElem? (i := 945) (by decide +kernel)) rfl
theorem wq_946 : Cond.code yX8_gets cX8_gets 4 (Option.some Jvm.ClassFile.FieldType.int) ∈ lw_all := lw_mem (List.mem_of_getElem? (i := 946) (by decide +kernel)) rfl
theorem wq_947 : Cond.methodLink RX8 202 yX7_holderOf ∈ lw_all := lw_mem (List.mem_of_getElem? (i := 947) (by decide +kernel)) rfl
theorem wq_948 : Cond.instanceMethod yX7_holderOf ∈ lw_all := lw_mem (List.mem_of_getElem? (i := 948) (by decide +kernel)) rfl
theorem wq_949 : Cond.selects RX7 yX7_holderOf yX7_holderOf ∈ lw_all := lw_mem (List.mem_of_getElem? (i := 949) (by decide +kernel)) rfl
theorem wq_950 : Cond.code yX7_holderOf cX7_holderOf 2 (Option.some Jvm.ClassFile.FieldType.int) ∈ lw_all := lw_mem (List.mem_of_getElem? (i := 950) (by decide +kernel)) rfl
theorem wq_951 : Cond.methodLink RL 145 yL_advise ∈ lw_all := lw_mem (List.mem_of_getElem? (i := 951) (by decide +kernel)) rfl
theorem wq_952 : Cond.static yL_advise ∈ lw_all := lw_mem (List.mem_of_getElem? (i := 952) (by decide +kernel)) rfl
theorem wq_953 : Cond.codeWith yL_advise method_21_code 4 (Option.some Jvm.ClassFile.FieldType.int) [((0 : Nat), (9 : Nat), (12 : Nat), (21 : Nat)), ((0 : Nat), (9 : Nat), (15 : Nat), (13 : Nat))] ∈ lw_all := lw_mem (List.mem_of_getElem? (i := 953) (by decide +kernel)) rfl
theorem wq_954 : Cond.methodLink RL 74 yX8_advise ∈ lw_all := lw_mem (List.mem_of_getElem? (i := 954) (by decide +kernel)) rfl
theorem wq_955 : Cond.instanceMethod yX8_advise ∈ lw_all := lw_mem (List.mem_of_getElem? (i := 955) (by decide +kernel)) rfl
theorem wq_956 : Cond.selects RX8 yX8_advise yX8_advise ∈ lw_all := lw_mem (List.mem_of_getElem? (i := 956) (by decide +kernel)) rfl
theorem wq_957 : Cond.code yX8_advise cX8_advise 6 (Option.some Jvm.ClassFile.FieldType.int) ∈ lw_all := lw_mem (List.mem_of_getElem? (i := 957) (by decide +kernel)) rfl
theorem wq_959 : Cond.methodLink RX8 207 yX8_loansAhead ∈ lw_all := lw_mem (List.mem_of_getElem? (i := 959) (by decide +kernel)) rfl
theorem wq_961 : Cond.instanceMethod yX8_loansAhead ∈ lw_all := lw_mem (List.mem_of_getElem? (i := 961) (by decide +kernel)) rfl
theorem wq_962 : Cond.code yX8_loansAhead cX8_loansAhead 3 (Option.some Jvm.ClassFile.FieldType.int) ∈ lw_all := lw_mem (List.mem_of_getElem? (i := 962) (by decide +kernel)) rfl
theorem wq_963 : Cond.methodLink RX8 232 yX5_append ∈ lw_all := lw_mem (List.mem_of_getElem? (i := 963) (by decide +kernel)) rfl
theorem wq_964 : Cond.classLink RL 78 "LibraryVanModel" ∈ lw_all := lw_mem (List.mem_of_getElem? (i := 964) (by decide +kernel)) rfl
theorem wq_965 : Cond.instantiable RX10 13 ∈ lw_all := lw_mem (List.mem_of_getElem? (i := 965) (by decide +kernel)) rfl
theorem wq_966 : Cond.methodLink RL 80 yX10_init ∈ lw_all := lw_mem (List.mem_of_getElem? (i := 966) (by decide +kernel)) rfl
theorem wq_967 : Cond.instanceMethod yX10_init ∈ lw_all := lw_mem (List.mem_of_getElem? (i := 967) (by decide +kernel)) rfl
theorem wq_968 : Cond.code yX10_init cX10_init 1 (Option.none : Option Jvm.ClassFile.FieldType) ∈ lw_all := lw_mem (List.mem_of_getElem? (i := 968) (by decide +kernel)) rfl
theorem wq_969 : Cond.methodLink RX10 1 (⟨"java/lang/Object", "<init>", "()V"⟩ : MethodName) ∈ lw_all := lw_mem (List.mem_of_getElem? (i := 969) (by decide +kernel)) rfl
theorem wq_970 : Cond.classLink RX10 29 "LibraryVanModel$State" ∈ lw_all := lw_mem (List.mem_of_getElem? (i := 970) (by decide +kernel)) rfl
theorem wq_971 : Cond.instantiable RX9 17 ∈ lw_all := lw_mem (List.mem_of_getElem? (i := 971) (by decide +kernel)) rfl
theorem wq_972 : Cond.methodLinkNest RX10 31 yX9_init "LibraryVanModel" ∈ lw_tbl := List.mem_of_getElem? (i := 972) (by decide +kernel)
theorem wq_973 : Cond.instanceMethod yX9_init ∈ lw_all := lw_mem (List.mem_of_getElem? (i := 973) (by decide +kernel)) rfl
theorem wq_974 : Cond.code yX9_init cX9_init 2 (Option.none : Option Jvm.ClassFile.FieldType) ∈ lw_all := lw_mem (List.mem_of_getElem? (i := 974) (by decide +kernel)) rfl
theorem wq_975 : Cond.methodLink RX9 9 (⟨"java/lang/Object", "<init>", "()V"⟩ : MethodName) ∈ lw_all := lw_mem (List.mem_of_getElem? (i := 975) (by decide +kernel)) rfl
theorem wq_976 : Cond.fieldLink RX9 58 "LibraryVanModel$State" "day" "I" ∈ lw_all := lw_mem (List.mem_of_getElem? (i := 976) (by decide +kernel)) rfl
theorem wq_977 : Cond.fieldLinkNest RX10 162 "LibraryVanModel$State" "day" "I" "LibraryVanModel" ∈ lw_tbl := List.mem_of_getElem? (i := 977) (by decide +kernel)
theorem wq_978 : Cond.fieldLink RX9 62 "LibraryVanModel$State" "used" "I" ∈ lw_all := lw_mem (List.mem_of_getElem? (i := 978) (by decide +kernel)) rfl
theorem wq_979 : Cond.fieldLinkNest RX10 171 "LibraryVanModel$State" "used" "I" "LibraryVanModel" ∈ lw_tbl := List.mem_of_getElem? (i := 979) (by decide +kernel)
theorem wq_980 : Cond.fieldLink RX9 65 "LibraryVanModel$State" "loans" "I" ∈ lw_all := lw_mem (List.mem_of_getElem? (i := 980) (by decide +kernel)) rfl
theorem wq_981 : Cond.fieldLinkNest RX10 165 "LibraryVanModel$State" "loans" "I" "LibraryVanModel" ∈ lw_tbl := List.mem_of_getElem? (i := 981) (by decide +kernel)
theorem wq_982 : Cond.fieldLink RX9 15 "LibraryVanModel$State" "mud" "[I" ∈ lw_all := lw_mem (List.mem_of_getElem? (i := 982) (by decide +kernel)) rfl
theorem wq_983 : Cond.fieldLinkNest RX10 91 "LibraryVanModel$State" "mud" "[I" "LibraryVanModel" ∈ lw_tbl := List.mem_of_getElem? (i := 983) (by decide +kernel)
theorem wq_984 : Cond.fieldLink RX9 19 "LibraryVanModel$State" "round" "[I" ∈ lw_all := lw_mem (List.mem_of_getElem? (i := 984) (by decide +kernel)) rfl
theorem wq_985 : Cond.fieldLinkNest RX10 78 "LibraryVanModel$State" "round" "[I" "LibraryVanModel" ∈ lw_tbl := List.mem_of_getElem? (i := 985) (by decide +kernel)
theorem wq_986 : Cond.fieldLink RX9 68 "LibraryVanModel$State" "size" "I" ∈ lw_all := lw_mem (List.mem_of_getElem? (i := 986) (by decide +kernel)) rfl
theorem wq_987 : Cond.fieldLinkNest RX10 75 "LibraryVanModel$State" "size" "I" "LibraryVanModel" ∈ lw_tbl := List.mem_of_getElem? (i := 987) (by decide +kernel)
theorem wq_988 : Cond.fieldLink RX9 22 "LibraryVanModel$State" "served" "[I" ∈ lw_all := lw_mem (List.mem_of_getElem? (i := 988) (by decide +kernel)) rfl
theorem wq_989 : Cond.fieldLinkNest RX10 81 "LibraryVanModel$State" "served" "[I" "LibraryVanModel" ∈ lw_tbl := List.mem_of_getElem? (i := 989) (by decide +kernel)
theorem wq_990 : Cond.fieldLink RX9 25 "LibraryVanModel$State" "missed" "[I" ∈ lw_all := lw_mem (List.mem_of_getElem? (i := 990) (by decide +kernel)) rfl
theorem wq_991 : Cond.fieldLinkNest RX10 84 "LibraryVanModel$State" "missed" "[I" "LibraryVanModel" ∈ lw_tbl := List.mem_of_getElem? (i := 991) (by decide +kernel)
theorem wq_992 : Cond.fieldLink RX9 28 "LibraryVanModel$State" "with" "[I" ∈ lw_all := lw_mem (List.mem_of_getElem? (i := 992) (by decide +kernel)) rfl
theorem wq_993 : Cond.fieldLinkNest RX10 104 "LibraryVanModel$State" "with" "[I" "LibraryVanModel" ∈ lw_tbl := List.mem_of_getElem? (i := 993) (by decide +kernel)
theorem wq_994 : Cond.fieldLink RX9 31 "LibraryVanModel$State" "since" "[I" ∈ lw_all := lw_mem (List.mem_of_getElem? (i := 994) (by decide +kernel)) rfl
theorem wq_995 : Cond.fieldLinkNest RX10 129 "LibraryVanModel$State" "since" "[I" "LibraryVanModel" ∈ lw_tbl := List.mem_of_getElem? (i := 995) (by decide +kernel)
theorem wq_996 : Cond.fieldLink RX9 34 "LibraryVanModel$State" "lent" "[I" ∈ lw_all := lw_mem (List.mem_of_getElem? (i := 996) (by decide +kernel)) rfl
theorem wq_997 : Cond.fieldLinkNest RX10 132 "LibraryVanModel$State" "lent" "[I" "LibraryVanModel" ∈ lw_tbl := List.mem_of_getElem? (i := 997) (by decide +kernel)
theorem wq_998 : Cond.fieldLink RX9 37 "LibraryVanModel$State" "queue" "[I" ∈ lw_all := lw_mem (List.mem_of_getElem? (i := 998) (by decide +kernel)) rfl
theorem wq_999 : Cond.fieldLinkNest RX10 116 "LibraryVanModel$State" "queue" "[I" "LibraryVanModel" ∈ lw_tbl := List.mem_of_getElem? (i := 999) (by decide +kernel)
theorem wq_1000 : Cond.fieldLink RX9 40 "LibraryVanModel$State" "queued" "[I" ∈ lw_all := lw_mem (List.mem_of_getElem? (i := 1000) (by decide +kernel)) rfl
theorem wq_1001 : Cond.fieldLinkNest RX10 119 "LibraryVanModel$State" "queued" "[I" "LibraryVanModel" ∈ lw_tbl := List.mem_of_getElem? (i := 1001) (by decide +kernel)
theorem wq_1002 : Cond.fieldLink RX9 43 "LibraryVanModel$State" "read" "[I" ∈ lw_all := lw_mem (List.mem_of_getElem? (i := 1002) (by decide +kernel)) rfl
theorem wq_1003 : Cond.fieldLinkNest RX10 126 "LibraryVanModel$State" "read" "[I" "LibraryVanModel" ∈ lw_tbl := List.mem_of_getElem? (i := 1003) (by decide +kernel)
theorem wq_1004 : Cond.fieldLink RX9 46 "LibraryVanModel$State" "owes" "[I" ∈ lw_all := lw_mem (List.mem_of_getElem? (i := 1004) (by decide +kernel)) rfl
theorem wq_1005 : Cond.fieldLinkNest RX10 146 "LibraryVanModel$State" "owes" "[I" "LibraryVanModel" ∈ lw_tbl := List.mem_of_getElem? (i := 1005) (by decide +kernel)
theorem wq_1006 : Cond.fieldLink RX9 49 "LibraryVanModel$State" "had" "[I" ∈ lw_all := lw_mem (List.mem_of_getElem? (i := 1006) (by decide +kernel)) rfl
theorem wq_1007 : Cond.fieldLinkNest RX10 149 "LibraryVanModel$State" "had" "[I" "LibraryVanModel" ∈ lw_tbl := List.mem_of_getElem? (i := 1007) (by decide +kernel)
theorem wq_1008 : Cond.fieldLink RX9 3 "LibraryVanModel$State" "this$0" "LLibraryVanModel;" ∈ lw_all := lw_mem (List.mem_of_getElem? (i := 1008) (by decide +kernel)) rfl
theorem wq_1009 : Cond.lays RX9 "LibraryVanModel$State" "day" "I" ∈ lw_all := lw_mem (List.mem_of_getElem? (i := 1009) (by decide +kernel)) rfl
theorem wq_1011 : Cond.lays RX9 "LibraryVanModel$State" "used" "I" ∈ lw_all := lw_mem (List.mem_of_getElem? (i := 1011) (by decide +kernel)) rfl
theorem wq_1013 : Cond.lays RX9 "LibraryVanModel$State" "loans" "I" ∈ lw_all := lw_mem (List.mem_of_getElem? (i := 1013) (by decide +kernel)) rfl
theorem wq_1015 : Cond.laysFinal RX9 "LibraryVanModel$State" "mud" "[I" ∈ lw_all := lw_mem (List.mem_of_getElem? (i := 1015) (by decide +kernel)) rfl
theorem wq_1017 : Cond.laysFinal RX9 "LibraryVanModel$State" "round" "[I" ∈ lw_all := lw_mem (List.mem_of_getElem? (i := 1017) (by decide +kernel)) rfl
theorem wq_1019 : Cond.lays RX9 "LibraryVanModel$State" "size" "I" ∈ lw_all := lw_mem (List.mem_of_getElem? (i := 1019) (by decide +kernel)) rfl
theorem wq_1021 : Cond.laysFinal RX9 "LibraryVanModel$State" "served" "[I" ∈ lw_all := lw_mem (List.mem_of_getElem? (i := 1021) (by decide +kernel)) rfl
theorem wq_1023 : Cond.laysFinal RX9 "LibraryVanModel$State" "missed" "[I" ∈ lw_all := lw_mem (List.mem_of_getElem? (i := 1023) (by decide +kernel)) rfl
theorem wq_1025 : Cond.laysFinal RX9 "LibraryVanModel$State" "with" "[I" ∈ lw_all := lw_mem (List.mem_of_getElem? (i := 1025) (by decide +kernel)) rfl
theorem wq_1027 : Cond.laysFinal RX9 "LibraryVanModel$State" "since" "[I" ∈ lw_all := lw_mem (List.mem_of_getElem? (i := 1027) (by decide +kernel)) rfl
theorem wq_1029 : Cond.laysFinal RX9 "LibraryVanModel$State" "lent" "[I" ∈ lw_all := lw_mem (List.mem_of_getElem? (i := 1029) (by decide +kernel)) rfl
theorem wq_1031 : Cond.laysFinal RX9 "LibraryVanModel$State" "queue" "[I" ∈ lw_all := lw_mem (List.mem_of_getElem? (i := 1031) (by decide +kernel)) rfl
theorem wq_1033 : Cond.laysFinal RX9 "LibraryVanModel$State" "queued" "[I" ∈ lw_all := lw_mem (List.mem_of_getElem? (i := 1033) (by decide +kernel)) rfl
theorem wq_1035 : Cond.laysFinal RX9 "LibraryVanModel$State" "read" "[I" ∈ lw_all := lw_mem (List.mem_of_getElem? (i := 1035) (by decide +kernel)) rfl
theorem wq_1037 : Cond.laysFinal RX9 "LibraryVanModel$State" "owes" "[I" ∈ lw_all := lw_mem (List.mem_of_getElem? (i := 1037) (by decide +kernel)) rfl
theorem wq_1039 : Cond.laysFinal RX9 "LibraryVanModel$State" "had" "[I" ∈ lw_all := lw_mem (List.mem_of_getElem? (i := 1039) (by decide +kernel)) rfl
theorem wq_1041 : Cond.laysFinal RX9 "LibraryVanModel$State" "this$0" "LLibraryVanModel;" ∈ lw_all := lw_mem (List.mem_of_getElem? (i := 1041) (by decide +kernel)) rfl
theorem wq_1044 : Cond.fieldLink RX10 41 "LibraryVanModel" "thrown" "I" ∈ lw_all := lw_mem (List.mem_of_getElem? (i := 1044) (by decide +kernel)) rfl
theorem wq_1045 : Cond.fieldLink RX10 44 "LibraryVanModel" "halts" "I" ∈ lw_all := lw_mem (List.mem_of_getElem? (i := 1045) (by decide +kernel)) rfl
theorem wq_1046 : Cond.fieldLinkNest RX9 93 "LibraryVanModel" "halts" "I" "LibraryVanModel" ∈ lw_tbl := List.mem_of_getElem? (i := 1046) (by decide +kernel)
theorem wq_1047 : Cond.fieldLinkNest RX9 82 "LibraryVanModel" "lanes" "I" "LibraryVanModel" ∈ lw_tbl := List.mem_of_getElem? (i := 1047) (by decide +kernel)
theorem wq_1048 : Cond.fieldLink RX10 65 "LibraryVanModel" "lanes" "I" ∈ lw_all := lw_mem (List.mem_of_getElem? (i := 1048) (by decide +kernel)) rfl
theorem wq_1049 : Cond.fieldLink RX10 9 "LibraryVanModel" "lane" "[I" ∈ lw_all := lw_mem (List.mem_of_getElem? (i := 1049) (by decide +kernel)) rfl
theorem wq_1050 : Cond.fieldLinkNest RX9 75 "LibraryVanModel" "lane" "[I" "LibraryVanModel" ∈ lw_tbl := List.mem_of_getElem? (i := 1050) (by decide +kernel)
theorem wq_1051 : Cond.fieldLink RX10 13 "LibraryVanModel" "rain" "[I" ∈ lw_all := lw_mem (List.mem_of_getElem? (i := 1051) (by decide +kernel)) rfl
theorem wq_1052 : Cond.fieldLinkNest RX9 99 "LibraryVanModel" "rain" "[I" "LibraryVanModel" ∈ lw_tbl := List.mem_of_getElem? (i := 1052) (by decide +kernel)
theorem wq_1053 : Cond.fieldLink RX10 16 "LibraryVanModel" "minutes" "I" ∈ lw_all := lw_mem (List.mem_of_getElem? (i := 1053) (by decide +kernel)) rfl
theorem wq_1054 : Cond.fieldLinkNest RX9 114 "LibraryVanModel" "minutes" "I" "LibraryVanModel" ∈ lw_tbl := List.mem_of_getElem? (i := 1054) (by decide +kernel)
theorem wq_1055 : Cond.fieldLink RX10 54 "LibraryVanModel" "books" "I" ∈ lw_all := lw_mem (List.mem_of_getElem? (i := 1055) (by decide +kernel)) rfl
theorem wq_1056 : Cond.fieldLinkNest RX9 96 "LibraryVanModel" "books" "I" "LibraryVanModel" ∈ lw_tbl := List.mem_of_getElem? (i := 1056) (by decide +kernel)
theorem wq_1057 : Cond.fieldLink RX10 20 "LibraryVanModel" "shelf" "[I" ∈ lw_all := lw_mem (List.mem_of_getElem? (i := 1057) (by decide +kernel)) rfl
theorem wq_1058 : Cond.fieldLinkNest RX9 143 "LibraryVanModel" "shelf" "[I" "LibraryVanModel" ∈ lw_tbl := List.mem_of_getElem? (i := 1058) (by decide +kernel)
theorem wq_1059 : Cond.fieldLink RX10 51 "LibraryVanModel" "readers" "I" ∈ lw_all := lw_mem (List.mem_of_getElem? (i := 1059) (by decide +kernel)) rfl
theorem wq_1060 : Cond.fieldLinkNest RX9 121 "LibraryVanModel" "readers" "I" "LibraryVanModel" ∈ lw_tbl := List.mem_of_getElem? (i := 1060) (by decide +kernel)
theorem wq_1061 : Cond.fieldLink RX10 23 "LibraryVanModel" "reader" "[I" ∈ lw_all := lw_mem (List.mem_of_getElem? (i := 1061) (by decide +kernel)) rfl
theorem wq_1062 : Cond.fieldLinkNest RX9 124 "LibraryVanModel" "reader" "[I" "LibraryVanModel" ∈ lw_tbl := List.mem_of_getElem? (i := 1062) (by decide +kernel)
theorem wq_1063 : Cond.fieldLink RX10 26 "LibraryVanModel" "times" "[I" ∈ lw_all := lw_mem (List.mem_of_getElem? (i := 1063) (by decide +kernel)) rfl
theorem wq_1064 : Cond.fieldLinkNest RX9 78 "LibraryVanModel" "times" "[I" "LibraryVanModel" ∈ lw_tbl := List.mem_of_getElem? (i := 1064) (by decide +kernel)
theorem wq_1065 : Cond.fieldLink RX10 34 "LibraryVanModel" "s" "LLibraryVanModel$State;" ∈ lw_all := lw_mem (List.mem_of_getElem? (i := 1065) (by decide +kernel)) rfl
theorem wq_1066 : Cond.fieldLink RX10 38 "LibraryVanModel" "ahead" "LLibraryVanModel$State;" ∈ lw_all := lw_mem (List.mem_of_getElem? (i := 1066) (by decide +kernel)) rfl
theorem wq_1067 : Cond.lays RX10 "LibraryVanModel" "thrown" "I" ∈ lw_all := lw_mem (List.mem_of_getElem? (i := 1067) (by decide +kernel)) rfl
theorem wq_1069 : Cond.lays RX10 "LibraryVanModel" "halts" "I" ∈ lw_all := lw_mem (List.mem_of_getElem? (i := 1069) (by decide +kernel)) rfl
theorem wq_1071 : Cond.lays RX10 "LibraryVanModel" "lanes" "I" ∈ lw_all := lw_mem (List.mem_of_getElem? (i := 1071) (by decide +kernel)) rfl
theorem wq_1073 : Cond.laysFinal RX10 "LibraryVanModel" "lane" "[I" ∈ lw_all := lw_mem (List.mem_of_getElem? (i := 1073) (by decide +kernel)) rfl
theorem wq_1075 : Cond.laysFinal RX10 "LibraryVanModel" "rain" "[I" ∈ lw_all := lw_mem (List.mem_of_getElem? (i := 1075) (by decide +kernel)) rfl
theorem wq_1077 : Cond.lays RX10 "LibraryVanModel" "minutes" "I" ∈ lw_all := lw_mem (List.mem_of_getElem? (i := 1077) (by decide +kernel)) rfl
theorem wq_1079 : Cond.lays RX10 "LibraryVanModel" "books" "I" ∈ lw_all := lw_mem (List.mem_of_getElem? (i := 1079) (by decide +kernel)) rfl
theorem wq_1081 : Cond.laysFinal RX10 "LibraryVanModel" "shelf" "[I" ∈ lw_all := lw_mem (List.mem_of_getElem? (i := 1081) (by decide +kernel)) rfl
theorem wq_1083 : Cond.lays RX10 "LibraryVanModel" "readers" "I" ∈ lw_all := lw_mem (List.mem_of_getElem? (i := 1083) (by decide +kernel)) rfl
theorem wq_1085 : Cond.laysFinal RX10 "LibraryVanModel" "reader" "[I" ∈ lw_all := lw_mem (List.mem_of_getElem? (i := 1085) (by decide +kernel)) rfl
theorem wq_1087 : Cond.laysFinal RX10 "LibraryVanModel" "times" "[I" ∈ lw_all := lw_mem (List.mem_of_getElem? (i := 1087) (by decide +kernel)) rfl
theorem wq_1089 : Cond.laysFinal RX10 "LibraryVanModel" "s" "LLibraryVanModel$State;" ∈ lw_all := lw_mem (List.mem_of_getElem? (i := 1089) (by decide +kernel)) rfl
theorem wq_1091 : Cond.laysFinal RX10 "LibraryVanModel" "ahead" "LLibraryVanModel$State;" ∈ lw_all := lw_mem (List.mem_of_getElem? (i := 1091) (by decide +kernel)) rfl
theorem wq_1094 : Cond.methodLink RL 87 yX10_thrown ∈ lw_all := lw_mem (List.mem_of_getElem? (i := 1094) (by decide +kernel)) rfl
theorem wq_1095 : Cond.instanceMethod yX10_thrown ∈ lw_all := lw_mem (List.mem_of_getElem? (i := 1095) (by decide +kernel)) rfl
theorem wq_1096 : Cond.selects RX10 yX10_thrown yX10_thrown ∈ lw_all := lw_mem (List.mem_of_getElem? (i := 1096) (by decide +kernel)) rfl
theorem wq_1097 : Cond.code yX10_thrown cX10_thrown 1 (Option.some Jvm.ClassFile.FieldType.int) ∈ lw_all := lw_mem (List.mem_of_getElem? (i := 1097) (by decide +kernel)) rfl
theorem wq_1098 : Cond.methodLink RL 86 yX10_addHalt ∈ lw_all := lw_mem (List.mem_of_getElem? (i := 1098) (by decide +kernel)) rfl
theorem wq_1099 : Cond.instanceMethod yX10_addHalt ∈ lw_all := lw_mem (List.mem_of_getElem? (i := 1099) (by decide +kernel)) rfl
theorem wq_1100 : Cond.selects RX10 yX10_addHalt yX10_addHalt ∈ lw_all := lw_mem (List.mem_of_getElem? (i := 1100) (by decide +kernel)) rfl
theorem wq_1101 : Cond.code yX10_addHalt cX10_addHalt 1 (Option.some Jvm.ClassFile.FieldType.int) ∈ lw_all := lw_mem (List.mem_of_getElem? (i := 1101) (by decide +kernel)) rfl
theorem wq_1102 : Cond.methodLink RX10 57 yX10_no ∈ lw_all := lw_mem (List.mem_of_getElem? (i := 1102) (by decide +kernel)) rfl
theorem wq_1104 : Cond.instanceMethod yX10_no ∈ lw_all := lw_mem (List.mem_of_getElem? (i := 1104) (by decide +kernel)) rfl
theorem wq_1105 : Cond.code yX10_no cX10_no 2 (Option.some Jvm.ClassFile.FieldType.int) ∈ lw_all := lw_mem (List.mem_of_getElem? (i := 1105) (by decide +kernel)) rfl
theorem wq_1106 : Cond.methodLink RL 93 yX10_addLane ∈ lw_all := lw_mem (List.mem_of_getElem? (i := 1106) (by decide +kernel)) rfl
theorem wq_1107 : Cond.instanceMethod yX10_addLane ∈ lw_all := lw_mem (List.mem_of_getElem? (i := 1107) (by decide +kernel)) rfl
theorem wq_1108 : Cond.selects RX10 yX10_addLane yX10_addLane ∈ lw_all := lw_mem (List.mem_of_getElem? (i := 1108) (by decide +kernel)) rfl
theorem wq_1109 : Cond.code yX10_addLane cX10_addLane 6 (Option.some Jvm.ClassFile.FieldType.int) ∈ lw_all := lw_mem (List.mem_of_getElem? (i := 1109) (by decide +kernel)) rfl
theorem wq_1110 : Cond.methodLink RX10 61 yX10_isHalt ∈ lw_all := lw_mem (List.mem_of_getElem? (i := 1110) (by decide +kernel)) rfl
theorem wq_1112 : Cond.instanceMethod yX10_isHalt ∈ lw_all := lw_mem (List.mem_of_getElem? (i := 1112) (by decide +kernel)) rfl
theorem wq_1113 : Cond.code yX10_isHalt cX10_isHalt 2 (Option.some Jvm.ClassFile.FieldType.boolean) ∈ lw_all := lw_mem (List.mem_of_getElem? (i := 1113) (by decide +kernel)) rfl
theorem wq_1114 : Cond.methodLink RX10 47 yX10_isIn ∈ lw_all := lw_mem (List.mem_of_getElem? (i := 1114) (by decide +kernel)) rfl
theorem wq_1115 : Cond.static yX10_isIn ∈ lw_all := lw_mem (List.mem_of_getElem? (i := 1115) (by decide +kernel)) rfl
theorem wq_1116 : Cond.code yX10_isIn cX10_isIn 3 (Option.some Jvm.ClassFile.FieldType.boolean) ∈ lw_all := lw_mem (List.mem_of_getElem? (i := 1116) (by decide +kernel)) rfl
theorem wq_1117 : Cond.methodLink RX10 68 (⟨"java/lang/System", "arraycopy", "(Ljava/lang/Object;ILjava/lang/Object;II)V"⟩ : MethodName) ∈ lw_all := lw_mem (List.mem_of_getElem? (i := 1117) (by decide +kernel)) rfl
theorem wq_1118 : Cond.methodLink RL 97 yX10_setRain ∈ lw_all := lw_mem (List.mem_of_getElem? (i := 1118) (by decide +kernel)) rfl
theorem wq_1119 : Cond.instanceMethod yX10_setRain ∈ lw_all := lw_mem (List.mem_of_getElem? (i := 1119) (by decide +kernel)) rfl
theorem wq_1120 : Cond.selects RX10 yX10_setRain yX10_setRain ∈ lw_all := lw_mem (List.mem_of_getElem? (i := 1120) (by decide +kernel)) rfl
theorem wq_1121 : Cond.code yX10_setRain cX10_setRain 4 (Option.some Jvm.ClassFile.FieldType.int) ∈ lw_all := lw_mem (List.mem_of_getElem? (i := 1121) (by decide +kernel)) rfl
theorem wq_1122 : Cond.methodLink RL 100 yX10_setRound ∈ lw_all := lw_mem (List.mem_of_getElem? (i := 1122) (by decide +kernel)) rfl
theorem wq_1123 : Cond.instanceMethod yX10_setRound ∈ lw_all := lw_mem (List.mem_of_getElem? (i := 1123) (by decide +kernel)) rfl
theorem wq_1124 : Cond.selects RX10 yX10_setRound yX10_setRound ∈ lw_all := lw_mem (List.mem_of_getElem? (i := 1124) (by decide +kernel)) rfl
theorem wq_1125 : Cond.code yX10_setRound cX10_setRound 6 (Option.some Jvm.ClassFile.FieldType.int) ∈ lw_all := lw_mem (List.mem_of_getElem? (i := 1125) (by decide +kernel)) rfl
theorem wq_1126 : Cond.constant RX10 74 100000000 ∈ lw_all := lw_mem (List.mem_of_getElem? (i := 1126) (by decide +kernel)) rfl
theorem wq_1127 : Cond.methodLink RL 103 yX10_halt ∈ lw_all := lw_mem (List.mem_of_getElem? (i := 1127) (by decide +kernel)) rfl
theorem wq_1128 : Cond.instanceMethod yX10_halt ∈ lw_all := lw_mem (List.mem_of_getElem? (i := 1128) (by decide +kernel)) rfl
theorem wq_1129 : Cond.selects RX10 yX10_halt yX10_halt ∈ lw_all := lw_mem (List.mem_of_getElem? (i := 1129) (by decide +kernel)) rfl
theorem wq_1130 : Cond.code yX10_halt cX10_halt 3 (Option.some Jvm.ClassFile.FieldType.int) ∈ lw_all := lw_mem (List.mem_of_getElem? (i := 1130) (by decide +kernel)) rfl
theorem wq_1131 : Cond.methodLink RX10 87 yX10_haltTold ∈ lw_all := lw_mem (List.mem_of_getElem? (i := 1131) (by decide +kernel)) rfl
theorem wq_1133 : Cond.instanceMethod yX10_haltTold ∈ lw_all := lw_mem (List.mem_of_getElem? (i := 1133) (by decide +kernel)) rfl
theorem wq_1134 : Cond.code yX10_haltTold cX10_haltTold 7 (Option.some Jvm.ClassFile.FieldType.int) ∈ lw_all := lw_mem (List.mem_of_getElem? (i := 1134) (by decide +kernel)) rfl
theorem wq_1135 : Cond.methodLink RL 106 yX10_lane ∈ lw_all := lw_mem (List.mem_of_getElem? (i := 1135) (by decide +kernel)) rfl
theorem wq_1136 : Cond.instanceMethod yX10_lane ∈ lw_all := lw_mem (List.mem_of_getElem? (i := 1136) (by decide +kernel)) rfl
theorem wq_1137 : Cond.selects RX10 yX10_lane yX10_lane ∈ lw_all := lw_mem (List.mem_of_getElem? (i := 1137) (by decide +kernel)) rfl
theorem wq_1138 : Cond.code yX10_lane cX10_lane 3 (Option.some Jvm.ClassFile.FieldType.int) ∈ lw_all := lw_mem (List.mem_of_getElem? (i := 1138) (by decide +kernel)) rfl
theorem wq_1139 : Cond.methodLink RX10 97 yX10_laneTold ∈ lw_all := lw_mem (List.mem_of_getElem? (i := 1139) (by decide +kernel)) rfl
theorem wq_1141 : Cond.instanceMethod yX10_laneTold ∈ lw_all := lw_mem (List.mem_of_getElem? (i := 1141) (by decide +kernel)) rfl
theorem wq_1142 : Cond.code yX10_laneTold cX10_laneTold 3 (Option.some Jvm.ClassFile.FieldType.int) ∈ lw_all := lw_mem (List.mem_of_getElem? (i := 1142) (by decide +kernel)) rfl
theorem wq_1143 : Cond.methodLink RX10 94 yX9_minutesOf ∈ lw_all := lw_mem (List.mem_of_getElem? (i := 1143) (by decide +kernel)) rfl
theorem wq_1144 : Cond.instanceMethod yX9_minutesOf ∈ lw_all := lw_mem (List.mem_of_getElem? (i := 1144) (by decide +kernel)) rfl
theorem wq_1145 : Cond.selects RX9 yX9_minutesOf yX9_minutesOf ∈ lw_all := lw_mem (List.mem_of_getElem? (i := 1145) (by decide +kernel)) rfl
theorem wq_1146 : Cond.code yX9_minutesOf cX9_minutesOf 2 (Option.some Jvm.ClassFile.FieldType.int) ∈ lw_all := lw_mem (List.mem_of_getElem? (i := 1146) (by decide +kernel)) rfl
theorem wq_1147 : Cond.methodLink RL 109 yX10_way ∈ lw_all := lw_mem (List.mem_of_getElem? (i := 1147) (by decide +kernel)) rfl
theorem wq_1148 : Cond.instanceMethod yX10_way ∈ lw_all := lw_mem (List.mem_of_getElem? (i := 1148) (by decide +kernel)) rfl
theorem wq_1149 : Cond.selects RX10 yX10_way yX10_way ∈ lw_all := lw_mem (List.mem_of_getElem? (i := 1149) (by decide +kernel)) rfl
theorem wq_1150 : Cond.code yX10_way cX10_way 3 (Option.some Jvm.ClassFile.FieldType.int) ∈ lw_all := lw_mem (List.mem_of_getElem? (i := 1150) (by decide +kernel)) rfl
theorem wq_1151 : Cond.methodLink RX10 100 yX9_find ∈ lw_all := lw_mem (List.mem_of_getElem? (i := 1151) (by decide +kernel)) rfl
theorem wq_1152 : Cond.instanceMethod yX9_find ∈ lw_all := lw_mem (List.mem_of_getElem? (i := 1152) (by decide +kernel)) rfl
theorem wq_1153 : Cond.selects RX9 yX9_find yX9_find ∈ lw_all := lw_mem (List.mem_of_getElem? (i := 1153) (by decide +kernel)) rfl
theorem wq_1154 : Cond.code yX9_find cX9_find 3 (Option.none : Option Jvm.ClassFile.FieldType) ∈ lw_all := lw_mem (List.mem_of_getElem? (i := 1154) (by decide +kernel)) rfl
theorem wq_1155 : Cond.constant RX9 81 1000000 ∈ lw_all := lw_mem (List.mem_of_getElem? (i := 1155) (by decide +kernel)) rfl
theorem wq_1156 : Cond.methodLink RX9 85 yX9_minutesOf ∈ lw_all := lw_mem (List.mem_of_getElem? (i := 1156) (by decide +kernel)) rfl
theorem wq_1157 : Cond.methodLink RX9 89 yX9_relax ∈ lw_all := lw_mem (List.mem_of_getElem? (i := 1157) (by decide +kernel)) rfl
theorem wq_1159 : Cond.instanceMethod yX9_relax ∈ lw_all := lw_mem (List.mem_of_getElem? (i := 1159) (by decide +kernel)) rfl
theorem wq_1160 : Cond.code yX9_relax cX9_relax 6 (Option.some Jvm.ClassFile.FieldType.boolean) ∈ lw_all := lw_mem (List.mem_of_getElem? (i := 1160) (by decide +kernel)) rfl
theorem wq_1161 : Cond.constant RX10 103 1000000 ∈ lw_all := lw_mem (List.mem_of_getElem? (i := 1161) (by decide +kernel)) rfl
theorem wq_1162 : Cond.methodLink RL 113 yX10_addBook ∈ lw_all := lw_mem (List.mem_of_getElem? (i := 1162) (by decide +kernel)) rfl
theorem wq_1163 : Cond.instanceMethod yX10_addBook ∈ lw_all := lw_mem (List.mem_of_getElem? (i := 1163) (by decide +kernel)) rfl
theorem wq_1164 : Cond.selects RX10 yX10_addBook yX10_addBook ∈ lw_all := lw_mem (List.mem_of_getElem? (i := 1164) (by decide +kernel)) rfl
theorem wq_1165 : Cond.code yX10_addBook cX10_addBook 2 (Option.some Jvm.ClassFile.FieldType.int) ∈ lw_all := lw_mem (List.mem_of_getElem? (i := 1165) (by decide +kernel)) rfl
theorem wq_1166 : Cond.methodLink RL 117 yX10_addReader ∈ lw_all := lw_mem (List.mem_of_getElem? (i := 1166) (by decide +kernel)) rfl
theorem wq_1167 : Cond.instanceMethod yX10_addReader ∈ lw_all := lw_mem (List.mem_of_getElem? (i := 1167) (by decide +kernel)) rfl
theorem wq_1168 : Cond.selects RX10 yX10_addReader yX10_addReader ∈ lw_all := lw_mem (List.mem_of_getElem? (i := 1168) (by decide +kernel)) rfl
theorem wq_1169 : Cond.code yX10_addReader cX10_addReader 5 (Option.some Jvm.ClassFile.FieldType.int) ∈ lw_all := lw_mem (List.mem_of_getElem? (i := 1169) (by decide +kernel)) rfl
theorem wq_1170 : Cond.methodLink RL 120 yX10_reserve ∈ lw_all := lw_mem (List.mem_of_getElem? (i := 1170) (by decide +kernel)) rfl
theorem wq_1171 : Cond.instanceMethod yX10_reserve ∈ lw_all := lw_mem (List.mem_of_getElem? (i := 1171) (by decide +kernel)) rfl
theorem wq_1172 : Cond.selects RX10 yX10_reserve yX10_reserve ∈ lw_all := lw_mem (List.mem_of_getElem? (i := 1172) (by decide +kernel)) rfl
theorem wq_1173 : Cond.code yX10_reserve cX10_reserve 3 (Option.some Jvm.ClassFile.FieldType.int) ∈ lw_all := lw_mem (List.mem_of_getElem? (i := 1173) (by decide +kernel)) rfl
theorem wq_1174 : Cond.methodLink RX10 107 yX10_isReader ∈ lw_all := lw_mem (List.mem_of_getElem? (i := 1174) (by decide +kernel)) rfl
theorem wq_1176 : Cond.instanceMethod yX10_isReader ∈ lw_all := lw_mem (List.mem_of_getElem? (i := 1176) (by decide +kernel)) rfl
theorem wq_1177 : Cond.code yX10_isReader cX10_isReader 2 (Option.some Jvm.ClassFile.FieldType.boolean) ∈ lw_all := lw_mem (List.mem_of_getElem? (i := 1177) (by decide +kernel)) rfl
theorem wq_1178 : Cond.methodLink RX10 110 yX10_isBook ∈ lw_all := lw_mem (List.mem_of_getElem? (i := 1178) (by decide +kernel)) rfl
theorem wq_1180 : Cond.instanceMethod yX10_isBook ∈ lw_all := lw_mem (List.mem_of_getElem? (i := 1180) (by decide +kernel)) rfl
theorem wq_1181 : Cond.code yX10_isBook cX10_isBook 2 (Option.some Jvm.ClassFile.FieldType.boolean) ∈ lw_all := lw_mem (List.mem_of_getElem? (i := 1181) (by decide +kernel)) rfl
theorem wq_1182 : Cond.methodLink RX10 113 yX9_placeOf ∈ lw_all := lw_mem (List.mem_of_getElem? (i := 1182) (by decide +kernel)) rfl
theorem wq_1183 : Cond.instanceMethod yX9_placeOf ∈ lw_all := lw_mem (List.mem_of_getElem? (i := 1183) (by decide +kernel)) rfl
theorem wq_1184 : Cond.selects RX9 yX9_placeOf yX9_placeOf ∈ lw_all := lw_mem (List.mem_of_getElem? (i := 1184) (by decide +kernel)) rfl
theorem wq_1185 : Cond.code yX9_placeOf cX9_placeOf 4 (Option.some Jvm.ClassFile.FieldType.int) ∈ lw_all := lw_mem (List.mem_of_getElem? (i := 1185) (by decide +kernel)) rfl
theorem wq_1186 : Cond.methodLink RL 123 yX10_cancel ∈ lw_all := lw_mem (List.mem_of_getElem? (i := 1186) (by decide +kernel)) rfl
theorem wq_1187 : Cond.instanceMethod yX10_cancel ∈ lw_all := lw_mem (List.mem_of_getElem? (i := 1187) (by decide +kernel)) rfl
theorem wq_1188 : Cond.selects RX10 yX10_cancel yX10_cancel ∈ lw_all := lw_mem (List.mem_of_getElem? (i := 1188) (by decide +kernel)) rfl
theorem wq_1189 : Cond.code yX10_cancel cX10_cancel 4 (Option.some Jvm.ClassFile.FieldType.int) ∈ lw_all := lw_mem (List.mem_of_getElem? (i := 1189) (by decide +kernel)) rfl
theorem wq_1190 : Cond.methodLink RX10 122 yX9_strike ∈ lw_all := lw_mem (List.mem_of_getElem? (i := 1190) (by decide +kernel)) rfl
theorem wq_1191 : Cond.instanceMethod yX9_strike ∈ lw_all := lw_mem (List.mem_of_getElem? (i := 1191) (by decide +kernel)) rfl
theorem wq_1192 : Cond.selects RX9 yX9_strike yX9_strike ∈ lw_all := lw_mem (List.mem_of_getElem? (i := 1192) (by decide +kernel)) rfl
theorem wq_1193 : Cond.code yX9_strike cX9_strike 4 (Option.none : Option Jvm.ClassFile.FieldType) ∈ lw_all := lw_mem (List.mem_of_getElem? (i := 1193) (by decide +kernel)) rfl
theorem wq_1194 : Cond.methodLink RL 126 yX10_book ∈ lw_all := lw_mem (List.mem_of_getElem? (i := 1194) (by decide +kernel)) rfl
theorem wq_1195 : Cond.instanceMethod yX10_book ∈ lw_all := lw_mem (List.mem_of_getElem? (i := 1195) (by decide +kernel)) rfl
theorem wq_1196 : Cond.selects RX10 yX10_book yX10_book ∈ lw_all := lw_mem (List.mem_of_getElem? (i := 1196) (by decide +kernel)) rfl
theorem wq_1197 : Cond.code yX10_book cX10_book 3 (Option.some Jvm.ClassFile.FieldType.int) ∈ lw_all := lw_mem (List.mem_of_getElem? (i := 1197) (by decide +kernel)) rfl
theorem wq_1198 : Cond.methodLink RX10 135 yX10_bookTold ∈ lw_all := lw_mem (List.mem_of_getElem? (i := 1198) (by decide +kernel)) rfl
theorem wq_1200 : Cond.instanceMethod yX10_bookTold ∈ lw_all := lw_mem (List.mem_of_getElem? (i := 1200) (by decide +kernel)) rfl
theorem wq_1201 : Cond.code yX10_bookTold cX10_bookTold 6 (Option.some Jvm.ClassFile.FieldType.int) ∈ lw_all := lw_mem (List.mem_of_getElem? (i := 1201) (by decide +kernel)) rfl
theorem wq_1202 : Cond.methodLink RL 129 yX10_reader ∈ lw_all := lw_mem (List.mem_of_getElem? (i := 1202) (by decide +kernel)) rfl
theorem wq_1203 : Cond.instanceMethod yX10_reader ∈ lw_all := lw_mem (List.mem_of_getElem? (i := 1203) (by decide +kernel)) rfl
theorem wq_1204 : Cond.selects RX10 yX10_reader yX10_reader ∈ lw_all := lw_mem (List.mem_of_getElem? (i := 1204) (by decide +kernel)) rfl
theorem wq_1205 : Cond.code yX10_reader cX10_reader 3 (Option.some Jvm.ClassFile.FieldType.int) ∈ lw_all := lw_mem (List.mem_of_getElem? (i := 1205) (by decide +kernel)) rfl
theorem wq_1206 : Cond.methodLink RX10 152 yX10_readerTold ∈ lw_all := lw_mem (List.mem_of_getElem? (i := 1206) (by decide +kernel)) rfl
theorem wq_1208 : Cond.instanceMethod yX10_readerTold ∈ lw_all := lw_mem (List.mem_of_getElem? (i := 1208) (by decide +kernel)) rfl
theorem wq_1209 : Cond.code yX10_readerTold cX10_readerTold 5 (Option.some Jvm.ClassFile.FieldType.int) ∈ lw_all := lw_mem (List.mem_of_getElem? (i := 1209) (by decide +kernel)) rfl
theorem wq_1210 : Cond.methodLink RX10 138 yX9_many ∈ lw_all := lw_mem (List.mem_of_getElem? (i := 1210) (by decide +kernel)) rfl
theorem wq_1211 : Cond.instanceMethod yX9_many ∈ lw_all := lw_mem (List.mem_of_getElem? (i := 1211) (by decide +kernel)) rfl
theorem wq_1212 : Cond.selects RX9 yX9_many yX9_many ∈ lw_all := lw_mem (List.mem_of_getElem? (i := 1212) (by decide +kernel)) rfl
theorem wq_1213 : Cond.code yX9_many cX9_many 4 (Option.some Jvm.ClassFile.FieldType.int) ∈ lw_all := lw_mem (List.mem_of_getElem? (i := 1213) (by decide +kernel)) rfl
theorem wq_1214 : Cond.methodLink RX10 141 yJ6_bitCount_0f7a4 ∈ lw_all := lw_mem (List.mem_of_getElem? (i := 1214) (by decide +kernel)) rfl
theorem wq_1215 : Cond.methodLink RL 132 yX10_pay ∈ lw_all := lw_mem (List.mem_of_getElem? (i := 1215) (by decide +kernel)) rfl
theorem wq_1216 : Cond.instanceMethod yX10_pay ∈ lw_all := lw_mem (List.mem_of_getElem? (i := 1216) (by decide +kernel)) rfl
theorem wq_1217 : Cond.selects RX10 yX10_pay yX10_pay ∈ lw_all := lw_mem (List.mem_of_getElem? (i := 1217) (by decide +kernel)) rfl
theorem wq_1218 : Cond.code yX10_pay cX10_pay 3 (Option.some Jvm.ClassFile.FieldType.int) ∈ lw_all := lw_mem (List.mem_of_getElem? (i := 1218) (by decide +kernel)) rfl
theorem wq_1219 : Cond.methodLink RL 135 yX10_pass_ ∈ lw_all := lw_mem (List.mem_of_getElem? (i := 1219) (by decide +kernel)) rfl
theorem wq_1220 : Cond.instanceMethod yX10_pass_ ∈ lw_all := lw_mem (List.mem_of_getElem? (i := 1220) (by decide +kernel)) rfl
theorem wq_1221 : Cond.selects RX10 yX10_pass_ yX10_pass_ ∈ lw_all := lw_mem (List.mem_of_getElem? (i := 1221) (by decide +kernel)) rfl
theorem wq_1222 : Cond.code yX10_pass_ cX10_pass_ 2 (Option.some Jvm.ClassFile.FieldType.int) ∈ lw_all := lw_mem (List.mem_of_getElem? (i := 1222) (by decide +kernel)) rfl
theorem wq_1223 : Cond.methodLink RX10 159 yX10_pass ∈ lw_all := lw_mem (List.mem_of_getElem? (i := 1223) (by decide +kernel)) rfl
theorem wq_1224 : Cond.static yX10_pass ∈ lw_all := lw_mem (List.mem_of_getElem? (i := 1224) (by decide +kernel)) rfl
theorem wq_1225 : Cond.code yX10_pass cX10_pass 4 (Option.some Jvm.ClassFile.FieldType.int) ∈ lw_all := lw_mem (List.mem_of_getElem? (i := 1225) (by decide +kernel)) rfl
theorem wq_1226 : Cond.methodLink RX10 155 yX9_pass ∈ lw_all := lw_mem (List.mem_of_getElem? (i := 1226) (by decide +kernel)) rfl
theorem wq_1227 : Cond.instanceMethod yX9_pass ∈ lw_all := lw_mem (List.mem_of_getElem? (i := 1227) (by decide +kernel)) rfl
theorem wq_1228 : Cond.selects RX9 yX9_pass yX9_pass ∈ lw_all := lw_mem (List.mem_of_getElem? (i := 1228) (by decide +kernel)) rfl
theorem wq_1229 : Cond.code yX9_pass cX9_pass 7 (Option.some Jvm.ClassFile.FieldType.int) ∈ lw_all := lw_mem (List.mem_of_getElem? (i := 1229) (by decide +kernel)) rfl
theorem wq_1230 : Cond.methodLink RX9 102 yJ9_min_7cf53 ∈ lw_all := lw_mem (List.mem_of_getElem? (i := 1230) (by decide +kernel)) rfl
theorem wq_1231 : Cond.methodLink RX9 108 yJ9_max_7cf53 ∈ lw_all := lw_mem (List.mem_of_getElem? (i := 1231) (by decide +kernel)) rfl
theorem wq_1232 : Cond.methodLink RX9 111 yX9_find ∈ lw_all := lw_mem (List.mem_of_getElem? (i := 1232) (by decide +kernel)) rfl
theorem wq_1233 : Cond.methodLink RX9 117 yX9_serve ∈ lw_all := lw_mem (List.mem_of_getElem? (i := 1233) (by decide +kernel)) rfl
theorem wq_1235 : Cond.instanceMethod yX9_serve ∈ lw_all := lw_mem (List.mem_of_getElem? (i := 1235) (by decide +kernel)) rfl
theorem wq_1236 : Cond.code yX9_serve cX9_serve 4 (Option.none : Option Jvm.ClassFile.FieldType) ∈ lw_all := lw_mem (List.mem_of_getElem? (i := 1236) (by decide +kernel)) rfl
theorem wq_1237 : Cond.methodLink RX9 127 yX9_bringBack ∈ lw_all := lw_mem (List.mem_of_getElem? (i := 1237) (by decide +kernel)) rfl
theorem wq_1239 : Cond.instanceMethod yX9_bringBack ∈ lw_all := lw_mem (List.mem_of_getElem? (i := 1239) (by decide +kernel)) rfl
theorem wq_1240 : Cond.code yX9_bringBack cX9_bringBack 4 (Option.none : Option Jvm.ClassFile.FieldType) ∈ lw_all := lw_mem (List.mem_of_getElem? (i := 1240) (by decide +kernel)) rfl
theorem wq_1241 : Cond.methodLink RX9 130 yX9_many ∈ lw_all := lw_mem (List.mem_of_getElem? (i := 1241) (by decide +kernel)) rfl
theorem wq_1242 : Cond.methodLink RX9 133 yX9_strike ∈ lw_all := lw_mem (List.mem_of_getElem? (i := 1242) (by decide +kernel)) rfl
theorem wq_1243 : Cond.methodLink RX9 137 yX9_lend ∈ lw_all := lw_mem (List.mem_of_getElem? (i := 1243) (by decide +kernel)) rfl
theorem wq_1245 : Cond.instanceMethod yX9_lend ∈ lw_all := lw_mem (List.mem_of_getElem? (i := 1245) (by decide +kernel)) rfl
theorem wq_1246 : Cond.code yX9_lend cX9_lend 3 (Option.none : Option Jvm.ClassFile.FieldType) ∈ lw_all := lw_mem (List.mem_of_getElem? (i := 1246) (by decide +kernel)) rfl
theorem wq_1247 : Cond.methodLink RX9 140 yX9_choose ∈ lw_all := lw_mem (List.mem_of_getElem? (i := 1247) (by decide +kernel)) rfl
theorem wq_1249 : Cond.instanceMethod yX9_choose ∈ lw_all := lw_mem (List.mem_of_getElem? (i := 1249) (by decide +kernel)) rfl
theorem wq_1250 : Cond.code yX9_choose cX9_choose 3 (Option.none : Option Jvm.ClassFile.FieldType) ∈ lw_all := lw_mem (List.mem_of_getElem? (i := 1250) (by decide +kernel)) rfl
theorem wq_1251 : Cond.methodLink RL 138 yX10_count ∈ lw_all := lw_mem (List.mem_of_getElem? (i := 1251) (by decide +kernel)) rfl
theorem wq_1252 : Cond.instanceMethod yX10_count ∈ lw_all := lw_mem (List.mem_of_getElem? (i := 1252) (by decide +kernel)) rfl
theorem wq_1253 : Cond.selects RX10 yX10_count yX10_count ∈ lw_all := lw_mem (List.mem_of_getElem? (i := 1253) (by decide +kernel)) rfl
theorem wq_1254 : Cond.code yX10_count cX10_count 2 (Option.some Jvm.ClassFile.FieldType.int) ∈ lw_all := lw_mem (List.mem_of_getElem? (i := 1254) (by decide +kernel)) rfl
theorem wq_1255 : Cond.methodLink RX10 174 yX10_counted ∈ lw_all := lw_mem (List.mem_of_getElem? (i := 1255) (by decide +kernel)) rfl
theorem wq_1257 : Cond.instanceMethod yX10_counted ∈ lw_all := lw_mem (List.mem_of_getElem? (i := 1257) (by decide +kernel)) rfl
theorem wq_1258 : Cond.code yX10_counted cX10_counted 4 (Option.some Jvm.ClassFile.FieldType.int) ∈ lw_all := lw_mem (List.mem_of_getElem? (i := 1258) (by decide +kernel)) rfl
theorem wq_1259 : Cond.methodLink RX10 168 yX9_owed ∈ lw_all := lw_mem (List.mem_of_getElem? (i := 1259) (by decide +kernel)) rfl
theorem wq_1260 : Cond.instanceMethod yX9_owed ∈ lw_all := lw_mem (List.mem_of_getElem? (i := 1260) (by decide +kernel)) rfl
theorem wq_1261 : Cond.selects RX9 yX9_owed yX9_owed ∈ lw_all := lw_mem (List.mem_of_getElem? (i := 1261) (by decide +kernel)) rfl
theorem wq_1262 : Cond.code yX9_owed cX9_owed 3 (Option.some Jvm.ClassFile.FieldType.int) ∈ lw_all := lw_mem (List.mem_of_getElem? (i := 1262) (by decide +kernel)) rfl
theorem wq_1263 : Cond.methodLink RL 141 yX10_foresee ∈ lw_all := lw_mem (List.mem_of_getElem? (i := 1263) (by decide +kernel)) rfl
theorem wq_1264 : Cond.instanceMethod yX10_foresee ∈ lw_all := lw_mem (List.mem_of_getElem? (i := 1264) (by decide +kernel)) rfl
theorem wq_1265 : Cond.selects RX10 yX10_foresee yX10_foresee ∈ lw_all := lw_mem (List.mem_of_getElem? (i := 1265) (by decide +kernel)) rfl
theorem wq_1266 : Cond.code yX10_foresee cX10_foresee 4 (Option.some Jvm.ClassFile.FieldType.int) ∈ lw_all := lw_mem (List.mem_of_getElem? (i := 1266) (by decide +kernel)) rfl
theorem wq_1267 : Cond.methodLink RX10 177 yX9_become ∈ lw_all := lw_mem (List.mem_of_getElem? (i := 1267) (by decide +kernel)) rfl
theorem wq_1268 : Cond.instanceMethod yX9_become ∈ lw_all := lw_mem (List.mem_of_getElem? (i := 1268) (by decide +kernel)) rfl
theorem wq_1269 : Cond.selects RX9 yX9_become yX9_become ∈ lw_all := lw_mem (List.mem_of_getElem? (i := 1269) (by decide +kernel)) rfl
theorem wq_1270 : Cond.code yX9_become cX9_become 2 (Option.none : Option Jvm.ClassFile.FieldType) ∈ lw_all := lw_mem (List.mem_of_getElem? (i := 1270) (by decide +kernel)) rfl
theorem wq_1271 : Cond.methodLink RX9 71 yX9_copy ∈ lw_all := lw_mem (List.mem_of_getElem? (i := 1271) (by decide +kernel)) rfl
theorem wq_1273 : Cond.instanceMethod yX9_copy ∈ lw_all := lw_mem (List.mem_of_getElem? (i := 1273) (by decide +kernel)) rfl
theorem wq_1274 : Cond.code yX9_copy cX9_copy 3 (Option.none : Option Jvm.ClassFile.FieldType) ∈ lw_all := lw_mem (List.mem_of_getElem? (i := 1274) (by decide +kernel)) rfl
theorem wq_1275 : Cond.methodLink RX9 52 (⟨"java/lang/System", "arraycopy", "(Ljava/lang/Object;ILjava/lang/Object;II)V"⟩ : MethodName) ∈ lw_all := lw_mem (List.mem_of_getElem? (i := 1275) (by decide +kernel)) rfl
theorem wq_1276 : Cond.methodLink RX10 181 yX9_missedOnes ∈ lw_all := lw_mem (List.mem_of_getElem? (i := 1276) (by decide +kernel)) rfl
theorem wq_1277 : Cond.instanceMethod yX9_missedOnes ∈ lw_all := lw_mem (List.mem_of_getElem? (i := 1277) (by decide +kernel)) rfl
theorem wq_1278 : Cond.selects RX9 yX9_missedOnes yX9_missedOnes ∈ lw_all := lw_mem (List.mem_of_getElem? (i := 1278) (by decide +kernel)) rfl
theorem wq_1279 : Cond.code yX9_missedOnes cX9_missedOnes 3 (Option.some Jvm.ClassFile.FieldType.int) ∈ lw_all := lw_mem (List.mem_of_getElem? (i := 1279) (by decide +kernel)) rfl
theorem wq_1280 : Cond.methodLink RL 144 yX10_gets ∈ lw_all := lw_mem (List.mem_of_getElem? (i := 1280) (by decide +kernel)) rfl
theorem wq_1281 : Cond.instanceMethod yX10_gets ∈ lw_all := lw_mem (List.mem_of_getElem? (i := 1281) (by decide +kernel)) rfl
theorem wq_1282 : Cond.selects RX10 yX10_gets yX10_gets ∈ lw_all := lw_mem (List.mem_of_getElem? (i := 1282) (by decide +kernel)) rfl
theorem wq_1283 : Cond.code yX10_gets cX10_gets 4 (Option.some Jvm.ClassFile.FieldType.int) ∈ lw_all := lw_mem (List.mem_of_getElem? (i := 1283) (by decide +kernel)) rfl
theorem wq_1284 : Cond.methodLink RL 147 yX10_advise ∈ lw_all := lw_mem (List.mem_of_getElem? (i := 1284) (by decide +kernel)) rfl
theorem wq_1285 : Cond.instanceMethod yX10_advise ∈ lw_all := lw_mem (List.mem_of_getElem? (i := 1285) (by decide +kernel)) rfl
theorem wq_1286 : Cond.selects RX10 yX10_advise yX10_advise ∈ lw_all := lw_mem (List.mem_of_getElem? (i := 1286) (by decide +kernel)) rfl
theorem wq_1287 : Cond.code yX10_advise cX10_advise 6 (Option.some Jvm.ClassFile.FieldType.int) ∈ lw_all := lw_mem (List.mem_of_getElem? (i := 1287) (by decide +kernel)) rfl
theorem wq_1288 : Cond.methodLink RL 152 yX10_daily ∈ lw_all := lw_mem (List.mem_of_getElem? (i := 1288) (by decide +kernel)) rfl
theorem wq_1289 : Cond.instanceMethod yX10_daily ∈ lw_all := lw_mem (List.mem_of_getElem? (i := 1289) (by decide +kernel)) rfl
theorem wq_1290 : Cond.selects RX10 yX10_daily yX10_daily ∈ lw_all := lw_mem (List.mem_of_getElem? (i := 1290) (by decide +kernel)) rfl
theorem wq_1291 : Cond.code yX10_daily cX10_daily 1 (Option.some Jvm.ClassFile.FieldType.double) ∈ lw_all := lw_mem (List.mem_of_getElem? (i := 1291) (by decide +kernel)) rfl
theorem wq_1292 : Cond.methodLink RL 157 yX10_digest ∈ lw_all := lw_mem (List.mem_of_getElem? (i := 1292) (by decide +kernel)) rfl
theorem wq_1293 : Cond.instanceMethod yX10_digest ∈ lw_all := lw_mem (List.mem_of_getElem? (i := 1293) (by decide +kernel)) rfl
theorem wq_1294 : Cond.selects RX10 yX10_digest yX10_digest ∈ lw_all := lw_mem (List.mem_of_getElem? (i := 1294) (by decide +kernel)) rfl
theorem wq_1295 : Cond.code yX10_digest cX10_digest 7 (Option.some Jvm.ClassFile.FieldType.long) ∈ lw_all := lw_mem (List.mem_of_getElem? (i := 1295) (by decide +kernel)) rfl
theorem wq_1296 : Cond.constantLong RX10 184 607 ∈ lw_all := lw_mem (List.mem_of_getElem? (i := 1296) (by decide +kernel)) rfl
theorem wq_1297 : Cond.constantLong RX10 186 31 ∈ lw_all := lw_mem (List.mem_of_getElem? (i := 1297) (by decide +kernel)) rfl
theorem wq_1298 : Cond.arrayClass Jvm.ClassFile.FieldType.long ∈ lw_all := lw_mem (List.mem_of_getElem? (i := 1298) (by decide +kernel)) rfl
theorem wq_1300 : Cond.castable "LibraryVan" "java/lang/Object" ∈ lw_tbl := List.mem_of_getElem? (i := 1300) (by decide +kernel)
theorem wq_1301 : Cond.castable "LibraryVan$World" "java/lang/Object" ∈ lw_tbl := List.mem_of_getElem? (i := 1301) (by decide +kernel)
theorem wq_1302 : Cond.castable "java/util/ArrayList" "java/lang/Object" ∈ lw_tbl := List.mem_of_getElem? (i := 1302) (by decide +kernel)
theorem wq_1303 : Cond.castable "LibraryVan$Ways" "java/lang/Object" ∈ lw_tbl := List.mem_of_getElem? (i := 1303) (by decide +kernel)
theorem wq_1304 : Cond.castable "LibraryVan$Round" "java/lang/Object" ∈ lw_tbl := List.mem_of_getElem? (i := 1304) (by decide +kernel)
theorem wq_1305 : Cond.castable "LibraryVanModel" "java/lang/Object" ∈ lw_tbl := List.mem_of_getElem? (i := 1305) (by decide +kernel)
theorem wq_1306 : Cond.castable "LibraryVanModel$State" "java/lang/Object" ∈ lw_tbl := List.mem_of_getElem? (i := 1306) (by decide +kernel)
theorem wq_1307 : Cond.castable "java/lang/IllegalStateException" "java/lang/Object" ∈ lw_tbl := List.mem_of_getElem? (i := 1307) (by decide +kernel)
theorem wq_1308 : Cond.castable "LibraryVan$Halt" "java/lang/Object" ∈ lw_tbl := List.mem_of_getElem? (i := 1308) (by decide +kernel)
theorem wq_1309 : Cond.castable "java/lang/IndexOutOfBoundsException" "java/lang/Object" ∈ lw_tbl := List.mem_of_getElem? (i := 1309) (by decide +kernel)
theorem wq_1310 : Cond.castable "java/lang/IllegalArgumentException" "java/lang/Object" ∈ lw_tbl := List.mem_of_getElem? (i := 1310) (by decide +kernel)
theorem wq_1311 : Cond.castable "LibraryVan$Lane" "java/lang/Object" ∈ lw_tbl := List.mem_of_getElem? (i := 1311) (by decide +kernel)
theorem wq_1312 : Cond.castable "LibraryVan$Book" "java/lang/Object" ∈ lw_tbl := List.mem_of_getElem? (i := 1312) (by decide +kernel)
theorem wq_1313 : Cond.castable "LibraryVan$Queue" "java/lang/Object" ∈ lw_tbl := List.mem_of_getElem? (i := 1313) (by decide +kernel)
theorem wq_1314 : Cond.castable "LibraryVan$Reader" "java/lang/Object" ∈ lw_tbl := List.mem_of_getElem? (i := 1314) (by decide +kernel)
theorem wq_1315 : Cond.castable "java/lang/Throwable" "java/lang/Object" ∈ lw_tbl := List.mem_of_getElem? (i := 1315) (by decide +kernel)
theorem wq_1316 : Cond.castable "java/lang/String" "java/lang/Object" ∈ lw_tbl := List.mem_of_getElem? (i := 1316) (by decide +kernel)
theorem wq_1318 : Cond.selects "[Ljava/lang/Object;" (⟨"java/lang/Object", "getClass", "()Ljava/lang/Class;"⟩ : MethodName) (⟨"java/lang/Object", "getClass", "()Ljava/lang/Class;"⟩ : MethodName) ∈ lw_all := lw_mem (List.mem_of_getElem? (i := 1318) (by decide +kernel)) rfl
theorem wq_1320 : Cond.castable "[I" "java/lang/Object" ∈ lw_tbl := List.mem_of_getElem? (i := 1320) (by decide +kernel)
theorem wq_1321 : Cond.castable "[B" "java/lang/Object" ∈ lw_tbl := List.mem_of_getElem? (i := 1321) (by decide +kernel)
theorem wq_1322 : Cond.castable "[Ljava/lang/Object;" "java/lang/Object" ∈ lw_tbl := List.mem_of_getElem? (i := 1322) (by decide +kernel)
theorem wq_1323 : Cond.castable "[J" "java/lang/Object" ∈ lw_tbl := List.mem_of_getElem? (i := 1323) (by decide +kernel)
theorem ina_X0 : ∀ w ∈ u_ws RX0 TX0 6, w ∈ lw_all := List.forall_mem_cons.mpr ⟨wq_692, List.forall_mem_cons.mpr ⟨wq_694, List.forall_mem_cons.mpr ⟨wq_696, List.forall_mem_cons.mpr ⟨wq_698, List.forall_mem_cons.mpr ⟨wq_700, List.forall_mem_cons.mpr ⟨wq_702, fun _ h => absurd h List.not_mem_nil⟩⟩⟩⟩⟩⟩
theorem ina_X1 : ∀ w ∈ u_ws RX1 TX1 2, w ∈ lw_all := List.forall_mem_cons.mpr ⟨wq_417, List.forall_mem_cons.mpr ⟨wq_419, fun _ h => absurd h List.not_mem_nil⟩⟩
theorem ina_X2 : ∀ w ∈ u_ws RX2 TX2 5, w ∈ lw_all := List.forall_mem_cons.mpr ⟨wq_556, List.forall_mem_cons.mpr ⟨wq_558, List.forall_mem_cons.mpr ⟨wq_560, List.forall_mem_cons.mpr ⟨wq_562, List.forall_mem_cons.mpr ⟨wq_564, fun _ h => absurd h List.not_mem_nil⟩⟩⟩⟩⟩
theorem ina_X3 : ∀ w ∈ u_ws RX3 TX3 2, w ∈ lw_all := List.forall_mem_cons.mpr ⟨wq_673, List.forall_mem_cons.mpr ⟨wq_675, fun _ h => absurd h List.not_mem_nil⟩⟩
theorem ina_X4 : ∀ w ∈ u_ws RX4 TX4 8, w ∈ lw_all := List.forall_mem_cons.mpr ⟨wq_741, List.forall_mem_cons.mpr ⟨wq_743, List.forall_mem_cons.mpr ⟨wq_745, List.forall_mem_cons.mpr ⟨wq_747, List.forall_mem_cons.mpr ⟨wq_749, List.forall_mem_cons.mpr ⟨wq_751, List.forall_mem_cons.mpr ⟨wq_753, List.forall_mem_cons.mpr ⟨wq_755, fun _ h => absurd h List.not_mem_nil⟩⟩⟩⟩⟩⟩⟩⟩
theorem ina_X5 : ∀ w ∈ u_ws RX5 TX5 3, w ∈ lw_all := List.forall_mem_cons.mpr ⟨wq_127, List.forall_mem_cons.mpr ⟨wq_129, List.forall_mem_cons.mpr ⟨wq_131, fun _ h => absurd h List.not_mem_nil⟩⟩⟩
theorem ina_X6 : ∀ w ∈ u_ws RX6 TX6 1, w ∈ lw_all := List.forall_mem_cons.mpr ⟨wq_113, fun _ h => absurd h List.not_mem_nil⟩
theorem ina_X7 : ∀ w ∈ u_ws RX7 TX7 9, w ∈ lw_all := List.forall_mem_cons.mpr ⟨wq_149, List.forall_mem_cons.mpr ⟨wq_151, List.forall_mem_cons.mpr ⟨wq_153, List.forall_mem_cons.mpr ⟨wq_155, List.forall_mem_cons.mpr ⟨wq_157, List.forall_mem_cons.mpr ⟨wq_159, List.forall_mem_cons.mpr ⟨wq_161, List.forall_mem_cons.mpr ⟨wq_163, List.forall_mem_cons.mpr ⟨wq_165, fun _ h => absurd h List.not_mem_nil⟩⟩⟩⟩⟩⟩⟩⟩⟩
theorem ina_X8 : ∀ w ∈ u_ws RX8 TX8 2, w ∈ lw_all := List.forall_mem_cons.mpr ⟨wq_170, List.forall_mem_cons.mpr ⟨wq_172, fun _ h => absurd h List.not_mem_nil⟩⟩
theorem ina_X9 : ∀ w ∈ u_ws RX9 TX9 17, w ∈ lw_all := List.forall_mem_cons.mpr ⟨wq_1009, List.forall_mem_cons.mpr ⟨wq_1011, List.forall_mem_cons.mpr ⟨wq_1013, List.forall_mem_cons.mpr ⟨wq_1015, List.forall_mem_cons.mpr ⟨wq_1017, List.forall_mem_cons.mpr ⟨wq_1019, List.forall_mem_cons.mpr ⟨wq_1021, List.forall_mem_cons.mpr ⟨wq_1023, List.forall_mem_cons.mpr ⟨wq_1025, List.forall_mem_cons.mpr ⟨wq_1027, List.forall_mem_cons.mpr ⟨wq_1029, List.forall_mem_cons.mpr ⟨wq_1031, List.forall_mem_cons.mpr ⟨wq_1033, List.forall_mem_cons.mpr ⟨wq_1035, List.forall_mem_cons.mpr ⟨wq_1037, List.forall_mem_cons.mpr ⟨wq_1039, List.forall_mem_cons.mpr ⟨wq_1041, fun _ h => absurd h List.not_mem_nil⟩⟩⟩⟩⟩⟩⟩⟩⟩⟩⟩⟩⟩⟩⟩⟩⟩
theorem ina_X10 : ∀ w ∈ u_ws RX10 TX10 13, w ∈ lw_all := List.forall_mem_cons.mpr ⟨wq_1067, List.forall_mem_cons.mpr ⟨wq_1069, List.forall_mem_cons.mpr ⟨wq_1071, List.forall_mem_cons.mpr ⟨wq_1073, List.forall_mem_cons.mpr ⟨wq_1075, List.forall_mem_cons.mpr ⟨wq_1077, List.forall_mem_cons.mpr ⟨wq_1079, List.forall_mem_cons.mpr ⟨wq_1081, List.forall_mem_cons.mpr ⟨wq_1083, List.forall_mem_cons.mpr ⟨wq_1085, List.forall_mem_cons.mpr ⟨wq_1087, List.forall_mem_cons.mpr ⟨wq_1089, List.forall_mem_cons.mpr ⟨wq_1091, fun _ h => absurd h List.not_mem_nil⟩⟩⟩⟩⟩⟩⟩⟩⟩⟩⟩⟩⟩
theorem ina_Jx4a65c : ∀ w ∈ u_ws RJx4a65c TJx4a65c 3, w ∈ lw_all := List.forall_mem_cons.mpr ⟨wq_103, List.forall_mem_cons.mpr ⟨wq_99, List.forall_mem_cons.mpr ⟨wq_101, fun _ h => absurd h List.not_mem_nil⟩⟩⟩
end
section
theorem dX0_init_0 : decode cX0_init 0 = .ok (.aload_n 0, 1) := by decide +kernel
theorem dX0_init_1 : decode cX0_init 1 = .ok (.invokespecial 3, 3) := by decide +kernel
theorem dX0_init_4 : decode cX0_init 4 = .ok (.aload_n 0, 1) := by decide +kernel
theorem dX0_init_5 : decode cX0_init 5 = .ok (.new 9, 3) := by decide +kernel
theorem dX0_init_8 : decode cX0_init 8 = .ok (.dup, 1) := by decide +kernel
theorem dX0_init_9 : decode cX0_init 9 = .ok (.invokespecial 11, 3) := by decide +kernel
theorem dX0_init_12 : decode cX0_init 12 = .ok (.putfield 12, 3) := by decide +kernel
theorem dX0_init_15 : decode cX0_init 15 = .ok (.aload_n 0, 1) := by decide +kernel
theorem dX0_init_16 : decode cX0_init 16 = .ok (.iconst (-1), 1) := by decide +kernel
theorem dX0_init_17 : decode cX0_init 17 = .ok (.putfield 18, 3) := by decide +kernel
theorem dX0_init_20 : decode cX0_init 20 = .ok (.aload_n 0, 1) := by decide +kernel
theorem dX0_init_21 : decode cX0_init 21 = .ok (.iconst (-1), 1) := by decide +kernel
theorem dX0_init_22 : decode cX0_init 22 = .ok (.putfield 22, 3) := by decide +kernel
theorem dX0_init_25 : decode cX0_init 25 = .ok (.aload_n 0, 1) := by decide +kernel
theorem dX0_init_26 : decode cX0_init 26 = .ok (.iload_n 1, 1) := by decide +kernel
theorem dX0_init_27 : decode cX0_init 27 = .ok (.putfield 25, 3) := by decide +kernel
theorem dX0_init_30 : decode cX0_init 30 = .ok (.aload_n 0, 1) := by decide +kernel
theorem dX0_init_31 : decode cX0_init 31 = .ok (.iload_n 2, 1) := by decide +kernel
theorem dX0_init_32 : decode cX0_init 32 = .ok (.putfield 28, 3) := by decide +kernel
theorem dX0_init_35 : decode cX0_init 35 = .ok (.return_, 1) := by decide +kernel
theorem dX0_isOnVan_0 : decode cX0_isOnVan 0 = .ok (.aload_n 0, 1) := by decide +kernel
theorem dX0_isOnVan_1 : decode cX0_isOnVan 1 = .ok (.getfield 18, 3) := by decide +kernel
theorem dX0_isOnVan_4 : decode cX0_isOnVan 4 = .ok (.iconst (-1), 1) := by decide +kernel
theorem dX0_isOnVan_5 : decode cX0_isOnVan 5 = .ok (.if_icmp .ne 7, 3) := by decide +kernel
theorem dX0_isOnVan_8 : decode cX0_isOnVan 8 = .ok (.iconst 1, 1) := by decide +kernel
theorem dX0_isOnVan_9 : decode cX0_isOnVan 9 = .ok (.goto 4, 3) := by decide +kernel
theorem dX0_isOnVan_12 : decode cX0_isOnVan 12 = .ok (.iconst 0, 1) := by decide +kernel
theorem dX0_isOnVan_13 : decode cX0_isOnVan 13 = .ok (.ireturn, 1) := by decide +kernel
theorem dX0_lendTo_0 : decode cX0_lendTo 0 = .ok (.aload_n 0, 1) := by decide +kernel
theorem dX0_lendTo_1 : decode cX0_lendTo 1 = .ok (.aload_n 1, 1) := by decide +kernel
theorem dX0_lendTo_2 : decode cX0_lendTo 2 = .ok (.getfield 31, 3) := by decide +kernel
theorem dX0_lendTo_5 : decode cX0_lendTo 5 = .ok (.putfield 18, 3) := by decide +kernel
theorem dX0_lendTo_8 : decode cX0_lendTo 8 = .ok (.aload_n 0, 1) := by decide +kernel
theorem dX0_lendTo_9 : decode cX0_lendTo 9 = .ok (.iload_n 2, 1) := by decide +kernel
theorem dX0_lendTo_10 : decode cX0_lendTo 10 = .ok (.putfield 22, 3) := by decide +kernel
theorem dX0_lendTo_13 : decode cX0_lendTo 13 = .ok (.aload_n 0, 1) := by decide +kernel
theorem dX0_lendTo_14 : decode cX0_lendTo 14 = .ok (.dup, 1) := by decide +kernel
theorem dX0_lendTo_15 : decode cX0_lendTo 15 = .ok (.getfield 34, 3) := by decide +kernel
theorem dX0_lendTo_18 : decode cX0_lendTo 18 = .ok (.iconst 1, 1) := by decide +kernel
theorem dX0_lendTo_19 : decode cX0_lendTo 19 = .ok (.iadd, 1) := by decide +kernel
theorem dX0_lendTo_20 : decode cX0_lendTo 20 = .ok (.putfield 34, 3) := by decide +kernel
theorem dX0_lendTo_23 : decode cX0_lendTo 23 = .ok (.aload_n 1, 1) := by decide +kernel
theorem dX0_lendTo_24 : decode cX0_lendTo 24 = .ok (.dup, 1) := by decide +kernel
theorem dX0_lendTo_25 : decode cX0_lendTo 25 = .ok (.getfield 37, 3) := by decide +kernel
theorem dX0_lendTo_28 : decode cX0_lendTo 28 = .ok (.iconst 1, 1) := by decide +kernel
theorem dX0_lendTo_29 : decode cX0_lendTo 29 = .ok (.iadd, 1) := by decide +kernel
theorem dX0_lendTo_30 : decode cX0_lendTo 30 = .ok (.putfield 37, 3) := by decide +kernel
theorem dX0_lendTo_33 : decode cX0_lendTo 33 = .ok (.aload_n 1, 1) := by decide +kernel
theorem dX0_lendTo_34 : decode cX0_lendTo 34 = .ok (.dup, 1) := by decide +kernel
theorem dX0_lendTo_35 : decode cX0_lendTo 35 = .ok (.getfield 40, 3) := by decide +kernel
theorem dX0_lendTo_38 : decode cX0_lendTo 38 = .ok (.iconst 1, 1) := by decide +kernel
theorem dX0_lendTo_39 : decode cX0_lendTo 39 = .ok (.aload_n 0, 1) := by decide +kernel
theorem dX0_lendTo_40 : decode cX0_lendTo 40 = .ok (.getfield 25, 3) := by decide +kernel
theorem dX0_lendTo_43 : decode cX0_lendTo 43 = .ok (.ishl, 1) := by decide +kernel
theorem dX0_lendTo_44 : decode cX0_lendTo 44 = .ok (.ior, 1) := by decide +kernel
theorem dX0_lendTo_45 : decode cX0_lendTo 45 = .ok (.putfield 40, 3) := by decide +kernel
theorem dX0_lendTo_48 : decode cX0_lendTo 48 = .ok (.aload_n 1, 1) := by decide +kernel
theorem dX0_lendTo_49 : decode cX0_lendTo 49 = .ok (.dup, 1) := by decide +kernel
theorem dX0_lendTo_50 : decode cX0_lendTo 50 = .ok (.getfield 43, 3) := by decide +kernel
theorem dX0_lendTo_53 : decode cX0_lendTo 53 = .ok (.iconst 1, 1) := by decide +kernel
theorem dX0_lendTo_54 : decode cX0_lendTo 54 = .ok (.iadd, 1) := by decide +kernel
theorem dX0_lendTo_55 : decode cX0_lendTo 55 = .ok (.putfield 43, 3) := by decide +kernel
theorem dX0_lendTo_58 : decode cX0_lendTo 58 = .ok (.return_, 1) := by decide +kernel
theorem dX0_comeBackFrom_0 : decode cX0_comeBackFrom 0 = .ok (.aload_n 0, 1) := by decide +kernel
theorem dX0_comeBackFrom_1 : decode cX0_comeBackFrom 1 = .ok (.iconst (-1), 1) := by decide +kernel
theorem dX0_comeBackFrom_2 : decode cX0_comeBackFrom 2 = .ok (.putfield 18, 3) := by decide +kernel
theorem dX0_comeBackFrom_5 : decode cX0_comeBackFrom 5 = .ok (.aload_n 0, 1) := by decide +kernel
theorem dX0_comeBackFrom_6 : decode cX0_comeBackFrom 6 = .ok (.iconst (-1), 1) := by decide +kernel
theorem dX0_comeBackFrom_7 : decode cX0_comeBackFrom 7 = .ok (.putfield 22, 3) := by decide +kernel
theorem dX0_comeBackFrom_10 : decode cX0_comeBackFrom 10 = .ok (.aload_n 1, 1) := by decide +kernel
theorem dX0_comeBackFrom_11 : decode cX0_comeBackFrom 11 = .ok (.dup, 1) := by decide +kernel
theorem dX0_comeBackFrom_12 : decode cX0_comeBackFrom 12 = .ok (.getfield 37, 3) := by decide +kernel
theorem dX0_comeBackFrom_15 : decode cX0_comeBackFrom 15 = .ok (.iconst 1, 1) := by decide +kernel
theorem dX0_comeBackFrom_16 : decode cX0_comeBackFrom 16 = .ok (.isub, 1) := by decide +kernel
theorem dX0_comeBackFrom_17 : decode cX0_comeBackFrom 17 = .ok (.putfield 37, 3) := by decide +kernel
theorem dX0_comeBackFrom_20 : decode cX0_comeBackFrom 20 = .ok (.iload_n 2, 1) := by decide +kernel
theorem dX0_comeBackFrom_21 : decode cX0_comeBackFrom 21 = .ok (.bipush 14, 2) := by decide +kernel
theorem dX0_comeBackFrom_23 : decode cX0_comeBackFrom 23 = .ok (.if_icmp .le 16, 3) := by decide +kernel
theorem dX0_comeBackFrom_26 : decode cX0_comeBackFrom 26 = .ok (.aload_n 1, 1) := by decide +kernel
theorem dX0_comeBackFrom_27 : decode cX0_comeBackFrom 27 = .ok (.dup, 1) := by decide +kernel
theorem dX0_comeBackFrom_28 : decode cX0_comeBackFrom 28 = .ok (.getfield 44, 3) := by decide +kernel
theorem dX0_comeBackFrom_31 : decode cX0_comeBackFrom 31 = .ok (.iload_n 2, 1) := by decide +kernel
theorem dX0_comeBackFrom_32 : decode cX0_comeBackFrom 32 = .ok (.bipush 14, 2) := by decide +kernel
theorem dX0_comeBackFrom_34 : decode cX0_comeBackFrom 34 = .ok (.isub, 1) := by decide +kernel
theorem dX0_comeBackFrom_35 : decode cX0_comeBackFrom 35 = .ok (.iadd, 1) := by decide +kernel
theorem dX0_comeBackFrom_36 : decode cX0_comeBackFrom 36 = .ok (.putfield 44, 3) := by decide +kernel
theorem dX0_comeBackFrom_39 : decode cX0_comeBackFrom 39 = .ok (.return_, 1) := by decide +kernel
theorem dX0_copyFrom_0 : decode cX0_copyFrom 0 = .ok (.aload_n 0, 1) := by decide +kernel
theorem dX0_copyFrom_1 : decode cX0_copyFrom 1 = .ok (.getfield 12, 3) := by decide +kernel
theorem dX0_copyFrom_4 : decode cX0_copyFrom 4 = .ok (.aload_n 1, 1) := by decide +kernel
theorem dX0_copyFrom_5 : decode cX0_copyFrom 5 = .ok (.getfield 12, 3) := by decide +kernel
theorem dX0_copyFrom_8 : decode cX0_copyFrom 8 = .ok (.invokevirtual 47, 3) := by decide +kernel
theorem dX0_copyFrom_11 : decode cX0_copyFrom 11 = .ok (.aload_n 0, 1) := by decide +kernel
theorem dX0_copyFrom_12 : decode cX0_copyFrom 12 = .ok (.aload_n 1, 1) := by decide +kernel
theorem dX0_copyFrom_13 : decode cX0_copyFrom 13 = .ok (.getfield 18, 3) := by decide +kernel
theorem dX0_copyFrom_16 : decode cX0_copyFrom 16 = .ok (.putfield 18, 3) := by decide +kernel
theorem dX0_copyFrom_19 : decode cX0_copyFrom 19 = .ok (.aload_n 0, 1) := by decide +kernel
theorem dX0_copyFrom_20 : decode cX0_copyFrom 20 = .ok (.aload_n 1, 1) := by decide +kernel
theorem dX0_copyFrom_21 : decode cX0_copyFrom 21 = .ok (.getfield 22, 3) := by decide +kernel
theorem dX0_copyFrom_24 : decode cX0_copyFrom 24 = .ok (.putfield 22, 3) := by decide +kernel
theorem dX0_copyFrom_27 : decode cX0_copyFrom 27 = .ok (.aload_n 0, 1) := by decide +kernel
theorem dX0_copyFrom_28 : decode cX0_copyFrom 28 = .ok (.aload_n 1, 1) := by decide +kernel
theorem dX0_copyFrom_29 : decode cX0_copyFrom 29 = .ok (.getfield 34, 3) := by decide +kernel
theorem dX0_copyFrom_32 : decode cX0_copyFrom 32 = .ok (.putfield 34, 3) := by decide +kernel
theorem dX0_copyFrom_35 : decode cX0_copyFrom 35 = .ok (.return_, 1) := by decide +kernel
theorem dX1_init_0 : decode cX1_init 0 = .ok (.aload_n 0, 1) := by decide +kernel
theorem dX1_init_1 : decode cX1_init 1 = .ok (.invokespecial 1, 3) := by decide +kernel
theorem dX1_init_4 : decode cX1_init 4 = .ok (.return_, 1) := by decide +kernel
theorem dX1_copyFrom_0 : decode cX1_copyFrom 0 = .ok (.aload_n 0, 1) := by decide +kernel
theorem dX1_copyFrom_1 : decode cX1_copyFrom 1 = .ok (.aload_n 1, 1) := by decide +kernel
theorem dX1_copyFrom_2 : decode cX1_copyFrom 2 = .ok (.getfield 7, 3) := by decide +kernel
theorem dX1_copyFrom_5 : decode cX1_copyFrom 5 = .ok (.putfield 7, 3) := by decide +kernel
theorem dX1_copyFrom_8 : decode cX1_copyFrom 8 = .ok (.aload_n 0, 1) := by decide +kernel
theorem dX1_copyFrom_9 : decode cX1_copyFrom 9 = .ok (.aload_n 1, 1) := by decide +kernel
theorem dX1_copyFrom_10 : decode cX1_copyFrom 10 = .ok (.getfield 13, 3) := by decide +kernel
theorem dX1_copyFrom_13 : decode cX1_copyFrom 13 = .ok (.putfield 13, 3) := by decide +kernel
theorem dX1_copyFrom_16 : decode cX1_copyFrom 16 = .ok (.return_, 1) := by decide +kernel
theorem dX2_init_0 : decode cX2_init 0 = .ok (.aload_n 0, 1) := by decide +kernel
theorem dX2_init_1 : decode cX2_init 1 = .ok (.invokespecial 3, 3) := by decide +kernel
theorem dX2_init_4 : decode cX2_init 4 = .ok (.aload_n 0, 1) := by decide +kernel
theorem dX2_init_5 : decode cX2_init 5 = .ok (.iload_n 1, 1) := by decide +kernel
theorem dX2_init_6 : decode cX2_init 6 = .ok (.putfield 9, 3) := by decide +kernel
theorem dX2_init_9 : decode cX2_init 9 = .ok (.aload_n 0, 1) := by decide +kernel
theorem dX2_init_10 : decode cX2_init 10 = .ok (.iload_n 2, 1) := by decide +kernel
theorem dX2_init_11 : decode cX2_init 11 = .ok (.putfield 15, 3) := by decide +kernel
theorem dX2_init_14 : decode cX2_init 14 = .ok (.aload_n 0, 1) := by decide +kernel
theorem dX2_init_15 : decode cX2_init 15 = .ok (.iload_n 3, 1) := by decide +kernel
theorem dX2_init_16 : decode cX2_init 16 = .ok (.putfield 18, 3) := by decide +kernel
theorem dX2_init_19 : decode cX2_init 19 = .ok (.aload_n 0, 1) := by decide +kernel
theorem dX2_init_20 : decode cX2_init 20 = .ok (.iload 4, 2) := by decide +kernel
theorem dX2_init_22 : decode cX2_init 22 = .ok (.putfield 21, 3) := by decide +kernel
theorem dX2_init_25 : decode cX2_init 25 = .ok (.return_, 1) := by decide +kernel
theorem dX2_isUsable_0 : decode cX2_isUsable 0 = .ok (.aload_n 0, 1) := by decide +kernel
theorem dX2_isUsable_1 : decode cX2_isUsable 1 = .ok (.getfield 24, 3) := by decide +kernel
theorem dX2_isUsable_4 : decode cX2_isUsable 4 = .ok (.bipush 12, 2) := by decide +kernel
theorem dX2_isUsable_6 : decode cX2_isUsable 6 = .ok (.if_icmp .gt 7, 3) := by decide +kernel
theorem dX2_isUsable_9 : decode cX2_isUsable 9 = .ok (.iconst 1, 1) := by decide +kernel
theorem dX2_isUsable_10 : decode cX2_isUsable 10 = .ok (.goto 4, 3) := by decide +kernel
theorem dX2_isUsable_13 : decode cX2_isUsable 13 = .ok (.iconst 0, 1) := by decide +kernel
theorem dX2_isUsable_14 : decode cX2_isUsable 14 = .ok (.ireturn, 1) := by decide +kernel
theorem dX2_minutes_0 : decode cX2_minutes 0 = .ok (.aload_n 0, 1) := by decide +kernel
theorem dX2_minutes_1 : decode cX2_minutes 1 = .ok (.getfield 18, 3) := by decide +kernel
theorem dX2_minutes_4 : decode cX2_minutes 4 = .ok (.aload_n 0, 1) := by decide +kernel
theorem dX2_minutes_5 : decode cX2_minutes 5 = .ok (.getfield 24, 3) := by decide +kernel
theorem dX2_minutes_8 : decode cX2_minutes 8 = .ok (.iconst 2, 1) := by decide +kernel
theorem dX2_minutes_9 : decode cX2_minutes 9 = .ok (.idiv, 1) := by decide +kernel
theorem dX2_minutes_10 : decode cX2_minutes 10 = .ok (.iadd, 1) := by decide +kernel
theorem dX2_minutes_11 : decode cX2_minutes 11 = .ok (.ireturn, 1) := by decide +kernel
theorem dX2_weather_0 : decode cX2_weather 0 = .ok (.aload_n 0, 1) := by decide +kernel
theorem dX2_weather_1 : decode cX2_weather 1 = .ok (.iload_n 1, 1) := by decide +kernel
theorem dX2_weather_2 : decode cX2_weather 2 = .ok (.ifCond .le 24, 3) := by decide +kernel
theorem dX2_weather_5 : decode cX2_weather 5 = .ok (.bipush 20, 2) := by decide +kernel
theorem dX2_weather_7 : decode cX2_weather 7 = .ok (.aload_n 0, 1) := by decide +kernel
theorem dX2_weather_8 : decode cX2_weather 8 = .ok (.getfield 24, 3) := by decide +kernel
theorem dX2_weather_11 : decode cX2_weather 11 = .ok (.iload_n 1, 1) := by decide +kernel
theorem dX2_weather_12 : decode cX2_weather 12 = .ok (.aload_n 0, 1) := by decide +kernel
theorem dX2_weather_13 : decode cX2_weather 13 = .ok (.getfield 21, 3) := by decide +kernel
theorem dX2_weather_16 : decode cX2_weather 16 = .ok (.imul, 1) := by decide +kernel
theorem dX2_weather_17 : decode cX2_weather 17 = .ok (.iconst 4, 1) := by decide +kernel
theorem dX2_weather_18 : decode cX2_weather 18 = .ok (.idiv, 1) := by decide +kernel
theorem dX2_weather_19 : decode cX2_weather 19 = .ok (.iadd, 1) := by decide +kernel
theorem dX2_weather_20 : decode cX2_weather 20 = .ok (.invokestatic 27, 3) := by decide +kernel
theorem dX2_weather_23 : decode cX2_weather 23 = .ok (.goto 13, 3) := by decide +kernel
theorem dX2_weather_26 : decode cX2_weather 26 = .ok (.iconst 0, 1) := by decide +kernel
theorem dX2_weather_27 : decode cX2_weather 27 = .ok (.aload_n 0, 1) := by decide +kernel
theorem dX2_weather_28 : decode cX2_weather 28 = .ok (.getfield 24, 3) := by decide +kernel
theorem dX2_weather_31 : decode cX2_weather 31 = .ok (.iconst 2, 1) := by decide +kernel
theorem dX2_weather_32 : decode cX2_weather 32 = .ok (.isub, 1) := by decide +kernel
theorem dX2_weather_33 : decode cX2_weather 33 = .ok (.invokestatic 33, 3) := by decide +kernel
theorem dX2_weather_36 : decode cX2_weather 36 = .ok (.putfield 24, 3) := by decide +kernel
theorem dX2_weather_39 : decode cX2_weather 39 = .ok (.return_, 1) := by decide +kernel
theorem dX2_copyFrom_0 : decode cX2_copyFrom 0 = .ok (.aload_n 0, 1) := by decide +kernel
theorem dX2_copyFrom_1 : decode cX2_copyFrom 1 = .ok (.aload_n 1, 1) := by decide +kernel
theorem dX2_copyFrom_2 : decode cX2_copyFrom 2 = .ok (.getfield 24, 3) := by decide +kernel
theorem dX2_copyFrom_5 : decode cX2_copyFrom 5 = .ok (.putfield 24, 3) := by decide +kernel
theorem dX2_copyFrom_8 : decode cX2_copyFrom 8 = .ok (.return_, 1) := by decide +kernel
theorem dX3_init_0 : decode cX3_init 0 = .ok (.aload_n 0, 1) := by decide +kernel
theorem dX3_init_1 : decode cX3_init 1 = .ok (.invokespecial 3, 3) := by decide +kernel
theorem dX3_init_4 : decode cX3_init 4 = .ok (.aload_n 0, 1) := by decide +kernel
theorem dX3_init_5 : decode cX3_init 5 = .ok (.bipush 10, 2) := by decide +kernel
theorem dX3_init_7 : decode cX3_init 7 = .ok (.newarray .int, 2) := by decide +kernel
theorem dX3_init_9 : decode cX3_init 9 = .ok (.putfield 9, 3) := by decide +kernel
theorem dX3_init_12 : decode cX3_init 12 = .ok (.return_, 1) := by decide +kernel
theorem dX3_size_0 : decode cX3_size 0 = .ok (.aload_n 0, 1) := by decide +kernel
theorem dX3_size_1 : decode cX3_size 1 = .ok (.getfield 15, 3) := by decide +kernel
theorem dX3_size_4 : decode cX3_size 4 = .ok (.ireturn, 1) := by decide +kernel
theorem dX3_readerAt_0 : decode cX3_readerAt 0 = .ok (.iload_n 1, 1) := by decide +kernel
theorem dX3_readerAt_1 : decode cX3_readerAt 1 = .ok (.ifCond .lt 29, 3) := by decide +kernel
theorem dX3_readerAt_4 : decode cX3_readerAt 4 = .ok (.iload_n 1, 1) := by decide +kernel
theorem dX3_readerAt_5 : decode cX3_readerAt 5 = .ok (.aload_n 0, 1) := by decide +kernel
theorem dX3_readerAt_6 : decode cX3_readerAt 6 = .ok (.getfield 15, 3) := by decide +kernel
theorem dX3_readerAt_9 : decode cX3_readerAt 9 = .ok (.if_icmp .ge 21, 3) := by decide +kernel
theorem dX3_readerAt_12 : decode cX3_readerAt 12 = .ok (.iload_n 1, 1) := by decide +kernel
theorem dX3_readerAt_13 : decode cX3_readerAt 13 = .ok (.aload_n 0, 1) := by decide +kernel
theorem dX3_readerAt_14 : decode cX3_readerAt 14 = .ok (.getfield 9, 3) := by decide +kernel
theorem dX3_readerAt_17 : decode cX3_readerAt 17 = .ok (.arraylength, 1) := by decide +kernel
theorem dX3_readerAt_18 : decode cX3_readerAt 18 = .ok (.if_icmp .ge 12, 3) := by decide +kernel
theorem dX3_readerAt_21 : decode cX3_readerAt 21 = .ok (.aload_n 0, 1) := by decide +kernel
theorem dX3_readerAt_22 : decode cX3_readerAt 22 = .ok (.getfield 9, 3) := by decide +kernel
theorem dX3_readerAt_25 : decode cX3_readerAt 25 = .ok (.iload_n 1, 1) := by decide +kernel
theorem dX3_readerAt_26 : decode cX3_readerAt 26 = .ok (.iaload, 1) := by decide +kernel
theorem dX3_readerAt_27 : decode cX3_readerAt 27 = .ok (.goto 4, 3) := by decide +kernel
theorem dX3_readerAt_30 : decode cX3_readerAt 30 = .ok (.iconst (-1), 1) := by decide +kernel
theorem dX3_readerAt_31 : decode cX3_readerAt 31 = .ok (.ireturn, 1) := by decide +kernel
theorem dX3_first_0 : decode cX3_first 0 = .ok (.aload_n 0, 1) := by decide +kernel
theorem dX3_first_1 : decode cX3_first 1 = .ok (.getfield 15, 3) := by decide +kernel
theorem dX3_first_4 : decode cX3_first 4 = .ok (.ifCond .le 20, 3) := by decide +kernel
theorem dX3_first_7 : decode cX3_first 7 = .ok (.aload_n 0, 1) := by decide +kernel
theorem dX3_first_8 : decode cX3_first 8 = .ok (.getfield 9, 3) := by decide +kernel
theorem dX3_first_11 : decode cX3_first 11 = .ok (.arraylength, 1) := by decide +kernel
theorem dX3_first_12 : decode cX3_first 12 = .ok (.ifCond .le 12, 3) := by decide +kernel
theorem dX3_first_15 : decode cX3_first 15 = .ok (.aload_n 0, 1) := by decide +kernel
theorem dX3_first_16 : decode cX3_first 16 = .ok (.getfield 9, 3) := by decide +kernel
theorem dX3_first_19 : decode cX3_first 19 = .ok (.iconst 0, 1) := by decide +kernel
theorem dX3_first_20 : decode cX3_first 20 = .ok (.iaload, 1) := by decide +kernel
theorem dX3_first_21 : decode cX3_first 21 = .ok (.goto 4, 3) := by decide +kernel
theorem dX3_first_24 : decode cX3_first 24 = .ok (.iconst (-1), 1) := by decide +kernel
theorem dX3_first_25 : decode cX3_first 25 = .ok (.ireturn, 1) := by decide +kernel
theorem dX3_placeOf_0 : decode cX3_placeOf 0 = .ok (.iconst 0, 1) := by decide +kernel
theorem dX3_placeOf_1 : decode cX3_placeOf 1 = .ok (.istore_n 2, 1) := by decide +kernel
theorem dX3_placeOf_2 : decode cX3_placeOf 2 = .ok (.iload_n 2, 1) := by decide +kernel
theorem dX3_placeOf_3 : decode cX3_placeOf 3 = .ok (.aload_n 0, 1) := by decide +kernel
theorem dX3_placeOf_4 : decode cX3_placeOf 4 = .ok (.getfield 15, 3) := by decide +kernel
theorem dX3_placeOf_7 : decode cX3_placeOf 7 = .ok (.if_icmp .ge 30, 3) := by decide +kernel
theorem dX3_placeOf_10 : decode cX3_placeOf 10 = .ok (.iload_n 2, 1) := by decide +kernel
theorem dX3_placeOf_11 : decode cX3_placeOf 11 = .ok (.aload_n 0, 1) := by decide +kernel
theorem dX3_placeOf_12 : decode cX3_placeOf 12 = .ok (.getfield 9, 3) := by decide +kernel
theorem dX3_placeOf_15 : decode cX3_placeOf 15 = .ok (.arraylength, 1) := by decide +kernel
theorem dX3_placeOf_16 : decode cX3_placeOf 16 = .ok (.if_icmp .ge 21, 3) := by decide +kernel
theorem dX3_placeOf_19 : decode cX3_placeOf 19 = .ok (.aload_n 0, 1) := by decide +kernel
theorem dX3_placeOf_20 : decode cX3_placeOf 20 = .ok (.getfield 9, 3) := by decide +kernel
theorem dX3_placeOf_23 : decode cX3_placeOf 23 = .ok (.iload_n 2, 1) := by decide +kernel
theorem dX3_placeOf_24 : decode cX3_placeOf 24 = .ok (.iaload, 1) := by decide +kernel
theorem dX3_placeOf_25 : decode cX3_placeOf 25 = .ok (.iload_n 1, 1) := by decide +kernel
theorem dX3_placeOf_26 : decode cX3_placeOf 26 = .ok (.if_icmp .ne 5, 3) := by decide +kernel
theorem dX3_placeOf_29 : decode cX3_placeOf 29 = .ok (.iload_n 2, 1) := by decide +kernel
theorem dX3_placeOf_30 : decode cX3_placeOf 30 = .ok (.ireturn, 1) := by decide +kernel
theorem dX3_placeOf_31 : decode cX3_placeOf 31 = .ok (.iinc 2 1, 3) := by decide +kernel
theorem dX3_placeOf_34 : decode cX3_placeOf 34 = .ok (.goto (-32), 3) := by decide +kernel
theorem dX3_placeOf_37 : decode cX3_placeOf 37 = .ok (.iconst (-1), 1) := by decide +kernel
theorem dX3_placeOf_38 : decode cX3_placeOf 38 = .ok (.ireturn, 1) := by decide +kernel
theorem dX3_join_0 : decode cX3_join 0 = .ok (.aload_n 0, 1) := by decide +kernel
theorem dX3_join_1 : decode cX3_join 1 = .ok (.getfield 15, 3) := by decide +kernel
theorem dX3_join_4 : decode cX3_join 4 = .ok (.ifCond .lt 35, 3) := by decide +kernel
theorem dX3_join_7 : decode cX3_join 7 = .ok (.aload_n 0, 1) := by decide +kernel
theorem dX3_join_8 : decode cX3_join 8 = .ok (.getfield 15, 3) := by decide +kernel
theorem dX3_join_11 : decode cX3_join 11 = .ok (.aload_n 0, 1) := by decide +kernel
theorem dX3_join_12 : decode cX3_join 12 = .ok (.getfield 9, 3) := by decide +kernel
theorem dX3_join_15 : decode cX3_join 15 = .ok (.arraylength, 1) := by decide +kernel
theorem dX3_join_16 : decode cX3_join 16 = .ok (.if_icmp .ge 23, 3) := by decide +kernel
theorem dX3_join_19 : decode cX3_join 19 = .ok (.aload_n 0, 1) := by decide +kernel
theorem dX3_join_20 : decode cX3_join 20 = .ok (.getfield 9, 3) := by decide +kernel
theorem dX3_join_23 : decode cX3_join 23 = .ok (.aload_n 0, 1) := by decide +kernel
theorem dX3_join_24 : decode cX3_join 24 = .ok (.getfield 15, 3) := by decide +kernel
theorem dX3_join_27 : decode cX3_join 27 = .ok (.iload_n 1, 1) := by decide +kernel
theorem dX3_join_28 : decode cX3_join 28 = .ok (.iastore, 1) := by decide +kernel
theorem dX3_join_29 : decode cX3_join 29 = .ok (.aload_n 0, 1) := by decide +kernel
theorem dX3_join_30 : decode cX3_join 30 = .ok (.dup, 1) := by decide +kernel
theorem dX3_join_31 : decode cX3_join 31 = .ok (.getfield 15, 3) := by decide +kernel
theorem dX3_join_34 : decode cX3_join 34 = .ok (.iconst 1, 1) := by decide +kernel
theorem dX3_join_35 : decode cX3_join 35 = .ok (.iadd, 1) := by decide +kernel
theorem dX3_join_36 : decode cX3_join 36 = .ok (.putfield 15, 3) := by decide +kernel
theorem dX3_join_39 : decode cX3_join 39 = .ok (.return_, 1) := by decide +kernel
theorem dX3_dropPlace_0 : decode cX3_dropPlace 0 = .ok (.iload_n 1, 1) := by decide +kernel
theorem dX3_dropPlace_1 : decode cX3_dropPlace 1 = .ok (.ifCond .lt 11, 3) := by decide +kernel
theorem dX3_dropPlace_4 : decode cX3_dropPlace 4 = .ok (.iload_n 1, 1) := by decide +kernel
theorem dX3_dropPlace_5 : decode cX3_dropPlace 5 = .ok (.aload_n 0, 1) := by decide +kernel
theorem dX3_dropPlace_6 : decode cX3_dropPlace 6 = .ok (.getfield 15, 3) := by decide +kernel
theorem dX3_dropPlace_9 : decode cX3_dropPlace 9 = .ok (.if_icmp .lt 4, 3) := by decide +kernel
theorem dX3_dropPlace_12 : decode cX3_dropPlace 12 = .ok (.return_, 1) := by decide +kernel
theorem dX3_dropPlace_13 : decode cX3_dropPlace 13 = .ok (.iload_n 1, 1) := by decide +kernel
theorem dX3_dropPlace_14 : decode cX3_dropPlace 14 = .ok (.istore_n 2, 1) := by decide +kernel
theorem dX3_dropPlace_15 : decode cX3_dropPlace 15 = .ok (.iload_n 2, 1) := by decide +kernel
theorem dX3_dropPlace_16 : decode cX3_dropPlace 16 = .ok (.iconst 1, 1) := by decide +kernel
theorem dX3_dropPlace_17 : decode cX3_dropPlace 17 = .ok (.iadd, 1) := by decide +kernel
theorem dX3_dropPlace_18 : decode cX3_dropPlace 18 = .ok (.aload_n 0, 1) := by decide +kernel
theorem dX3_dropPlace_19 : decode cX3_dropPlace 19 = .ok (.getfield 15, 3) := by decide +kernel
theorem dX3_dropPlace_22 : decode cX3_dropPlace 22 = .ok (.if_icmp .ge 34, 3) := by decide +kernel
theorem dX3_dropPlace_25 : decode cX3_dropPlace 25 = .ok (.iload_n 2, 1) := by decide +kernel
theorem dX3_dropPlace_26 : decode cX3_dropPlace 26 = .ok (.iconst 1, 1) := by decide +kernel
theorem dX3_dropPlace_27 : decode cX3_dropPlace 27 = .ok (.iadd, 1) := by decide +kernel
theorem dX3_dropPlace_28 : decode cX3_dropPlace 28 = .ok (.aload_n 0, 1) := by decide +kernel
theorem dX3_dropPlace_29 : decode cX3_dropPlace 29 = .ok (.getfield 9, 3) := by decide +kernel
theorem dX3_dropPlace_32 : decode cX3_dropPlace 32 = .ok (.arraylength, 1) := by decide +kernel
theorem dX3_dropPlace_33 : decode cX3_dropPlace 33 = .ok (.if_icmp .ge 23, 3) := by decide +kernel
theorem dX3_dropPlace_36 : decode cX3_dropPlace 36 = .ok (.aload_n 0, 1) := by decide +kernel
theorem dX3_dropPlace_37 : decode cX3_dropPlace 37 = .ok (.getfield 9, 3) := by decide +kernel
theorem dX3_dropPlace_40 : decode cX3_dropPlace 40 = .ok (.iload_n 2, 1) := by decide +kernel
theorem dX3_dropPlace_41 : decode cX3_dropPlace 41 = .ok (.aload_n 0, 1) := by decide +kernel
theorem dX3_dropPlace_42 : decode cX3_dropPlace 42 = .ok (.getfield 9, 3) := by decide +kernel
theorem dX3_dropPlace_45 : decode cX3_dropPlace 45 = .ok (.iload_n 2, 1) := by decide +kernel
theorem dX3_dropPlace_46 : decode cX3_dropPlace 46 = .ok (.iconst 1, 1) := by decide +kernel
theorem dX3_dropPlace_47 : decode cX3_dropPlace 47 = .ok (.iadd, 1) := by decide +kernel
theorem dX3_dropPlace_48 : decode cX3_dropPlace 48 = .ok (.iaload, 1) := by decide +kernel
theorem dX3_dropPlace_49 : decode cX3_dropPlace 49 = .ok (.iastore, 1) := by decide +kernel
theorem dX3_dropPlace_50 : decode cX3_dropPlace 50 = .ok (.iinc 2 1, 3) := by decide +kernel
theorem dX3_dropPlace_53 : decode cX3_dropPlace 53 = .ok (.goto (-38), 3) := by decide +kernel
theorem dX3_dropPlace_56 : decode cX3_dropPlace 56 = .ok (.aload_n 0, 1) := by decide +kernel
theorem dX3_dropPlace_57 : decode cX3_dropPlace 57 = .ok (.dup, 1) := by decide +kernel
theorem dX3_dropPlace_58 : decode cX3_dropPlace 58 = .ok (.getfield 15, 3) := by decide +kernel
theorem dX3_dropPlace_61 : decode cX3_dropPlace 61 = .ok (.iconst 1, 1) := by decide +kernel
theorem dX3_dropPlace_62 : decode cX3_dropPlace 62 = .ok (.isub, 1) := by decide +kernel
theorem dX3_dropPlace_63 : decode cX3_dropPlace 63 = .ok (.putfield 15, 3) := by decide +kernel
theorem dX3_dropPlace_66 : decode cX3_dropPlace 66 = .ok (.return_, 1) := by decide +kernel
theorem dX3_copyFrom_0 : decode cX3_copyFrom 0 = .ok (.aload_n 1, 1) := by decide +kernel
theorem dX3_copyFrom_1 : decode cX3_copyFrom 1 = .ok (.getfield 9, 3) := by decide +kernel
theorem dX3_copyFrom_4 : decode cX3_copyFrom 4 = .ok (.aload_n 0, 1) := by decide +kernel
theorem dX3_copyFrom_5 : decode cX3_copyFrom 5 = .ok (.getfield 9, 3) := by decide +kernel
theorem dX3_copyFrom_8 : decode cX3_copyFrom 8 = .ok (.invokestatic 19, 3) := by decide +kernel
theorem dX3_copyFrom_11 : decode cX3_copyFrom 11 = .ok (.aload_n 0, 1) := by decide +kernel
theorem dX3_copyFrom_12 : decode cX3_copyFrom 12 = .ok (.aload_n 1, 1) := by decide +kernel
theorem dX3_copyFrom_13 : decode cX3_copyFrom 13 = .ok (.getfield 15, 3) := by decide +kernel
theorem dX3_copyFrom_16 : decode cX3_copyFrom 16 = .ok (.putfield 15, 3) := by decide +kernel
theorem dX3_copyFrom_19 : decode cX3_copyFrom 19 = .ok (.return_, 1) := by decide +kernel
theorem dX4_init_0 : decode cX4_init 0 = .ok (.aload_n 0, 1) := by decide +kernel
theorem dX4_init_1 : decode cX4_init 1 = .ok (.invokespecial 3, 3) := by decide +kernel
theorem dX4_init_4 : decode cX4_init 4 = .ok (.aload_n 0, 1) := by decide +kernel
theorem dX4_init_5 : decode cX4_init 5 = .ok (.iload_n 1, 1) := by decide +kernel
theorem dX4_init_6 : decode cX4_init 6 = .ok (.putfield 9, 3) := by decide +kernel
theorem dX4_init_9 : decode cX4_init 9 = .ok (.aload_n 0, 1) := by decide +kernel
theorem dX4_init_10 : decode cX4_init 10 = .ok (.iload_n 2, 1) := by decide +kernel
theorem dX4_init_11 : decode cX4_init 11 = .ok (.putfield 15, 3) := by decide +kernel
theorem dX4_init_14 : decode cX4_init 14 = .ok (.aload_n 0, 1) := by decide +kernel
theorem dX4_init_15 : decode cX4_init 15 = .ok (.iload_n 3, 1) := by decide +kernel
theorem dX4_init_16 : decode cX4_init 16 = .ok (.putfield 18, 3) := by decide +kernel
theorem dX4_init_19 : decode cX4_init 19 = .ok (.aload_n 0, 1) := by decide +kernel
theorem dX4_init_20 : decode cX4_init 20 = .ok (.iload 4, 2) := by decide +kernel
theorem dX4_init_22 : decode cX4_init 22 = .ok (.putfield 21, 3) := by decide +kernel
theorem dX4_init_25 : decode cX4_init 25 = .ok (.return_, 1) := by decide +kernel
theorem dX4_takesMore_0 : decode cX4_takesMore 0 = .ok (.aload_n 0, 1) := by decide +kernel
theorem dX4_takesMore_1 : decode cX4_takesMore 1 = .ok (.getfield 24, 3) := by decide +kernel
theorem dX4_takesMore_4 : decode cX4_takesMore 4 = .ok (.iconst 3, 1) := by decide +kernel
theorem dX4_takesMore_5 : decode cX4_takesMore 5 = .ok (.if_icmp .ge 7, 3) := by decide +kernel
theorem dX4_takesMore_8 : decode cX4_takesMore 8 = .ok (.iconst 1, 1) := by decide +kernel
theorem dX4_takesMore_9 : decode cX4_takesMore 9 = .ok (.goto 4, 3) := by decide +kernel
theorem dX4_takesMore_12 : decode cX4_takesMore 12 = .ok (.iconst 0, 1) := by decide +kernel
theorem dX4_takesMore_13 : decode cX4_takesMore 13 = .ok (.ireturn, 1) := by decide +kernel
theorem dX4_hasRead_0 : decode cX4_hasRead 0 = .ok (.aload_n 0, 1) := by decide +kernel
theorem dX4_hasRead_1 : decode cX4_hasRead 1 = .ok (.getfield 27, 3) := by decide +kernel
theorem dX4_hasRead_4 : decode cX4_hasRead 4 = .ok (.iload_n 1, 1) := by decide +kernel
theorem dX4_hasRead_5 : decode cX4_hasRead 5 = .ok (.ishr, 1) := by decide +kernel
theorem dX4_hasRead_6 : decode cX4_hasRead 6 = .ok (.iconst 1, 1) := by decide +kernel
theorem dX4_hasRead_7 : decode cX4_hasRead 7 = .ok (.iand, 1) := by decide +kernel
theorem dX4_hasRead_8 : decode cX4_hasRead 8 = .ok (.iconst 1, 1) := by decide +kernel
theorem dX4_hasRead_9 : decode cX4_hasRead 9 = .ok (.if_icmp .ne 7, 3) := by decide +kernel
theorem dX4_hasRead_12 : decode cX4_hasRead 12 = .ok (.iconst 1, 1) := by decide +kernel
theorem dX4_hasRead_13 : decode cX4_hasRead 13 = .ok (.goto 4, 3) := by decide +kernel
theorem dX4_hasRead_16 : decode cX4_hasRead 16 = .ok (.iconst 0, 1) := by decide +kernel
theorem dX4_hasRead_17 : decode cX4_hasRead 17 = .ok (.ireturn, 1) := by decide +kernel
theorem dX4_copyFrom_0 : decode cX4_copyFrom 0 = .ok (.aload_n 0, 1) := by decide +kernel
theorem dX4_copyFrom_1 : decode cX4_copyFrom 1 = .ok (.aload_n 1, 1) := by decide +kernel
theorem dX4_copyFrom_2 : decode cX4_copyFrom 2 = .ok (.getfield 24, 3) := by decide +kernel
theorem dX4_copyFrom_5 : decode cX4_copyFrom 5 = .ok (.putfield 24, 3) := by decide +kernel
theorem dX4_copyFrom_8 : decode cX4_copyFrom 8 = .ok (.aload_n 0, 1) := by decide +kernel
theorem dX4_copyFrom_9 : decode cX4_copyFrom 9 = .ok (.aload_n 1, 1) := by decide +kernel
theorem dX4_copyFrom_10 : decode cX4_copyFrom 10 = .ok (.getfield 27, 3) := by decide +kernel
theorem dX4_copyFrom_13 : decode cX4_copyFrom 13 = .ok (.putfield 27, 3) := by decide +kernel
theorem dX4_copyFrom_16 : decode cX4_copyFrom 16 = .ok (.aload_n 0, 1) := by decide +kernel
theorem dX4_copyFrom_17 : decode cX4_copyFrom 17 = .ok (.aload_n 1, 1) := by decide +kernel
theorem dX4_copyFrom_18 : decode cX4_copyFrom 18 = .ok (.getfield 30, 3) := by decide +kernel
theorem dX4_copyFrom_21 : decode cX4_copyFrom 21 = .ok (.putfield 30, 3) := by decide +kernel
theorem dX4_copyFrom_24 : decode cX4_copyFrom 24 = .ok (.aload_n 0, 1) := by decide +kernel
theorem dX4_copyFrom_25 : decode cX4_copyFrom 25 = .ok (.aload_n 1, 1) := by decide +kernel
theorem dX4_copyFrom_26 : decode cX4_copyFrom 26 = .ok (.getfield 33, 3) := by decide +kernel
theorem dX4_copyFrom_29 : decode cX4_copyFrom 29 = .ok (.putfield 33, 3) := by decide +kernel
theorem dX4_copyFrom_32 : decode cX4_copyFrom 32 = .ok (.return_, 1) := by decide +kernel
theorem dX5_init_0 : decode cX5_init 0 = .ok (.aload_n 0, 1) := by decide +kernel
theorem dX5_init_1 : decode cX5_init 1 = .ok (.invokespecial 3, 3) := by decide +kernel
theorem dX5_init_4 : decode cX5_init 4 = .ok (.aload_n 0, 1) := by decide +kernel
theorem dX5_init_5 : decode cX5_init 5 = .ok (.bipush 8, 2) := by decide +kernel
theorem dX5_init_7 : decode cX5_init 7 = .ok (.newarray .int, 2) := by decide +kernel
theorem dX5_init_9 : decode cX5_init 9 = .ok (.putfield 9, 3) := by decide +kernel
theorem dX5_init_12 : decode cX5_init 12 = .ok (.aload_n 0, 1) := by decide +kernel
theorem dX5_init_13 : decode cX5_init 13 = .ok (.bipush 120, 2) := by decide +kernel
theorem dX5_init_15 : decode cX5_init 15 = .ok (.putfield 15, 3) := by decide +kernel
theorem dX5_init_18 : decode cX5_init 18 = .ok (.return_, 1) := by decide +kernel
theorem dX5_size_0 : decode cX5_size 0 = .ok (.aload_n 0, 1) := by decide +kernel
theorem dX5_size_1 : decode cX5_size 1 = .ok (.getfield 19, 3) := by decide +kernel
theorem dX5_size_4 : decode cX5_size 4 = .ok (.ireturn, 1) := by decide +kernel
theorem dX5_haltAt_0 : decode cX5_haltAt 0 = .ok (.iload_n 1, 1) := by decide +kernel
theorem dX5_haltAt_1 : decode cX5_haltAt 1 = .ok (.ifCond .lt 21, 3) := by decide +kernel
theorem dX5_haltAt_4 : decode cX5_haltAt 4 = .ok (.iload_n 1, 1) := by decide +kernel
theorem dX5_haltAt_5 : decode cX5_haltAt 5 = .ok (.aload_n 0, 1) := by decide +kernel
theorem dX5_haltAt_6 : decode cX5_haltAt 6 = .ok (.getfield 9, 3) := by decide +kernel
theorem dX5_haltAt_9 : decode cX5_haltAt 9 = .ok (.arraylength, 1) := by decide +kernel
theorem dX5_haltAt_10 : decode cX5_haltAt 10 = .ok (.if_icmp .ge 12, 3) := by decide +kernel
theorem dX5_haltAt_13 : decode cX5_haltAt 13 = .ok (.aload_n 0, 1) := by decide +kernel
theorem dX5_haltAt_14 : decode cX5_haltAt 14 = .ok (.getfield 9, 3) := by decide +kernel
theorem dX5_haltAt_17 : decode cX5_haltAt 17 = .ok (.iload_n 1, 1) := by decide +kernel
theorem dX5_haltAt_18 : decode cX5_haltAt 18 = .ok (.iaload, 1) := by decide +kernel
theorem dX5_haltAt_19 : decode cX5_haltAt 19 = .ok (.goto 4, 3) := by decide +kernel
theorem dX5_haltAt_22 : decode cX5_haltAt 22 = .ok (.iconst (-1), 1) := by decide +kernel
theorem dX5_haltAt_23 : decode cX5_haltAt 23 = .ok (.ireturn, 1) := by decide +kernel
theorem dX5_append_0 : decode cX5_append 0 = .ok (.aload_n 0, 1) := by decide +kernel
theorem dX5_append_1 : decode cX5_append 1 = .ok (.getfield 19, 3) := by decide +kernel
theorem dX5_append_4 : decode cX5_append 4 = .ok (.ifCond .lt 35, 3) := by decide +kernel
theorem dX5_append_7 : decode cX5_append 7 = .ok (.aload_n 0, 1) := by decide +kernel
theorem dX5_append_8 : decode cX5_append 8 = .ok (.getfield 19, 3) := by decide +kernel
theorem dX5_append_11 : decode cX5_append 11 = .ok (.aload_n 0, 1) := by decide +kernel
theorem dX5_append_12 : decode cX5_append 12 = .ok (.getfield 9, 3) := by decide +kernel
theorem dX5_append_15 : decode cX5_append 15 = .ok (.arraylength, 1) := by decide +kernel
theorem dX5_append_16 : decode cX5_append 16 = .ok (.if_icmp .ge 23, 3) := by decide +kernel
theorem dX5_append_19 : decode cX5_append 19 = .ok (.aload_n 0, 1) := by decide +kernel
theorem dX5_append_20 : decode cX5_append 20 = .ok (.getfield 9, 3) := by decide +kernel
theorem dX5_append_23 : decode cX5_append 23 = .ok (.aload_n 0, 1) := by decide +kernel
theorem dX5_append_24 : decode cX5_append 24 = .ok (.getfield 19, 3) := by decide +kernel
theorem dX5_append_27 : decode cX5_append 27 = .ok (.iload_n 1, 1) := by decide +kernel
theorem dX5_append_28 : decode cX5_append 28 = .ok (.iastore, 1) := by decide +kernel
theorem dX5_append_29 : decode cX5_append 29 = .ok (.aload_n 0, 1) := by decide +kernel
theorem dX5_append_30 : decode cX5_append 30 = .ok (.dup, 1) := by decide +kernel
theorem dX5_append_31 : decode cX5_append 31 = .ok (.getfield 19, 3) := by decide +kernel
theorem dX5_append_34 : decode cX5_append 34 = .ok (.iconst 1, 1) := by decide +kernel
theorem dX5_append_35 : decode cX5_append 35 = .ok (.iadd, 1) := by decide +kernel
theorem dX5_append_36 : decode cX5_append 36 = .ok (.putfield 19, 3) := by decide +kernel
theorem dX5_append_39 : decode cX5_append 39 = .ok (.return_, 1) := by decide +kernel
theorem dX5_tellAnew_0 : decode cX5_tellAnew 0 = .ok (.aload_n 0, 1) := by decide +kernel
theorem dX5_tellAnew_1 : decode cX5_tellAnew 1 = .ok (.iload_n 2, 1) := by decide +kernel
theorem dX5_tellAnew_2 : decode cX5_tellAnew 2 = .ok (.putfield 15, 3) := by decide +kernel
theorem dX5_tellAnew_5 : decode cX5_tellAnew 5 = .ok (.aload_n 0, 1) := by decide +kernel
theorem dX5_tellAnew_6 : decode cX5_tellAnew 6 = .ok (.iconst 0, 1) := by decide +kernel
theorem dX5_tellAnew_7 : decode cX5_tellAnew 7 = .ok (.putfield 19, 3) := by decide +kernel
theorem dX5_tellAnew_10 : decode cX5_tellAnew 10 = .ok (.ldc 22, 2) := by decide +kernel
theorem dX5_tellAnew_12 : decode cX5_tellAnew 12 = .ok (.istore_n 3, 1) := by decide +kernel
theorem dX5_tellAnew_13 : decode cX5_tellAnew 13 = .ok (.iload_n 3, 1) := by decide +kernel
theorem dX5_tellAnew_14 : decode cX5_tellAnew 14 = .ok (.ifCond .le 32, 3) := by decide +kernel
theorem dX5_tellAnew_17 : decode cX5_tellAnew 17 = .ok (.iload_n 1, 1) := by decide +kernel
theorem dX5_tellAnew_18 : decode cX5_tellAnew 18 = .ok (.iload_n 3, 1) := by decide +kernel
theorem dX5_tellAnew_19 : decode cX5_tellAnew 19 = .ok (.idiv, 1) := by decide +kernel
theorem dX5_tellAnew_20 : decode cX5_tellAnew 20 = .ok (.bipush 10, 2) := by decide +kernel
theorem dX5_tellAnew_22 : decode cX5_tellAnew 22 = .ok (.irem, 1) := by decide +kernel
theorem dX5_tellAnew_23 : decode cX5_tellAnew 23 = .ok (.istore 4, 2) := by decide +kernel
theorem dX5_tellAnew_25 : decode cX5_tellAnew 25 = .ok (.iload 4, 2) := by decide +kernel
theorem dX5_tellAnew_27 : decode cX5_tellAnew 27 = .ok (.ifCond .le 11, 3) := by decide +kernel
theorem dX5_tellAnew_30 : decode cX5_tellAnew 30 = .ok (.aload_n 0, 1) := by decide +kernel
theorem dX5_tellAnew_31 : decode cX5_tellAnew 31 = .ok (.iload 4, 2) := by decide +kernel
theorem dX5_tellAnew_33 : decode cX5_tellAnew 33 = .ok (.iconst 1, 1) := by decide +kernel
theorem dX5_tellAnew_34 : decode cX5_tellAnew 34 = .ok (.isub, 1) := by decide +kernel
theorem dX5_tellAnew_35 : decode cX5_tellAnew 35 = .ok (.invokevirtual 23, 3) := by decide +kernel
theorem dX5_tellAnew_38 : decode cX5_tellAnew 38 = .ok (.iload_n 3, 1) := by decide +kernel
theorem dX5_tellAnew_39 : decode cX5_tellAnew 39 = .ok (.bipush 10, 2) := by decide +kernel
theorem dX5_tellAnew_41 : decode cX5_tellAnew 41 = .ok (.idiv, 1) := by decide +kernel
theorem dX5_tellAnew_42 : decode cX5_tellAnew 42 = .ok (.istore_n 3, 1) := by decide +kernel
theorem dX5_tellAnew_43 : decode cX5_tellAnew 43 = .ok (.goto (-30), 3) := by decide +kernel
theorem dX5_tellAnew_46 : decode cX5_tellAnew 46 = .ok (.return_, 1) := by decide +kernel
theorem dX5_timesOf_0 : decode cX5_timesOf 0 = .ok (.iconst 0, 1) := by decide +kernel
theorem dX5_timesOf_1 : decode cX5_timesOf 1 = .ok (.istore_n 2, 1) := by decide +kernel
theorem dX5_timesOf_2 : decode cX5_timesOf 2 = .ok (.iconst 0, 1) := by decide +kernel
theorem dX5_timesOf_3 : decode cX5_timesOf 3 = .ok (.istore_n 3, 1) := by decide +kernel
theorem dX5_timesOf_4 : decode cX5_timesOf 4 = .ok (.iload_n 3, 1) := by decide +kernel
theorem dX5_timesOf_5 : decode cX5_timesOf 5 = .ok (.aload_n 0, 1) := by decide +kernel
theorem dX5_timesOf_6 : decode cX5_timesOf 6 = .ok (.getfield 19, 3) := by decide +kernel
theorem dX5_timesOf_9 : decode cX5_timesOf 9 = .ok (.if_icmp .ge 21, 3) := by decide +kernel
theorem dX5_timesOf_12 : decode cX5_timesOf 12 = .ok (.aload_n 0, 1) := by decide +kernel
theorem dX5_timesOf_13 : decode cX5_timesOf 13 = .ok (.iload_n 3, 1) := by decide +kernel
theorem dX5_timesOf_14 : decode cX5_timesOf 14 = .ok (.invokevirtual 27, 3) := by decide +kernel
theorem dX5_timesOf_17 : decode cX5_timesOf 17 = .ok (.iload_n 1, 1) := by decide +kernel
theorem dX5_timesOf_18 : decode cX5_timesOf 18 = .ok (.if_icmp .ne 6, 3) := by decide +kernel
theorem dX5_timesOf_21 : decode cX5_timesOf 21 = .ok (.iinc 2 1, 3) := by decide +kernel
theorem dX5_timesOf_24 : decode cX5_timesOf 24 = .ok (.iinc 3 1, 3) := by decide +kernel
theorem dX5_timesOf_27 : decode cX5_timesOf 27 = .ok (.goto (-23), 3) := by decide +kernel
theorem dX5_timesOf_30 : decode cX5_timesOf 30 = .ok (.iload_n 2, 1) := by decide +kernel
theorem dX5_timesOf_31 : decode cX5_timesOf 31 = .ok (.ireturn, 1) := by decide +kernel
theorem dX5_copyFrom_0 : decode cX5_copyFrom 0 = .ok (.aload_n 1, 1) := by decide +kernel
theorem dX5_copyFrom_1 : decode cX5_copyFrom 1 = .ok (.getfield 9, 3) := by decide +kernel
theorem dX5_copyFrom_4 : decode cX5_copyFrom 4 = .ok (.aload_n 0, 1) := by decide +kernel
theorem dX5_copyFrom_5 : decode cX5_copyFrom 5 = .ok (.getfield 9, 3) := by decide +kernel
theorem dX5_copyFrom_8 : decode cX5_copyFrom 8 = .ok (.invokestatic 31, 3) := by decide +kernel
theorem dX5_copyFrom_11 : decode cX5_copyFrom 11 = .ok (.aload_n 0, 1) := by decide +kernel
theorem dX5_copyFrom_12 : decode cX5_copyFrom 12 = .ok (.aload_n 1, 1) := by decide +kernel
theorem dX5_copyFrom_13 : decode cX5_copyFrom 13 = .ok (.getfield 19, 3) := by decide +kernel
theorem dX5_copyFrom_16 : decode cX5_copyFrom 16 = .ok (.putfield 19, 3) := by decide +kernel
theorem dX5_copyFrom_19 : decode cX5_copyFrom 19 = .ok (.aload_n 0, 1) := by decide +kernel
theorem dX5_copyFrom_20 : decode cX5_copyFrom 20 = .ok (.aload_n 1, 1) := by decide +kernel
theorem dX5_copyFrom_21 : decode cX5_copyFrom 21 = .ok (.getfield 15, 3) := by decide +kernel
theorem dX5_copyFrom_24 : decode cX5_copyFrom 24 = .ok (.putfield 15, 3) := by decide +kernel
theorem dX5_copyFrom_27 : decode cX5_copyFrom 27 = .ok (.return_, 1) := by decide +kernel
theorem dX6_init_0 : decode cX6_init 0 = .ok (.aload_n 0, 1) := by decide +kernel
theorem dX6_init_1 : decode cX6_init 1 = .ok (.invokespecial 3, 3) := by decide +kernel
theorem dX6_init_4 : decode cX6_init 4 = .ok (.aload_n 0, 1) := by decide +kernel
theorem dX6_init_5 : decode cX6_init 5 = .ok (.bipush 64, 2) := by decide +kernel
theorem dX6_init_7 : decode cX6_init 7 = .ok (.newarray .int, 2) := by decide +kernel
theorem dX6_init_9 : decode cX6_init 9 = .ok (.putfield 9, 3) := by decide +kernel
theorem dX6_init_12 : decode cX6_init 12 = .ok (.return_, 1) := by decide +kernel
theorem dX6_measure_0 : decode cX6_measure 0 = .ok (.iconst 0, 1) := by decide +kernel
theorem dX6_measure_1 : decode cX6_measure 1 = .ok (.istore_n 3, 1) := by decide +kernel
theorem dX6_measure_2 : decode cX6_measure 2 = .ok (.iload_n 3, 1) := by decide +kernel
theorem dX6_measure_3 : decode cX6_measure 3 = .ok (.aload_n 0, 1) := by decide +kernel
theorem dX6_measure_4 : decode cX6_measure 4 = .ok (.getfield 9, 3) := by decide +kernel
theorem dX6_measure_7 : decode cX6_measure 7 = .ok (.arraylength, 1) := by decide +kernel
theorem dX6_measure_8 : decode cX6_measure 8 = .ok (.if_icmp .ge 17, 3) := by decide +kernel
theorem dX6_measure_11 : decode cX6_measure 11 = .ok (.aload_n 0, 1) := by decide +kernel
theorem dX6_measure_12 : decode cX6_measure 12 = .ok (.getfield 9, 3) := by decide +kernel
theorem dX6_measure_15 : decode cX6_measure 15 = .ok (.iload_n 3, 1) := by decide +kernel
theorem dX6_measure_16 : decode cX6_measure 16 = .ok (.ldc 15, 2) := by decide +kernel
theorem dX6_measure_18 : decode cX6_measure 18 = .ok (.iastore, 1) := by decide +kernel
theorem dX6_measure_19 : decode cX6_measure 19 = .ok (.iinc 3 1, 3) := by decide +kernel
theorem dX6_measure_22 : decode cX6_measure 22 = .ok (.goto (-20), 3) := by decide +kernel
theorem dX6_measure_25 : decode cX6_measure 25 = .ok (.iconst 0, 1) := by decide +kernel
theorem dX6_measure_26 : decode cX6_measure 26 = .ok (.istore_n 3, 1) := by decide +kernel
theorem dX6_measure_27 : decode cX6_measure 27 = .ok (.iload_n 3, 1) := by decide +kernel
theorem dX6_measure_28 : decode cX6_measure 28 = .ok (.aload_n 2, 1) := by decide +kernel
theorem dX6_measure_29 : decode cX6_measure 29 = .ok (.invokevirtual 16, 3) := by decide +kernel
theorem dX6_measure_32 : decode cX6_measure 32 = .ok (.if_icmp .ge 46, 3) := by decide +kernel
theorem dX6_measure_35 : decode cX6_measure 35 = .ok (.aload_n 2, 1) := by decide +kernel
theorem dX6_measure_36 : decode cX6_measure 36 = .ok (.iload_n 3, 1) := by decide +kernel
theorem dX6_measure_37 : decode cX6_measure 37 = .ok (.invokevirtual 22, 3) := by decide +kernel
theorem dX6_measure_40 : decode cX6_measure 40 = .ok (.checkcast 26, 3) := by decide +kernel
theorem dX6_measure_43 : decode cX6_measure 43 = .ok (.astore 4, 2) := by decide +kernel
theorem dX6_measure_45 : decode cX6_measure 45 = .ok (.aload 4, 2) := by decide +kernel
theorem dX6_measure_47 : decode cX6_measure 47 = .ok (.invokevirtual 28, 3) := by decide +kernel
theorem dX6_measure_50 : decode cX6_measure 50 = .ok (.ifCond .eq 22, 3) := by decide +kernel
theorem dX6_measure_53 : decode cX6_measure 53 = .ok (.aload_n 0, 1) := by decide +kernel
theorem dX6_measure_54 : decode cX6_measure 54 = .ok (.aload 4, 2) := by decide +kernel
theorem dX6_measure_56 : decode cX6_measure 56 = .ok (.getfield 32, 3) := by decide +kernel
theorem dX6_measure_59 : decode cX6_measure 59 = .ok (.aload 4, 2) := by decide +kernel
theorem dX6_measure_61 : decode cX6_measure 61 = .ok (.getfield 36, 3) := by decide +kernel
theorem dX6_measure_64 : decode cX6_measure 64 = .ok (.aload 4, 2) := by decide +kernel
theorem dX6_measure_66 : decode cX6_measure 66 = .ok (.invokevirtual 39, 3) := by decide +kernel
theorem dX6_measure_69 : decode cX6_measure 69 = .ok (.invokevirtual 42, 3) := by decide +kernel
theorem dX6_measure_72 : decode cX6_measure 72 = .ok (.iinc 3 1, 3) := by decide +kernel
theorem dX6_measure_75 : decode cX6_measure 75 = .ok (.goto (-48), 3) := by decide +kernel
theorem dX6_measure_78 : decode cX6_measure 78 = .ok (.iconst 0, 1) := by decide +kernel
theorem dX6_measure_79 : decode cX6_measure 79 = .ok (.istore_n 3, 1) := by decide +kernel
theorem dX6_measure_80 : decode cX6_measure 80 = .ok (.iload_n 3, 1) := by decide +kernel
theorem dX6_measure_81 : decode cX6_measure 81 = .ok (.iload_n 1, 1) := by decide +kernel
theorem dX6_measure_82 : decode cX6_measure 82 = .ok (.if_icmp .ge 74, 3) := by decide +kernel
theorem dX6_measure_85 : decode cX6_measure 85 = .ok (.iconst 0, 1) := by decide +kernel
theorem dX6_measure_86 : decode cX6_measure 86 = .ok (.istore 4, 2) := by decide +kernel
theorem dX6_measure_88 : decode cX6_measure 88 = .ok (.iload 4, 2) := by decide +kernel
theorem dX6_measure_90 : decode cX6_measure 90 = .ok (.iload_n 1, 1) := by decide +kernel
theorem dX6_measure_91 : decode cX6_measure 91 = .ok (.if_icmp .ge 59, 3) := by decide +kernel
theorem dX6_measure_94 : decode cX6_measure 94 = .ok (.aload_n 0, 1) := by decide +kernel
theorem dX6_measure_95 : decode cX6_measure 95 = .ok (.iload 4, 2) := by decide +kernel
theorem dX6_measure_97 : decode cX6_measure 97 = .ok (.iload_n 3, 1) := by decide +kernel
theorem dX6_measure_98 : decode cX6_measure 98 = .ok (.invokevirtual 46, 3) := by decide +kernel
theorem dX6_measure_101 : decode cX6_measure 101 = .ok (.istore 5, 2) := by decide +kernel
theorem dX6_measure_103 : decode cX6_measure 103 = .ok (.iconst 0, 1) := by decide +kernel
theorem dX6_measure_104 : decode cX6_measure 104 = .ok (.istore 6, 2) := by decide +kernel
theorem dX6_measure_106 : decode cX6_measure 106 = .ok (.iload 5, 2) := by decide +kernel
theorem dX6_measure_108 : decode cX6_measure 108 = .ok (.ldc 15, 2) := by decide +kernel
theorem dX6_measure_110 : decode cX6_measure 110 = .ok (.if_icmp .ge 34, 3) := by decide +kernel
theorem dX6_measure_113 : decode cX6_measure 113 = .ok (.iload 6, 2) := by decide +kernel
theorem dX6_measure_115 : decode cX6_measure 115 = .ok (.iload 4, 2) := by decide +kernel
theorem dX6_measure_117 : decode cX6_measure 117 = .ok (.if_icmp .ge 27, 3) := by decide +kernel
theorem dX6_measure_120 : decode cX6_measure 120 = .ok (.aload_n 0, 1) := by decide +kernel
theorem dX6_measure_121 : decode cX6_measure 121 = .ok (.iload 4, 2) := by decide +kernel
theorem dX6_measure_123 : decode cX6_measure 123 = .ok (.iload 6, 2) := by decide +kernel
theorem dX6_measure_125 : decode cX6_measure 125 = .ok (.iload 5, 2) := by decide +kernel
theorem dX6_measure_127 : decode cX6_measure 127 = .ok (.aload_n 0, 1) := by decide +kernel
theorem dX6_measure_128 : decode cX6_measure 128 = .ok (.iload_n 3, 1) := by decide +kernel
theorem dX6_measure_129 : decode cX6_measure 129 = .ok (.iload 6, 2) := by decide +kernel
theorem dX6_measure_131 : decode cX6_measure 131 = .ok (.invokevirtual 46, 3) := by decide +kernel
theorem dX6_measure_134 : decode cX6_measure 134 = .ok (.iadd, 1) := by decide +kernel
theorem dX6_measure_135 : decode cX6_measure 135 = .ok (.invokevirtual 42, 3) := by decide +kernel
theorem dX6_measure_138 : decode cX6_measure 138 = .ok (.iinc 6 1, 3) := by decide +kernel
theorem dX6_measure_141 : decode cX6_measure 141 = .ok (.goto (-35), 3) := by decide +kernel
theorem dX6_measure_144 : decode cX6_measure 144 = .ok (.iinc 4 1, 3) := by decide +kernel
theorem dX6_measure_147 : decode cX6_measure 147 = .ok (.goto (-59), 3) := by decide +kernel
theorem dX6_measure_150 : decode cX6_measure 150 = .ok (.iinc 3 1, 3) := by decide +kernel
theorem dX6_measure_153 : decode cX6_measure 153 = .ok (.goto (-73), 3) := by decide +kernel
theorem dX6_measure_156 : decode cX6_measure 156 = .ok (.return_, 1) := by decide +kernel
theorem dX6_time_0 : decode cX6_time 0 = .ok (.iload_n 1, 1) := by decide +kernel
theorem dX6_time_1 : decode cX6_time 1 = .ok (.iload_n 2, 1) := by decide +kernel
theorem dX6_time_2 : decode cX6_time 2 = .ok (.if_icmp .ne 5, 3) := by decide +kernel
theorem dX6_time_5 : decode cX6_time 5 = .ok (.iconst 0, 1) := by decide +kernel
theorem dX6_time_6 : decode cX6_time 6 = .ok (.ireturn, 1) := by decide +kernel
theorem dX6_time_7 : decode cX6_time 7 = .ok (.iload_n 1, 1) := by decide +kernel
theorem dX6_time_8 : decode cX6_time 8 = .ok (.iload_n 2, 1) := by decide +kernel
theorem dX6_time_9 : decode cX6_time 9 = .ok (.if_icmp .le 12, 3) := by decide +kernel
theorem dX6_time_12 : decode cX6_time 12 = .ok (.iload_n 1, 1) := by decide +kernel
theorem dX6_time_13 : decode cX6_time 13 = .ok (.bipush 8, 2) := by decide +kernel
theorem dX6_time_15 : decode cX6_time 15 = .ok (.imul, 1) := by decide +kernel
theorem dX6_time_16 : decode cX6_time 16 = .ok (.iload_n 2, 1) := by decide +kernel
theorem dX6_time_17 : decode cX6_time 17 = .ok (.iadd, 1) := by decide +kernel
theorem dX6_time_18 : decode cX6_time 18 = .ok (.goto 9, 3) := by decide +kernel
theorem dX6_time_21 : decode cX6_time 21 = .ok (.iload_n 2, 1) := by decide +kernel
theorem dX6_time_22 : decode cX6_time 22 = .ok (.bipush 8, 2) := by decide +kernel
theorem dX6_time_24 : decode cX6_time 24 = .ok (.imul, 1) := by decide +kernel
theorem dX6_time_25 : decode cX6_time 25 = .ok (.iload_n 1, 1) := by decide +kernel
theorem dX6_time_26 : decode cX6_time 26 = .ok (.iadd, 1) := by decide +kernel
theorem dX6_time_27 : decode cX6_time 27 = .ok (.istore_n 3, 1) := by decide +kernel
theorem dX6_time_28 : decode cX6_time 28 = .ok (.iload_n 3, 1) := by decide +kernel
theorem dX6_time_29 : decode cX6_time 29 = .ok (.ifCond .lt 21, 3) := by decide +kernel
theorem dX6_time_32 : decode cX6_time 32 = .ok (.iload_n 3, 1) := by decide +kernel
theorem dX6_time_33 : decode cX6_time 33 = .ok (.aload_n 0, 1) := by decide +kernel
theorem dX6_time_34 : decode cX6_time 34 = .ok (.getfield 9, 3) := by decide +kernel
theorem dX6_time_37 : decode cX6_time 37 = .ok (.arraylength, 1) := by decide +kernel
theorem dX6_time_38 : decode cX6_time 38 = .ok (.if_icmp .ge 12, 3) := by decide +kernel
theorem dX6_time_41 : decode cX6_time 41 = .ok (.aload_n 0, 1) := by decide +kernel
theorem dX6_time_42 : decode cX6_time 42 = .ok (.getfield 9, 3) := by decide +kernel
theorem dX6_time_45 : decode cX6_time 45 = .ok (.iload_n 3, 1) := by decide +kernel
theorem dX6_time_46 : decode cX6_time 46 = .ok (.iaload, 1) := by decide +kernel
theorem dX6_time_47 : decode cX6_time 47 = .ok (.goto 5, 3) := by decide +kernel
theorem dX6_time_50 : decode cX6_time 50 = .ok (.ldc 15, 2) := by decide +kernel
theorem dX6_time_52 : decode cX6_time 52 = .ok (.ireturn, 1) := by decide +kernel
theorem dX6_shorten_0 : decode cX6_shorten 0 = .ok (.iload_n 1, 1) := by decide +kernel
theorem dX6_shorten_1 : decode cX6_shorten 1 = .ok (.iload_n 2, 1) := by decide +kernel
theorem dX6_shorten_2 : decode cX6_shorten 2 = .ok (.if_icmp .le 12, 3) := by decide +kernel
theorem dX6_shorten_5 : decode cX6_shorten 5 = .ok (.iload_n 1, 1) := by decide +kernel
theorem dX6_shorten_6 : decode cX6_shorten 6 = .ok (.bipush 8, 2) := by decide +kernel
theorem dX6_shorten_8 : decode cX6_shorten 8 = .ok (.imul, 1) := by decide +kernel
theorem dX6_shorten_9 : decode cX6_shorten 9 = .ok (.iload_n 2, 1) := by decide +kernel
theorem dX6_shorten_10 : decode cX6_shorten 10 = .ok (.iadd, 1) := by decide +kernel
theorem dX6_shorten_11 : decode cX6_shorten 11 = .ok (.goto 9, 3) := by decide +kernel
theorem dX6_shorten_14 : decode cX6_shorten 14 = .ok (.iload_n 2, 1) := by decide +kernel
theorem dX6_shorten_15 : decode cX6_shorten 15 = .ok (.bipush 8, 2) := by decide +kernel
theorem dX6_shorten_17 : decode cX6_shorten 17 = .ok (.imul, 1) := by decide +kernel
theorem dX6_shorten_18 : decode cX6_shorten 18 = .ok (.iload_n 1, 1) := by decide +kernel
theorem dX6_shorten_19 : decode cX6_shorten 19 = .ok (.iadd, 1) := by decide +kernel
theorem dX6_shorten_20 : decode cX6_shorten 20 = .ok (.istore 4, 2) := by decide +kernel
theorem dX6_shorten_22 : decode cX6_shorten 22 = .ok (.iload 4, 2) := by decide +kernel
theorem dX6_shorten_24 : decode cX6_shorten 24 = .ok (.ifCond .lt 32, 3) := by decide +kernel
theorem dX6_shorten_27 : decode cX6_shorten 27 = .ok (.iload 4, 2) := by decide +kernel
theorem dX6_shorten_29 : decode cX6_shorten 29 = .ok (.aload_n 0, 1) := by decide +kernel
theorem dX6_shorten_30 : decode cX6_shorten 30 = .ok (.getfield 9, 3) := by decide +kernel
theorem dX6_shorten_33 : decode cX6_shorten 33 = .ok (.arraylength, 1) := by decide +kernel
theorem dX6_shorten_34 : decode cX6_shorten 34 = .ok (.if_icmp .ge 22, 3) := by decide +kernel
theorem dX6_shorten_37 : decode cX6_shorten 37 = .ok (.iload_n 3, 1) := by decide +kernel
theorem dX6_shorten_38 : decode cX6_shorten 38 = .ok (.aload_n 0, 1) := by decide +kernel
theorem dX6_shorten_39 : decode cX6_shorten 39 = .ok (.getfield 9, 3) := by decide +kernel
theorem dX6_shorten_42 : decode cX6_shorten 42 = .ok (.iload 4, 2) := by decide +kernel
theorem dX6_shorten_44 : decode cX6_shorten 44 = .ok (.iaload, 1) := by decide +kernel
theorem dX6_shorten_45 : decode cX6_shorten 45 = .ok (.if_icmp .ge 11, 3) := by decide +kernel
theorem dX6_shorten_48 : decode cX6_shorten 48 = .ok (.aload_n 0, 1) := by decide +kernel
theorem dX6_shorten_49 : decode cX6_shorten 49 = .ok (.getfield 9, 3) := by decide +kernel
theorem dX6_shorten_52 : decode cX6_shorten 52 = .ok (.iload 4, 2) := by decide +kernel
theorem dX6_shorten_54 : decode cX6_shorten 54 = .ok (.iload_n 3, 1) := by decide +kernel
theorem dX6_shorten_55 : decode cX6_shorten 55 = .ok (.iastore, 1) := by decide +kernel
theorem dX6_shorten_56 : decode cX6_shorten 56 = .ok (.return_, 1) := by decide +kernel
end
section
theorem dX7_init_0 : decode cX7_init 0 = .ok (.aload_n 0, 1) := by decide +kernel
theorem dX7_init_1 : decode cX7_init 1 = .ok (.invokespecial 3, 3) := by decide +kernel
theorem dX7_init_4 : decode cX7_init 4 = .ok (.aload_n 0, 1) := by decide +kernel
theorem dX7_init_5 : decode cX7_init 5 = .ok (.new 9, 3) := by decide +kernel
theorem dX7_init_8 : decode cX7_init 8 = .ok (.dup, 1) := by decide +kernel
theorem dX7_init_9 : decode cX7_init 9 = .ok (.invokespecial 11, 3) := by decide +kernel
theorem dX7_init_12 : decode cX7_init 12 = .ok (.putfield 12, 3) := by decide +kernel
theorem dX7_init_15 : decode cX7_init 15 = .ok (.aload_n 0, 1) := by decide +kernel
theorem dX7_init_16 : decode cX7_init 16 = .ok (.new 9, 3) := by decide +kernel
theorem dX7_init_19 : decode cX7_init 19 = .ok (.dup, 1) := by decide +kernel
theorem dX7_init_20 : decode cX7_init 20 = .ok (.invokespecial 11, 3) := by decide +kernel
theorem dX7_init_23 : decode cX7_init 23 = .ok (.putfield 18, 3) := by decide +kernel
theorem dX7_init_26 : decode cX7_init 26 = .ok (.aload_n 0, 1) := by decide +kernel
theorem dX7_init_27 : decode cX7_init 27 = .ok (.new 9, 3) := by decide +kernel
theorem dX7_init_30 : decode cX7_init 30 = .ok (.dup, 1) := by decide +kernel
theorem dX7_init_31 : decode cX7_init 31 = .ok (.invokespecial 11, 3) := by decide +kernel
theorem dX7_init_34 : decode cX7_init 34 = .ok (.putfield 21, 3) := by decide +kernel
theorem dX7_init_37 : decode cX7_init 37 = .ok (.aload_n 0, 1) := by decide +kernel
theorem dX7_init_38 : decode cX7_init 38 = .ok (.new 9, 3) := by decide +kernel
theorem dX7_init_41 : decode cX7_init 41 = .ok (.dup, 1) := by decide +kernel
theorem dX7_init_42 : decode cX7_init 42 = .ok (.invokespecial 11, 3) := by decide +kernel
theorem dX7_init_45 : decode cX7_init 45 = .ok (.putfield 24, 3) := by decide +kernel
theorem dX7_init_48 : decode cX7_init 48 = .ok (.aload_n 0, 1) := by decide +kernel
theorem dX7_init_49 : decode cX7_init 49 = .ok (.new 27, 3) := by decide +kernel
theorem dX7_init_52 : decode cX7_init 52 = .ok (.dup, 1) := by decide +kernel
theorem dX7_init_53 : decode cX7_init 53 = .ok (.invokespecial 29, 3) := by decide +kernel
theorem dX7_init_56 : decode cX7_init 56 = .ok (.putfield 30, 3) := by decide +kernel
theorem dX7_init_59 : decode cX7_init 59 = .ok (.aload_n 0, 1) := by decide +kernel
theorem dX7_init_60 : decode cX7_init 60 = .ok (.new 34, 3) := by decide +kernel
theorem dX7_init_63 : decode cX7_init 63 = .ok (.dup, 1) := by decide +kernel
theorem dX7_init_64 : decode cX7_init 64 = .ok (.invokespecial 36, 3) := by decide +kernel
theorem dX7_init_67 : decode cX7_init 67 = .ok (.putfield 37, 3) := by decide +kernel
theorem dX7_init_70 : decode cX7_init 70 = .ok (.aload_n 0, 1) := by decide +kernel
theorem dX7_init_71 : decode cX7_init 71 = .ok (.bipush 7, 2) := by decide +kernel
theorem dX7_init_73 : decode cX7_init 73 = .ok (.newarray .int, 2) := by decide +kernel
theorem dX7_init_75 : decode cX7_init 75 = .ok (.putfield 41, 3) := by decide +kernel
theorem dX7_init_78 : decode cX7_init 78 = .ok (.return_, 1) := by decide +kernel
theorem dX7_changeRain_0 : decode cX7_changeRain 0 = .ok (.iload_n 1, 1) := by decide +kernel
theorem dX7_changeRain_1 : decode cX7_changeRain 1 = .ok (.ifCond .lt 12, 3) := by decide +kernel
theorem dX7_changeRain_4 : decode cX7_changeRain 4 = .ok (.iload_n 1, 1) := by decide +kernel
theorem dX7_changeRain_5 : decode cX7_changeRain 5 = .ok (.aload_n 0, 1) := by decide +kernel
theorem dX7_changeRain_6 : decode cX7_changeRain 6 = .ok (.getfield 41, 3) := by decide +kernel
theorem dX7_changeRain_9 : decode cX7_changeRain 9 = .ok (.arraylength, 1) := by decide +kernel
theorem dX7_changeRain_10 : decode cX7_changeRain 10 = .ok (.if_icmp .lt 5, 3) := by decide +kernel
theorem dX7_changeRain_13 : decode cX7_changeRain 13 = .ok (.iconst 0, 1) := by decide +kernel
theorem dX7_changeRain_14 : decode cX7_changeRain 14 = .ok (.ireturn, 1) := by decide +kernel
theorem dX7_changeRain_15 : decode cX7_changeRain 15 = .ok (.aload_n 0, 1) := by decide +kernel
theorem dX7_changeRain_16 : decode cX7_changeRain 16 = .ok (.getfield 41, 3) := by decide +kernel
theorem dX7_changeRain_19 : decode cX7_changeRain 19 = .ok (.iload_n 1, 1) := by decide +kernel
theorem dX7_changeRain_20 : decode cX7_changeRain 20 = .ok (.iaload, 1) := by decide +kernel
theorem dX7_changeRain_21 : decode cX7_changeRain 21 = .ok (.istore_n 3, 1) := by decide +kernel
theorem dX7_changeRain_22 : decode cX7_changeRain 22 = .ok (.aload_n 0, 1) := by decide +kernel
theorem dX7_changeRain_23 : decode cX7_changeRain 23 = .ok (.getfield 41, 3) := by decide +kernel
theorem dX7_changeRain_26 : decode cX7_changeRain 26 = .ok (.iload_n 1, 1) := by decide +kernel
theorem dX7_changeRain_27 : decode cX7_changeRain 27 = .ok (.iload_n 2, 1) := by decide +kernel
theorem dX7_changeRain_28 : decode cX7_changeRain 28 = .ok (.iastore, 1) := by decide +kernel
theorem dX7_changeRain_29 : decode cX7_changeRain 29 = .ok (.iload_n 3, 1) := by decide +kernel
theorem dX7_changeRain_30 : decode cX7_changeRain 30 = .ok (.ireturn, 1) := by decide +kernel
theorem dX7_rainOf_0 : decode cX7_rainOf 0 = .ok (.iload_n 1, 1) := by decide +kernel
theorem dX7_rainOf_1 : decode cX7_rainOf 1 = .ok (.ifCond .lt 21, 3) := by decide +kernel
theorem dX7_rainOf_4 : decode cX7_rainOf 4 = .ok (.iload_n 1, 1) := by decide +kernel
theorem dX7_rainOf_5 : decode cX7_rainOf 5 = .ok (.aload_n 0, 1) := by decide +kernel
theorem dX7_rainOf_6 : decode cX7_rainOf 6 = .ok (.getfield 41, 3) := by decide +kernel
theorem dX7_rainOf_9 : decode cX7_rainOf 9 = .ok (.arraylength, 1) := by decide +kernel
theorem dX7_rainOf_10 : decode cX7_rainOf 10 = .ok (.if_icmp .ge 12, 3) := by decide +kernel
theorem dX7_rainOf_13 : decode cX7_rainOf 13 = .ok (.aload_n 0, 1) := by decide +kernel
theorem dX7_rainOf_14 : decode cX7_rainOf 14 = .ok (.getfield 41, 3) := by decide +kernel
theorem dX7_rainOf_17 : decode cX7_rainOf 17 = .ok (.iload_n 1, 1) := by decide +kernel
theorem dX7_rainOf_18 : decode cX7_rainOf 18 = .ok (.iaload, 1) := by decide +kernel
theorem dX7_rainOf_19 : decode cX7_rainOf 19 = .ok (.goto 4, 3) := by decide +kernel
theorem dX7_rainOf_22 : decode cX7_rainOf 22 = .ok (.iconst 0, 1) := by decide +kernel
theorem dX7_rainOf_23 : decode cX7_rainOf 23 = .ok (.ireturn, 1) := by decide +kernel
theorem dX7_minutesOfWay_0 : decode cX7_minutesOfWay 0 = .ok (.aload_n 0, 1) := by decide +kernel
theorem dX7_minutesOfWay_1 : decode cX7_minutesOfWay 1 = .ok (.getfield 30, 3) := by decide +kernel
theorem dX7_minutesOfWay_4 : decode cX7_minutesOfWay 4 = .ok (.aload_n 0, 1) := by decide +kernel
theorem dX7_minutesOfWay_5 : decode cX7_minutesOfWay 5 = .ok (.getfield 12, 3) := by decide +kernel
theorem dX7_minutesOfWay_8 : decode cX7_minutesOfWay 8 = .ok (.invokevirtual 45, 3) := by decide +kernel
theorem dX7_minutesOfWay_11 : decode cX7_minutesOfWay 11 = .ok (.aload_n 0, 1) := by decide +kernel
theorem dX7_minutesOfWay_12 : decode cX7_minutesOfWay 12 = .ok (.getfield 18, 3) := by decide +kernel
theorem dX7_minutesOfWay_15 : decode cX7_minutesOfWay 15 = .ok (.invokevirtual 49, 3) := by decide +kernel
theorem dX7_minutesOfWay_18 : decode cX7_minutesOfWay 18 = .ok (.aload_n 0, 1) := by decide +kernel
theorem dX7_minutesOfWay_19 : decode cX7_minutesOfWay 19 = .ok (.getfield 30, 3) := by decide +kernel
theorem dX7_minutesOfWay_22 : decode cX7_minutesOfWay 22 = .ok (.iload_n 1, 1) := by decide +kernel
theorem dX7_minutesOfWay_23 : decode cX7_minutesOfWay 23 = .ok (.iload_n 2, 1) := by decide +kernel
theorem dX7_minutesOfWay_24 : decode cX7_minutesOfWay 24 = .ok (.invokevirtual 53, 3) := by decide +kernel
theorem dX7_minutesOfWay_27 : decode cX7_minutesOfWay 27 = .ok (.istore_n 3, 1) := by decide +kernel
theorem dX7_minutesOfWay_28 : decode cX7_minutesOfWay 28 = .ok (.iload_n 3, 1) := by decide +kernel
theorem dX7_minutesOfWay_29 : decode cX7_minutesOfWay 29 = .ok (.ldc 57, 2) := by decide +kernel
theorem dX7_minutesOfWay_31 : decode cX7_minutesOfWay 31 = .ok (.if_icmp .ge 7, 3) := by decide +kernel
theorem dX7_minutesOfWay_34 : decode cX7_minutesOfWay 34 = .ok (.iload_n 3, 1) := by decide +kernel
theorem dX7_minutesOfWay_35 : decode cX7_minutesOfWay 35 = .ok (.goto 4, 3) := by decide +kernel
theorem dX7_minutesOfWay_38 : decode cX7_minutesOfWay 38 = .ok (.iconst (-1), 1) := by decide +kernel
theorem dX7_minutesOfWay_39 : decode cX7_minutesOfWay 39 = .ok (.ireturn, 1) := by decide +kernel
theorem dX7_holderOf_0 : decode cX7_holderOf 0 = .ok (.iload_n 1, 1) := by decide +kernel
theorem dX7_holderOf_1 : decode cX7_holderOf 1 = .ok (.ifCond .lt 31, 3) := by decide +kernel
theorem dX7_holderOf_4 : decode cX7_holderOf 4 = .ok (.iload_n 1, 1) := by decide +kernel
theorem dX7_holderOf_5 : decode cX7_holderOf 5 = .ok (.aload_n 0, 1) := by decide +kernel
theorem dX7_holderOf_6 : decode cX7_holderOf 6 = .ok (.getfield 21, 3) := by decide +kernel
theorem dX7_holderOf_9 : decode cX7_holderOf 9 = .ok (.invokevirtual 45, 3) := by decide +kernel
theorem dX7_holderOf_12 : decode cX7_holderOf 12 = .ok (.if_icmp .ge 20, 3) := by decide +kernel
theorem dX7_holderOf_15 : decode cX7_holderOf 15 = .ok (.aload_n 0, 1) := by decide +kernel
theorem dX7_holderOf_16 : decode cX7_holderOf 16 = .ok (.getfield 21, 3) := by decide +kernel
theorem dX7_holderOf_19 : decode cX7_holderOf 19 = .ok (.iload_n 1, 1) := by decide +kernel
theorem dX7_holderOf_20 : decode cX7_holderOf 20 = .ok (.invokevirtual 58, 3) := by decide +kernel
theorem dX7_holderOf_23 : decode cX7_holderOf 23 = .ok (.checkcast 62, 3) := by decide +kernel
theorem dX7_holderOf_26 : decode cX7_holderOf 26 = .ok (.getfield 64, 3) := by decide +kernel
theorem dX7_holderOf_29 : decode cX7_holderOf 29 = .ok (.goto 4, 3) := by decide +kernel
theorem dX7_holderOf_32 : decode cX7_holderOf 32 = .ok (.iconst (-1), 1) := by decide +kernel
theorem dX7_holderOf_33 : decode cX7_holderOf 33 = .ok (.ireturn, 1) := by decide +kernel
theorem dX7_copyFrom_0 : decode cX7_copyFrom 0 = .ok (.iconst 0, 1) := by decide +kernel
theorem dX7_copyFrom_1 : decode cX7_copyFrom 1 = .ok (.istore_n 2, 1) := by decide +kernel
theorem dX7_copyFrom_2 : decode cX7_copyFrom 2 = .ok (.iload_n 2, 1) := by decide +kernel
theorem dX7_copyFrom_3 : decode cX7_copyFrom 3 = .ok (.aload_n 0, 1) := by decide +kernel
theorem dX7_copyFrom_4 : decode cX7_copyFrom 4 = .ok (.getfield 12, 3) := by decide +kernel
theorem dX7_copyFrom_7 : decode cX7_copyFrom 7 = .ok (.invokevirtual 45, 3) := by decide +kernel
theorem dX7_copyFrom_10 : decode cX7_copyFrom 10 = .ok (.if_icmp .ge 45, 3) := by decide +kernel
theorem dX7_copyFrom_13 : decode cX7_copyFrom 13 = .ok (.iload_n 2, 1) := by decide +kernel
theorem dX7_copyFrom_14 : decode cX7_copyFrom 14 = .ok (.aload_n 1, 1) := by decide +kernel
theorem dX7_copyFrom_15 : decode cX7_copyFrom 15 = .ok (.getfield 12, 3) := by decide +kernel
theorem dX7_copyFrom_18 : decode cX7_copyFrom 18 = .ok (.invokevirtual 45, 3) := by decide +kernel
theorem dX7_copyFrom_21 : decode cX7_copyFrom 21 = .ok (.if_icmp .ge 34, 3) := by decide +kernel
theorem dX7_copyFrom_24 : decode cX7_copyFrom 24 = .ok (.aload_n 0, 1) := by decide +kernel
theorem dX7_copyFrom_25 : decode cX7_copyFrom 25 = .ok (.getfield 12, 3) := by decide +kernel
theorem dX7_copyFrom_28 : decode cX7_copyFrom 28 = .ok (.iload_n 2, 1) := by decide +kernel
theorem dX7_copyFrom_29 : decode cX7_copyFrom 29 = .ok (.invokevirtual 58, 3) := by decide +kernel
theorem dX7_copyFrom_32 : decode cX7_copyFrom 32 = .ok (.checkcast 68, 3) := by decide +kernel
theorem dX7_copyFrom_35 : decode cX7_copyFrom 35 = .ok (.aload_n 1, 1) := by decide +kernel
theorem dX7_copyFrom_36 : decode cX7_copyFrom 36 = .ok (.getfield 12, 3) := by decide +kernel
theorem dX7_copyFrom_39 : decode cX7_copyFrom 39 = .ok (.iload_n 2, 1) := by decide +kernel
theorem dX7_copyFrom_40 : decode cX7_copyFrom 40 = .ok (.invokevirtual 58, 3) := by decide +kernel
theorem dX7_copyFrom_43 : decode cX7_copyFrom 43 = .ok (.checkcast 68, 3) := by decide +kernel
theorem dX7_copyFrom_46 : decode cX7_copyFrom 46 = .ok (.invokevirtual 70, 3) := by decide +kernel
theorem dX7_copyFrom_49 : decode cX7_copyFrom 49 = .ok (.iinc 2 1, 3) := by decide +kernel
theorem dX7_copyFrom_52 : decode cX7_copyFrom 52 = .ok (.goto (-50), 3) := by decide +kernel
theorem dX7_copyFrom_55 : decode cX7_copyFrom 55 = .ok (.iconst 0, 1) := by decide +kernel
theorem dX7_copyFrom_56 : decode cX7_copyFrom 56 = .ok (.istore_n 2, 1) := by decide +kernel
theorem dX7_copyFrom_57 : decode cX7_copyFrom 57 = .ok (.iload_n 2, 1) := by decide +kernel
theorem dX7_copyFrom_58 : decode cX7_copyFrom 58 = .ok (.aload_n 0, 1) := by decide +kernel
theorem dX7_copyFrom_59 : decode cX7_copyFrom 59 = .ok (.getfield 18, 3) := by decide +kernel
theorem dX7_copyFrom_62 : decode cX7_copyFrom 62 = .ok (.invokevirtual 45, 3) := by decide +kernel
theorem dX7_copyFrom_65 : decode cX7_copyFrom 65 = .ok (.if_icmp .ge 45, 3) := by decide +kernel
theorem dX7_copyFrom_68 : decode cX7_copyFrom 68 = .ok (.iload_n 2, 1) := by decide +kernel
theorem dX7_copyFrom_69 : decode cX7_copyFrom 69 = .ok (.aload_n 1, 1) := by decide +kernel
theorem dX7_copyFrom_70 : decode cX7_copyFrom 70 = .ok (.getfield 18, 3) := by decide +kernel
theorem dX7_copyFrom_73 : decode cX7_copyFrom 73 = .ok (.invokevirtual 45, 3) := by decide +kernel
theorem dX7_copyFrom_76 : decode cX7_copyFrom 76 = .ok (.if_icmp .ge 34, 3) := by decide +kernel
theorem dX7_copyFrom_79 : decode cX7_copyFrom 79 = .ok (.aload_n 0, 1) := by decide +kernel
theorem dX7_copyFrom_80 : decode cX7_copyFrom 80 = .ok (.getfield 18, 3) := by decide +kernel
theorem dX7_copyFrom_83 : decode cX7_copyFrom 83 = .ok (.iload_n 2, 1) := by decide +kernel
theorem dX7_copyFrom_84 : decode cX7_copyFrom 84 = .ok (.invokevirtual 58, 3) := by decide +kernel
theorem dX7_copyFrom_87 : decode cX7_copyFrom 87 = .ok (.checkcast 74, 3) := by decide +kernel
theorem dX7_copyFrom_90 : decode cX7_copyFrom 90 = .ok (.aload_n 1, 1) := by decide +kernel
theorem dX7_copyFrom_91 : decode cX7_copyFrom 91 = .ok (.getfield 18, 3) := by decide +kernel
theorem dX7_copyFrom_94 : decode cX7_copyFrom 94 = .ok (.iload_n 2, 1) := by decide +kernel
theorem dX7_copyFrom_95 : decode cX7_copyFrom 95 = .ok (.invokevirtual 58, 3) := by decide +kernel
theorem dX7_copyFrom_98 : decode cX7_copyFrom 98 = .ok (.checkcast 74, 3) := by decide +kernel
theorem dX7_copyFrom_101 : decode cX7_copyFrom 101 = .ok (.invokevirtual 76, 3) := by decide +kernel
theorem dX7_copyFrom_104 : decode cX7_copyFrom 104 = .ok (.iinc 2 1, 3) := by decide +kernel
theorem dX7_copyFrom_107 : decode cX7_copyFrom 107 = .ok (.goto (-50), 3) := by decide +kernel
theorem dX7_copyFrom_110 : decode cX7_copyFrom 110 = .ok (.iconst 0, 1) := by decide +kernel
theorem dX7_copyFrom_111 : decode cX7_copyFrom 111 = .ok (.istore_n 2, 1) := by decide +kernel
theorem dX7_copyFrom_112 : decode cX7_copyFrom 112 = .ok (.iload_n 2, 1) := by decide +kernel
theorem dX7_copyFrom_113 : decode cX7_copyFrom 113 = .ok (.aload_n 0, 1) := by decide +kernel
theorem dX7_copyFrom_114 : decode cX7_copyFrom 114 = .ok (.getfield 21, 3) := by decide +kernel
theorem dX7_copyFrom_117 : decode cX7_copyFrom 117 = .ok (.invokevirtual 45, 3) := by decide +kernel
theorem dX7_copyFrom_120 : decode cX7_copyFrom 120 = .ok (.if_icmp .ge 45, 3) := by decide +kernel
theorem dX7_copyFrom_123 : decode cX7_copyFrom 123 = .ok (.iload_n 2, 1) := by decide +kernel
theorem dX7_copyFrom_124 : decode cX7_copyFrom 124 = .ok (.aload_n 1, 1) := by decide +kernel
theorem dX7_copyFrom_125 : decode cX7_copyFrom 125 = .ok (.getfield 21, 3) := by decide +kernel
theorem dX7_copyFrom_128 : decode cX7_copyFrom 128 = .ok (.invokevirtual 45, 3) := by decide +kernel
theorem dX7_copyFrom_131 : decode cX7_copyFrom 131 = .ok (.if_icmp .ge 34, 3) := by decide +kernel
theorem dX7_copyFrom_134 : decode cX7_copyFrom 134 = .ok (.aload_n 0, 1) := by decide +kernel
theorem dX7_copyFrom_135 : decode cX7_copyFrom 135 = .ok (.getfield 21, 3) := by decide +kernel
theorem dX7_copyFrom_138 : decode cX7_copyFrom 138 = .ok (.iload_n 2, 1) := by decide +kernel
theorem dX7_copyFrom_139 : decode cX7_copyFrom 139 = .ok (.invokevirtual 58, 3) := by decide +kernel
theorem dX7_copyFrom_142 : decode cX7_copyFrom 142 = .ok (.checkcast 62, 3) := by decide +kernel
theorem dX7_copyFrom_145 : decode cX7_copyFrom 145 = .ok (.aload_n 1, 1) := by decide +kernel
theorem dX7_copyFrom_146 : decode cX7_copyFrom 146 = .ok (.getfield 21, 3) := by decide +kernel
theorem dX7_copyFrom_149 : decode cX7_copyFrom 149 = .ok (.iload_n 2, 1) := by decide +kernel
theorem dX7_copyFrom_150 : decode cX7_copyFrom 150 = .ok (.invokevirtual 58, 3) := by decide +kernel
theorem dX7_copyFrom_153 : decode cX7_copyFrom 153 = .ok (.checkcast 62, 3) := by decide +kernel
theorem dX7_copyFrom_156 : decode cX7_copyFrom 156 = .ok (.invokevirtual 79, 3) := by decide +kernel
theorem dX7_copyFrom_159 : decode cX7_copyFrom 159 = .ok (.iinc 2 1, 3) := by decide +kernel
theorem dX7_copyFrom_162 : decode cX7_copyFrom 162 = .ok (.goto (-50), 3) := by decide +kernel
theorem dX7_copyFrom_165 : decode cX7_copyFrom 165 = .ok (.iconst 0, 1) := by decide +kernel
theorem dX7_copyFrom_166 : decode cX7_copyFrom 166 = .ok (.istore_n 2, 1) := by decide +kernel
theorem dX7_copyFrom_167 : decode cX7_copyFrom 167 = .ok (.iload_n 2, 1) := by decide +kernel
theorem dX7_copyFrom_168 : decode cX7_copyFrom 168 = .ok (.aload_n 0, 1) := by decide +kernel
theorem dX7_copyFrom_169 : decode cX7_copyFrom 169 = .ok (.getfield 24, 3) := by decide +kernel
theorem dX7_copyFrom_172 : decode cX7_copyFrom 172 = .ok (.invokevirtual 45, 3) := by decide +kernel
theorem dX7_copyFrom_175 : decode cX7_copyFrom 175 = .ok (.if_icmp .ge 45, 3) := by decide +kernel
theorem dX7_copyFrom_178 : decode cX7_copyFrom 178 = .ok (.iload_n 2, 1) := by decide +kernel
theorem dX7_copyFrom_179 : decode cX7_copyFrom 179 = .ok (.aload_n 1, 1) := by decide +kernel
theorem dX7_copyFrom_180 : decode cX7_copyFrom 180 = .ok (.getfield 24, 3) := by decide +kernel
theorem dX7_copyFrom_183 : decode cX7_copyFrom 183 = .ok (.invokevirtual 45, 3) := by decide +kernel
theorem dX7_copyFrom_186 : decode cX7_copyFrom 186 = .ok (.if_icmp .ge 34, 3) := by decide +kernel
theorem dX7_copyFrom_189 : decode cX7_copyFrom 189 = .ok (.aload_n 0, 1) := by decide +kernel
theorem dX7_copyFrom_190 : decode cX7_copyFrom 190 = .ok (.getfield 24, 3) := by decide +kernel
theorem dX7_copyFrom_193 : decode cX7_copyFrom 193 = .ok (.iload_n 2, 1) := by decide +kernel
theorem dX7_copyFrom_194 : decode cX7_copyFrom 194 = .ok (.invokevirtual 58, 3) := by decide +kernel
theorem dX7_copyFrom_197 : decode cX7_copyFrom 197 = .ok (.checkcast 82, 3) := by decide +kernel
theorem dX7_copyFrom_200 : decode cX7_copyFrom 200 = .ok (.aload_n 1, 1) := by decide +kernel
theorem dX7_copyFrom_201 : decode cX7_copyFrom 201 = .ok (.getfield 24, 3) := by decide +kernel
theorem dX7_copyFrom_204 : decode cX7_copyFrom 204 = .ok (.iload_n 2, 1) := by decide +kernel
theorem dX7_copyFrom_205 : decode cX7_copyFrom 205 = .ok (.invokevirtual 58, 3) := by decide +kernel
theorem dX7_copyFrom_208 : decode cX7_copyFrom 208 = .ok (.checkcast 82, 3) := by decide +kernel
theorem dX7_copyFrom_211 : decode cX7_copyFrom 211 = .ok (.invokevirtual 84, 3) := by decide +kernel
theorem dX7_copyFrom_214 : decode cX7_copyFrom 214 = .ok (.iinc 2 1, 3) := by decide +kernel
theorem dX7_copyFrom_217 : decode cX7_copyFrom 217 = .ok (.goto (-50), 3) := by decide +kernel
theorem dX7_copyFrom_220 : decode cX7_copyFrom 220 = .ok (.aload_n 0, 1) := by decide +kernel
theorem dX7_copyFrom_221 : decode cX7_copyFrom 221 = .ok (.getfield 37, 3) := by decide +kernel
theorem dX7_copyFrom_224 : decode cX7_copyFrom 224 = .ok (.aload_n 1, 1) := by decide +kernel
theorem dX7_copyFrom_225 : decode cX7_copyFrom 225 = .ok (.getfield 37, 3) := by decide +kernel
theorem dX7_copyFrom_228 : decode cX7_copyFrom 228 = .ok (.invokevirtual 87, 3) := by decide +kernel
theorem dX7_copyFrom_231 : decode cX7_copyFrom 231 = .ok (.aload_n 1, 1) := by decide +kernel
theorem dX7_copyFrom_232 : decode cX7_copyFrom 232 = .ok (.getfield 41, 3) := by decide +kernel
theorem dX7_copyFrom_235 : decode cX7_copyFrom 235 = .ok (.aload_n 0, 1) := by decide +kernel
theorem dX7_copyFrom_236 : decode cX7_copyFrom 236 = .ok (.getfield 41, 3) := by decide +kernel
theorem dX7_copyFrom_239 : decode cX7_copyFrom 239 = .ok (.invokestatic 90, 3) := by decide +kernel
theorem dX7_copyFrom_242 : decode cX7_copyFrom 242 = .ok (.aload_n 0, 1) := by decide +kernel
theorem dX7_copyFrom_243 : decode cX7_copyFrom 243 = .ok (.aload_n 1, 1) := by decide +kernel
theorem dX7_copyFrom_244 : decode cX7_copyFrom 244 = .ok (.getfield 94, 3) := by decide +kernel
theorem dX7_copyFrom_247 : decode cX7_copyFrom 247 = .ok (.putfield 94, 3) := by decide +kernel
theorem dX7_copyFrom_250 : decode cX7_copyFrom 250 = .ok (.aload_n 0, 1) := by decide +kernel
theorem dX7_copyFrom_251 : decode cX7_copyFrom 251 = .ok (.aload_n 1, 1) := by decide +kernel
theorem dX7_copyFrom_252 : decode cX7_copyFrom 252 = .ok (.getfield 97, 3) := by decide +kernel
theorem dX7_copyFrom_255 : decode cX7_copyFrom 255 = .ok (.putfield 97, 3) := by decide +kernel
theorem dX7_copyFrom_258 : decode cX7_copyFrom 258 = .ok (.return_, 1) := by decide +kernel
theorem dX7_passDays_0 : decode cX7_passDays 0 = .ok (.iconst 0, 1) := by decide +kernel
theorem dX7_passDays_1 : decode cX7_passDays 1 = .ok (.istore_n 2, 1) := by decide +kernel
theorem dX7_passDays_2 : decode cX7_passDays 2 = .ok (.iload_n 2, 1) := by decide +kernel
theorem dX7_passDays_3 : decode cX7_passDays 3 = .ok (.iload_n 1, 1) := by decide +kernel
theorem dX7_passDays_4 : decode cX7_passDays 4 = .ok (.if_icmp .ge 27, 3) := by decide +kernel
theorem dX7_passDays_7 : decode cX7_passDays 7 = .ok (.aload_n 0, 1) := by decide +kernel
theorem dX7_passDays_8 : decode cX7_passDays 8 = .ok (.invokevirtual 100, 3) := by decide +kernel
theorem dX7_passDays_11 : decode cX7_passDays 11 = .ok (.aload_n 0, 1) := by decide +kernel
theorem dX7_passDays_12 : decode cX7_passDays 12 = .ok (.invokevirtual 103, 3) := by decide +kernel
theorem dX7_passDays_15 : decode cX7_passDays 15 = .ok (.aload_n 0, 1) := by decide +kernel
theorem dX7_passDays_16 : decode cX7_passDays 16 = .ok (.dup, 1) := by decide +kernel
theorem dX7_passDays_17 : decode cX7_passDays 17 = .ok (.getfield 94, 3) := by decide +kernel
theorem dX7_passDays_20 : decode cX7_passDays 20 = .ok (.iconst 1, 1) := by decide +kernel
theorem dX7_passDays_21 : decode cX7_passDays 21 = .ok (.iadd, 1) := by decide +kernel
theorem dX7_passDays_22 : decode cX7_passDays 22 = .ok (.putfield 94, 3) := by decide +kernel
theorem dX7_passDays_25 : decode cX7_passDays 25 = .ok (.iinc 2 1, 3) := by decide +kernel
theorem dX7_passDays_28 : decode cX7_passDays 28 = .ok (.goto (-26), 3) := by decide +kernel
theorem dX7_passDays_31 : decode cX7_passDays 31 = .ok (.return_, 1) := by decide +kernel
theorem dX7_weather_0 : decode cX7_weather 0 = .ok (.aload_n 0, 1) := by decide +kernel
theorem dX7_weather_1 : decode cX7_weather 1 = .ok (.aload_n 0, 1) := by decide +kernel
theorem dX7_weather_2 : decode cX7_weather 2 = .ok (.getfield 94, 3) := by decide +kernel
theorem dX7_weather_5 : decode cX7_weather 5 = .ok (.bipush 7, 2) := by decide +kernel
theorem dX7_weather_7 : decode cX7_weather 7 = .ok (.invokestatic 106, 3) := by decide +kernel
theorem dX7_weather_10 : decode cX7_weather 10 = .ok (.invokevirtual 111, 3) := by decide +kernel
theorem dX7_weather_13 : decode cX7_weather 13 = .ok (.istore_n 1, 1) := by decide +kernel
theorem dX7_weather_14 : decode cX7_weather 14 = .ok (.iconst 0, 1) := by decide +kernel
theorem dX7_weather_15 : decode cX7_weather 15 = .ok (.istore_n 2, 1) := by decide +kernel
theorem dX7_weather_16 : decode cX7_weather 16 = .ok (.iload_n 2, 1) := by decide +kernel
theorem dX7_weather_17 : decode cX7_weather 17 = .ok (.aload_n 0, 1) := by decide +kernel
theorem dX7_weather_18 : decode cX7_weather 18 = .ok (.getfield 18, 3) := by decide +kernel
theorem dX7_weather_21 : decode cX7_weather 21 = .ok (.invokevirtual 45, 3) := by decide +kernel
theorem dX7_weather_24 : decode cX7_weather 24 = .ok (.if_icmp .ge 24, 3) := by decide +kernel
theorem dX7_weather_27 : decode cX7_weather 27 = .ok (.aload_n 0, 1) := by decide +kernel
theorem dX7_weather_28 : decode cX7_weather 28 = .ok (.getfield 18, 3) := by decide +kernel
theorem dX7_weather_31 : decode cX7_weather 31 = .ok (.iload_n 2, 1) := by decide +kernel
theorem dX7_weather_32 : decode cX7_weather 32 = .ok (.invokevirtual 58, 3) := by decide +kernel
theorem dX7_weather_35 : decode cX7_weather 35 = .ok (.checkcast 74, 3) := by decide +kernel
theorem dX7_weather_38 : decode cX7_weather 38 = .ok (.iload_n 1, 1) := by decide +kernel
theorem dX7_weather_39 : decode cX7_weather 39 = .ok (.invokevirtual 115, 3) := by decide +kernel
theorem dX7_weather_42 : decode cX7_weather 42 = .ok (.iinc 2 1, 3) := by decide +kernel
theorem dX7_weather_45 : decode cX7_weather 45 = .ok (.goto (-29), 3) := by decide +kernel
theorem dX7_weather_48 : decode cX7_weather 48 = .ok (.return_, 1) := by decide +kernel
theorem dX7_goRound_0 : decode cX7_goRound 0 = .ok (.aload_n 0, 1) := by decide +kernel
theorem dX7_goRound_1 : decode cX7_goRound 1 = .ok (.getfield 30, 3) := by decide +kernel
theorem dX7_goRound_4 : decode cX7_goRound 4 = .ok (.aload_n 0, 1) := by decide +kernel
theorem dX7_goRound_5 : decode cX7_goRound 5 = .ok (.getfield 12, 3) := by decide +kernel
theorem dX7_goRound_8 : decode cX7_goRound 8 = .ok (.invokevirtual 45, 3) := by decide +kernel
theorem dX7_goRound_11 : decode cX7_goRound 11 = .ok (.aload_n 0, 1) := by decide +kernel
theorem dX7_goRound_12 : decode cX7_goRound 12 = .ok (.getfield 18, 3) := by decide +kernel
theorem dX7_goRound_15 : decode cX7_goRound 15 = .ok (.invokevirtual 49, 3) := by decide +kernel
theorem dX7_goRound_18 : decode cX7_goRound 18 = .ok (.iconst 0, 1) := by decide +kernel
theorem dX7_goRound_19 : decode cX7_goRound 19 = .ok (.istore_n 1, 1) := by decide +kernel
theorem dX7_goRound_20 : decode cX7_goRound 20 = .ok (.iconst 0, 1) := by decide +kernel
theorem dX7_goRound_21 : decode cX7_goRound 21 = .ok (.istore_n 2, 1) := by decide +kernel
theorem dX7_goRound_22 : decode cX7_goRound 22 = .ok (.iconst 0, 1) := by decide +kernel
theorem dX7_goRound_23 : decode cX7_goRound 23 = .ok (.istore_n 3, 1) := by decide +kernel
theorem dX7_goRound_24 : decode cX7_goRound 24 = .ok (.iload_n 3, 1) := by decide +kernel
theorem dX7_goRound_25 : decode cX7_goRound 25 = .ok (.aload_n 0, 1) := by decide +kernel
theorem dX7_goRound_26 : decode cX7_goRound 26 = .ok (.getfield 37, 3) := by decide +kernel
theorem dX7_goRound_29 : decode cX7_goRound 29 = .ok (.invokevirtual 118, 3) := by decide +kernel
theorem dX7_goRound_32 : decode cX7_goRound 32 = .ok (.if_icmp .ge 124, 3) := by decide +kernel
theorem dX7_goRound_35 : decode cX7_goRound 35 = .ok (.aload_n 0, 1) := by decide +kernel
theorem dX7_goRound_36 : decode cX7_goRound 36 = .ok (.getfield 37, 3) := by decide +kernel
theorem dX7_goRound_39 : decode cX7_goRound 39 = .ok (.iload_n 3, 1) := by decide +kernel
theorem dX7_goRound_40 : decode cX7_goRound 40 = .ok (.invokevirtual 119, 3) := by decide +kernel
theorem dX7_goRound_43 : decode cX7_goRound 43 = .ok (.istore 4, 2) := by decide +kernel
theorem dX7_goRound_45 : decode cX7_goRound 45 = .ok (.aload_n 0, 1) := by decide +kernel
theorem dX7_goRound_46 : decode cX7_goRound 46 = .ok (.getfield 30, 3) := by decide +kernel
theorem dX7_goRound_49 : decode cX7_goRound 49 = .ok (.iload_n 1, 1) := by decide +kernel
theorem dX7_goRound_50 : decode cX7_goRound 50 = .ok (.iload 4, 2) := by decide +kernel
theorem dX7_goRound_52 : decode cX7_goRound 52 = .ok (.invokevirtual 53, 3) := by decide +kernel
theorem dX7_goRound_55 : decode cX7_goRound 55 = .ok (.istore 5, 2) := by decide +kernel
theorem dX7_goRound_57 : decode cX7_goRound 57 = .ok (.aload_n 0, 1) := by decide +kernel
theorem dX7_goRound_58 : decode cX7_goRound 58 = .ok (.getfield 30, 3) := by decide +kernel
theorem dX7_goRound_61 : decode cX7_goRound 61 = .ok (.iload 4, 2) := by decide +kernel
theorem dX7_goRound_63 : decode cX7_goRound 63 = .ok (.iconst 0, 1) := by decide +kernel
theorem dX7_goRound_64 : decode cX7_goRound 64 = .ok (.invokevirtual 53, 3) := by decide +kernel
theorem dX7_goRound_67 : decode cX7_goRound 67 = .ok (.istore 6, 2) := by decide +kernel
theorem dX7_goRound_69 : decode cX7_goRound 69 = .ok (.iload 5, 2) := by decide +kernel
theorem dX7_goRound_71 : decode cX7_goRound 71 = .ok (.ldc 57, 2) := by decide +kernel
theorem dX7_goRound_73 : decode cX7_goRound 73 = .ok (.if_icmp .ge 33, 3) := by decide +kernel
theorem dX7_goRound_76 : decode cX7_goRound 76 = .ok (.iload 6, 2) := by decide +kernel
theorem dX7_goRound_78 : decode cX7_goRound 78 = .ok (.ldc 57, 2) := by decide +kernel
theorem dX7_goRound_80 : decode cX7_goRound 80 = .ok (.if_icmp .ge 26, 3) := by decide +kernel
theorem dX7_goRound_83 : decode cX7_goRound 83 = .ok (.iload_n 2, 1) := by decide +kernel
theorem dX7_goRound_84 : decode cX7_goRound 84 = .ok (.iload 5, 2) := by decide +kernel
theorem dX7_goRound_86 : decode cX7_goRound 86 = .ok (.iadd, 1) := by decide +kernel
theorem dX7_goRound_87 : decode cX7_goRound 87 = .ok (.iconst 5, 1) := by decide +kernel
theorem dX7_goRound_88 : decode cX7_goRound 88 = .ok (.iadd, 1) := by decide +kernel
theorem dX7_goRound_89 : decode cX7_goRound 89 = .ok (.iload 6, 2) := by decide +kernel
theorem dX7_goRound_91 : decode cX7_goRound 91 = .ok (.iadd, 1) := by decide +kernel
theorem dX7_goRound_92 : decode cX7_goRound 92 = .ok (.aload_n 0, 1) := by decide +kernel
theorem dX7_goRound_93 : decode cX7_goRound 93 = .ok (.getfield 37, 3) := by decide +kernel
theorem dX7_goRound_96 : decode cX7_goRound 96 = .ok (.getfield 122, 3) := by decide +kernel
theorem dX7_goRound_99 : decode cX7_goRound 99 = .ok (.if_icmp .gt 7, 3) := by decide +kernel
theorem dX7_goRound_102 : decode cX7_goRound 102 = .ok (.iconst 1, 1) := by decide +kernel
theorem dX7_goRound_103 : decode cX7_goRound 103 = .ok (.goto 4, 3) := by decide +kernel
theorem dX7_goRound_106 : decode cX7_goRound 106 = .ok (.iconst 0, 1) := by decide +kernel
theorem dX7_goRound_107 : decode cX7_goRound 107 = .ok (.istore 7, 2) := by decide +kernel
theorem dX7_goRound_109 : decode cX7_goRound 109 = .ok (.iload 7, 2) := by decide +kernel
theorem dX7_goRound_111 : decode cX7_goRound 111 = .ok (.ifCond .eq 31, 3) := by decide +kernel
theorem dX7_goRound_114 : decode cX7_goRound 114 = .ok (.iload_n 2, 1) := by decide +kernel
theorem dX7_goRound_115 : decode cX7_goRound 115 = .ok (.iload 5, 2) := by decide +kernel
theorem dX7_goRound_117 : decode cX7_goRound 117 = .ok (.iconst 5, 1) := by decide +kernel
theorem dX7_goRound_118 : decode cX7_goRound 118 = .ok (.iadd, 1) := by decide +kernel
theorem dX7_goRound_119 : decode cX7_goRound 119 = .ok (.iadd, 1) := by decide +kernel
theorem dX7_goRound_120 : decode cX7_goRound 120 = .ok (.istore_n 2, 1) := by decide +kernel
theorem dX7_goRound_121 : decode cX7_goRound 121 = .ok (.iload 4, 2) := by decide +kernel
theorem dX7_goRound_123 : decode cX7_goRound 123 = .ok (.istore_n 1, 1) := by decide +kernel
theorem dX7_goRound_124 : decode cX7_goRound 124 = .ok (.aload_n 0, 1) := by decide +kernel
theorem dX7_goRound_125 : decode cX7_goRound 125 = .ok (.iload 4, 2) := by decide +kernel
theorem dX7_goRound_127 : decode cX7_goRound 127 = .ok (.invokevirtual 125, 3) := by decide +kernel
theorem dX7_goRound_130 : decode cX7_goRound 130 = .ok (.aload_n 0, 1) := by decide +kernel
theorem dX7_goRound_131 : decode cX7_goRound 131 = .ok (.iload 4, 2) := by decide +kernel
theorem dX7_goRound_133 : decode cX7_goRound 133 = .ok (.invokevirtual 128, 3) := by decide +kernel
theorem dX7_goRound_136 : decode cX7_goRound 136 = .ok (.aload_n 0, 1) := by decide +kernel
theorem dX7_goRound_137 : decode cX7_goRound 137 = .ok (.iload 4, 2) := by decide +kernel
theorem dX7_goRound_139 : decode cX7_goRound 139 = .ok (.invokevirtual 131, 3) := by decide +kernel
theorem dX7_goRound_142 : decode cX7_goRound 142 = .ok (.aload_n 0, 1) := by decide +kernel
theorem dX7_goRound_143 : decode cX7_goRound 143 = .ok (.iload 4, 2) := by decide +kernel
theorem dX7_goRound_145 : decode cX7_goRound 145 = .ok (.iload 7, 2) := by decide +kernel
theorem dX7_goRound_147 : decode cX7_goRound 147 = .ok (.invokevirtual 134, 3) := by decide +kernel
theorem dX7_goRound_150 : decode cX7_goRound 150 = .ok (.iinc 3 1, 3) := by decide +kernel
theorem dX7_goRound_153 : decode cX7_goRound 153 = .ok (.goto (-129), 3) := by decide +kernel
theorem dX7_goRound_156 : decode cX7_goRound 156 = .ok (.aload_n 0, 1) := by decide +kernel
theorem dX7_goRound_157 : decode cX7_goRound 157 = .ok (.iload_n 2, 1) := by decide +kernel
theorem dX7_goRound_158 : decode cX7_goRound 158 = .ok (.ifCond .le 17, 3) := by decide +kernel
theorem dX7_goRound_161 : decode cX7_goRound 161 = .ok (.iload_n 2, 1) := by decide +kernel
theorem dX7_goRound_162 : decode cX7_goRound 162 = .ok (.aload_n 0, 1) := by decide +kernel
theorem dX7_goRound_163 : decode cX7_goRound 163 = .ok (.getfield 30, 3) := by decide +kernel
theorem dX7_goRound_166 : decode cX7_goRound 166 = .ok (.iload_n 1, 1) := by decide +kernel
theorem dX7_goRound_167 : decode cX7_goRound 167 = .ok (.iconst 0, 1) := by decide +kernel
theorem dX7_goRound_168 : decode cX7_goRound 168 = .ok (.invokevirtual 53, 3) := by decide +kernel
theorem dX7_goRound_171 : decode cX7_goRound 171 = .ok (.iadd, 1) := by decide +kernel
theorem dX7_goRound_172 : decode cX7_goRound 172 = .ok (.goto 4, 3) := by decide +kernel
theorem dX7_goRound_175 : decode cX7_goRound 175 = .ok (.iconst 0, 1) := by decide +kernel
theorem dX7_goRound_176 : decode cX7_goRound 176 = .ok (.putfield 97, 3) := by decide +kernel
theorem dX7_goRound_179 : decode cX7_goRound 179 = .ok (.return_, 1) := by decide +kernel
theorem dX7_noteVisit_0 : decode cX7_noteVisit 0 = .ok (.iload_n 1, 1) := by decide +kernel
theorem dX7_noteVisit_1 : decode cX7_noteVisit 1 = .ok (.ifCond .lt 14, 3) := by decide +kernel
theorem dX7_noteVisit_4 : decode cX7_noteVisit 4 = .ok (.iload_n 1, 1) := by decide +kernel
theorem dX7_noteVisit_5 : decode cX7_noteVisit 5 = .ok (.aload_n 0, 1) := by decide +kernel
theorem dX7_noteVisit_6 : decode cX7_noteVisit 6 = .ok (.getfield 12, 3) := by decide +kernel
theorem dX7_noteVisit_9 : decode cX7_noteVisit 9 = .ok (.invokevirtual 45, 3) := by decide +kernel
theorem dX7_noteVisit_12 : decode cX7_noteVisit 12 = .ok (.if_icmp .lt 4, 3) := by decide +kernel
theorem dX7_noteVisit_15 : decode cX7_noteVisit 15 = .ok (.return_, 1) := by decide +kernel
theorem dX7_noteVisit_16 : decode cX7_noteVisit 16 = .ok (.aload_n 0, 1) := by decide +kernel
theorem dX7_noteVisit_17 : decode cX7_noteVisit 17 = .ok (.getfield 12, 3) := by decide +kernel
theorem dX7_noteVisit_20 : decode cX7_noteVisit 20 = .ok (.iload_n 1, 1) := by decide +kernel
theorem dX7_noteVisit_21 : decode cX7_noteVisit 21 = .ok (.invokevirtual 58, 3) := by decide +kernel
theorem dX7_noteVisit_24 : decode cX7_noteVisit 24 = .ok (.checkcast 68, 3) := by decide +kernel
theorem dX7_noteVisit_27 : decode cX7_noteVisit 27 = .ok (.astore_n 3, 1) := by decide +kernel
theorem dX7_noteVisit_28 : decode cX7_noteVisit 28 = .ok (.iload_n 2, 1) := by decide +kernel
theorem dX7_noteVisit_29 : decode cX7_noteVisit 29 = .ok (.ifCond .eq 16, 3) := by decide +kernel
theorem dX7_noteVisit_32 : decode cX7_noteVisit 32 = .ok (.aload_n 3, 1) := by decide +kernel
theorem dX7_noteVisit_33 : decode cX7_noteVisit 33 = .ok (.dup, 1) := by decide +kernel
theorem dX7_noteVisit_34 : decode cX7_noteVisit 34 = .ok (.getfield 138, 3) := by decide +kernel
theorem dX7_noteVisit_37 : decode cX7_noteVisit 37 = .ok (.iconst 1, 1) := by decide +kernel
theorem dX7_noteVisit_38 : decode cX7_noteVisit 38 = .ok (.iadd, 1) := by decide +kernel
theorem dX7_noteVisit_39 : decode cX7_noteVisit 39 = .ok (.putfield 138, 3) := by decide +kernel
theorem dX7_noteVisit_42 : decode cX7_noteVisit 42 = .ok (.goto 13, 3) := by decide +kernel
theorem dX7_noteVisit_45 : decode cX7_noteVisit 45 = .ok (.aload_n 3, 1) := by decide +kernel
theorem dX7_noteVisit_46 : decode cX7_noteVisit 46 = .ok (.dup, 1) := by decide +kernel
theorem dX7_noteVisit_47 : decode cX7_noteVisit 47 = .ok (.getfield 141, 3) := by decide +kernel
theorem dX7_noteVisit_50 : decode cX7_noteVisit 50 = .ok (.iconst 1, 1) := by decide +kernel
theorem dX7_noteVisit_51 : decode cX7_noteVisit 51 = .ok (.iadd, 1) := by decide +kernel
theorem dX7_noteVisit_52 : decode cX7_noteVisit 52 = .ok (.putfield 141, 3) := by decide +kernel
theorem dX7_noteVisit_55 : decode cX7_noteVisit 55 = .ok (.return_, 1) := by decide +kernel
theorem dX7_takeBooksBack_0 : decode cX7_takeBooksBack 0 = .ok (.iconst 0, 1) := by decide +kernel
theorem dX7_takeBooksBack_1 : decode cX7_takeBooksBack 1 = .ok (.istore_n 2, 1) := by decide +kernel
theorem dX7_takeBooksBack_2 : decode cX7_takeBooksBack 2 = .ok (.iload_n 2, 1) := by decide +kernel
theorem dX7_takeBooksBack_3 : decode cX7_takeBooksBack 3 = .ok (.aload_n 0, 1) := by decide +kernel
theorem dX7_takeBooksBack_4 : decode cX7_takeBooksBack 4 = .ok (.getfield 21, 3) := by decide +kernel
theorem dX7_takeBooksBack_7 : decode cX7_takeBooksBack 7 = .ok (.invokevirtual 45, 3) := by decide +kernel
theorem dX7_takeBooksBack_10 : decode cX7_takeBooksBack 10 = .ok (.if_icmp .ge 77, 3) := by decide +kernel
theorem dX7_takeBooksBack_13 : decode cX7_takeBooksBack 13 = .ok (.aload_n 0, 1) := by decide +kernel
theorem dX7_takeBooksBack_14 : decode cX7_takeBooksBack 14 = .ok (.getfield 21, 3) := by decide +kernel
theorem dX7_takeBooksBack_17 : decode cX7_takeBooksBack 17 = .ok (.iload_n 2, 1) := by decide +kernel
theorem dX7_takeBooksBack_18 : decode cX7_takeBooksBack 18 = .ok (.invokevirtual 58, 3) := by decide +kernel
theorem dX7_takeBooksBack_21 : decode cX7_takeBooksBack 21 = .ok (.checkcast 62, 3) := by decide +kernel
theorem dX7_takeBooksBack_24 : decode cX7_takeBooksBack 24 = .ok (.astore_n 3, 1) := by decide +kernel
theorem dX7_takeBooksBack_25 : decode cX7_takeBooksBack 25 = .ok (.aload_n 0, 1) := by decide +kernel
theorem dX7_takeBooksBack_26 : decode cX7_takeBooksBack 26 = .ok (.aload_n 3, 1) := by decide +kernel
theorem dX7_takeBooksBack_27 : decode cX7_takeBooksBack 27 = .ok (.getfield 64, 3) := by decide +kernel
theorem dX7_takeBooksBack_30 : decode cX7_takeBooksBack 30 = .ok (.invokevirtual 144, 3) := by decide +kernel
theorem dX7_takeBooksBack_33 : decode cX7_takeBooksBack 33 = .ok (.astore 4, 2) := by decide +kernel
theorem dX7_takeBooksBack_35 : decode cX7_takeBooksBack 35 = .ok (.aload 4, 2) := by decide +kernel
theorem dX7_takeBooksBack_37 : decode cX7_takeBooksBack 37 = .ok (.ifnull 44, 3) := by decide +kernel
theorem dX7_takeBooksBack_40 : decode cX7_takeBooksBack 40 = .ok (.aload 4, 2) := by decide +kernel
theorem dX7_takeBooksBack_42 : decode cX7_takeBooksBack 42 = .ok (.getfield 148, 3) := by decide +kernel
theorem dX7_takeBooksBack_45 : decode cX7_takeBooksBack 45 = .ok (.iload_n 1, 1) := by decide +kernel
theorem dX7_takeBooksBack_46 : decode cX7_takeBooksBack 46 = .ok (.if_icmp .ne 35, 3) := by decide +kernel
theorem dX7_takeBooksBack_49 : decode cX7_takeBooksBack 49 = .ok (.aload_n 0, 1) := by decide +kernel
theorem dX7_takeBooksBack_50 : decode cX7_takeBooksBack 50 = .ok (.getfield 94, 3) := by decide +kernel
theorem dX7_takeBooksBack_53 : decode cX7_takeBooksBack 53 = .ok (.aload_n 3, 1) := by decide +kernel
theorem dX7_takeBooksBack_54 : decode cX7_takeBooksBack 54 = .ok (.getfield 151, 3) := by decide +kernel
theorem dX7_takeBooksBack_57 : decode cX7_takeBooksBack 57 = .ok (.isub, 1) := by decide +kernel
theorem dX7_takeBooksBack_58 : decode cX7_takeBooksBack 58 = .ok (.aload 4, 2) := by decide +kernel
theorem dX7_takeBooksBack_60 : decode cX7_takeBooksBack 60 = .ok (.getfield 154, 3) := by decide +kernel
theorem dX7_takeBooksBack_63 : decode cX7_takeBooksBack 63 = .ok (.if_icmp .lt 18, 3) := by decide +kernel
theorem dX7_takeBooksBack_66 : decode cX7_takeBooksBack 66 = .ok (.aload_n 3, 1) := by decide +kernel
theorem dX7_takeBooksBack_67 : decode cX7_takeBooksBack 67 = .ok (.aload 4, 2) := by decide +kernel
theorem dX7_takeBooksBack_69 : decode cX7_takeBooksBack 69 = .ok (.aload_n 0, 1) := by decide +kernel
theorem dX7_takeBooksBack_70 : decode cX7_takeBooksBack 70 = .ok (.getfield 94, 3) := by decide +kernel
theorem dX7_takeBooksBack_73 : decode cX7_takeBooksBack 73 = .ok (.aload_n 3, 1) := by decide +kernel
theorem dX7_takeBooksBack_74 : decode cX7_takeBooksBack 74 = .ok (.getfield 151, 3) := by decide +kernel
theorem dX7_takeBooksBack_77 : decode cX7_takeBooksBack 77 = .ok (.isub, 1) := by decide +kernel
theorem dX7_takeBooksBack_78 : decode cX7_takeBooksBack 78 = .ok (.invokevirtual 157, 3) := by decide +kernel
theorem dX7_takeBooksBack_81 : decode cX7_takeBooksBack 81 = .ok (.iinc 2 1, 3) := by decide +kernel
theorem dX7_takeBooksBack_84 : decode cX7_takeBooksBack 84 = .ok (.goto (-82), 3) := by decide +kernel
theorem dX7_takeBooksBack_87 : decode cX7_takeBooksBack 87 = .ok (.return_, 1) := by decide +kernel
theorem dX7_lendReservedBooks_0 : decode cX7_lendReservedBooks 0 = .ok (.iconst 0, 1) := by decide +kernel
theorem dX7_lendReservedBooks_1 : decode cX7_lendReservedBooks 1 = .ok (.istore_n 2, 1) := by decide +kernel
theorem dX7_lendReservedBooks_2 : decode cX7_lendReservedBooks 2 = .ok (.iload_n 2, 1) := by decide +kernel
theorem dX7_lendReservedBooks_3 : decode cX7_lendReservedBooks 3 = .ok (.aload_n 0, 1) := by decide +kernel
theorem dX7_lendReservedBooks_4 : decode cX7_lendReservedBooks 4 = .ok (.getfield 21, 3) := by decide +kernel
theorem dX7_lendReservedBooks_7 : decode cX7_lendReservedBooks 7 = .ok (.invokevirtual 45, 3) := by decide +kernel
theorem dX7_lendReservedBooks_10 : decode cX7_lendReservedBooks 10 = .ok (.if_icmp .ge 85, 3) := by decide +kernel
theorem dX7_lendReservedBooks_13 : decode cX7_lendReservedBooks 13 = .ok (.aload_n 0, 1) := by decide +kernel
theorem dX7_lendReservedBooks_14 : decode cX7_lendReservedBooks 14 = .ok (.getfield 21, 3) := by decide +kernel
theorem dX7_lendReservedBooks_17 : decode cX7_lendReservedBooks 17 = .ok (.iload_n 2, 1) := by decide +kernel
theorem dX7_lendReservedBooks_18 : decode cX7_lendReservedBooks 18 = .ok (.invokevirtual 58, 3) := by decide +kernel
theorem dX7_lendReservedBooks_21 : decode cX7_lendReservedBooks 21 = .ok (.checkcast 62, 3) := by decide +kernel
theorem dX7_lendReservedBooks_24 : decode cX7_lendReservedBooks 24 = .ok (.astore_n 3, 1) := by decide +kernel
theorem dX7_lendReservedBooks_25 : decode cX7_lendReservedBooks 25 = .ok (.aload_n 3, 1) := by decide +kernel
theorem dX7_lendReservedBooks_26 : decode cX7_lendReservedBooks 26 = .ok (.invokevirtual 161, 3) := by decide +kernel
theorem dX7_lendReservedBooks_29 : decode cX7_lendReservedBooks 29 = .ok (.ifCond .eq 17, 3) := by decide +kernel
theorem dX7_lendReservedBooks_32 : decode cX7_lendReservedBooks 32 = .ok (.aload_n 0, 1) := by decide +kernel
theorem dX7_lendReservedBooks_33 : decode cX7_lendReservedBooks 33 = .ok (.aload_n 3, 1) := by decide +kernel
theorem dX7_lendReservedBooks_34 : decode cX7_lendReservedBooks 34 = .ok (.getfield 165, 3) := by decide +kernel
theorem dX7_lendReservedBooks_37 : decode cX7_lendReservedBooks 37 = .ok (.invokevirtual 169, 3) := by decide +kernel
theorem dX7_lendReservedBooks_40 : decode cX7_lendReservedBooks 40 = .ok (.invokevirtual 144, 3) := by decide +kernel
theorem dX7_lendReservedBooks_43 : decode cX7_lendReservedBooks 43 = .ok (.goto 4, 3) := by decide +kernel
theorem dX7_lendReservedBooks_46 : decode cX7_lendReservedBooks 46 = .ok (.aconst_null, 1) := by decide +kernel
theorem dX7_lendReservedBooks_47 : decode cX7_lendReservedBooks 47 = .ok (.astore 4, 2) := by decide +kernel
theorem dX7_lendReservedBooks_49 : decode cX7_lendReservedBooks 49 = .ok (.aload 4, 2) := by decide +kernel
theorem dX7_lendReservedBooks_51 : decode cX7_lendReservedBooks 51 = .ok (.ifnull 38, 3) := by decide +kernel
theorem dX7_lendReservedBooks_54 : decode cX7_lendReservedBooks 54 = .ok (.aload 4, 2) := by decide +kernel
theorem dX7_lendReservedBooks_56 : decode cX7_lendReservedBooks 56 = .ok (.getfield 148, 3) := by decide +kernel
theorem dX7_lendReservedBooks_59 : decode cX7_lendReservedBooks 59 = .ok (.iload_n 1, 1) := by decide +kernel
theorem dX7_lendReservedBooks_60 : decode cX7_lendReservedBooks 60 = .ok (.if_icmp .ne 29, 3) := by decide +kernel
theorem dX7_lendReservedBooks_63 : decode cX7_lendReservedBooks 63 = .ok (.aload 4, 2) := by decide +kernel
theorem dX7_lendReservedBooks_65 : decode cX7_lendReservedBooks 65 = .ok (.invokevirtual 174, 3) := by decide +kernel
theorem dX7_lendReservedBooks_68 : decode cX7_lendReservedBooks 68 = .ok (.ifCond .eq 21, 3) := by decide +kernel
theorem dX7_lendReservedBooks_71 : decode cX7_lendReservedBooks 71 = .ok (.aload_n 3, 1) := by decide +kernel
theorem dX7_lendReservedBooks_72 : decode cX7_lendReservedBooks 72 = .ok (.getfield 165, 3) := by decide +kernel
theorem dX7_lendReservedBooks_75 : decode cX7_lendReservedBooks 75 = .ok (.iconst 0, 1) := by decide +kernel
theorem dX7_lendReservedBooks_76 : decode cX7_lendReservedBooks 76 = .ok (.invokevirtual 177, 3) := by decide +kernel
theorem dX7_lendReservedBooks_79 : decode cX7_lendReservedBooks 79 = .ok (.aload_n 3, 1) := by decide +kernel
theorem dX7_lendReservedBooks_80 : decode cX7_lendReservedBooks 80 = .ok (.aload 4, 2) := by decide +kernel
theorem dX7_lendReservedBooks_82 : decode cX7_lendReservedBooks 82 = .ok (.aload_n 0, 1) := by decide +kernel
theorem dX7_lendReservedBooks_83 : decode cX7_lendReservedBooks 83 = .ok (.getfield 94, 3) := by decide +kernel
theorem dX7_lendReservedBooks_86 : decode cX7_lendReservedBooks 86 = .ok (.invokevirtual 180, 3) := by decide +kernel
theorem dX7_lendReservedBooks_89 : decode cX7_lendReservedBooks 89 = .ok (.iinc 2 1, 3) := by decide +kernel
theorem dX7_lendReservedBooks_92 : decode cX7_lendReservedBooks 92 = .ok (.goto (-90), 3) := by decide +kernel
theorem dX7_lendReservedBooks_95 : decode cX7_lendReservedBooks 95 = .ok (.return_, 1) := by decide +kernel
theorem dX7_readerWith_0 : decode cX7_readerWith 0 = .ok (.iload_n 1, 1) := by decide +kernel
theorem dX7_readerWith_1 : decode cX7_readerWith 1 = .ok (.ifCond .lt 28, 3) := by decide +kernel
theorem dX7_readerWith_4 : decode cX7_readerWith 4 = .ok (.iload_n 1, 1) := by decide +kernel
theorem dX7_readerWith_5 : decode cX7_readerWith 5 = .ok (.aload_n 0, 1) := by decide +kernel
theorem dX7_readerWith_6 : decode cX7_readerWith 6 = .ok (.getfield 24, 3) := by decide +kernel
theorem dX7_readerWith_9 : decode cX7_readerWith 9 = .ok (.invokevirtual 45, 3) := by decide +kernel
theorem dX7_readerWith_12 : decode cX7_readerWith 12 = .ok (.if_icmp .ge 17, 3) := by decide +kernel
theorem dX7_readerWith_15 : decode cX7_readerWith 15 = .ok (.aload_n 0, 1) := by decide +kernel
theorem dX7_readerWith_16 : decode cX7_readerWith 16 = .ok (.getfield 24, 3) := by decide +kernel
theorem dX7_readerWith_19 : decode cX7_readerWith 19 = .ok (.iload_n 1, 1) := by decide +kernel
theorem dX7_readerWith_20 : decode cX7_readerWith 20 = .ok (.invokevirtual 58, 3) := by decide +kernel
theorem dX7_readerWith_23 : decode cX7_readerWith 23 = .ok (.checkcast 82, 3) := by decide +kernel
theorem dX7_readerWith_26 : decode cX7_readerWith 26 = .ok (.goto 4, 3) := by decide +kernel
theorem dX7_readerWith_29 : decode cX7_readerWith 29 = .ok (.aconst_null, 1) := by decide +kernel
theorem dX7_readerWith_30 : decode cX7_readerWith 30 = .ok (.areturn, 1) := by decide +kernel
theorem dX7_lendOtherBooks_0 : decode cX7_lendOtherBooks 0 = .ok (.iconst 0, 1) := by decide +kernel
theorem dX7_lendOtherBooks_1 : decode cX7_lendOtherBooks 1 = .ok (.istore_n 2, 1) := by decide +kernel
theorem dX7_lendOtherBooks_2 : decode cX7_lendOtherBooks 2 = .ok (.iload_n 2, 1) := by decide +kernel
theorem dX7_lendOtherBooks_3 : decode cX7_lendOtherBooks 3 = .ok (.aload_n 0, 1) := by decide +kernel
theorem dX7_lendOtherBooks_4 : decode cX7_lendOtherBooks 4 = .ok (.getfield 24, 3) := by decide +kernel
theorem dX7_lendOtherBooks_7 : decode cX7_lendOtherBooks 7 = .ok (.invokevirtual 45, 3) := by decide +kernel
theorem dX7_lendOtherBooks_10 : decode cX7_lendOtherBooks 10 = .ok (.if_icmp .ge 41, 3) := by decide +kernel
theorem dX7_lendOtherBooks_13 : decode cX7_lendOtherBooks 13 = .ok (.aload_n 0, 1) := by decide +kernel
theorem dX7_lendOtherBooks_14 : decode cX7_lendOtherBooks 14 = .ok (.getfield 24, 3) := by decide +kernel
theorem dX7_lendOtherBooks_17 : decode cX7_lendOtherBooks 17 = .ok (.iload_n 2, 1) := by decide +kernel
theorem dX7_lendOtherBooks_18 : decode cX7_lendOtherBooks 18 = .ok (.invokevirtual 58, 3) := by decide +kernel
theorem dX7_lendOtherBooks_21 : decode cX7_lendOtherBooks 21 = .ok (.checkcast 82, 3) := by decide +kernel
theorem dX7_lendOtherBooks_24 : decode cX7_lendOtherBooks 24 = .ok (.astore_n 3, 1) := by decide +kernel
theorem dX7_lendOtherBooks_25 : decode cX7_lendOtherBooks 25 = .ok (.aload_n 3, 1) := by decide +kernel
theorem dX7_lendOtherBooks_26 : decode cX7_lendOtherBooks 26 = .ok (.getfield 148, 3) := by decide +kernel
theorem dX7_lendOtherBooks_29 : decode cX7_lendOtherBooks 29 = .ok (.iload_n 1, 1) := by decide +kernel
theorem dX7_lendOtherBooks_30 : decode cX7_lendOtherBooks 30 = .ok (.if_icmp .ne 15, 3) := by decide +kernel
theorem dX7_lendOtherBooks_33 : decode cX7_lendOtherBooks 33 = .ok (.aload_n 3, 1) := by decide +kernel
theorem dX7_lendOtherBooks_34 : decode cX7_lendOtherBooks 34 = .ok (.invokevirtual 174, 3) := by decide +kernel
theorem dX7_lendOtherBooks_37 : decode cX7_lendOtherBooks 37 = .ok (.ifCond .eq 8, 3) := by decide +kernel
theorem dX7_lendOtherBooks_40 : decode cX7_lendOtherBooks 40 = .ok (.aload_n 0, 1) := by decide +kernel
theorem dX7_lendOtherBooks_41 : decode cX7_lendOtherBooks 41 = .ok (.aload_n 3, 1) := by decide +kernel
theorem dX7_lendOtherBooks_42 : decode cX7_lendOtherBooks 42 = .ok (.invokevirtual 183, 3) := by decide +kernel
theorem dX7_lendOtherBooks_45 : decode cX7_lendOtherBooks 45 = .ok (.iinc 2 1, 3) := by decide +kernel
theorem dX7_lendOtherBooks_48 : decode cX7_lendOtherBooks 48 = .ok (.goto (-46), 3) := by decide +kernel
theorem dX7_lendOtherBooks_51 : decode cX7_lendOtherBooks 51 = .ok (.return_, 1) := by decide +kernel
theorem dX7_lendOtherBookTo_0 : decode cX7_lendOtherBookTo 0 = .ok (.iconst 0, 1) := by decide +kernel
theorem dX7_lendOtherBookTo_1 : decode cX7_lendOtherBookTo 1 = .ok (.istore_n 2, 1) := by decide +kernel
theorem dX7_lendOtherBookTo_2 : decode cX7_lendOtherBookTo 2 = .ok (.iload_n 2, 1) := by decide +kernel
theorem dX7_lendOtherBookTo_3 : decode cX7_lendOtherBookTo 3 = .ok (.aload_n 0, 1) := by decide +kernel
theorem dX7_lendOtherBookTo_4 : decode cX7_lendOtherBookTo 4 = .ok (.getfield 21, 3) := by decide +kernel
theorem dX7_lendOtherBookTo_7 : decode cX7_lendOtherBookTo 7 = .ok (.invokevirtual 45, 3) := by decide +kernel
theorem dX7_lendOtherBookTo_10 : decode cX7_lendOtherBookTo 10 = .ok (.if_icmp .ge 70, 3) := by decide +kernel
theorem dX7_lendOtherBookTo_13 : decode cX7_lendOtherBookTo 13 = .ok (.aload_n 0, 1) := by decide +kernel
theorem dX7_lendOtherBookTo_14 : decode cX7_lendOtherBookTo 14 = .ok (.getfield 21, 3) := by decide +kernel
theorem dX7_lendOtherBookTo_17 : decode cX7_lendOtherBookTo 17 = .ok (.iload_n 2, 1) := by decide +kernel
theorem dX7_lendOtherBookTo_18 : decode cX7_lendOtherBookTo 18 = .ok (.invokevirtual 58, 3) := by decide +kernel
theorem dX7_lendOtherBookTo_21 : decode cX7_lendOtherBookTo 21 = .ok (.checkcast 62, 3) := by decide +kernel
theorem dX7_lendOtherBookTo_24 : decode cX7_lendOtherBookTo 24 = .ok (.astore_n 3, 1) := by decide +kernel
theorem dX7_lendOtherBookTo_25 : decode cX7_lendOtherBookTo 25 = .ok (.aload_n 3, 1) := by decide +kernel
theorem dX7_lendOtherBookTo_26 : decode cX7_lendOtherBookTo 26 = .ok (.invokevirtual 161, 3) := by decide +kernel
theorem dX7_lendOtherBookTo_29 : decode cX7_lendOtherBookTo 29 = .ok (.ifCond .eq 45, 3) := by decide +kernel
theorem dX7_lendOtherBookTo_32 : decode cX7_lendOtherBookTo 32 = .ok (.aload_n 3, 1) := by decide +kernel
theorem dX7_lendOtherBookTo_33 : decode cX7_lendOtherBookTo 33 = .ok (.getfield 186, 3) := by decide +kernel
theorem dX7_lendOtherBookTo_36 : decode cX7_lendOtherBookTo 36 = .ok (.aload_n 1, 1) := by decide +kernel
theorem dX7_lendOtherBookTo_37 : decode cX7_lendOtherBookTo 37 = .ok (.getfield 189, 3) := by decide +kernel
theorem dX7_lendOtherBookTo_40 : decode cX7_lendOtherBookTo 40 = .ok (.if_icmp .ne 34, 3) := by decide +kernel
theorem dX7_lendOtherBookTo_43 : decode cX7_lendOtherBookTo 43 = .ok (.aload_n 3, 1) := by decide +kernel
theorem dX7_lendOtherBookTo_44 : decode cX7_lendOtherBookTo 44 = .ok (.getfield 165, 3) := by decide +kernel
theorem dX7_lendOtherBookTo_47 : decode cX7_lendOtherBookTo 47 = .ok (.invokevirtual 190, 3) := by decide +kernel
theorem dX7_lendOtherBookTo_50 : decode cX7_lendOtherBookTo 50 = .ok (.ifCond .ne 24, 3) := by decide +kernel
theorem dX7_lendOtherBookTo_53 : decode cX7_lendOtherBookTo 53 = .ok (.aload_n 1, 1) := by decide +kernel
theorem dX7_lendOtherBookTo_54 : decode cX7_lendOtherBookTo 54 = .ok (.aload_n 3, 1) := by decide +kernel
theorem dX7_lendOtherBookTo_55 : decode cX7_lendOtherBookTo 55 = .ok (.getfield 191, 3) := by decide +kernel
theorem dX7_lendOtherBookTo_58 : decode cX7_lendOtherBookTo 58 = .ok (.invokevirtual 194, 3) := by decide +kernel
theorem dX7_lendOtherBookTo_61 : decode cX7_lendOtherBookTo 61 = .ok (.ifCond .ne 13, 3) := by decide +kernel
theorem dX7_lendOtherBookTo_64 : decode cX7_lendOtherBookTo 64 = .ok (.aload_n 3, 1) := by decide +kernel
theorem dX7_lendOtherBookTo_65 : decode cX7_lendOtherBookTo 65 = .ok (.aload_n 1, 1) := by decide +kernel
theorem dX7_lendOtherBookTo_66 : decode cX7_lendOtherBookTo 66 = .ok (.aload_n 0, 1) := by decide +kernel
theorem dX7_lendOtherBookTo_67 : decode cX7_lendOtherBookTo 67 = .ok (.getfield 94, 3) := by decide +kernel
theorem dX7_lendOtherBookTo_70 : decode cX7_lendOtherBookTo 70 = .ok (.invokevirtual 180, 3) := by decide +kernel
theorem dX7_lendOtherBookTo_73 : decode cX7_lendOtherBookTo 73 = .ok (.return_, 1) := by decide +kernel
theorem dX7_lendOtherBookTo_74 : decode cX7_lendOtherBookTo 74 = .ok (.iinc 2 1, 3) := by decide +kernel
theorem dX7_lendOtherBookTo_77 : decode cX7_lendOtherBookTo 77 = .ok (.goto (-75), 3) := by decide +kernel
theorem dX7_lendOtherBookTo_80 : decode cX7_lendOtherBookTo 80 = .ok (.return_, 1) := by decide +kernel
theorem dX7_haltAnswer_0 : decode cX7_haltAnswer 0 = .ok (.iload_n 1, 1) := by decide +kernel
theorem dX7_haltAnswer_1 : decode cX7_haltAnswer 1 = .ok (.ifCond .lt 14, 3) := by decide +kernel
theorem dX7_haltAnswer_4 : decode cX7_haltAnswer 4 = .ok (.iload_n 1, 1) := by decide +kernel
theorem dX7_haltAnswer_5 : decode cX7_haltAnswer 5 = .ok (.aload_n 0, 1) := by decide +kernel
theorem dX7_haltAnswer_6 : decode cX7_haltAnswer 6 = .ok (.getfield 12, 3) := by decide +kernel
theorem dX7_haltAnswer_9 : decode cX7_haltAnswer 9 = .ok (.invokevirtual 45, 3) := by decide +kernel
theorem dX7_haltAnswer_12 : decode cX7_haltAnswer 12 = .ok (.if_icmp .lt 5, 3) := by decide +kernel
theorem dX7_haltAnswer_15 : decode cX7_haltAnswer 15 = .ok (.iconst (-1), 1) := by decide +kernel
theorem dX7_haltAnswer_16 : decode cX7_haltAnswer 16 = .ok (.ireturn, 1) := by decide +kernel
theorem dX7_haltAnswer_17 : decode cX7_haltAnswer 17 = .ok (.aload_n 0, 1) := by decide +kernel
theorem dX7_haltAnswer_18 : decode cX7_haltAnswer 18 = .ok (.getfield 12, 3) := by decide +kernel
theorem dX7_haltAnswer_21 : decode cX7_haltAnswer 21 = .ok (.iload_n 1, 1) := by decide +kernel
theorem dX7_haltAnswer_22 : decode cX7_haltAnswer 22 = .ok (.invokevirtual 58, 3) := by decide +kernel
theorem dX7_haltAnswer_25 : decode cX7_haltAnswer 25 = .ok (.checkcast 68, 3) := by decide +kernel
theorem dX7_haltAnswer_28 : decode cX7_haltAnswer 28 = .ok (.astore_n 3, 1) := by decide +kernel
theorem dX7_haltAnswer_29 : decode cX7_haltAnswer 29 = .ok (.iload_n 2, 1) := by decide +kernel
theorem dX7_haltAnswer_30 : decode cX7_haltAnswer 30 = .ok (.tableswitch 56 0 3 #[30, 36, 42, 51], 30) := by decide +kernel
theorem dX7_haltAnswer_60 : decode cX7_haltAnswer 60 = .ok (.aload_n 0, 1) := by decide +kernel
theorem dX7_haltAnswer_61 : decode cX7_haltAnswer 61 = .ok (.iload_n 1, 1) := by decide +kernel
theorem dX7_haltAnswer_62 : decode cX7_haltAnswer 62 = .ok (.invokevirtual 198, 3) := by decide +kernel
theorem dX7_haltAnswer_65 : decode cX7_haltAnswer 65 = .ok (.ireturn, 1) := by decide +kernel
theorem dX7_haltAnswer_66 : decode cX7_haltAnswer 66 = .ok (.aload_n 0, 1) := by decide +kernel
theorem dX7_haltAnswer_67 : decode cX7_haltAnswer 67 = .ok (.iload_n 1, 1) := by decide +kernel
theorem dX7_haltAnswer_68 : decode cX7_haltAnswer 68 = .ok (.invokevirtual 201, 3) := by decide +kernel
theorem dX7_haltAnswer_71 : decode cX7_haltAnswer 71 = .ok (.ireturn, 1) := by decide +kernel
theorem dX7_haltAnswer_72 : decode cX7_haltAnswer 72 = .ok (.aload_n 0, 1) := by decide +kernel
theorem dX7_haltAnswer_73 : decode cX7_haltAnswer 73 = .ok (.getfield 37, 3) := by decide +kernel
theorem dX7_haltAnswer_76 : decode cX7_haltAnswer 76 = .ok (.iload_n 1, 1) := by decide +kernel
theorem dX7_haltAnswer_77 : decode cX7_haltAnswer 77 = .ok (.invokevirtual 204, 3) := by decide +kernel
theorem dX7_haltAnswer_80 : decode cX7_haltAnswer 80 = .ok (.ireturn, 1) := by decide +kernel
theorem dX7_haltAnswer_81 : decode cX7_haltAnswer 81 = .ok (.aload_n 3, 1) := by decide +kernel
theorem dX7_haltAnswer_82 : decode cX7_haltAnswer 82 = .ok (.getfield 138, 3) := by decide +kernel
theorem dX7_haltAnswer_85 : decode cX7_haltAnswer 85 = .ok (.ireturn, 1) := by decide +kernel
theorem dX7_haltAnswer_86 : decode cX7_haltAnswer 86 = .ok (.aload_n 3, 1) := by decide +kernel
theorem dX7_haltAnswer_87 : decode cX7_haltAnswer 87 = .ok (.getfield 141, 3) := by decide +kernel
theorem dX7_haltAnswer_90 : decode cX7_haltAnswer 90 = .ok (.ireturn, 1) := by decide +kernel
theorem dX7_laneAnswer_0 : decode cX7_laneAnswer 0 = .ok (.iload_n 1, 1) := by decide +kernel
theorem dX7_laneAnswer_1 : decode cX7_laneAnswer 1 = .ok (.ifCond .lt 14, 3) := by decide +kernel
theorem dX7_laneAnswer_4 : decode cX7_laneAnswer 4 = .ok (.iload_n 1, 1) := by decide +kernel
theorem dX7_laneAnswer_5 : decode cX7_laneAnswer 5 = .ok (.aload_n 0, 1) := by decide +kernel
theorem dX7_laneAnswer_6 : decode cX7_laneAnswer 6 = .ok (.getfield 18, 3) := by decide +kernel
theorem dX7_laneAnswer_9 : decode cX7_laneAnswer 9 = .ok (.invokevirtual 45, 3) := by decide +kernel
theorem dX7_laneAnswer_12 : decode cX7_laneAnswer 12 = .ok (.if_icmp .lt 5, 3) := by decide +kernel
theorem dX7_laneAnswer_15 : decode cX7_laneAnswer 15 = .ok (.iconst (-1), 1) := by decide +kernel
theorem dX7_laneAnswer_16 : decode cX7_laneAnswer 16 = .ok (.ireturn, 1) := by decide +kernel
theorem dX7_laneAnswer_17 : decode cX7_laneAnswer 17 = .ok (.aload_n 0, 1) := by decide +kernel
theorem dX7_laneAnswer_18 : decode cX7_laneAnswer 18 = .ok (.getfield 18, 3) := by decide +kernel
theorem dX7_laneAnswer_21 : decode cX7_laneAnswer 21 = .ok (.iload_n 1, 1) := by decide +kernel
theorem dX7_laneAnswer_22 : decode cX7_laneAnswer 22 = .ok (.invokevirtual 58, 3) := by decide +kernel
theorem dX7_laneAnswer_25 : decode cX7_laneAnswer 25 = .ok (.checkcast 74, 3) := by decide +kernel
theorem dX7_laneAnswer_28 : decode cX7_laneAnswer 28 = .ok (.astore_n 3, 1) := by decide +kernel
theorem dX7_laneAnswer_29 : decode cX7_laneAnswer 29 = .ok (.iload_n 2, 1) := by decide +kernel
theorem dX7_laneAnswer_30 : decode cX7_laneAnswer 30 = .ok (.tableswitch 59 0 4 #[34, 39, 44, 49, 54], 34) := by decide +kernel
theorem dX7_laneAnswer_64 : decode cX7_laneAnswer 64 = .ok (.aload_n 3, 1) := by decide +kernel
theorem dX7_laneAnswer_65 : decode cX7_laneAnswer 65 = .ok (.getfield 207, 3) := by decide +kernel
theorem dX7_laneAnswer_68 : decode cX7_laneAnswer 68 = .ok (.ireturn, 1) := by decide +kernel
theorem dX7_laneAnswer_69 : decode cX7_laneAnswer 69 = .ok (.aload_n 3, 1) := by decide +kernel
theorem dX7_laneAnswer_70 : decode cX7_laneAnswer 70 = .ok (.getfield 210, 3) := by decide +kernel
theorem dX7_laneAnswer_73 : decode cX7_laneAnswer 73 = .ok (.ireturn, 1) := by decide +kernel
theorem dX7_laneAnswer_74 : decode cX7_laneAnswer 74 = .ok (.aload_n 3, 1) := by decide +kernel
theorem dX7_laneAnswer_75 : decode cX7_laneAnswer 75 = .ok (.getfield 213, 3) := by decide +kernel
theorem dX7_laneAnswer_78 : decode cX7_laneAnswer 78 = .ok (.ireturn, 1) := by decide +kernel
theorem dX7_laneAnswer_79 : decode cX7_laneAnswer 79 = .ok (.aload_n 3, 1) := by decide +kernel
theorem dX7_laneAnswer_80 : decode cX7_laneAnswer 80 = .ok (.getfield 216, 3) := by decide +kernel
theorem dX7_laneAnswer_83 : decode cX7_laneAnswer 83 = .ok (.ireturn, 1) := by decide +kernel
theorem dX7_laneAnswer_84 : decode cX7_laneAnswer 84 = .ok (.aload_n 3, 1) := by decide +kernel
theorem dX7_laneAnswer_85 : decode cX7_laneAnswer 85 = .ok (.getfield 219, 3) := by decide +kernel
theorem dX7_laneAnswer_88 : decode cX7_laneAnswer 88 = .ok (.ireturn, 1) := by decide +kernel
theorem dX7_laneAnswer_89 : decode cX7_laneAnswer 89 = .ok (.aload_n 3, 1) := by decide +kernel
theorem dX7_laneAnswer_90 : decode cX7_laneAnswer 90 = .ok (.invokevirtual 222, 3) := by decide +kernel
theorem dX7_laneAnswer_93 : decode cX7_laneAnswer 93 = .ok (.ifCond .eq 10, 3) := by decide +kernel
theorem dX7_laneAnswer_96 : decode cX7_laneAnswer 96 = .ok (.aload_n 3, 1) := by decide +kernel
theorem dX7_laneAnswer_97 : decode cX7_laneAnswer 97 = .ok (.invokevirtual 225, 3) := by decide +kernel
theorem dX7_laneAnswer_100 : decode cX7_laneAnswer 100 = .ok (.goto 4, 3) := by decide +kernel
theorem dX7_laneAnswer_103 : decode cX7_laneAnswer 103 = .ok (.iconst (-1), 1) := by decide +kernel
theorem dX7_laneAnswer_104 : decode cX7_laneAnswer 104 = .ok (.ireturn, 1) := by decide +kernel
theorem dX7_bookAnswer_0 : decode cX7_bookAnswer 0 = .ok (.iload_n 1, 1) := by decide +kernel
theorem dX7_bookAnswer_1 : decode cX7_bookAnswer 1 = .ok (.ifCond .lt 14, 3) := by decide +kernel
theorem dX7_bookAnswer_4 : decode cX7_bookAnswer 4 = .ok (.iload_n 1, 1) := by decide +kernel
theorem dX7_bookAnswer_5 : decode cX7_bookAnswer 5 = .ok (.aload_n 0, 1) := by decide +kernel
theorem dX7_bookAnswer_6 : decode cX7_bookAnswer 6 = .ok (.getfield 21, 3) := by decide +kernel
theorem dX7_bookAnswer_9 : decode cX7_bookAnswer 9 = .ok (.invokevirtual 45, 3) := by decide +kernel
theorem dX7_bookAnswer_12 : decode cX7_bookAnswer 12 = .ok (.if_icmp .lt 5, 3) := by decide +kernel
theorem dX7_bookAnswer_15 : decode cX7_bookAnswer 15 = .ok (.iconst (-1), 1) := by decide +kernel
theorem dX7_bookAnswer_16 : decode cX7_bookAnswer 16 = .ok (.ireturn, 1) := by decide +kernel
theorem dX7_bookAnswer_17 : decode cX7_bookAnswer 17 = .ok (.aload_n 0, 1) := by decide +kernel
theorem dX7_bookAnswer_18 : decode cX7_bookAnswer 18 = .ok (.getfield 21, 3) := by decide +kernel
theorem dX7_bookAnswer_21 : decode cX7_bookAnswer 21 = .ok (.iload_n 1, 1) := by decide +kernel
theorem dX7_bookAnswer_22 : decode cX7_bookAnswer 22 = .ok (.invokevirtual 58, 3) := by decide +kernel
theorem dX7_bookAnswer_25 : decode cX7_bookAnswer 25 = .ok (.checkcast 62, 3) := by decide +kernel
theorem dX7_bookAnswer_28 : decode cX7_bookAnswer 28 = .ok (.astore_n 3, 1) := by decide +kernel
theorem dX7_bookAnswer_29 : decode cX7_bookAnswer 29 = .ok (.iload_n 2, 1) := by decide +kernel
theorem dX7_bookAnswer_30 : decode cX7_bookAnswer 30 = .ok (.tableswitch 74 0 5 #[38, 43, 48, 53, 61, 69], 38) := by decide +kernel
theorem dX7_bookAnswer_68 : decode cX7_bookAnswer 68 = .ok (.aload_n 3, 1) := by decide +kernel
theorem dX7_bookAnswer_69 : decode cX7_bookAnswer 69 = .ok (.getfield 186, 3) := by decide +kernel
theorem dX7_bookAnswer_72 : decode cX7_bookAnswer 72 = .ok (.ireturn, 1) := by decide +kernel
theorem dX7_bookAnswer_73 : decode cX7_bookAnswer 73 = .ok (.aload_n 3, 1) := by decide +kernel
theorem dX7_bookAnswer_74 : decode cX7_bookAnswer 74 = .ok (.getfield 64, 3) := by decide +kernel
theorem dX7_bookAnswer_77 : decode cX7_bookAnswer 77 = .ok (.ireturn, 1) := by decide +kernel
theorem dX7_bookAnswer_78 : decode cX7_bookAnswer 78 = .ok (.aload_n 3, 1) := by decide +kernel
theorem dX7_bookAnswer_79 : decode cX7_bookAnswer 79 = .ok (.getfield 151, 3) := by decide +kernel
theorem dX7_bookAnswer_82 : decode cX7_bookAnswer 82 = .ok (.ireturn, 1) := by decide +kernel
theorem dX7_bookAnswer_83 : decode cX7_bookAnswer 83 = .ok (.aload_n 3, 1) := by decide +kernel
theorem dX7_bookAnswer_84 : decode cX7_bookAnswer 84 = .ok (.getfield 165, 3) := by decide +kernel
theorem dX7_bookAnswer_87 : decode cX7_bookAnswer 87 = .ok (.invokevirtual 190, 3) := by decide +kernel
theorem dX7_bookAnswer_90 : decode cX7_bookAnswer 90 = .ok (.ireturn, 1) := by decide +kernel
theorem dX7_bookAnswer_91 : decode cX7_bookAnswer 91 = .ok (.aload_n 3, 1) := by decide +kernel
theorem dX7_bookAnswer_92 : decode cX7_bookAnswer 92 = .ok (.getfield 165, 3) := by decide +kernel
theorem dX7_bookAnswer_95 : decode cX7_bookAnswer 95 = .ok (.invokevirtual 169, 3) := by decide +kernel
theorem dX7_bookAnswer_98 : decode cX7_bookAnswer 98 = .ok (.ireturn, 1) := by decide +kernel
theorem dX7_bookAnswer_99 : decode cX7_bookAnswer 99 = .ok (.aload_n 3, 1) := by decide +kernel
theorem dX7_bookAnswer_100 : decode cX7_bookAnswer 100 = .ok (.getfield 227, 3) := by decide +kernel
theorem dX7_bookAnswer_103 : decode cX7_bookAnswer 103 = .ok (.ireturn, 1) := by decide +kernel
theorem dX7_bookAnswer_104 : decode cX7_bookAnswer 104 = .ok (.aload_n 0, 1) := by decide +kernel
theorem dX7_bookAnswer_105 : decode cX7_bookAnswer 105 = .ok (.iload_n 1, 1) := by decide +kernel
theorem dX7_bookAnswer_106 : decode cX7_bookAnswer 106 = .ok (.invokevirtual 230, 3) := by decide +kernel
theorem dX7_bookAnswer_109 : decode cX7_bookAnswer 109 = .ok (.ireturn, 1) := by decide +kernel
theorem dX7_readerAnswer_0 : decode cX7_readerAnswer 0 = .ok (.iload_n 1, 1) := by decide +kernel
theorem dX7_readerAnswer_1 : decode cX7_readerAnswer 1 = .ok (.ifCond .lt 14, 3) := by decide +kernel
theorem dX7_readerAnswer_4 : decode cX7_readerAnswer 4 = .ok (.iload_n 1, 1) := by decide +kernel
theorem dX7_readerAnswer_5 : decode cX7_readerAnswer 5 = .ok (.aload_n 0, 1) := by decide +kernel
theorem dX7_readerAnswer_6 : decode cX7_readerAnswer 6 = .ok (.getfield 24, 3) := by decide +kernel
theorem dX7_readerAnswer_9 : decode cX7_readerAnswer 9 = .ok (.invokevirtual 45, 3) := by decide +kernel
theorem dX7_readerAnswer_12 : decode cX7_readerAnswer 12 = .ok (.if_icmp .lt 5, 3) := by decide +kernel
theorem dX7_readerAnswer_15 : decode cX7_readerAnswer 15 = .ok (.iconst (-1), 1) := by decide +kernel
theorem dX7_readerAnswer_16 : decode cX7_readerAnswer 16 = .ok (.ireturn, 1) := by decide +kernel
theorem dX7_readerAnswer_17 : decode cX7_readerAnswer 17 = .ok (.aload_n 0, 1) := by decide +kernel
theorem dX7_readerAnswer_18 : decode cX7_readerAnswer 18 = .ok (.getfield 24, 3) := by decide +kernel
theorem dX7_readerAnswer_21 : decode cX7_readerAnswer 21 = .ok (.iload_n 1, 1) := by decide +kernel
theorem dX7_readerAnswer_22 : decode cX7_readerAnswer 22 = .ok (.invokevirtual 58, 3) := by decide +kernel
theorem dX7_readerAnswer_25 : decode cX7_readerAnswer 25 = .ok (.checkcast 82, 3) := by decide +kernel
theorem dX7_readerAnswer_28 : decode cX7_readerAnswer 28 = .ok (.astore_n 3, 1) := by decide +kernel
theorem dX7_readerAnswer_29 : decode cX7_readerAnswer 29 = .ok (.iload_n 2, 1) := by decide +kernel
theorem dX7_readerAnswer_30 : decode cX7_readerAnswer 30 = .ok (.tableswitch 81 0 6 #[42, 47, 52, 57, 62, 70, 75], 42) := by decide +kernel
theorem dX7_readerAnswer_72 : decode cX7_readerAnswer 72 = .ok (.aload_n 3, 1) := by decide +kernel
theorem dX7_readerAnswer_73 : decode cX7_readerAnswer 73 = .ok (.getfield 148, 3) := by decide +kernel
theorem dX7_readerAnswer_76 : decode cX7_readerAnswer 76 = .ok (.ireturn, 1) := by decide +kernel
theorem dX7_readerAnswer_77 : decode cX7_readerAnswer 77 = .ok (.aload_n 3, 1) := by decide +kernel
theorem dX7_readerAnswer_78 : decode cX7_readerAnswer 78 = .ok (.getfield 189, 3) := by decide +kernel
theorem dX7_readerAnswer_81 : decode cX7_readerAnswer 81 = .ok (.ireturn, 1) := by decide +kernel
theorem dX7_readerAnswer_82 : decode cX7_readerAnswer 82 = .ok (.aload_n 3, 1) := by decide +kernel
theorem dX7_readerAnswer_83 : decode cX7_readerAnswer 83 = .ok (.getfield 154, 3) := by decide +kernel
theorem dX7_readerAnswer_86 : decode cX7_readerAnswer 86 = .ok (.ireturn, 1) := by decide +kernel
theorem dX7_readerAnswer_87 : decode cX7_readerAnswer 87 = .ok (.aload_n 3, 1) := by decide +kernel
theorem dX7_readerAnswer_88 : decode cX7_readerAnswer 88 = .ok (.getfield 233, 3) := by decide +kernel
theorem dX7_readerAnswer_91 : decode cX7_readerAnswer 91 = .ok (.ireturn, 1) := by decide +kernel
theorem dX7_readerAnswer_92 : decode cX7_readerAnswer 92 = .ok (.aload_n 3, 1) := by decide +kernel
theorem dX7_readerAnswer_93 : decode cX7_readerAnswer 93 = .ok (.getfield 236, 3) := by decide +kernel
theorem dX7_readerAnswer_96 : decode cX7_readerAnswer 96 = .ok (.invokestatic 239, 3) := by decide +kernel
theorem dX7_readerAnswer_99 : decode cX7_readerAnswer 99 = .ok (.ireturn, 1) := by decide +kernel
theorem dX7_readerAnswer_100 : decode cX7_readerAnswer 100 = .ok (.aload_n 3, 1) := by decide +kernel
theorem dX7_readerAnswer_101 : decode cX7_readerAnswer 101 = .ok (.getfield 244, 3) := by decide +kernel
theorem dX7_readerAnswer_104 : decode cX7_readerAnswer 104 = .ok (.ireturn, 1) := by decide +kernel
theorem dX7_readerAnswer_105 : decode cX7_readerAnswer 105 = .ok (.aload_n 0, 1) := by decide +kernel
theorem dX7_readerAnswer_106 : decode cX7_readerAnswer 106 = .ok (.iload_n 1, 1) := by decide +kernel
theorem dX7_readerAnswer_107 : decode cX7_readerAnswer 107 = .ok (.invokevirtual 247, 3) := by decide +kernel
theorem dX7_readerAnswer_110 : decode cX7_readerAnswer 110 = .ok (.ireturn, 1) := by decide +kernel
theorem dX7_readerAnswer_111 : decode cX7_readerAnswer 111 = .ok (.aload_n 3, 1) := by decide +kernel
theorem dX7_readerAnswer_112 : decode cX7_readerAnswer 112 = .ok (.getfield 250, 3) := by decide +kernel
theorem dX7_readerAnswer_115 : decode cX7_readerAnswer 115 = .ok (.ireturn, 1) := by decide +kernel
theorem dX7_countAnswer_0 : decode cX7_countAnswer 0 = .ok (.iload_n 1, 1) := by decide +kernel
theorem dX7_countAnswer_1 : decode cX7_countAnswer 1 = .ok (.tableswitch 108 0 8 #[51, 56, 64, 72, 80, 88, 93, 98, 103], 51) := by decide +kernel
theorem dX7_countAnswer_52 : decode cX7_countAnswer 52 = .ok (.aload_n 0, 1) := by decide +kernel
theorem dX7_countAnswer_53 : decode cX7_countAnswer 53 = .ok (.getfield 94, 3) := by decide +kernel
theorem dX7_countAnswer_56 : decode cX7_countAnswer 56 = .ok (.ireturn, 1) := by decide +kernel
theorem dX7_countAnswer_57 : decode cX7_countAnswer 57 = .ok (.aload_n 0, 1) := by decide +kernel
theorem dX7_countAnswer_58 : decode cX7_countAnswer 58 = .ok (.getfield 12, 3) := by decide +kernel
theorem dX7_countAnswer_61 : decode cX7_countAnswer 61 = .ok (.invokevirtual 45, 3) := by decide +kernel
theorem dX7_countAnswer_64 : decode cX7_countAnswer 64 = .ok (.ireturn, 1) := by decide +kernel
theorem dX7_countAnswer_65 : decode cX7_countAnswer 65 = .ok (.aload_n 0, 1) := by decide +kernel
theorem dX7_countAnswer_66 : decode cX7_countAnswer 66 = .ok (.getfield 18, 3) := by decide +kernel
theorem dX7_countAnswer_69 : decode cX7_countAnswer 69 = .ok (.invokevirtual 45, 3) := by decide +kernel
theorem dX7_countAnswer_72 : decode cX7_countAnswer 72 = .ok (.ireturn, 1) := by decide +kernel
theorem dX7_countAnswer_73 : decode cX7_countAnswer 73 = .ok (.aload_n 0, 1) := by decide +kernel
theorem dX7_countAnswer_74 : decode cX7_countAnswer 74 = .ok (.getfield 21, 3) := by decide +kernel
theorem dX7_countAnswer_77 : decode cX7_countAnswer 77 = .ok (.invokevirtual 45, 3) := by decide +kernel
theorem dX7_countAnswer_80 : decode cX7_countAnswer 80 = .ok (.ireturn, 1) := by decide +kernel
theorem dX7_countAnswer_81 : decode cX7_countAnswer 81 = .ok (.aload_n 0, 1) := by decide +kernel
theorem dX7_countAnswer_82 : decode cX7_countAnswer 82 = .ok (.getfield 24, 3) := by decide +kernel
theorem dX7_countAnswer_85 : decode cX7_countAnswer 85 = .ok (.invokevirtual 45, 3) := by decide +kernel
theorem dX7_countAnswer_88 : decode cX7_countAnswer 88 = .ok (.ireturn, 1) := by decide +kernel
theorem dX7_countAnswer_89 : decode cX7_countAnswer 89 = .ok (.aload_n 0, 1) := by decide +kernel
theorem dX7_countAnswer_90 : decode cX7_countAnswer 90 = .ok (.invokevirtual 251, 3) := by decide +kernel
theorem dX7_countAnswer_93 : decode cX7_countAnswer 93 = .ok (.ireturn, 1) := by decide +kernel
theorem dX7_countAnswer_94 : decode cX7_countAnswer 94 = .ok (.aload_n 0, 1) := by decide +kernel
theorem dX7_countAnswer_95 : decode cX7_countAnswer 95 = .ok (.invokevirtual 254, 3) := by decide +kernel
theorem dX7_countAnswer_98 : decode cX7_countAnswer 98 = .ok (.ireturn, 1) := by decide +kernel
theorem dX7_countAnswer_99 : decode cX7_countAnswer 99 = .ok (.aload_n 0, 1) := by decide +kernel
theorem dX7_countAnswer_100 : decode cX7_countAnswer 100 = .ok (.invokevirtual 257, 3) := by decide +kernel
theorem dX7_countAnswer_103 : decode cX7_countAnswer 103 = .ok (.ireturn, 1) := by decide +kernel
theorem dX7_countAnswer_104 : decode cX7_countAnswer 104 = .ok (.aload_n 0, 1) := by decide +kernel
theorem dX7_countAnswer_105 : decode cX7_countAnswer 105 = .ok (.invokevirtual 260, 3) := by decide +kernel
theorem dX7_countAnswer_108 : decode cX7_countAnswer 108 = .ok (.ireturn, 1) := by decide +kernel
theorem dX7_countAnswer_109 : decode cX7_countAnswer 109 = .ok (.aload_n 0, 1) := by decide +kernel
theorem dX7_countAnswer_110 : decode cX7_countAnswer 110 = .ok (.getfield 97, 3) := by decide +kernel
theorem dX7_countAnswer_113 : decode cX7_countAnswer 113 = .ok (.ireturn, 1) := by decide +kernel
theorem dX7_readersAt_0 : decode cX7_readersAt 0 = .ok (.iconst 0, 1) := by decide +kernel
theorem dX7_readersAt_1 : decode cX7_readersAt 1 = .ok (.istore_n 2, 1) := by decide +kernel
theorem dX7_readersAt_2 : decode cX7_readersAt 2 = .ok (.iconst 0, 1) := by decide +kernel
theorem dX7_readersAt_3 : decode cX7_readersAt 3 = .ok (.istore_n 3, 1) := by decide +kernel
theorem dX7_readersAt_4 : decode cX7_readersAt 4 = .ok (.iload_n 3, 1) := by decide +kernel
theorem dX7_readersAt_5 : decode cX7_readersAt 5 = .ok (.aload_n 0, 1) := by decide +kernel
theorem dX7_readersAt_6 : decode cX7_readersAt 6 = .ok (.getfield 24, 3) := by decide +kernel
theorem dX7_readersAt_9 : decode cX7_readersAt 9 = .ok (.invokevirtual 45, 3) := by decide +kernel
theorem dX7_readersAt_12 : decode cX7_readersAt 12 = .ok (.if_icmp .ge 30, 3) := by decide +kernel
theorem dX7_readersAt_15 : decode cX7_readersAt 15 = .ok (.aload_n 0, 1) := by decide +kernel
theorem dX7_readersAt_16 : decode cX7_readersAt 16 = .ok (.getfield 24, 3) := by decide +kernel
theorem dX7_readersAt_19 : decode cX7_readersAt 19 = .ok (.iload_n 3, 1) := by decide +kernel
theorem dX7_readersAt_20 : decode cX7_readersAt 20 = .ok (.invokevirtual 58, 3) := by decide +kernel
theorem dX7_readersAt_23 : decode cX7_readersAt 23 = .ok (.checkcast 82, 3) := by decide +kernel
theorem dX7_readersAt_26 : decode cX7_readersAt 26 = .ok (.getfield 148, 3) := by decide +kernel
theorem dX7_readersAt_29 : decode cX7_readersAt 29 = .ok (.iload_n 1, 1) := by decide +kernel
theorem dX7_readersAt_30 : decode cX7_readersAt 30 = .ok (.if_icmp .ne 6, 3) := by decide +kernel
theorem dX7_readersAt_33 : decode cX7_readersAt 33 = .ok (.iinc 2 1, 3) := by decide +kernel
theorem dX7_readersAt_36 : decode cX7_readersAt 36 = .ok (.iinc 3 1, 3) := by decide +kernel
theorem dX7_readersAt_39 : decode cX7_readersAt 39 = .ok (.goto (-35), 3) := by decide +kernel
theorem dX7_readersAt_42 : decode cX7_readersAt 42 = .ok (.iload_n 2, 1) := by decide +kernel
theorem dX7_readersAt_43 : decode cX7_readersAt 43 = .ok (.ireturn, 1) := by decide +kernel
theorem dX7_lanesAt_0 : decode cX7_lanesAt 0 = .ok (.iconst 0, 1) := by decide +kernel
theorem dX7_lanesAt_1 : decode cX7_lanesAt 1 = .ok (.istore_n 2, 1) := by decide +kernel
theorem dX7_lanesAt_2 : decode cX7_lanesAt 2 = .ok (.iconst 0, 1) := by decide +kernel
theorem dX7_lanesAt_3 : decode cX7_lanesAt 3 = .ok (.istore_n 3, 1) := by decide +kernel
theorem dX7_lanesAt_4 : decode cX7_lanesAt 4 = .ok (.iload_n 3, 1) := by decide +kernel
theorem dX7_lanesAt_5 : decode cX7_lanesAt 5 = .ok (.aload_n 0, 1) := by decide +kernel
theorem dX7_lanesAt_6 : decode cX7_lanesAt 6 = .ok (.getfield 18, 3) := by decide +kernel
theorem dX7_lanesAt_9 : decode cX7_lanesAt 9 = .ok (.invokevirtual 45, 3) := by decide +kernel
theorem dX7_lanesAt_12 : decode cX7_lanesAt 12 = .ok (.if_icmp .ge 43, 3) := by decide +kernel
theorem dX7_lanesAt_15 : decode cX7_lanesAt 15 = .ok (.aload_n 0, 1) := by decide +kernel
theorem dX7_lanesAt_16 : decode cX7_lanesAt 16 = .ok (.getfield 18, 3) := by decide +kernel
theorem dX7_lanesAt_19 : decode cX7_lanesAt 19 = .ok (.iload_n 3, 1) := by decide +kernel
theorem dX7_lanesAt_20 : decode cX7_lanesAt 20 = .ok (.invokevirtual 58, 3) := by decide +kernel
theorem dX7_lanesAt_23 : decode cX7_lanesAt 23 = .ok (.checkcast 74, 3) := by decide +kernel
theorem dX7_lanesAt_26 : decode cX7_lanesAt 26 = .ok (.astore 4, 2) := by decide +kernel
theorem dX7_lanesAt_28 : decode cX7_lanesAt 28 = .ok (.aload 4, 2) := by decide +kernel
theorem dX7_lanesAt_30 : decode cX7_lanesAt 30 = .ok (.getfield 207, 3) := by decide +kernel
theorem dX7_lanesAt_33 : decode cX7_lanesAt 33 = .ok (.iload_n 1, 1) := by decide +kernel
theorem dX7_lanesAt_34 : decode cX7_lanesAt 34 = .ok (.if_icmp .eq 12, 3) := by decide +kernel
theorem dX7_lanesAt_37 : decode cX7_lanesAt 37 = .ok (.aload 4, 2) := by decide +kernel
theorem dX7_lanesAt_39 : decode cX7_lanesAt 39 = .ok (.getfield 210, 3) := by decide +kernel
theorem dX7_lanesAt_42 : decode cX7_lanesAt 42 = .ok (.iload_n 1, 1) := by decide +kernel
theorem dX7_lanesAt_43 : decode cX7_lanesAt 43 = .ok (.if_icmp .ne 6, 3) := by decide +kernel
theorem dX7_lanesAt_46 : decode cX7_lanesAt 46 = .ok (.iinc 2 1, 3) := by decide +kernel
theorem dX7_lanesAt_49 : decode cX7_lanesAt 49 = .ok (.iinc 3 1, 3) := by decide +kernel
theorem dX7_lanesAt_52 : decode cX7_lanesAt 52 = .ok (.goto (-48), 3) := by decide +kernel
theorem dX7_lanesAt_55 : decode cX7_lanesAt 55 = .ok (.iload_n 2, 1) := by decide +kernel
theorem dX7_lanesAt_56 : decode cX7_lanesAt 56 = .ok (.ireturn, 1) := by decide +kernel
theorem dX7_readersWhoRead_0 : decode cX7_readersWhoRead 0 = .ok (.iconst 0, 1) := by decide +kernel
theorem dX7_readersWhoRead_1 : decode cX7_readersWhoRead 1 = .ok (.istore_n 2, 1) := by decide +kernel
theorem dX7_readersWhoRead_2 : decode cX7_readersWhoRead 2 = .ok (.iconst 0, 1) := by decide +kernel
theorem dX7_readersWhoRead_3 : decode cX7_readersWhoRead 3 = .ok (.istore_n 3, 1) := by decide +kernel
theorem dX7_readersWhoRead_4 : decode cX7_readersWhoRead 4 = .ok (.iload_n 3, 1) := by decide +kernel
theorem dX7_readersWhoRead_5 : decode cX7_readersWhoRead 5 = .ok (.aload_n 0, 1) := by decide +kernel
theorem dX7_readersWhoRead_6 : decode cX7_readersWhoRead 6 = .ok (.getfield 24, 3) := by decide +kernel
theorem dX7_readersWhoRead_9 : decode cX7_readersWhoRead 9 = .ok (.invokevirtual 45, 3) := by decide +kernel
theorem dX7_readersWhoRead_12 : decode cX7_readersWhoRead 12 = .ok (.if_icmp .ge 30, 3) := by decide +kernel
theorem dX7_readersWhoRead_15 : decode cX7_readersWhoRead 15 = .ok (.aload_n 0, 1) := by decide +kernel
theorem dX7_readersWhoRead_16 : decode cX7_readersWhoRead 16 = .ok (.getfield 24, 3) := by decide +kernel
theorem dX7_readersWhoRead_19 : decode cX7_readersWhoRead 19 = .ok (.iload_n 3, 1) := by decide +kernel
theorem dX7_readersWhoRead_20 : decode cX7_readersWhoRead 20 = .ok (.invokevirtual 58, 3) := by decide +kernel
theorem dX7_readersWhoRead_23 : decode cX7_readersWhoRead 23 = .ok (.checkcast 82, 3) := by decide +kernel
theorem dX7_readersWhoRead_26 : decode cX7_readersWhoRead 26 = .ok (.iload_n 1, 1) := by decide +kernel
theorem dX7_readersWhoRead_27 : decode cX7_readersWhoRead 27 = .ok (.invokevirtual 194, 3) := by decide +kernel
theorem dX7_readersWhoRead_30 : decode cX7_readersWhoRead 30 = .ok (.ifCond .eq 6, 3) := by decide +kernel
theorem dX7_readersWhoRead_33 : decode cX7_readersWhoRead 33 = .ok (.iinc 2 1, 3) := by decide +kernel
theorem dX7_readersWhoRead_36 : decode cX7_readersWhoRead 36 = .ok (.iinc 3 1, 3) := by decide +kernel
theorem dX7_readersWhoRead_39 : decode cX7_readersWhoRead 39 = .ok (.goto (-35), 3) := by decide +kernel
theorem dX7_readersWhoRead_42 : decode cX7_readersWhoRead 42 = .ok (.iload_n 2, 1) := by decide +kernel
theorem dX7_readersWhoRead_43 : decode cX7_readersWhoRead 43 = .ok (.ireturn, 1) := by decide +kernel
theorem dX7_booksReservedBy_0 : decode cX7_booksReservedBy 0 = .ok (.iconst 0, 1) := by decide +kernel
theorem dX7_booksReservedBy_1 : decode cX7_booksReservedBy 1 = .ok (.istore_n 2, 1) := by decide +kernel
theorem dX7_booksReservedBy_2 : decode cX7_booksReservedBy 2 = .ok (.iconst 0, 1) := by decide +kernel
theorem dX7_booksReservedBy_3 : decode cX7_booksReservedBy 3 = .ok (.istore_n 3, 1) := by decide +kernel
theorem dX7_booksReservedBy_4 : decode cX7_booksReservedBy 4 = .ok (.iload_n 3, 1) := by decide +kernel
theorem dX7_booksReservedBy_5 : decode cX7_booksReservedBy 5 = .ok (.aload_n 0, 1) := by decide +kernel
theorem dX7_booksReservedBy_6 : decode cX7_booksReservedBy 6 = .ok (.getfield 21, 3) := by decide +kernel
theorem dX7_booksReservedBy_9 : decode cX7_booksReservedBy 9 = .ok (.invokevirtual 45, 3) := by decide +kernel
theorem dX7_booksReservedBy_12 : decode cX7_booksReservedBy 12 = .ok (.if_icmp .ge 34, 3) := by decide +kernel
theorem dX7_booksReservedBy_15 : decode cX7_booksReservedBy 15 = .ok (.aload_n 0, 1) := by decide +kernel
theorem dX7_booksReservedBy_16 : decode cX7_booksReservedBy 16 = .ok (.getfield 21, 3) := by decide +kernel
theorem dX7_booksReservedBy_19 : decode cX7_booksReservedBy 19 = .ok (.iload_n 3, 1) := by decide +kernel
theorem dX7_booksReservedBy_20 : decode cX7_booksReservedBy 20 = .ok (.invokevirtual 58, 3) := by decide +kernel
theorem dX7_booksReservedBy_23 : decode cX7_booksReservedBy 23 = .ok (.checkcast 62, 3) := by decide +kernel
theorem dX7_booksReservedBy_26 : decode cX7_booksReservedBy 26 = .ok (.getfield 165, 3) := by decide +kernel
theorem dX7_booksReservedBy_29 : decode cX7_booksReservedBy 29 = .ok (.iload_n 1, 1) := by decide +kernel
theorem dX7_booksReservedBy_30 : decode cX7_booksReservedBy 30 = .ok (.invokevirtual 263, 3) := by decide +kernel
theorem dX7_booksReservedBy_33 : decode cX7_booksReservedBy 33 = .ok (.iconst (-1), 1) := by decide +kernel
theorem dX7_booksReservedBy_34 : decode cX7_booksReservedBy 34 = .ok (.if_icmp .eq 6, 3) := by decide +kernel
theorem dX7_booksReservedBy_37 : decode cX7_booksReservedBy 37 = .ok (.iinc 2 1, 3) := by decide +kernel
theorem dX7_booksReservedBy_40 : decode cX7_booksReservedBy 40 = .ok (.iinc 3 1, 3) := by decide +kernel
theorem dX7_booksReservedBy_43 : decode cX7_booksReservedBy 43 = .ok (.goto (-39), 3) := by decide +kernel
theorem dX7_booksReservedBy_46 : decode cX7_booksReservedBy 46 = .ok (.iload_n 2, 1) := by decide +kernel
theorem dX7_booksReservedBy_47 : decode cX7_booksReservedBy 47 = .ok (.ireturn, 1) := by decide +kernel
theorem dX7_booksOnVan_0 : decode cX7_booksOnVan 0 = .ok (.iconst 0, 1) := by decide +kernel
theorem dX7_booksOnVan_1 : decode cX7_booksOnVan 1 = .ok (.istore_n 1, 1) := by decide +kernel
theorem dX7_booksOnVan_2 : decode cX7_booksOnVan 2 = .ok (.iconst 0, 1) := by decide +kernel
theorem dX7_booksOnVan_3 : decode cX7_booksOnVan 3 = .ok (.istore_n 2, 1) := by decide +kernel
theorem dX7_booksOnVan_4 : decode cX7_booksOnVan 4 = .ok (.iload_n 2, 1) := by decide +kernel
theorem dX7_booksOnVan_5 : decode cX7_booksOnVan 5 = .ok (.aload_n 0, 1) := by decide +kernel
theorem dX7_booksOnVan_6 : decode cX7_booksOnVan 6 = .ok (.getfield 21, 3) := by decide +kernel
theorem dX7_booksOnVan_9 : decode cX7_booksOnVan 9 = .ok (.invokevirtual 45, 3) := by decide +kernel
theorem dX7_booksOnVan_12 : decode cX7_booksOnVan 12 = .ok (.if_icmp .ge 29, 3) := by decide +kernel
theorem dX7_booksOnVan_15 : decode cX7_booksOnVan 15 = .ok (.aload_n 0, 1) := by decide +kernel
theorem dX7_booksOnVan_16 : decode cX7_booksOnVan 16 = .ok (.getfield 21, 3) := by decide +kernel
theorem dX7_booksOnVan_19 : decode cX7_booksOnVan 19 = .ok (.iload_n 2, 1) := by decide +kernel
theorem dX7_booksOnVan_20 : decode cX7_booksOnVan 20 = .ok (.invokevirtual 58, 3) := by decide +kernel
theorem dX7_booksOnVan_23 : decode cX7_booksOnVan 23 = .ok (.checkcast 62, 3) := by decide +kernel
theorem dX7_booksOnVan_26 : decode cX7_booksOnVan 26 = .ok (.invokevirtual 161, 3) := by decide +kernel
theorem dX7_booksOnVan_29 : decode cX7_booksOnVan 29 = .ok (.ifCond .eq 6, 3) := by decide +kernel
theorem dX7_booksOnVan_32 : decode cX7_booksOnVan 32 = .ok (.iinc 1 1, 3) := by decide +kernel
theorem dX7_booksOnVan_35 : decode cX7_booksOnVan 35 = .ok (.iinc 2 1, 3) := by decide +kernel
theorem dX7_booksOnVan_38 : decode cX7_booksOnVan 38 = .ok (.goto (-34), 3) := by decide +kernel
theorem dX7_booksOnVan_41 : decode cX7_booksOnVan 41 = .ok (.iload_n 1, 1) := by decide +kernel
theorem dX7_booksOnVan_42 : decode cX7_booksOnVan 42 = .ok (.ireturn, 1) := by decide +kernel
theorem dX7_loansOfAll_0 : decode cX7_loansOfAll 0 = .ok (.iconst 0, 1) := by decide +kernel
theorem dX7_loansOfAll_1 : decode cX7_loansOfAll 1 = .ok (.istore_n 1, 1) := by decide +kernel
theorem dX7_loansOfAll_2 : decode cX7_loansOfAll 2 = .ok (.iconst 0, 1) := by decide +kernel
theorem dX7_loansOfAll_3 : decode cX7_loansOfAll 3 = .ok (.istore_n 2, 1) := by decide +kernel
theorem dX7_loansOfAll_4 : decode cX7_loansOfAll 4 = .ok (.iload_n 2, 1) := by decide +kernel
theorem dX7_loansOfAll_5 : decode cX7_loansOfAll 5 = .ok (.aload_n 0, 1) := by decide +kernel
theorem dX7_loansOfAll_6 : decode cX7_loansOfAll 6 = .ok (.getfield 21, 3) := by decide +kernel
theorem dX7_loansOfAll_9 : decode cX7_loansOfAll 9 = .ok (.invokevirtual 45, 3) := by decide +kernel
theorem dX7_loansOfAll_12 : decode cX7_loansOfAll 12 = .ok (.if_icmp .ge 26, 3) := by decide +kernel
theorem dX7_loansOfAll_15 : decode cX7_loansOfAll 15 = .ok (.iload_n 1, 1) := by decide +kernel
theorem dX7_loansOfAll_16 : decode cX7_loansOfAll 16 = .ok (.aload_n 0, 1) := by decide +kernel
theorem dX7_loansOfAll_17 : decode cX7_loansOfAll 17 = .ok (.getfield 21, 3) := by decide +kernel
theorem dX7_loansOfAll_20 : decode cX7_loansOfAll 20 = .ok (.iload_n 2, 1) := by decide +kernel
theorem dX7_loansOfAll_21 : decode cX7_loansOfAll 21 = .ok (.invokevirtual 58, 3) := by decide +kernel
theorem dX7_loansOfAll_24 : decode cX7_loansOfAll 24 = .ok (.checkcast 62, 3) := by decide +kernel
theorem dX7_loansOfAll_27 : decode cX7_loansOfAll 27 = .ok (.getfield 227, 3) := by decide +kernel
theorem dX7_loansOfAll_30 : decode cX7_loansOfAll 30 = .ok (.iadd, 1) := by decide +kernel
theorem dX7_loansOfAll_31 : decode cX7_loansOfAll 31 = .ok (.istore_n 1, 1) := by decide +kernel
theorem dX7_loansOfAll_32 : decode cX7_loansOfAll 32 = .ok (.iinc 2 1, 3) := by decide +kernel
theorem dX7_loansOfAll_35 : decode cX7_loansOfAll 35 = .ok (.goto (-31), 3) := by decide +kernel
theorem dX7_loansOfAll_38 : decode cX7_loansOfAll 38 = .ok (.iload_n 1, 1) := by decide +kernel
theorem dX7_loansOfAll_39 : decode cX7_loansOfAll 39 = .ok (.ireturn, 1) := by decide +kernel
theorem dX7_missesOfAll_0 : decode cX7_missesOfAll 0 = .ok (.iconst 0, 1) := by decide +kernel
theorem dX7_missesOfAll_1 : decode cX7_missesOfAll 1 = .ok (.istore_n 1, 1) := by decide +kernel
theorem dX7_missesOfAll_2 : decode cX7_missesOfAll 2 = .ok (.iconst 0, 1) := by decide +kernel
theorem dX7_missesOfAll_3 : decode cX7_missesOfAll 3 = .ok (.istore_n 2, 1) := by decide +kernel
theorem dX7_missesOfAll_4 : decode cX7_missesOfAll 4 = .ok (.iload_n 2, 1) := by decide +kernel
theorem dX7_missesOfAll_5 : decode cX7_missesOfAll 5 = .ok (.aload_n 0, 1) := by decide +kernel
theorem dX7_missesOfAll_6 : decode cX7_missesOfAll 6 = .ok (.getfield 12, 3) := by decide +kernel
theorem dX7_missesOfAll_9 : decode cX7_missesOfAll 9 = .ok (.invokevirtual 45, 3) := by decide +kernel
theorem dX7_missesOfAll_12 : decode cX7_missesOfAll 12 = .ok (.if_icmp .ge 26, 3) := by decide +kernel
theorem dX7_missesOfAll_15 : decode cX7_missesOfAll 15 = .ok (.iload_n 1, 1) := by decide +kernel
theorem dX7_missesOfAll_16 : decode cX7_missesOfAll 16 = .ok (.aload_n 0, 1) := by decide +kernel
theorem dX7_missesOfAll_17 : decode cX7_missesOfAll 17 = .ok (.getfield 12, 3) := by decide +kernel
theorem dX7_missesOfAll_20 : decode cX7_missesOfAll 20 = .ok (.iload_n 2, 1) := by decide +kernel
theorem dX7_missesOfAll_21 : decode cX7_missesOfAll 21 = .ok (.invokevirtual 58, 3) := by decide +kernel
theorem dX7_missesOfAll_24 : decode cX7_missesOfAll 24 = .ok (.checkcast 68, 3) := by decide +kernel
theorem dX7_missesOfAll_27 : decode cX7_missesOfAll 27 = .ok (.getfield 141, 3) := by decide +kernel
theorem dX7_missesOfAll_30 : decode cX7_missesOfAll 30 = .ok (.iadd, 1) := by decide +kernel
theorem dX7_missesOfAll_31 : decode cX7_missesOfAll 31 = .ok (.istore_n 1, 1) := by decide +kernel
theorem dX7_missesOfAll_32 : decode cX7_missesOfAll 32 = .ok (.iinc 2 1, 3) := by decide +kernel
theorem dX7_missesOfAll_35 : decode cX7_missesOfAll 35 = .ok (.goto (-31), 3) := by decide +kernel
theorem dX7_missesOfAll_38 : decode cX7_missesOfAll 38 = .ok (.iload_n 1, 1) := by decide +kernel
theorem dX7_missesOfAll_39 : decode cX7_missesOfAll 39 = .ok (.ireturn, 1) := by decide +kernel
theorem dX7_penceOfAll_0 : decode cX7_penceOfAll 0 = .ok (.iconst 0, 1) := by decide +kernel
theorem dX7_penceOfAll_1 : decode cX7_penceOfAll 1 = .ok (.istore_n 1, 1) := by decide +kernel
theorem dX7_penceOfAll_2 : decode cX7_penceOfAll 2 = .ok (.iconst 0, 1) := by decide +kernel
theorem dX7_penceOfAll_3 : decode cX7_penceOfAll 3 = .ok (.istore_n 2, 1) := by decide +kernel
theorem dX7_penceOfAll_4 : decode cX7_penceOfAll 4 = .ok (.iload_n 2, 1) := by decide +kernel
theorem dX7_penceOfAll_5 : decode cX7_penceOfAll 5 = .ok (.aload_n 0, 1) := by decide +kernel
theorem dX7_penceOfAll_6 : decode cX7_penceOfAll 6 = .ok (.getfield 24, 3) := by decide +kernel
theorem dX7_penceOfAll_9 : decode cX7_penceOfAll 9 = .ok (.invokevirtual 45, 3) := by decide +kernel
theorem dX7_penceOfAll_12 : decode cX7_penceOfAll 12 = .ok (.if_icmp .ge 26, 3) := by decide +kernel
theorem dX7_penceOfAll_15 : decode cX7_penceOfAll 15 = .ok (.iload_n 1, 1) := by decide +kernel
theorem dX7_penceOfAll_16 : decode cX7_penceOfAll 16 = .ok (.aload_n 0, 1) := by decide +kernel
theorem dX7_penceOfAll_17 : decode cX7_penceOfAll 17 = .ok (.getfield 24, 3) := by decide +kernel
theorem dX7_penceOfAll_20 : decode cX7_penceOfAll 20 = .ok (.iload_n 2, 1) := by decide +kernel
theorem dX7_penceOfAll_21 : decode cX7_penceOfAll 21 = .ok (.invokevirtual 58, 3) := by decide +kernel
theorem dX7_penceOfAll_24 : decode cX7_penceOfAll 24 = .ok (.checkcast 82, 3) := by decide +kernel
theorem dX7_penceOfAll_27 : decode cX7_penceOfAll 27 = .ok (.getfield 244, 3) := by decide +kernel
theorem dX7_penceOfAll_30 : decode cX7_penceOfAll 30 = .ok (.iadd, 1) := by decide +kernel
theorem dX7_penceOfAll_31 : decode cX7_penceOfAll 31 = .ok (.istore_n 1, 1) := by decide +kernel
theorem dX7_penceOfAll_32 : decode cX7_penceOfAll 32 = .ok (.iinc 2 1, 3) := by decide +kernel
theorem dX7_penceOfAll_35 : decode cX7_penceOfAll 35 = .ok (.goto (-31), 3) := by decide +kernel
theorem dX7_penceOfAll_38 : decode cX7_penceOfAll 38 = .ok (.iload_n 1, 1) := by decide +kernel
theorem dX7_penceOfAll_39 : decode cX7_penceOfAll 39 = .ok (.ireturn, 1) := by decide +kernel
theorem dX7_lanesTooMuddy_0 : decode cX7_lanesTooMuddy 0 = .ok (.iconst 0, 1) := by decide +kernel
theorem dX7_lanesTooMuddy_1 : decode cX7_lanesTooMuddy 1 = .ok (.istore_n 1, 1) := by decide +kernel
theorem dX7_lanesTooMuddy_2 : decode cX7_lanesTooMuddy 2 = .ok (.iconst 0, 1) := by decide +kernel
theorem dX7_lanesTooMuddy_3 : decode cX7_lanesTooMuddy 3 = .ok (.istore_n 2, 1) := by decide +kernel
theorem dX7_lanesTooMuddy_4 : decode cX7_lanesTooMuddy 4 = .ok (.iload_n 2, 1) := by decide +kernel
theorem dX7_lanesTooMuddy_5 : decode cX7_lanesTooMuddy 5 = .ok (.aload_n 0, 1) := by decide +kernel
theorem dX7_lanesTooMuddy_6 : decode cX7_lanesTooMuddy 6 = .ok (.getfield 18, 3) := by decide +kernel
theorem dX7_lanesTooMuddy_9 : decode cX7_lanesTooMuddy 9 = .ok (.invokevirtual 45, 3) := by decide +kernel
theorem dX7_lanesTooMuddy_12 : decode cX7_lanesTooMuddy 12 = .ok (.if_icmp .ge 29, 3) := by decide +kernel
theorem dX7_lanesTooMuddy_15 : decode cX7_lanesTooMuddy 15 = .ok (.aload_n 0, 1) := by decide +kernel
theorem dX7_lanesTooMuddy_16 : decode cX7_lanesTooMuddy 16 = .ok (.getfield 18, 3) := by decide +kernel
theorem dX7_lanesTooMuddy_19 : decode cX7_lanesTooMuddy 19 = .ok (.iload_n 2, 1) := by decide +kernel
theorem dX7_lanesTooMuddy_20 : decode cX7_lanesTooMuddy 20 = .ok (.invokevirtual 58, 3) := by decide +kernel
theorem dX7_lanesTooMuddy_23 : decode cX7_lanesTooMuddy 23 = .ok (.checkcast 74, 3) := by decide +kernel
theorem dX7_lanesTooMuddy_26 : decode cX7_lanesTooMuddy 26 = .ok (.invokevirtual 222, 3) := by decide +kernel
theorem dX7_lanesTooMuddy_29 : decode cX7_lanesTooMuddy 29 = .ok (.ifCond .ne 6, 3) := by decide +kernel
theorem dX7_lanesTooMuddy_32 : decode cX7_lanesTooMuddy 32 = .ok (.iinc 1 1, 3) := by decide +kernel
theorem dX7_lanesTooMuddy_35 : decode cX7_lanesTooMuddy 35 = .ok (.iinc 2 1, 3) := by decide +kernel
theorem dX7_lanesTooMuddy_38 : decode cX7_lanesTooMuddy 38 = .ok (.goto (-34), 3) := by decide +kernel
theorem dX7_lanesTooMuddy_41 : decode cX7_lanesTooMuddy 41 = .ok (.iload_n 1, 1) := by decide +kernel
theorem dX7_lanesTooMuddy_42 : decode cX7_lanesTooMuddy 42 = .ok (.ireturn, 1) := by decide +kernel
theorem dX7_mixVan_0 : decode cX7_mixVan 0 = .ok (.lload_n 1, 1) := by decide +kernel
theorem dX7_mixVan_1 : decode cX7_mixVan 1 = .ok (.lstore_n 3, 1) := by decide +kernel
theorem dX7_mixVan_2 : decode cX7_mixVan 2 = .ok (.iconst 0, 1) := by decide +kernel
theorem dX7_mixVan_3 : decode cX7_mixVan 3 = .ok (.istore 5, 2) := by decide +kernel
theorem dX7_mixVan_5 : decode cX7_mixVan 5 = .ok (.iload 5, 2) := by decide +kernel
theorem dX7_mixVan_7 : decode cX7_mixVan 7 = .ok (.bipush 10, 2) := by decide +kernel
theorem dX7_mixVan_9 : decode cX7_mixVan 9 = .ok (.if_icmp .ge 21, 3) := by decide +kernel
theorem dX7_mixVan_12 : decode cX7_mixVan 12 = .ok (.lload_n 3, 1) := by decide +kernel
theorem dX7_mixVan_13 : decode cX7_mixVan 13 = .ok (.aload_n 0, 1) := by decide +kernel
theorem dX7_mixVan_14 : decode cX7_mixVan 14 = .ok (.iload 5, 2) := by decide +kernel
theorem dX7_mixVan_16 : decode cX7_mixVan 16 = .ok (.invokevirtual 266, 3) := by decide +kernel
theorem dX7_mixVan_19 : decode cX7_mixVan 19 = .ok (.i2l, 1) := by decide +kernel
theorem dX7_mixVan_20 : decode cX7_mixVan 20 = .ok (.invokestatic 269, 3) := by decide +kernel
theorem dX7_mixVan_23 : decode cX7_mixVan 23 = .ok (.lstore_n 3, 1) := by decide +kernel
theorem dX7_mixVan_24 : decode cX7_mixVan 24 = .ok (.iinc 5 1, 3) := by decide +kernel
theorem dX7_mixVan_27 : decode cX7_mixVan 27 = .ok (.goto (-22), 3) := by decide +kernel
theorem dX7_mixVan_30 : decode cX7_mixVan 30 = .ok (.iconst 0, 1) := by decide +kernel
theorem dX7_mixVan_31 : decode cX7_mixVan 31 = .ok (.istore 5, 2) := by decide +kernel
theorem dX7_mixVan_33 : decode cX7_mixVan 33 = .ok (.iload 5, 2) := by decide +kernel
theorem dX7_mixVan_35 : decode cX7_mixVan 35 = .ok (.bipush 7, 2) := by decide +kernel
theorem dX7_mixVan_37 : decode cX7_mixVan 37 = .ok (.if_icmp .ge 21, 3) := by decide +kernel
theorem dX7_mixVan_40 : decode cX7_mixVan 40 = .ok (.lload_n 3, 1) := by decide +kernel
theorem dX7_mixVan_41 : decode cX7_mixVan 41 = .ok (.aload_n 0, 1) := by decide +kernel
theorem dX7_mixVan_42 : decode cX7_mixVan 42 = .ok (.iload 5, 2) := by decide +kernel
theorem dX7_mixVan_44 : decode cX7_mixVan 44 = .ok (.invokevirtual 111, 3) := by decide +kernel
theorem dX7_mixVan_47 : decode cX7_mixVan 47 = .ok (.i2l, 1) := by decide +kernel
theorem dX7_mixVan_48 : decode cX7_mixVan 48 = .ok (.invokestatic 269, 3) := by decide +kernel
theorem dX7_mixVan_51 : decode cX7_mixVan 51 = .ok (.lstore_n 3, 1) := by decide +kernel
theorem dX7_mixVan_52 : decode cX7_mixVan 52 = .ok (.iinc 5 1, 3) := by decide +kernel
theorem dX7_mixVan_55 : decode cX7_mixVan 55 = .ok (.goto (-22), 3) := by decide +kernel
theorem dX7_mixVan_58 : decode cX7_mixVan 58 = .ok (.iconst 0, 1) := by decide +kernel
theorem dX7_mixVan_59 : decode cX7_mixVan 59 = .ok (.istore 5, 2) := by decide +kernel
theorem dX7_mixVan_61 : decode cX7_mixVan 61 = .ok (.iload 5, 2) := by decide +kernel
theorem dX7_mixVan_63 : decode cX7_mixVan 63 = .ok (.aload_n 0, 1) := by decide +kernel
theorem dX7_mixVan_64 : decode cX7_mixVan 64 = .ok (.getfield 37, 3) := by decide +kernel
theorem dX7_mixVan_67 : decode cX7_mixVan 67 = .ok (.invokevirtual 118, 3) := by decide +kernel
theorem dX7_mixVan_70 : decode cX7_mixVan 70 = .ok (.if_icmp .ge 24, 3) := by decide +kernel
theorem dX7_mixVan_73 : decode cX7_mixVan 73 = .ok (.lload_n 3, 1) := by decide +kernel
theorem dX7_mixVan_74 : decode cX7_mixVan 74 = .ok (.aload_n 0, 1) := by decide +kernel
theorem dX7_mixVan_75 : decode cX7_mixVan 75 = .ok (.getfield 37, 3) := by decide +kernel
theorem dX7_mixVan_78 : decode cX7_mixVan 78 = .ok (.iload 5, 2) := by decide +kernel
theorem dX7_mixVan_80 : decode cX7_mixVan 80 = .ok (.invokevirtual 119, 3) := by decide +kernel
theorem dX7_mixVan_83 : decode cX7_mixVan 83 = .ok (.i2l, 1) := by decide +kernel
theorem dX7_mixVan_84 : decode cX7_mixVan 84 = .ok (.invokestatic 269, 3) := by decide +kernel
theorem dX7_mixVan_87 : decode cX7_mixVan 87 = .ok (.lstore_n 3, 1) := by decide +kernel
theorem dX7_mixVan_88 : decode cX7_mixVan 88 = .ok (.iinc 5 1, 3) := by decide +kernel
theorem dX7_mixVan_91 : decode cX7_mixVan 91 = .ok (.goto (-30), 3) := by decide +kernel
theorem dX7_mixVan_94 : decode cX7_mixVan 94 = .ok (.lload_n 3, 1) := by decide +kernel
theorem dX7_mixVan_95 : decode cX7_mixVan 95 = .ok (.lreturn, 1) := by decide +kernel
theorem dX7_mixHaltsAndLanes_0 : decode cX7_mixHaltsAndLanes 0 = .ok (.lload_n 1, 1) := by decide +kernel
theorem dX7_mixHaltsAndLanes_1 : decode cX7_mixHaltsAndLanes 1 = .ok (.lstore_n 3, 1) := by decide +kernel
theorem dX7_mixHaltsAndLanes_2 : decode cX7_mixHaltsAndLanes 2 = .ok (.iconst 0, 1) := by decide +kernel
theorem dX7_mixHaltsAndLanes_3 : decode cX7_mixHaltsAndLanes 3 = .ok (.istore 5, 2) := by decide +kernel
theorem dX7_mixHaltsAndLanes_5 : decode cX7_mixHaltsAndLanes 5 = .ok (.iload 5, 2) := by decide +kernel
theorem dX7_mixHaltsAndLanes_7 : decode cX7_mixHaltsAndLanes 7 = .ok (.aload_n 0, 1) := by decide +kernel
theorem dX7_mixHaltsAndLanes_8 : decode cX7_mixHaltsAndLanes 8 = .ok (.getfield 12, 3) := by decide +kernel
theorem dX7_mixHaltsAndLanes_11 : decode cX7_mixHaltsAndLanes 11 = .ok (.invokevirtual 45, 3) := by decide +kernel
theorem dX7_mixHaltsAndLanes_14 : decode cX7_mixHaltsAndLanes 14 = .ok (.if_icmp .ge 38, 3) := by decide +kernel
theorem dX7_mixHaltsAndLanes_17 : decode cX7_mixHaltsAndLanes 17 = .ok (.iconst 0, 1) := by decide +kernel
theorem dX7_mixHaltsAndLanes_18 : decode cX7_mixHaltsAndLanes 18 = .ok (.istore 6, 2) := by decide +kernel
theorem dX7_mixHaltsAndLanes_20 : decode cX7_mixHaltsAndLanes 20 = .ok (.iload 6, 2) := by decide +kernel
theorem dX7_mixHaltsAndLanes_22 : decode cX7_mixHaltsAndLanes 22 = .ok (.iconst 5, 1) := by decide +kernel
theorem dX7_mixHaltsAndLanes_23 : decode cX7_mixHaltsAndLanes 23 = .ok (.if_icmp .ge 23, 3) := by decide +kernel
theorem dX7_mixHaltsAndLanes_26 : decode cX7_mixHaltsAndLanes 26 = .ok (.lload_n 3, 1) := by decide +kernel
theorem dX7_mixHaltsAndLanes_27 : decode cX7_mixHaltsAndLanes 27 = .ok (.aload_n 0, 1) := by decide +kernel
theorem dX7_mixHaltsAndLanes_28 : decode cX7_mixHaltsAndLanes 28 = .ok (.iload 5, 2) := by decide +kernel
theorem dX7_mixHaltsAndLanes_30 : decode cX7_mixHaltsAndLanes 30 = .ok (.iload 6, 2) := by decide +kernel
theorem dX7_mixHaltsAndLanes_32 : decode cX7_mixHaltsAndLanes 32 = .ok (.invokevirtual 273, 3) := by decide +kernel
theorem dX7_mixHaltsAndLanes_35 : decode cX7_mixHaltsAndLanes 35 = .ok (.i2l, 1) := by decide +kernel
theorem dX7_mixHaltsAndLanes_36 : decode cX7_mixHaltsAndLanes 36 = .ok (.invokestatic 269, 3) := by decide +kernel
theorem dX7_mixHaltsAndLanes_39 : decode cX7_mixHaltsAndLanes 39 = .ok (.lstore_n 3, 1) := by decide +kernel
theorem dX7_mixHaltsAndLanes_40 : decode cX7_mixHaltsAndLanes 40 = .ok (.iinc 6 1, 3) := by decide +kernel
theorem dX7_mixHaltsAndLanes_43 : decode cX7_mixHaltsAndLanes 43 = .ok (.goto (-23), 3) := by decide +kernel
theorem dX7_mixHaltsAndLanes_46 : decode cX7_mixHaltsAndLanes 46 = .ok (.iinc 5 1, 3) := by decide +kernel
theorem dX7_mixHaltsAndLanes_49 : decode cX7_mixHaltsAndLanes 49 = .ok (.goto (-44), 3) := by decide +kernel
theorem dX7_mixHaltsAndLanes_52 : decode cX7_mixHaltsAndLanes 52 = .ok (.iconst 0, 1) := by decide +kernel
theorem dX7_mixHaltsAndLanes_53 : decode cX7_mixHaltsAndLanes 53 = .ok (.istore 5, 2) := by decide +kernel
theorem dX7_mixHaltsAndLanes_55 : decode cX7_mixHaltsAndLanes 55 = .ok (.iload 5, 2) := by decide +kernel
theorem dX7_mixHaltsAndLanes_57 : decode cX7_mixHaltsAndLanes 57 = .ok (.aload_n 0, 1) := by decide +kernel
theorem dX7_mixHaltsAndLanes_58 : decode cX7_mixHaltsAndLanes 58 = .ok (.getfield 18, 3) := by decide +kernel
theorem dX7_mixHaltsAndLanes_61 : decode cX7_mixHaltsAndLanes 61 = .ok (.invokevirtual 45, 3) := by decide +kernel
theorem dX7_mixHaltsAndLanes_64 : decode cX7_mixHaltsAndLanes 64 = .ok (.if_icmp .ge 39, 3) := by decide +kernel
theorem dX7_mixHaltsAndLanes_67 : decode cX7_mixHaltsAndLanes 67 = .ok (.iconst 0, 1) := by decide +kernel
theorem dX7_mixHaltsAndLanes_68 : decode cX7_mixHaltsAndLanes 68 = .ok (.istore 6, 2) := by decide +kernel
theorem dX7_mixHaltsAndLanes_70 : decode cX7_mixHaltsAndLanes 70 = .ok (.iload 6, 2) := by decide +kernel
theorem dX7_mixHaltsAndLanes_72 : decode cX7_mixHaltsAndLanes 72 = .ok (.bipush 6, 2) := by decide +kernel
theorem dX7_mixHaltsAndLanes_74 : decode cX7_mixHaltsAndLanes 74 = .ok (.if_icmp .ge 23, 3) := by decide +kernel
theorem dX7_mixHaltsAndLanes_77 : decode cX7_mixHaltsAndLanes 77 = .ok (.lload_n 3, 1) := by decide +kernel
theorem dX7_mixHaltsAndLanes_78 : decode cX7_mixHaltsAndLanes 78 = .ok (.aload_n 0, 1) := by decide +kernel
theorem dX7_mixHaltsAndLanes_79 : decode cX7_mixHaltsAndLanes 79 = .ok (.iload 5, 2) := by decide +kernel
theorem dX7_mixHaltsAndLanes_81 : decode cX7_mixHaltsAndLanes 81 = .ok (.iload 6, 2) := by decide +kernel
theorem dX7_mixHaltsAndLanes_83 : decode cX7_mixHaltsAndLanes 83 = .ok (.invokevirtual 276, 3) := by decide +kernel
theorem dX7_mixHaltsAndLanes_86 : decode cX7_mixHaltsAndLanes 86 = .ok (.i2l, 1) := by decide +kernel
theorem dX7_mixHaltsAndLanes_87 : decode cX7_mixHaltsAndLanes 87 = .ok (.invokestatic 269, 3) := by decide +kernel
theorem dX7_mixHaltsAndLanes_90 : decode cX7_mixHaltsAndLanes 90 = .ok (.lstore_n 3, 1) := by decide +kernel
theorem dX7_mixHaltsAndLanes_91 : decode cX7_mixHaltsAndLanes 91 = .ok (.iinc 6 1, 3) := by decide +kernel
theorem dX7_mixHaltsAndLanes_94 : decode cX7_mixHaltsAndLanes 94 = .ok (.goto (-24), 3) := by decide +kernel
theorem dX7_mixHaltsAndLanes_97 : decode cX7_mixHaltsAndLanes 97 = .ok (.iinc 5 1, 3) := by decide +kernel
theorem dX7_mixHaltsAndLanes_100 : decode cX7_mixHaltsAndLanes 100 = .ok (.goto (-45), 3) := by decide +kernel
theorem dX7_mixHaltsAndLanes_103 : decode cX7_mixHaltsAndLanes 103 = .ok (.lload_n 3, 1) := by decide +kernel
theorem dX7_mixHaltsAndLanes_104 : decode cX7_mixHaltsAndLanes 104 = .ok (.lreturn, 1) := by decide +kernel
theorem dX7_mixBooksAndReaders_0 : decode cX7_mixBooksAndReaders 0 = .ok (.lload_n 1, 1) := by decide +kernel
theorem dX7_mixBooksAndReaders_1 : decode cX7_mixBooksAndReaders 1 = .ok (.lstore_n 3, 1) := by decide +kernel
theorem dX7_mixBooksAndReaders_2 : decode cX7_mixBooksAndReaders 2 = .ok (.iconst 0, 1) := by decide +kernel
theorem dX7_mixBooksAndReaders_3 : decode cX7_mixBooksAndReaders 3 = .ok (.istore 5, 2) := by decide +kernel
theorem dX7_mixBooksAndReaders_5 : decode cX7_mixBooksAndReaders 5 = .ok (.iload 5, 2) := by decide +kernel
theorem dX7_mixBooksAndReaders_7 : decode cX7_mixBooksAndReaders 7 = .ok (.aload_n 0, 1) := by decide +kernel
theorem dX7_mixBooksAndReaders_8 : decode cX7_mixBooksAndReaders 8 = .ok (.getfield 21, 3) := by decide +kernel
theorem dX7_mixBooksAndReaders_11 : decode cX7_mixBooksAndReaders 11 = .ok (.invokevirtual 45, 3) := by decide +kernel
theorem dX7_mixBooksAndReaders_14 : decode cX7_mixBooksAndReaders 14 = .ok (.if_icmp .ge 88, 3) := by decide +kernel
theorem dX7_mixBooksAndReaders_17 : decode cX7_mixBooksAndReaders 17 = .ok (.iconst 0, 1) := by decide +kernel
theorem dX7_mixBooksAndReaders_18 : decode cX7_mixBooksAndReaders 18 = .ok (.istore 6, 2) := by decide +kernel
theorem dX7_mixBooksAndReaders_20 : decode cX7_mixBooksAndReaders 20 = .ok (.iload 6, 2) := by decide +kernel
theorem dX7_mixBooksAndReaders_22 : decode cX7_mixBooksAndReaders 22 = .ok (.bipush 7, 2) := by decide +kernel
theorem dX7_mixBooksAndReaders_24 : decode cX7_mixBooksAndReaders 24 = .ok (.if_icmp .ge 23, 3) := by decide +kernel
theorem dX7_mixBooksAndReaders_27 : decode cX7_mixBooksAndReaders 27 = .ok (.lload_n 3, 1) := by decide +kernel
theorem dX7_mixBooksAndReaders_28 : decode cX7_mixBooksAndReaders 28 = .ok (.aload_n 0, 1) := by decide +kernel
theorem dX7_mixBooksAndReaders_29 : decode cX7_mixBooksAndReaders 29 = .ok (.iload 5, 2) := by decide +kernel
theorem dX7_mixBooksAndReaders_31 : decode cX7_mixBooksAndReaders 31 = .ok (.iload 6, 2) := by decide +kernel
theorem dX7_mixBooksAndReaders_33 : decode cX7_mixBooksAndReaders 33 = .ok (.invokevirtual 279, 3) := by decide +kernel
theorem dX7_mixBooksAndReaders_36 : decode cX7_mixBooksAndReaders 36 = .ok (.i2l, 1) := by decide +kernel
theorem dX7_mixBooksAndReaders_37 : decode cX7_mixBooksAndReaders 37 = .ok (.invokestatic 269, 3) := by decide +kernel
theorem dX7_mixBooksAndReaders_40 : decode cX7_mixBooksAndReaders 40 = .ok (.lstore_n 3, 1) := by decide +kernel
theorem dX7_mixBooksAndReaders_41 : decode cX7_mixBooksAndReaders 41 = .ok (.iinc 6 1, 3) := by decide +kernel
theorem dX7_mixBooksAndReaders_44 : decode cX7_mixBooksAndReaders 44 = .ok (.goto (-24), 3) := by decide +kernel
theorem dX7_mixBooksAndReaders_47 : decode cX7_mixBooksAndReaders 47 = .ok (.aload_n 0, 1) := by decide +kernel
theorem dX7_mixBooksAndReaders_48 : decode cX7_mixBooksAndReaders 48 = .ok (.getfield 21, 3) := by decide +kernel
theorem dX7_mixBooksAndReaders_51 : decode cX7_mixBooksAndReaders 51 = .ok (.iload 5, 2) := by decide +kernel
theorem dX7_mixBooksAndReaders_53 : decode cX7_mixBooksAndReaders 53 = .ok (.invokevirtual 58, 3) := by decide +kernel
theorem dX7_mixBooksAndReaders_56 : decode cX7_mixBooksAndReaders 56 = .ok (.checkcast 62, 3) := by decide +kernel
theorem dX7_mixBooksAndReaders_59 : decode cX7_mixBooksAndReaders 59 = .ok (.getfield 165, 3) := by decide +kernel
theorem dX7_mixBooksAndReaders_62 : decode cX7_mixBooksAndReaders 62 = .ok (.astore 6, 2) := by decide +kernel
theorem dX7_mixBooksAndReaders_64 : decode cX7_mixBooksAndReaders 64 = .ok (.iconst 0, 1) := by decide +kernel
theorem dX7_mixBooksAndReaders_65 : decode cX7_mixBooksAndReaders 65 = .ok (.istore 7, 2) := by decide +kernel
theorem dX7_mixBooksAndReaders_67 : decode cX7_mixBooksAndReaders 67 = .ok (.iload 7, 2) := by decide +kernel
theorem dX7_mixBooksAndReaders_69 : decode cX7_mixBooksAndReaders 69 = .ok (.aload 6, 2) := by decide +kernel
theorem dX7_mixBooksAndReaders_71 : decode cX7_mixBooksAndReaders 71 = .ok (.invokevirtual 190, 3) := by decide +kernel
theorem dX7_mixBooksAndReaders_74 : decode cX7_mixBooksAndReaders 74 = .ok (.if_icmp .ge 22, 3) := by decide +kernel
theorem dX7_mixBooksAndReaders_77 : decode cX7_mixBooksAndReaders 77 = .ok (.lload_n 3, 1) := by decide +kernel
theorem dX7_mixBooksAndReaders_78 : decode cX7_mixBooksAndReaders 78 = .ok (.aload 6, 2) := by decide +kernel
theorem dX7_mixBooksAndReaders_80 : decode cX7_mixBooksAndReaders 80 = .ok (.iload 7, 2) := by decide +kernel
theorem dX7_mixBooksAndReaders_82 : decode cX7_mixBooksAndReaders 82 = .ok (.invokevirtual 282, 3) := by decide +kernel
theorem dX7_mixBooksAndReaders_85 : decode cX7_mixBooksAndReaders 85 = .ok (.i2l, 1) := by decide +kernel
theorem dX7_mixBooksAndReaders_86 : decode cX7_mixBooksAndReaders 86 = .ok (.invokestatic 269, 3) := by decide +kernel
theorem dX7_mixBooksAndReaders_89 : decode cX7_mixBooksAndReaders 89 = .ok (.lstore_n 3, 1) := by decide +kernel
theorem dX7_mixBooksAndReaders_90 : decode cX7_mixBooksAndReaders 90 = .ok (.iinc 7 1, 3) := by decide +kernel
theorem dX7_mixBooksAndReaders_93 : decode cX7_mixBooksAndReaders 93 = .ok (.goto (-26), 3) := by decide +kernel
theorem dX7_mixBooksAndReaders_96 : decode cX7_mixBooksAndReaders 96 = .ok (.iinc 5 1, 3) := by decide +kernel
theorem dX7_mixBooksAndReaders_99 : decode cX7_mixBooksAndReaders 99 = .ok (.goto (-94), 3) := by decide +kernel
theorem dX7_mixBooksAndReaders_102 : decode cX7_mixBooksAndReaders 102 = .ok (.iconst 0, 1) := by decide +kernel
theorem dX7_mixBooksAndReaders_103 : decode cX7_mixBooksAndReaders 103 = .ok (.istore 5, 2) := by decide +kernel
theorem dX7_mixBooksAndReaders_105 : decode cX7_mixBooksAndReaders 105 = .ok (.iload 5, 2) := by decide +kernel
theorem dX7_mixBooksAndReaders_107 : decode cX7_mixBooksAndReaders 107 = .ok (.aload_n 0, 1) := by decide +kernel
theorem dX7_mixBooksAndReaders_108 : decode cX7_mixBooksAndReaders 108 = .ok (.getfield 24, 3) := by decide +kernel
theorem dX7_mixBooksAndReaders_111 : decode cX7_mixBooksAndReaders 111 = .ok (.invokevirtual 45, 3) := by decide +kernel
theorem dX7_mixBooksAndReaders_114 : decode cX7_mixBooksAndReaders 114 = .ok (.if_icmp .ge 39, 3) := by decide +kernel
theorem dX7_mixBooksAndReaders_117 : decode cX7_mixBooksAndReaders 117 = .ok (.iconst 0, 1) := by decide +kernel
theorem dX7_mixBooksAndReaders_118 : decode cX7_mixBooksAndReaders 118 = .ok (.istore 6, 2) := by decide +kernel
theorem dX7_mixBooksAndReaders_120 : decode cX7_mixBooksAndReaders 120 = .ok (.iload 6, 2) := by decide +kernel
theorem dX7_mixBooksAndReaders_122 : decode cX7_mixBooksAndReaders 122 = .ok (.bipush 8, 2) := by decide +kernel
theorem dX7_mixBooksAndReaders_124 : decode cX7_mixBooksAndReaders 124 = .ok (.if_icmp .ge 23, 3) := by decide +kernel
theorem dX7_mixBooksAndReaders_127 : decode cX7_mixBooksAndReaders 127 = .ok (.lload_n 3, 1) := by decide +kernel
theorem dX7_mixBooksAndReaders_128 : decode cX7_mixBooksAndReaders 128 = .ok (.aload_n 0, 1) := by decide +kernel
theorem dX7_mixBooksAndReaders_129 : decode cX7_mixBooksAndReaders 129 = .ok (.iload 5, 2) := by decide +kernel
theorem dX7_mixBooksAndReaders_131 : decode cX7_mixBooksAndReaders 131 = .ok (.iload 6, 2) := by decide +kernel
theorem dX7_mixBooksAndReaders_133 : decode cX7_mixBooksAndReaders 133 = .ok (.invokevirtual 285, 3) := by decide +kernel
theorem dX7_mixBooksAndReaders_136 : decode cX7_mixBooksAndReaders 136 = .ok (.i2l, 1) := by decide +kernel
theorem dX7_mixBooksAndReaders_137 : decode cX7_mixBooksAndReaders 137 = .ok (.invokestatic 269, 3) := by decide +kernel
theorem dX7_mixBooksAndReaders_140 : decode cX7_mixBooksAndReaders 140 = .ok (.lstore_n 3, 1) := by decide +kernel
theorem dX7_mixBooksAndReaders_141 : decode cX7_mixBooksAndReaders 141 = .ok (.iinc 6 1, 3) := by decide +kernel
theorem dX7_mixBooksAndReaders_144 : decode cX7_mixBooksAndReaders 144 = .ok (.goto (-24), 3) := by decide +kernel
theorem dX7_mixBooksAndReaders_147 : decode cX7_mixBooksAndReaders 147 = .ok (.iinc 5 1, 3) := by decide +kernel
theorem dX7_mixBooksAndReaders_150 : decode cX7_mixBooksAndReaders 150 = .ok (.goto (-45), 3) := by decide +kernel
theorem dX7_mixBooksAndReaders_153 : decode cX7_mixBooksAndReaders 153 = .ok (.lload_n 3, 1) := by decide +kernel
theorem dX7_mixBooksAndReaders_154 : decode cX7_mixBooksAndReaders 154 = .ok (.lreturn, 1) := by decide +kernel
end
section
theorem dX8_init_0 : decode cX8_init 0 = .ok (.aload_n 0, 1) := by decide +kernel
theorem dX8_init_1 : decode cX8_init 1 = .ok (.invokespecial 1, 3) := by decide +kernel
theorem dX8_init_4 : decode cX8_init 4 = .ok (.aload_n 0, 1) := by decide +kernel
theorem dX8_init_5 : decode cX8_init 5 = .ok (.new 7, 3) := by decide +kernel
theorem dX8_init_8 : decode cX8_init 8 = .ok (.dup, 1) := by decide +kernel
theorem dX8_init_9 : decode cX8_init 9 = .ok (.invokespecial 9, 3) := by decide +kernel
theorem dX8_init_12 : decode cX8_init 12 = .ok (.putfield 10, 3) := by decide +kernel
theorem dX8_init_15 : decode cX8_init 15 = .ok (.aload_n 0, 1) := by decide +kernel
theorem dX8_init_16 : decode cX8_init 16 = .ok (.new 7, 3) := by decide +kernel
theorem dX8_init_19 : decode cX8_init 19 = .ok (.dup, 1) := by decide +kernel
theorem dX8_init_20 : decode cX8_init 20 = .ok (.invokespecial 9, 3) := by decide +kernel
theorem dX8_init_23 : decode cX8_init 23 = .ok (.putfield 16, 3) := by decide +kernel
theorem dX8_init_26 : decode cX8_init 26 = .ok (.return_, 1) := by decide +kernel
theorem dX8_addHalt_0 : decode cX8_addHalt 0 = .ok (.aload_n 0, 1) := by decide +kernel
theorem dX8_addHalt_1 : decode cX8_addHalt 1 = .ok (.getfield 10, 3) := by decide +kernel
theorem dX8_addHalt_4 : decode cX8_addHalt 4 = .ok (.getfield 19, 3) := by decide +kernel
theorem dX8_addHalt_7 : decode cX8_addHalt 7 = .ok (.invokevirtual 23, 3) := by decide +kernel
theorem dX8_addHalt_10 : decode cX8_addHalt 10 = .ok (.istore_n 1, 1) := by decide +kernel
theorem dX8_addHalt_11 : decode cX8_addHalt 11 = .ok (.iload_n 1, 1) := by decide +kernel
theorem dX8_addHalt_12 : decode cX8_addHalt 12 = .ok (.bipush 8, 2) := by decide +kernel
theorem dX8_addHalt_14 : decode cX8_addHalt 14 = .ok (.if_icmp .lt 13, 3) := by decide +kernel
theorem dX8_addHalt_17 : decode cX8_addHalt 17 = .ok (.new 29, 3) := by decide +kernel
theorem dX8_addHalt_20 : decode cX8_addHalt 20 = .ok (.dup, 1) := by decide +kernel
theorem dX8_addHalt_21 : decode cX8_addHalt 21 = .ok (.ldc 31, 2) := by decide +kernel
theorem dX8_addHalt_23 : decode cX8_addHalt 23 = .ok (.invokespecial 33, 3) := by decide +kernel
theorem dX8_addHalt_26 : decode cX8_addHalt 26 = .ok (.athrow, 1) := by decide +kernel
theorem dX8_addHalt_27 : decode cX8_addHalt 27 = .ok (.aload_n 0, 1) := by decide +kernel
theorem dX8_addHalt_28 : decode cX8_addHalt 28 = .ok (.getfield 10, 3) := by decide +kernel
theorem dX8_addHalt_31 : decode cX8_addHalt 31 = .ok (.getfield 19, 3) := by decide +kernel
theorem dX8_addHalt_34 : decode cX8_addHalt 34 = .ok (.new 36, 3) := by decide +kernel
theorem dX8_addHalt_37 : decode cX8_addHalt 37 = .ok (.dup, 1) := by decide +kernel
theorem dX8_addHalt_38 : decode cX8_addHalt 38 = .ok (.invokespecial 38, 3) := by decide +kernel
theorem dX8_addHalt_41 : decode cX8_addHalt 41 = .ok (.invokevirtual 39, 3) := by decide +kernel
theorem dX8_addHalt_44 : decode cX8_addHalt 44 = .ok (.pop, 1) := by decide +kernel
theorem dX8_addHalt_45 : decode cX8_addHalt 45 = .ok (.aload_n 0, 1) := by decide +kernel
theorem dX8_addHalt_46 : decode cX8_addHalt 46 = .ok (.getfield 16, 3) := by decide +kernel
theorem dX8_addHalt_49 : decode cX8_addHalt 49 = .ok (.getfield 19, 3) := by decide +kernel
theorem dX8_addHalt_52 : decode cX8_addHalt 52 = .ok (.new 36, 3) := by decide +kernel
theorem dX8_addHalt_55 : decode cX8_addHalt 55 = .ok (.dup, 1) := by decide +kernel
theorem dX8_addHalt_56 : decode cX8_addHalt 56 = .ok (.invokespecial 38, 3) := by decide +kernel
theorem dX8_addHalt_59 : decode cX8_addHalt 59 = .ok (.invokevirtual 39, 3) := by decide +kernel
theorem dX8_addHalt_62 : decode cX8_addHalt 62 = .ok (.pop, 1) := by decide +kernel
theorem dX8_addHalt_63 : decode cX8_addHalt 63 = .ok (.iload_n 1, 1) := by decide +kernel
theorem dX8_addHalt_64 : decode cX8_addHalt 64 = .ok (.ireturn, 1) := by decide +kernel
theorem dX8_addLane_0 : decode cX8_addLane 0 = .ok (.aload_n 0, 1) := by decide +kernel
theorem dX8_addLane_1 : decode cX8_addLane 1 = .ok (.iload_n 1, 1) := by decide +kernel
theorem dX8_addLane_2 : decode cX8_addLane 2 = .ok (.invokevirtual 43, 3) := by decide +kernel
theorem dX8_addLane_5 : decode cX8_addLane 5 = .ok (.aload_n 0, 1) := by decide +kernel
theorem dX8_addLane_6 : decode cX8_addLane 6 = .ok (.iload_n 2, 1) := by decide +kernel
theorem dX8_addLane_7 : decode cX8_addLane 7 = .ok (.invokevirtual 43, 3) := by decide +kernel
theorem dX8_addLane_10 : decode cX8_addLane 10 = .ok (.iload_n 1, 1) := by decide +kernel
theorem dX8_addLane_11 : decode cX8_addLane 11 = .ok (.iload_n 2, 1) := by decide +kernel
theorem dX8_addLane_12 : decode cX8_addLane 12 = .ok (.if_icmp .ne 13, 3) := by decide +kernel
theorem dX8_addLane_15 : decode cX8_addLane 15 = .ok (.new 47, 3) := by decide +kernel
theorem dX8_addLane_18 : decode cX8_addLane 18 = .ok (.dup, 1) := by decide +kernel
theorem dX8_addLane_19 : decode cX8_addLane 19 = .ok (.ldc 49, 2) := by decide +kernel
theorem dX8_addLane_21 : decode cX8_addLane 21 = .ok (.invokespecial 51, 3) := by decide +kernel
theorem dX8_addLane_24 : decode cX8_addLane 24 = .ok (.athrow, 1) := by decide +kernel
theorem dX8_addLane_25 : decode cX8_addLane 25 = .ok (.iload_n 3, 1) := by decide +kernel
theorem dX8_addLane_26 : decode cX8_addLane 26 = .ok (.iconst 1, 1) := by decide +kernel
theorem dX8_addLane_27 : decode cX8_addLane 27 = .ok (.bipush 30, 2) := by decide +kernel
theorem dX8_addLane_29 : decode cX8_addLane 29 = .ok (.invokestatic 52, 3) := by decide +kernel
theorem dX8_addLane_32 : decode cX8_addLane 32 = .ok (.ifCond .ne 13, 3) := by decide +kernel
theorem dX8_addLane_35 : decode cX8_addLane 35 = .ok (.new 47, 3) := by decide +kernel
theorem dX8_addLane_38 : decode cX8_addLane 38 = .ok (.dup, 1) := by decide +kernel
theorem dX8_addLane_39 : decode cX8_addLane 39 = .ok (.ldc 56, 2) := by decide +kernel
theorem dX8_addLane_41 : decode cX8_addLane 41 = .ok (.invokespecial 51, 3) := by decide +kernel
theorem dX8_addLane_44 : decode cX8_addLane 44 = .ok (.athrow, 1) := by decide +kernel
theorem dX8_addLane_45 : decode cX8_addLane 45 = .ok (.iload 4, 2) := by decide +kernel
theorem dX8_addLane_47 : decode cX8_addLane 47 = .ok (.iconst 0, 1) := by decide +kernel
theorem dX8_addLane_48 : decode cX8_addLane 48 = .ok (.bipush 9, 2) := by decide +kernel
theorem dX8_addLane_50 : decode cX8_addLane 50 = .ok (.invokestatic 52, 3) := by decide +kernel
theorem dX8_addLane_53 : decode cX8_addLane 53 = .ok (.ifCond .ne 13, 3) := by decide +kernel
theorem dX8_addLane_56 : decode cX8_addLane 56 = .ok (.new 47, 3) := by decide +kernel
theorem dX8_addLane_59 : decode cX8_addLane 59 = .ok (.dup, 1) := by decide +kernel
theorem dX8_addLane_60 : decode cX8_addLane 60 = .ok (.ldc 58, 2) := by decide +kernel
theorem dX8_addLane_62 : decode cX8_addLane 62 = .ok (.invokespecial 51, 3) := by decide +kernel
theorem dX8_addLane_65 : decode cX8_addLane 65 = .ok (.athrow, 1) := by decide +kernel
theorem dX8_addLane_66 : decode cX8_addLane 66 = .ok (.aload_n 0, 1) := by decide +kernel
theorem dX8_addLane_67 : decode cX8_addLane 67 = .ok (.getfield 10, 3) := by decide +kernel
theorem dX8_addLane_70 : decode cX8_addLane 70 = .ok (.getfield 60, 3) := by decide +kernel
theorem dX8_addLane_73 : decode cX8_addLane 73 = .ok (.invokevirtual 23, 3) := by decide +kernel
theorem dX8_addLane_76 : decode cX8_addLane 76 = .ok (.istore 5, 2) := by decide +kernel
theorem dX8_addLane_78 : decode cX8_addLane 78 = .ok (.iload 5, 2) := by decide +kernel
theorem dX8_addLane_80 : decode cX8_addLane 80 = .ok (.bipush 16, 2) := by decide +kernel
theorem dX8_addLane_82 : decode cX8_addLane 82 = .ok (.if_icmp .lt 13, 3) := by decide +kernel
theorem dX8_addLane_85 : decode cX8_addLane 85 = .ok (.new 29, 3) := by decide +kernel
theorem dX8_addLane_88 : decode cX8_addLane 88 = .ok (.dup, 1) := by decide +kernel
theorem dX8_addLane_89 : decode cX8_addLane 89 = .ok (.ldc 63, 2) := by decide +kernel
theorem dX8_addLane_91 : decode cX8_addLane 91 = .ok (.invokespecial 33, 3) := by decide +kernel
theorem dX8_addLane_94 : decode cX8_addLane 94 = .ok (.athrow, 1) := by decide +kernel
theorem dX8_addLane_95 : decode cX8_addLane 95 = .ok (.aload_n 0, 1) := by decide +kernel
theorem dX8_addLane_96 : decode cX8_addLane 96 = .ok (.getfield 10, 3) := by decide +kernel
theorem dX8_addLane_99 : decode cX8_addLane 99 = .ok (.getfield 60, 3) := by decide +kernel
theorem dX8_addLane_102 : decode cX8_addLane 102 = .ok (.new 65, 3) := by decide +kernel
theorem dX8_addLane_105 : decode cX8_addLane 105 = .ok (.dup, 1) := by decide +kernel
theorem dX8_addLane_106 : decode cX8_addLane 106 = .ok (.iload_n 1, 1) := by decide +kernel
theorem dX8_addLane_107 : decode cX8_addLane 107 = .ok (.iload_n 2, 1) := by decide +kernel
theorem dX8_addLane_108 : decode cX8_addLane 108 = .ok (.iload_n 3, 1) := by decide +kernel
theorem dX8_addLane_109 : decode cX8_addLane 109 = .ok (.iload 4, 2) := by decide +kernel
theorem dX8_addLane_111 : decode cX8_addLane 111 = .ok (.invokespecial 67, 3) := by decide +kernel
theorem dX8_addLane_114 : decode cX8_addLane 114 = .ok (.invokevirtual 39, 3) := by decide +kernel
theorem dX8_addLane_117 : decode cX8_addLane 117 = .ok (.pop, 1) := by decide +kernel
theorem dX8_addLane_118 : decode cX8_addLane 118 = .ok (.aload_n 0, 1) := by decide +kernel
theorem dX8_addLane_119 : decode cX8_addLane 119 = .ok (.getfield 16, 3) := by decide +kernel
theorem dX8_addLane_122 : decode cX8_addLane 122 = .ok (.getfield 60, 3) := by decide +kernel
theorem dX8_addLane_125 : decode cX8_addLane 125 = .ok (.new 65, 3) := by decide +kernel
theorem dX8_addLane_128 : decode cX8_addLane 128 = .ok (.dup, 1) := by decide +kernel
theorem dX8_addLane_129 : decode cX8_addLane 129 = .ok (.iload_n 1, 1) := by decide +kernel
theorem dX8_addLane_130 : decode cX8_addLane 130 = .ok (.iload_n 2, 1) := by decide +kernel
theorem dX8_addLane_131 : decode cX8_addLane 131 = .ok (.iload_n 3, 1) := by decide +kernel
theorem dX8_addLane_132 : decode cX8_addLane 132 = .ok (.iload 4, 2) := by decide +kernel
theorem dX8_addLane_134 : decode cX8_addLane 134 = .ok (.invokespecial 67, 3) := by decide +kernel
theorem dX8_addLane_137 : decode cX8_addLane 137 = .ok (.invokevirtual 39, 3) := by decide +kernel
theorem dX8_addLane_140 : decode cX8_addLane 140 = .ok (.pop, 1) := by decide +kernel
theorem dX8_addLane_141 : decode cX8_addLane 141 = .ok (.iload 5, 2) := by decide +kernel
theorem dX8_addLane_143 : decode cX8_addLane 143 = .ok (.ireturn, 1) := by decide +kernel
theorem dX8_setRain_0 : decode cX8_setRain 0 = .ok (.iload_n 1, 1) := by decide +kernel
theorem dX8_setRain_1 : decode cX8_setRain 1 = .ok (.bipush 7, 2) := by decide +kernel
theorem dX8_setRain_3 : decode cX8_setRain 3 = .ok (.invokestatic 70, 3) := by decide +kernel
theorem dX8_setRain_6 : decode cX8_setRain 6 = .ok (.iload_n 2, 1) := by decide +kernel
theorem dX8_setRain_7 : decode cX8_setRain 7 = .ok (.iconst 0, 1) := by decide +kernel
theorem dX8_setRain_8 : decode cX8_setRain 8 = .ok (.bipush 9, 2) := by decide +kernel
theorem dX8_setRain_10 : decode cX8_setRain 10 = .ok (.invokestatic 52, 3) := by decide +kernel
theorem dX8_setRain_13 : decode cX8_setRain 13 = .ok (.ifCond .ne 13, 3) := by decide +kernel
theorem dX8_setRain_16 : decode cX8_setRain 16 = .ok (.new 47, 3) := by decide +kernel
theorem dX8_setRain_19 : decode cX8_setRain 19 = .ok (.dup, 1) := by decide +kernel
theorem dX8_setRain_20 : decode cX8_setRain 20 = .ok (.ldc 74, 2) := by decide +kernel
theorem dX8_setRain_22 : decode cX8_setRain 22 = .ok (.invokespecial 51, 3) := by decide +kernel
theorem dX8_setRain_25 : decode cX8_setRain 25 = .ok (.athrow, 1) := by decide +kernel
theorem dX8_setRain_26 : decode cX8_setRain 26 = .ok (.aload_n 0, 1) := by decide +kernel
theorem dX8_setRain_27 : decode cX8_setRain 27 = .ok (.getfield 10, 3) := by decide +kernel
theorem dX8_setRain_30 : decode cX8_setRain 30 = .ok (.iload_n 1, 1) := by decide +kernel
theorem dX8_setRain_31 : decode cX8_setRain 31 = .ok (.iload_n 2, 1) := by decide +kernel
theorem dX8_setRain_32 : decode cX8_setRain 32 = .ok (.invokevirtual 76, 3) := by decide +kernel
theorem dX8_setRain_35 : decode cX8_setRain 35 = .ok (.ireturn, 1) := by decide +kernel
theorem dX8_setRound_0 : decode cX8_setRound 0 = .ok (.iload_n 1, 1) := by decide +kernel
theorem dX8_setRound_1 : decode cX8_setRound 1 = .ok (.iconst 0, 1) := by decide +kernel
theorem dX8_setRound_2 : decode cX8_setRound 2 = .ok (.ldc 80, 2) := by decide +kernel
theorem dX8_setRound_4 : decode cX8_setRound 4 = .ok (.invokestatic 52, 3) := by decide +kernel
theorem dX8_setRound_7 : decode cX8_setRound 7 = .ok (.ifCond .ne 13, 3) := by decide +kernel
theorem dX8_setRound_10 : decode cX8_setRound 10 = .ok (.new 47, 3) := by decide +kernel
theorem dX8_setRound_13 : decode cX8_setRound 13 = .ok (.dup, 1) := by decide +kernel
theorem dX8_setRound_14 : decode cX8_setRound 14 = .ok (.ldc 81, 2) := by decide +kernel
theorem dX8_setRound_16 : decode cX8_setRound 16 = .ok (.invokespecial 51, 3) := by decide +kernel
theorem dX8_setRound_19 : decode cX8_setRound 19 = .ok (.athrow, 1) := by decide +kernel
theorem dX8_setRound_20 : decode cX8_setRound 20 = .ok (.iload_n 1, 1) := by decide +kernel
theorem dX8_setRound_21 : decode cX8_setRound 21 = .ok (.aload_n 0, 1) := by decide +kernel
theorem dX8_setRound_22 : decode cX8_setRound 22 = .ok (.getfield 10, 3) := by decide +kernel
theorem dX8_setRound_25 : decode cX8_setRound 25 = .ok (.getfield 19, 3) := by decide +kernel
theorem dX8_setRound_28 : decode cX8_setRound 28 = .ok (.invokevirtual 23, 3) := by decide +kernel
theorem dX8_setRound_31 : decode cX8_setRound 31 = .ok (.invokestatic 83, 3) := by decide +kernel
theorem dX8_setRound_34 : decode cX8_setRound 34 = .ok (.ifCond .ne 13, 3) := by decide +kernel
theorem dX8_setRound_37 : decode cX8_setRound 37 = .ok (.new 47, 3) := by decide +kernel
theorem dX8_setRound_40 : decode cX8_setRound 40 = .ok (.dup, 1) := by decide +kernel
theorem dX8_setRound_41 : decode cX8_setRound 41 = .ok (.ldc 87, 2) := by decide +kernel
theorem dX8_setRound_43 : decode cX8_setRound 43 = .ok (.invokespecial 51, 3) := by decide +kernel
theorem dX8_setRound_46 : decode cX8_setRound 46 = .ok (.athrow, 1) := by decide +kernel
theorem dX8_setRound_47 : decode cX8_setRound 47 = .ok (.iload_n 2, 1) := by decide +kernel
theorem dX8_setRound_48 : decode cX8_setRound 48 = .ok (.bipush 10, 2) := by decide +kernel
theorem dX8_setRound_50 : decode cX8_setRound 50 = .ok (.sipush 300, 3) := by decide +kernel
theorem dX8_setRound_53 : decode cX8_setRound 53 = .ok (.invokestatic 52, 3) := by decide +kernel
theorem dX8_setRound_56 : decode cX8_setRound 56 = .ok (.ifCond .ne 13, 3) := by decide +kernel
theorem dX8_setRound_59 : decode cX8_setRound 59 = .ok (.new 47, 3) := by decide +kernel
theorem dX8_setRound_62 : decode cX8_setRound 62 = .ok (.dup, 1) := by decide +kernel
theorem dX8_setRound_63 : decode cX8_setRound 63 = .ok (.ldc 89, 2) := by decide +kernel
theorem dX8_setRound_65 : decode cX8_setRound 65 = .ok (.invokespecial 51, 3) := by decide +kernel
theorem dX8_setRound_68 : decode cX8_setRound 68 = .ok (.athrow, 1) := by decide +kernel
theorem dX8_setRound_69 : decode cX8_setRound 69 = .ok (.aload_n 0, 1) := by decide +kernel
theorem dX8_setRound_70 : decode cX8_setRound 70 = .ok (.getfield 10, 3) := by decide +kernel
theorem dX8_setRound_73 : decode cX8_setRound 73 = .ok (.getfield 91, 3) := by decide +kernel
theorem dX8_setRound_76 : decode cX8_setRound 76 = .ok (.iload_n 1, 1) := by decide +kernel
theorem dX8_setRound_77 : decode cX8_setRound 77 = .ok (.iload_n 2, 1) := by decide +kernel
theorem dX8_setRound_78 : decode cX8_setRound 78 = .ok (.invokevirtual 95, 3) := by decide +kernel
theorem dX8_setRound_81 : decode cX8_setRound 81 = .ok (.aload_n 0, 1) := by decide +kernel
theorem dX8_setRound_82 : decode cX8_setRound 82 = .ok (.getfield 10, 3) := by decide +kernel
theorem dX8_setRound_85 : decode cX8_setRound 85 = .ok (.getfield 91, 3) := by decide +kernel
theorem dX8_setRound_88 : decode cX8_setRound 88 = .ok (.invokevirtual 100, 3) := by decide +kernel
theorem dX8_setRound_91 : decode cX8_setRound 91 = .ok (.ireturn, 1) := by decide +kernel
theorem dX8_halt_0 : decode cX8_halt 0 = .ok (.aload_n 0, 1) := by decide +kernel
theorem dX8_halt_1 : decode cX8_halt 1 = .ok (.iload_n 1, 1) := by decide +kernel
theorem dX8_halt_2 : decode cX8_halt 2 = .ok (.invokevirtual 43, 3) := by decide +kernel
theorem dX8_halt_5 : decode cX8_halt 5 = .ok (.iload_n 2, 1) := by decide +kernel
theorem dX8_halt_6 : decode cX8_halt 6 = .ok (.iconst 5, 1) := by decide +kernel
theorem dX8_halt_7 : decode cX8_halt 7 = .ok (.invokestatic 70, 3) := by decide +kernel
theorem dX8_halt_10 : decode cX8_halt 10 = .ok (.aload_n 0, 1) := by decide +kernel
theorem dX8_halt_11 : decode cX8_halt 11 = .ok (.getfield 10, 3) := by decide +kernel
theorem dX8_halt_14 : decode cX8_halt 14 = .ok (.iload_n 1, 1) := by decide +kernel
theorem dX8_halt_15 : decode cX8_halt 15 = .ok (.iload_n 2, 1) := by decide +kernel
theorem dX8_halt_16 : decode cX8_halt 16 = .ok (.invokevirtual 101, 3) := by decide +kernel
theorem dX8_halt_19 : decode cX8_halt 19 = .ok (.ireturn, 1) := by decide +kernel
theorem dX8_lane_0 : decode cX8_lane 0 = .ok (.iload_n 1, 1) := by decide +kernel
theorem dX8_lane_1 : decode cX8_lane 1 = .ok (.aload_n 0, 1) := by decide +kernel
theorem dX8_lane_2 : decode cX8_lane 2 = .ok (.getfield 10, 3) := by decide +kernel
theorem dX8_lane_5 : decode cX8_lane 5 = .ok (.getfield 60, 3) := by decide +kernel
theorem dX8_lane_8 : decode cX8_lane 8 = .ok (.invokevirtual 23, 3) := by decide +kernel
theorem dX8_lane_11 : decode cX8_lane 11 = .ok (.invokestatic 70, 3) := by decide +kernel
theorem dX8_lane_14 : decode cX8_lane 14 = .ok (.iload_n 2, 1) := by decide +kernel
theorem dX8_lane_15 : decode cX8_lane 15 = .ok (.bipush 6, 2) := by decide +kernel
theorem dX8_lane_17 : decode cX8_lane 17 = .ok (.invokestatic 70, 3) := by decide +kernel
theorem dX8_lane_20 : decode cX8_lane 20 = .ok (.aload_n 0, 1) := by decide +kernel
theorem dX8_lane_21 : decode cX8_lane 21 = .ok (.getfield 10, 3) := by decide +kernel
theorem dX8_lane_24 : decode cX8_lane 24 = .ok (.iload_n 1, 1) := by decide +kernel
theorem dX8_lane_25 : decode cX8_lane 25 = .ok (.iload_n 2, 1) := by decide +kernel
theorem dX8_lane_26 : decode cX8_lane 26 = .ok (.invokevirtual 104, 3) := by decide +kernel
theorem dX8_lane_29 : decode cX8_lane 29 = .ok (.ireturn, 1) := by decide +kernel
theorem dX8_way_0 : decode cX8_way 0 = .ok (.aload_n 0, 1) := by decide +kernel
theorem dX8_way_1 : decode cX8_way 1 = .ok (.iload_n 1, 1) := by decide +kernel
theorem dX8_way_2 : decode cX8_way 2 = .ok (.invokevirtual 43, 3) := by decide +kernel
theorem dX8_way_5 : decode cX8_way 5 = .ok (.aload_n 0, 1) := by decide +kernel
theorem dX8_way_6 : decode cX8_way 6 = .ok (.iload_n 2, 1) := by decide +kernel
theorem dX8_way_7 : decode cX8_way 7 = .ok (.invokevirtual 43, 3) := by decide +kernel
theorem dX8_way_10 : decode cX8_way 10 = .ok (.aload_n 0, 1) := by decide +kernel
theorem dX8_way_11 : decode cX8_way 11 = .ok (.getfield 10, 3) := by decide +kernel
theorem dX8_way_14 : decode cX8_way 14 = .ok (.iload_n 1, 1) := by decide +kernel
theorem dX8_way_15 : decode cX8_way 15 = .ok (.iload_n 2, 1) := by decide +kernel
theorem dX8_way_16 : decode cX8_way 16 = .ok (.invokevirtual 107, 3) := by decide +kernel
theorem dX8_way_19 : decode cX8_way 19 = .ok (.ireturn, 1) := by decide +kernel
theorem dX8_addBook_0 : decode cX8_addBook 0 = .ok (.iload_n 1, 1) := by decide +kernel
theorem dX8_addBook_1 : decode cX8_addBook 1 = .ok (.iconst 0, 1) := by decide +kernel
theorem dX8_addBook_2 : decode cX8_addBook 2 = .ok (.iconst 5, 1) := by decide +kernel
theorem dX8_addBook_3 : decode cX8_addBook 3 = .ok (.invokestatic 52, 3) := by decide +kernel
theorem dX8_addBook_6 : decode cX8_addBook 6 = .ok (.ifCond .ne 13, 3) := by decide +kernel
theorem dX8_addBook_9 : decode cX8_addBook 9 = .ok (.new 47, 3) := by decide +kernel
theorem dX8_addBook_12 : decode cX8_addBook 12 = .ok (.dup, 1) := by decide +kernel
theorem dX8_addBook_13 : decode cX8_addBook 13 = .ok (.ldc 110, 2) := by decide +kernel
theorem dX8_addBook_15 : decode cX8_addBook 15 = .ok (.invokespecial 51, 3) := by decide +kernel
theorem dX8_addBook_18 : decode cX8_addBook 18 = .ok (.athrow, 1) := by decide +kernel
theorem dX8_addBook_19 : decode cX8_addBook 19 = .ok (.aload_n 0, 1) := by decide +kernel
theorem dX8_addBook_20 : decode cX8_addBook 20 = .ok (.getfield 10, 3) := by decide +kernel
theorem dX8_addBook_23 : decode cX8_addBook 23 = .ok (.getfield 112, 3) := by decide +kernel
theorem dX8_addBook_26 : decode cX8_addBook 26 = .ok (.invokevirtual 23, 3) := by decide +kernel
theorem dX8_addBook_29 : decode cX8_addBook 29 = .ok (.istore_n 2, 1) := by decide +kernel
theorem dX8_addBook_30 : decode cX8_addBook 30 = .ok (.iload_n 2, 1) := by decide +kernel
theorem dX8_addBook_31 : decode cX8_addBook 31 = .ok (.bipush 24, 2) := by decide +kernel
theorem dX8_addBook_33 : decode cX8_addBook 33 = .ok (.if_icmp .lt 13, 3) := by decide +kernel
theorem dX8_addBook_36 : decode cX8_addBook 36 = .ok (.new 29, 3) := by decide +kernel
theorem dX8_addBook_39 : decode cX8_addBook 39 = .ok (.dup, 1) := by decide +kernel
theorem dX8_addBook_40 : decode cX8_addBook 40 = .ok (.ldc 115, 2) := by decide +kernel
theorem dX8_addBook_42 : decode cX8_addBook 42 = .ok (.invokespecial 33, 3) := by decide +kernel
theorem dX8_addBook_45 : decode cX8_addBook 45 = .ok (.athrow, 1) := by decide +kernel
theorem dX8_addBook_46 : decode cX8_addBook 46 = .ok (.aload_n 0, 1) := by decide +kernel
theorem dX8_addBook_47 : decode cX8_addBook 47 = .ok (.getfield 10, 3) := by decide +kernel
theorem dX8_addBook_50 : decode cX8_addBook 50 = .ok (.getfield 112, 3) := by decide +kernel
theorem dX8_addBook_53 : decode cX8_addBook 53 = .ok (.new 117, 3) := by decide +kernel
theorem dX8_addBook_56 : decode cX8_addBook 56 = .ok (.dup, 1) := by decide +kernel
theorem dX8_addBook_57 : decode cX8_addBook 57 = .ok (.iload_n 2, 1) := by decide +kernel
theorem dX8_addBook_58 : decode cX8_addBook 58 = .ok (.iload_n 1, 1) := by decide +kernel
theorem dX8_addBook_59 : decode cX8_addBook 59 = .ok (.invokespecial 119, 3) := by decide +kernel
theorem dX8_addBook_62 : decode cX8_addBook 62 = .ok (.invokevirtual 39, 3) := by decide +kernel
theorem dX8_addBook_65 : decode cX8_addBook 65 = .ok (.pop, 1) := by decide +kernel
theorem dX8_addBook_66 : decode cX8_addBook 66 = .ok (.aload_n 0, 1) := by decide +kernel
theorem dX8_addBook_67 : decode cX8_addBook 67 = .ok (.getfield 16, 3) := by decide +kernel
theorem dX8_addBook_70 : decode cX8_addBook 70 = .ok (.getfield 112, 3) := by decide +kernel
theorem dX8_addBook_73 : decode cX8_addBook 73 = .ok (.new 117, 3) := by decide +kernel
theorem dX8_addBook_76 : decode cX8_addBook 76 = .ok (.dup, 1) := by decide +kernel
theorem dX8_addBook_77 : decode cX8_addBook 77 = .ok (.iload_n 2, 1) := by decide +kernel
theorem dX8_addBook_78 : decode cX8_addBook 78 = .ok (.iload_n 1, 1) := by decide +kernel
theorem dX8_addBook_79 : decode cX8_addBook 79 = .ok (.invokespecial 119, 3) := by decide +kernel
theorem dX8_addBook_82 : decode cX8_addBook 82 = .ok (.invokevirtual 39, 3) := by decide +kernel
theorem dX8_addBook_85 : decode cX8_addBook 85 = .ok (.pop, 1) := by decide +kernel
theorem dX8_addBook_86 : decode cX8_addBook 86 = .ok (.iload_n 2, 1) := by decide +kernel
theorem dX8_addBook_87 : decode cX8_addBook 87 = .ok (.ireturn, 1) := by decide +kernel
theorem dX8_addReader_0 : decode cX8_addReader 0 = .ok (.aload_n 0, 1) := by decide +kernel
theorem dX8_addReader_1 : decode cX8_addReader 1 = .ok (.iload_n 1, 1) := by decide +kernel
theorem dX8_addReader_2 : decode cX8_addReader 2 = .ok (.invokevirtual 43, 3) := by decide +kernel
theorem dX8_addReader_5 : decode cX8_addReader 5 = .ok (.iload_n 2, 1) := by decide +kernel
theorem dX8_addReader_6 : decode cX8_addReader 6 = .ok (.iconst 0, 1) := by decide +kernel
theorem dX8_addReader_7 : decode cX8_addReader 7 = .ok (.iconst 5, 1) := by decide +kernel
theorem dX8_addReader_8 : decode cX8_addReader 8 = .ok (.invokestatic 52, 3) := by decide +kernel
theorem dX8_addReader_11 : decode cX8_addReader 11 = .ok (.ifCond .ne 13, 3) := by decide +kernel
theorem dX8_addReader_14 : decode cX8_addReader 14 = .ok (.new 47, 3) := by decide +kernel
theorem dX8_addReader_17 : decode cX8_addReader 17 = .ok (.dup, 1) := by decide +kernel
theorem dX8_addReader_18 : decode cX8_addReader 18 = .ok (.ldc 110, 2) := by decide +kernel
theorem dX8_addReader_20 : decode cX8_addReader 20 = .ok (.invokespecial 51, 3) := by decide +kernel
theorem dX8_addReader_23 : decode cX8_addReader 23 = .ok (.athrow, 1) := by decide +kernel
theorem dX8_addReader_24 : decode cX8_addReader 24 = .ok (.iload_n 3, 1) := by decide +kernel
theorem dX8_addReader_25 : decode cX8_addReader 25 = .ok (.iconst 1, 1) := by decide +kernel
theorem dX8_addReader_26 : decode cX8_addReader 26 = .ok (.bipush 30, 2) := by decide +kernel
theorem dX8_addReader_28 : decode cX8_addReader 28 = .ok (.invokestatic 52, 3) := by decide +kernel
theorem dX8_addReader_31 : decode cX8_addReader 31 = .ok (.ifCond .ne 13, 3) := by decide +kernel
theorem dX8_addReader_34 : decode cX8_addReader 34 = .ok (.new 47, 3) := by decide +kernel
theorem dX8_addReader_37 : decode cX8_addReader 37 = .ok (.dup, 1) := by decide +kernel
theorem dX8_addReader_38 : decode cX8_addReader 38 = .ok (.ldc 121, 2) := by decide +kernel
theorem dX8_addReader_40 : decode cX8_addReader 40 = .ok (.invokespecial 51, 3) := by decide +kernel
theorem dX8_addReader_43 : decode cX8_addReader 43 = .ok (.athrow, 1) := by decide +kernel
theorem dX8_addReader_44 : decode cX8_addReader 44 = .ok (.aload_n 0, 1) := by decide +kernel
theorem dX8_addReader_45 : decode cX8_addReader 45 = .ok (.getfield 10, 3) := by decide +kernel
theorem dX8_addReader_48 : decode cX8_addReader 48 = .ok (.getfield 123, 3) := by decide +kernel
theorem dX8_addReader_51 : decode cX8_addReader 51 = .ok (.invokevirtual 23, 3) := by decide +kernel
theorem dX8_addReader_54 : decode cX8_addReader 54 = .ok (.istore 4, 2) := by decide +kernel
theorem dX8_addReader_56 : decode cX8_addReader 56 = .ok (.iload 4, 2) := by decide +kernel
theorem dX8_addReader_58 : decode cX8_addReader 58 = .ok (.bipush 10, 2) := by decide +kernel
theorem dX8_addReader_60 : decode cX8_addReader 60 = .ok (.if_icmp .lt 13, 3) := by decide +kernel
theorem dX8_addReader_63 : decode cX8_addReader 63 = .ok (.new 29, 3) := by decide +kernel
theorem dX8_addReader_66 : decode cX8_addReader 66 = .ok (.dup, 1) := by decide +kernel
theorem dX8_addReader_67 : decode cX8_addReader 67 = .ok (.ldc 126, 2) := by decide +kernel
theorem dX8_addReader_69 : decode cX8_addReader 69 = .ok (.invokespecial 33, 3) := by decide +kernel
theorem dX8_addReader_72 : decode cX8_addReader 72 = .ok (.athrow, 1) := by decide +kernel
theorem dX8_addReader_73 : decode cX8_addReader 73 = .ok (.aload_n 0, 1) := by decide +kernel
theorem dX8_addReader_74 : decode cX8_addReader 74 = .ok (.getfield 10, 3) := by decide +kernel
theorem dX8_addReader_77 : decode cX8_addReader 77 = .ok (.getfield 123, 3) := by decide +kernel
theorem dX8_addReader_80 : decode cX8_addReader 80 = .ok (.new 128, 3) := by decide +kernel
theorem dX8_addReader_83 : decode cX8_addReader 83 = .ok (.dup, 1) := by decide +kernel
theorem dX8_addReader_84 : decode cX8_addReader 84 = .ok (.iload 4, 2) := by decide +kernel
theorem dX8_addReader_86 : decode cX8_addReader 86 = .ok (.iload_n 1, 1) := by decide +kernel
theorem dX8_addReader_87 : decode cX8_addReader 87 = .ok (.iload_n 2, 1) := by decide +kernel
theorem dX8_addReader_88 : decode cX8_addReader 88 = .ok (.iload_n 3, 1) := by decide +kernel
theorem dX8_addReader_89 : decode cX8_addReader 89 = .ok (.invokespecial 130, 3) := by decide +kernel
theorem dX8_addReader_92 : decode cX8_addReader 92 = .ok (.invokevirtual 39, 3) := by decide +kernel
theorem dX8_addReader_95 : decode cX8_addReader 95 = .ok (.pop, 1) := by decide +kernel
theorem dX8_addReader_96 : decode cX8_addReader 96 = .ok (.aload_n 0, 1) := by decide +kernel
theorem dX8_addReader_97 : decode cX8_addReader 97 = .ok (.getfield 16, 3) := by decide +kernel
theorem dX8_addReader_100 : decode cX8_addReader 100 = .ok (.getfield 123, 3) := by decide +kernel
theorem dX8_addReader_103 : decode cX8_addReader 103 = .ok (.new 128, 3) := by decide +kernel
theorem dX8_addReader_106 : decode cX8_addReader 106 = .ok (.dup, 1) := by decide +kernel
theorem dX8_addReader_107 : decode cX8_addReader 107 = .ok (.iload 4, 2) := by decide +kernel
theorem dX8_addReader_109 : decode cX8_addReader 109 = .ok (.iload_n 1, 1) := by decide +kernel
theorem dX8_addReader_110 : decode cX8_addReader 110 = .ok (.iload_n 2, 1) := by decide +kernel
theorem dX8_addReader_111 : decode cX8_addReader 111 = .ok (.iload_n 3, 1) := by decide +kernel
theorem dX8_addReader_112 : decode cX8_addReader 112 = .ok (.invokespecial 130, 3) := by decide +kernel
theorem dX8_addReader_115 : decode cX8_addReader 115 = .ok (.invokevirtual 39, 3) := by decide +kernel
theorem dX8_addReader_118 : decode cX8_addReader 118 = .ok (.pop, 1) := by decide +kernel
theorem dX8_addReader_119 : decode cX8_addReader 119 = .ok (.iload 4, 2) := by decide +kernel
theorem dX8_addReader_121 : decode cX8_addReader 121 = .ok (.ireturn, 1) := by decide +kernel
theorem dX8_reserve_0 : decode cX8_reserve 0 = .ok (.aload_n 0, 1) := by decide +kernel
theorem dX8_reserve_1 : decode cX8_reserve 1 = .ok (.iload_n 1, 1) := by decide +kernel
theorem dX8_reserve_2 : decode cX8_reserve 2 = .ok (.invokevirtual 131, 3) := by decide +kernel
theorem dX8_reserve_5 : decode cX8_reserve 5 = .ok (.aload_n 0, 1) := by decide +kernel
theorem dX8_reserve_6 : decode cX8_reserve 6 = .ok (.iload_n 2, 1) := by decide +kernel
theorem dX8_reserve_7 : decode cX8_reserve 7 = .ok (.invokevirtual 134, 3) := by decide +kernel
theorem dX8_reserve_10 : decode cX8_reserve 10 = .ok (.aload_n 0, 1) := by decide +kernel
theorem dX8_reserve_11 : decode cX8_reserve 11 = .ok (.getfield 10, 3) := by decide +kernel
theorem dX8_reserve_14 : decode cX8_reserve 14 = .ok (.getfield 112, 3) := by decide +kernel
theorem dX8_reserve_17 : decode cX8_reserve 17 = .ok (.iload_n 2, 1) := by decide +kernel
theorem dX8_reserve_18 : decode cX8_reserve 18 = .ok (.invokevirtual 137, 3) := by decide +kernel
theorem dX8_reserve_21 : decode cX8_reserve 21 = .ok (.checkcast 117, 3) := by decide +kernel
theorem dX8_reserve_24 : decode cX8_reserve 24 = .ok (.astore_n 3, 1) := by decide +kernel
theorem dX8_reserve_25 : decode cX8_reserve 25 = .ok (.aload_n 3, 1) := by decide +kernel
theorem dX8_reserve_26 : decode cX8_reserve 26 = .ok (.getfield 141, 3) := by decide +kernel
theorem dX8_reserve_29 : decode cX8_reserve 29 = .ok (.iload_n 1, 1) := by decide +kernel
theorem dX8_reserve_30 : decode cX8_reserve 30 = .ok (.invokevirtual 145, 3) := by decide +kernel
theorem dX8_reserve_33 : decode cX8_reserve 33 = .ok (.iconst (-1), 1) := by decide +kernel
theorem dX8_reserve_34 : decode cX8_reserve 34 = .ok (.if_icmp .eq 13, 3) := by decide +kernel
theorem dX8_reserve_37 : decode cX8_reserve 37 = .ok (.new 29, 3) := by decide +kernel
theorem dX8_reserve_40 : decode cX8_reserve 40 = .ok (.dup, 1) := by decide +kernel
theorem dX8_reserve_41 : decode cX8_reserve 41 = .ok (.ldc 151, 2) := by decide +kernel
theorem dX8_reserve_43 : decode cX8_reserve 43 = .ok (.invokespecial 33, 3) := by decide +kernel
theorem dX8_reserve_46 : decode cX8_reserve 46 = .ok (.athrow, 1) := by decide +kernel
theorem dX8_reserve_47 : decode cX8_reserve 47 = .ok (.aload_n 3, 1) := by decide +kernel
theorem dX8_reserve_48 : decode cX8_reserve 48 = .ok (.getfield 153, 3) := by decide +kernel
theorem dX8_reserve_51 : decode cX8_reserve 51 = .ok (.iload_n 1, 1) := by decide +kernel
theorem dX8_reserve_52 : decode cX8_reserve 52 = .ok (.if_icmp .ne 13, 3) := by decide +kernel
theorem dX8_reserve_55 : decode cX8_reserve 55 = .ok (.new 29, 3) := by decide +kernel
theorem dX8_reserve_58 : decode cX8_reserve 58 = .ok (.dup, 1) := by decide +kernel
theorem dX8_reserve_59 : decode cX8_reserve 59 = .ok (.ldc 157, 2) := by decide +kernel
theorem dX8_reserve_61 : decode cX8_reserve 61 = .ok (.invokespecial 33, 3) := by decide +kernel
theorem dX8_reserve_64 : decode cX8_reserve 64 = .ok (.athrow, 1) := by decide +kernel
theorem dX8_reserve_65 : decode cX8_reserve 65 = .ok (.aload_n 3, 1) := by decide +kernel
theorem dX8_reserve_66 : decode cX8_reserve 66 = .ok (.getfield 141, 3) := by decide +kernel
theorem dX8_reserve_69 : decode cX8_reserve 69 = .ok (.iload_n 1, 1) := by decide +kernel
theorem dX8_reserve_70 : decode cX8_reserve 70 = .ok (.invokevirtual 159, 3) := by decide +kernel
theorem dX8_reserve_73 : decode cX8_reserve 73 = .ok (.aload_n 3, 1) := by decide +kernel
theorem dX8_reserve_74 : decode cX8_reserve 74 = .ok (.getfield 141, 3) := by decide +kernel
theorem dX8_reserve_77 : decode cX8_reserve 77 = .ok (.invokevirtual 162, 3) := by decide +kernel
theorem dX8_reserve_80 : decode cX8_reserve 80 = .ok (.ireturn, 1) := by decide +kernel
theorem dX8_cancel_0 : decode cX8_cancel 0 = .ok (.aload_n 0, 1) := by decide +kernel
theorem dX8_cancel_1 : decode cX8_cancel 1 = .ok (.iload_n 1, 1) := by decide +kernel
theorem dX8_cancel_2 : decode cX8_cancel 2 = .ok (.invokevirtual 131, 3) := by decide +kernel
theorem dX8_cancel_5 : decode cX8_cancel 5 = .ok (.aload_n 0, 1) := by decide +kernel
theorem dX8_cancel_6 : decode cX8_cancel 6 = .ok (.iload_n 2, 1) := by decide +kernel
theorem dX8_cancel_7 : decode cX8_cancel 7 = .ok (.invokevirtual 134, 3) := by decide +kernel
theorem dX8_cancel_10 : decode cX8_cancel 10 = .ok (.aload_n 0, 1) := by decide +kernel
theorem dX8_cancel_11 : decode cX8_cancel 11 = .ok (.getfield 10, 3) := by decide +kernel
theorem dX8_cancel_14 : decode cX8_cancel 14 = .ok (.getfield 112, 3) := by decide +kernel
theorem dX8_cancel_17 : decode cX8_cancel 17 = .ok (.iload_n 2, 1) := by decide +kernel
theorem dX8_cancel_18 : decode cX8_cancel 18 = .ok (.invokevirtual 137, 3) := by decide +kernel
theorem dX8_cancel_21 : decode cX8_cancel 21 = .ok (.checkcast 117, 3) := by decide +kernel
theorem dX8_cancel_24 : decode cX8_cancel 24 = .ok (.getfield 141, 3) := by decide +kernel
theorem dX8_cancel_27 : decode cX8_cancel 27 = .ok (.astore_n 3, 1) := by decide +kernel
theorem dX8_cancel_28 : decode cX8_cancel 28 = .ok (.aload_n 3, 1) := by decide +kernel
theorem dX8_cancel_29 : decode cX8_cancel 29 = .ok (.iload_n 1, 1) := by decide +kernel
theorem dX8_cancel_30 : decode cX8_cancel 30 = .ok (.invokevirtual 145, 3) := by decide +kernel
theorem dX8_cancel_33 : decode cX8_cancel 33 = .ok (.istore 4, 2) := by decide +kernel
theorem dX8_cancel_35 : decode cX8_cancel 35 = .ok (.aload_n 3, 1) := by decide +kernel
theorem dX8_cancel_36 : decode cX8_cancel 36 = .ok (.iload 4, 2) := by decide +kernel
theorem dX8_cancel_38 : decode cX8_cancel 38 = .ok (.invokevirtual 163, 3) := by decide +kernel
theorem dX8_cancel_41 : decode cX8_cancel 41 = .ok (.iload 4, 2) := by decide +kernel
theorem dX8_cancel_43 : decode cX8_cancel 43 = .ok (.ireturn, 1) := by decide +kernel
theorem dX8_book_0 : decode cX8_book 0 = .ok (.aload_n 0, 1) := by decide +kernel
theorem dX8_book_1 : decode cX8_book 1 = .ok (.iload_n 1, 1) := by decide +kernel
theorem dX8_book_2 : decode cX8_book 2 = .ok (.invokevirtual 134, 3) := by decide +kernel
theorem dX8_book_5 : decode cX8_book 5 = .ok (.iload_n 2, 1) := by decide +kernel
theorem dX8_book_6 : decode cX8_book 6 = .ok (.bipush 7, 2) := by decide +kernel
theorem dX8_book_8 : decode cX8_book 8 = .ok (.invokestatic 70, 3) := by decide +kernel
theorem dX8_book_11 : decode cX8_book 11 = .ok (.aload_n 0, 1) := by decide +kernel
theorem dX8_book_12 : decode cX8_book 12 = .ok (.getfield 10, 3) := by decide +kernel
theorem dX8_book_15 : decode cX8_book 15 = .ok (.iload_n 1, 1) := by decide +kernel
theorem dX8_book_16 : decode cX8_book 16 = .ok (.iload_n 2, 1) := by decide +kernel
theorem dX8_book_17 : decode cX8_book 17 = .ok (.invokevirtual 166, 3) := by decide +kernel
theorem dX8_book_20 : decode cX8_book 20 = .ok (.ireturn, 1) := by decide +kernel
theorem dX8_reader_0 : decode cX8_reader 0 = .ok (.aload_n 0, 1) := by decide +kernel
theorem dX8_reader_1 : decode cX8_reader 1 = .ok (.iload_n 1, 1) := by decide +kernel
theorem dX8_reader_2 : decode cX8_reader 2 = .ok (.invokevirtual 131, 3) := by decide +kernel
theorem dX8_reader_5 : decode cX8_reader 5 = .ok (.iload_n 2, 1) := by decide +kernel
theorem dX8_reader_6 : decode cX8_reader 6 = .ok (.bipush 8, 2) := by decide +kernel
theorem dX8_reader_8 : decode cX8_reader 8 = .ok (.invokestatic 70, 3) := by decide +kernel
theorem dX8_reader_11 : decode cX8_reader 11 = .ok (.aload_n 0, 1) := by decide +kernel
theorem dX8_reader_12 : decode cX8_reader 12 = .ok (.getfield 10, 3) := by decide +kernel
theorem dX8_reader_15 : decode cX8_reader 15 = .ok (.iload_n 1, 1) := by decide +kernel
theorem dX8_reader_16 : decode cX8_reader 16 = .ok (.iload_n 2, 1) := by decide +kernel
theorem dX8_reader_17 : decode cX8_reader 17 = .ok (.invokevirtual 169, 3) := by decide +kernel
theorem dX8_reader_20 : decode cX8_reader 20 = .ok (.ireturn, 1) := by decide +kernel
theorem dX8_pay_0 : decode cX8_pay 0 = .ok (.aload_n 0, 1) := by decide +kernel
theorem dX8_pay_1 : decode cX8_pay 1 = .ok (.iload_n 1, 1) := by decide +kernel
theorem dX8_pay_2 : decode cX8_pay 2 = .ok (.invokevirtual 131, 3) := by decide +kernel
theorem dX8_pay_5 : decode cX8_pay 5 = .ok (.aload_n 0, 1) := by decide +kernel
theorem dX8_pay_6 : decode cX8_pay 6 = .ok (.getfield 10, 3) := by decide +kernel
theorem dX8_pay_9 : decode cX8_pay 9 = .ok (.getfield 123, 3) := by decide +kernel
theorem dX8_pay_12 : decode cX8_pay 12 = .ok (.iload_n 1, 1) := by decide +kernel
theorem dX8_pay_13 : decode cX8_pay 13 = .ok (.invokevirtual 137, 3) := by decide +kernel
theorem dX8_pay_16 : decode cX8_pay 16 = .ok (.checkcast 128, 3) := by decide +kernel
theorem dX8_pay_19 : decode cX8_pay 19 = .ok (.astore_n 3, 1) := by decide +kernel
theorem dX8_pay_20 : decode cX8_pay 20 = .ok (.iload_n 2, 1) := by decide +kernel
theorem dX8_pay_21 : decode cX8_pay 21 = .ok (.iconst 1, 1) := by decide +kernel
theorem dX8_pay_22 : decode cX8_pay 22 = .ok (.aload_n 3, 1) := by decide +kernel
theorem dX8_pay_23 : decode cX8_pay 23 = .ok (.getfield 172, 3) := by decide +kernel
theorem dX8_pay_26 : decode cX8_pay 26 = .ok (.invokestatic 52, 3) := by decide +kernel
theorem dX8_pay_29 : decode cX8_pay 29 = .ok (.ifCond .ne 13, 3) := by decide +kernel
theorem dX8_pay_32 : decode cX8_pay 32 = .ok (.new 47, 3) := by decide +kernel
theorem dX8_pay_35 : decode cX8_pay 35 = .ok (.dup, 1) := by decide +kernel
theorem dX8_pay_36 : decode cX8_pay 36 = .ok (.ldc 175, 2) := by decide +kernel
theorem dX8_pay_38 : decode cX8_pay 38 = .ok (.invokespecial 51, 3) := by decide +kernel
theorem dX8_pay_41 : decode cX8_pay 41 = .ok (.athrow, 1) := by decide +kernel
theorem dX8_pay_42 : decode cX8_pay 42 = .ok (.aload_n 3, 1) := by decide +kernel
theorem dX8_pay_43 : decode cX8_pay 43 = .ok (.dup, 1) := by decide +kernel
theorem dX8_pay_44 : decode cX8_pay 44 = .ok (.getfield 172, 3) := by decide +kernel
theorem dX8_pay_47 : decode cX8_pay 47 = .ok (.iload_n 2, 1) := by decide +kernel
theorem dX8_pay_48 : decode cX8_pay 48 = .ok (.isub, 1) := by decide +kernel
theorem dX8_pay_49 : decode cX8_pay 49 = .ok (.putfield 172, 3) := by decide +kernel
theorem dX8_pay_52 : decode cX8_pay 52 = .ok (.aload_n 3, 1) := by decide +kernel
theorem dX8_pay_53 : decode cX8_pay 53 = .ok (.getfield 172, 3) := by decide +kernel
theorem dX8_pay_56 : decode cX8_pay 56 = .ok (.ireturn, 1) := by decide +kernel
theorem dX8_pass_0 : decode cX8_pass 0 = .ok (.iload_n 1, 1) := by decide +kernel
theorem dX8_pass_1 : decode cX8_pass 1 = .ok (.bipush 60, 2) := by decide +kernel
theorem dX8_pass_3 : decode cX8_pass 3 = .ok (.invokestatic 177, 3) := by decide +kernel
theorem dX8_pass_6 : decode cX8_pass 6 = .ok (.aload_n 0, 1) := by decide +kernel
theorem dX8_pass_7 : decode cX8_pass 7 = .ok (.getfield 10, 3) := by decide +kernel
theorem dX8_pass_10 : decode cX8_pass 10 = .ok (.invokevirtual 180, 3) := by decide +kernel
theorem dX8_pass_13 : decode cX8_pass 13 = .ok (.istore_n 2, 1) := by decide +kernel
theorem dX8_pass_14 : decode cX8_pass 14 = .ok (.aload_n 0, 1) := by decide +kernel
theorem dX8_pass_15 : decode cX8_pass 15 = .ok (.getfield 10, 3) := by decide +kernel
theorem dX8_pass_18 : decode cX8_pass 18 = .ok (.iload_n 1, 1) := by decide +kernel
theorem dX8_pass_19 : decode cX8_pass 19 = .ok (.invokevirtual 183, 3) := by decide +kernel
theorem dX8_pass_22 : decode cX8_pass 22 = .ok (.aload_n 0, 1) := by decide +kernel
theorem dX8_pass_23 : decode cX8_pass 23 = .ok (.getfield 10, 3) := by decide +kernel
theorem dX8_pass_26 : decode cX8_pass 26 = .ok (.invokevirtual 180, 3) := by decide +kernel
theorem dX8_pass_29 : decode cX8_pass 29 = .ok (.iload_n 2, 1) := by decide +kernel
theorem dX8_pass_30 : decode cX8_pass 30 = .ok (.isub, 1) := by decide +kernel
theorem dX8_pass_31 : decode cX8_pass 31 = .ok (.ireturn, 1) := by decide +kernel
theorem dX8_count_0 : decode cX8_count 0 = .ok (.iload_n 1, 1) := by decide +kernel
theorem dX8_count_1 : decode cX8_count 1 = .ok (.bipush 10, 2) := by decide +kernel
theorem dX8_count_3 : decode cX8_count 3 = .ok (.invokestatic 70, 3) := by decide +kernel
theorem dX8_count_6 : decode cX8_count 6 = .ok (.aload_n 0, 1) := by decide +kernel
theorem dX8_count_7 : decode cX8_count 7 = .ok (.getfield 10, 3) := by decide +kernel
theorem dX8_count_10 : decode cX8_count 10 = .ok (.iload_n 1, 1) := by decide +kernel
theorem dX8_count_11 : decode cX8_count 11 = .ok (.invokevirtual 186, 3) := by decide +kernel
theorem dX8_count_14 : decode cX8_count 14 = .ok (.ireturn, 1) := by decide +kernel
theorem dX8_foresee_0 : decode cX8_foresee 0 = .ok (.iload_n 1, 1) := by decide +kernel
theorem dX8_foresee_1 : decode cX8_foresee 1 = .ok (.bipush 60, 2) := by decide +kernel
theorem dX8_foresee_3 : decode cX8_foresee 3 = .ok (.invokestatic 177, 3) := by decide +kernel
theorem dX8_foresee_6 : decode cX8_foresee 6 = .ok (.iload_n 2, 1) := by decide +kernel
theorem dX8_foresee_7 : decode cX8_foresee 7 = .ok (.iconst 4, 1) := by decide +kernel
theorem dX8_foresee_8 : decode cX8_foresee 8 = .ok (.invokestatic 70, 3) := by decide +kernel
theorem dX8_foresee_11 : decode cX8_foresee 11 = .ok (.aload_n 0, 1) := by decide +kernel
theorem dX8_foresee_12 : decode cX8_foresee 12 = .ok (.getfield 16, 3) := by decide +kernel
theorem dX8_foresee_15 : decode cX8_foresee 15 = .ok (.aload_n 0, 1) := by decide +kernel
theorem dX8_foresee_16 : decode cX8_foresee 16 = .ok (.getfield 10, 3) := by decide +kernel
theorem dX8_foresee_19 : decode cX8_foresee 19 = .ok (.invokevirtual 189, 3) := by decide +kernel
theorem dX8_foresee_22 : decode cX8_foresee 22 = .ok (.aload_n 0, 1) := by decide +kernel
theorem dX8_foresee_23 : decode cX8_foresee 23 = .ok (.getfield 16, 3) := by decide +kernel
theorem dX8_foresee_26 : decode cX8_foresee 26 = .ok (.iload_n 1, 1) := by decide +kernel
theorem dX8_foresee_27 : decode cX8_foresee 27 = .ok (.invokevirtual 183, 3) := by decide +kernel
theorem dX8_foresee_30 : decode cX8_foresee 30 = .ok (.iload_n 2, 1) := by decide +kernel
theorem dX8_foresee_31 : decode cX8_foresee 31 = .ok (.tableswitch 65 0 2 #[25, 41, 57], 25) := by decide +kernel
theorem dX8_foresee_56 : decode cX8_foresee 56 = .ok (.aload_n 0, 1) := by decide +kernel
theorem dX8_foresee_57 : decode cX8_foresee 57 = .ok (.getfield 16, 3) := by decide +kernel
theorem dX8_foresee_60 : decode cX8_foresee 60 = .ok (.invokevirtual 180, 3) := by decide +kernel
theorem dX8_foresee_63 : decode cX8_foresee 63 = .ok (.aload_n 0, 1) := by decide +kernel
theorem dX8_foresee_64 : decode cX8_foresee 64 = .ok (.getfield 10, 3) := by decide +kernel
theorem dX8_foresee_67 : decode cX8_foresee 67 = .ok (.invokevirtual 180, 3) := by decide +kernel
theorem dX8_foresee_70 : decode cX8_foresee 70 = .ok (.isub, 1) := by decide +kernel
theorem dX8_foresee_71 : decode cX8_foresee 71 = .ok (.ireturn, 1) := by decide +kernel
theorem dX8_foresee_72 : decode cX8_foresee 72 = .ok (.aload_n 0, 1) := by decide +kernel
theorem dX8_foresee_73 : decode cX8_foresee 73 = .ok (.getfield 16, 3) := by decide +kernel
theorem dX8_foresee_76 : decode cX8_foresee 76 = .ok (.invokevirtual 193, 3) := by decide +kernel
theorem dX8_foresee_79 : decode cX8_foresee 79 = .ok (.aload_n 0, 1) := by decide +kernel
theorem dX8_foresee_80 : decode cX8_foresee 80 = .ok (.getfield 10, 3) := by decide +kernel
theorem dX8_foresee_83 : decode cX8_foresee 83 = .ok (.invokevirtual 193, 3) := by decide +kernel
theorem dX8_foresee_86 : decode cX8_foresee 86 = .ok (.isub, 1) := by decide +kernel
theorem dX8_foresee_87 : decode cX8_foresee 87 = .ok (.ireturn, 1) := by decide +kernel
theorem dX8_foresee_88 : decode cX8_foresee 88 = .ok (.aload_n 0, 1) := by decide +kernel
theorem dX8_foresee_89 : decode cX8_foresee 89 = .ok (.getfield 16, 3) := by decide +kernel
theorem dX8_foresee_92 : decode cX8_foresee 92 = .ok (.invokevirtual 196, 3) := by decide +kernel
theorem dX8_foresee_95 : decode cX8_foresee 95 = .ok (.ireturn, 1) := by decide +kernel
theorem dX8_foresee_96 : decode cX8_foresee 96 = .ok (.aload_n 0, 1) := by decide +kernel
theorem dX8_foresee_97 : decode cX8_foresee 97 = .ok (.getfield 16, 3) := by decide +kernel
theorem dX8_foresee_100 : decode cX8_foresee 100 = .ok (.invokevirtual 199, 3) := by decide +kernel
theorem dX8_foresee_103 : decode cX8_foresee 103 = .ok (.ireturn, 1) := by decide +kernel
theorem dX8_gets_0 : decode cX8_gets 0 = .ok (.aload_n 0, 1) := by decide +kernel
theorem dX8_gets_1 : decode cX8_gets 1 = .ok (.iload_n 1, 1) := by decide +kernel
theorem dX8_gets_2 : decode cX8_gets 2 = .ok (.invokevirtual 131, 3) := by decide +kernel
theorem dX8_gets_5 : decode cX8_gets 5 = .ok (.aload_n 0, 1) := by decide +kernel
theorem dX8_gets_6 : decode cX8_gets 6 = .ok (.iload_n 2, 1) := by decide +kernel
theorem dX8_gets_7 : decode cX8_gets 7 = .ok (.invokevirtual 134, 3) := by decide +kernel
theorem dX8_gets_10 : decode cX8_gets 10 = .ok (.aload_n 0, 1) := by decide +kernel
theorem dX8_gets_11 : decode cX8_gets 11 = .ok (.getfield 10, 3) := by decide +kernel
theorem dX8_gets_14 : decode cX8_gets 14 = .ok (.iload_n 2, 1) := by decide +kernel
theorem dX8_gets_15 : decode cX8_gets 15 = .ok (.invokevirtual 202, 3) := by decide +kernel
theorem dX8_gets_18 : decode cX8_gets 18 = .ok (.iload_n 1, 1) := by decide +kernel
theorem dX8_gets_19 : decode cX8_gets 19 = .ok (.if_icmp .ne 5, 3) := by decide +kernel
theorem dX8_gets_22 : decode cX8_gets 22 = .ok (.iconst 0, 1) := by decide +kernel
theorem dX8_gets_23 : decode cX8_gets 23 = .ok (.ireturn, 1) := by decide +kernel
theorem dX8_gets_24 : decode cX8_gets 24 = .ok (.aload_n 0, 1) := by decide +kernel
theorem dX8_gets_25 : decode cX8_gets 25 = .ok (.getfield 16, 3) := by decide +kernel
theorem dX8_gets_28 : decode cX8_gets 28 = .ok (.aload_n 0, 1) := by decide +kernel
theorem dX8_gets_29 : decode cX8_gets 29 = .ok (.getfield 10, 3) := by decide +kernel
theorem dX8_gets_32 : decode cX8_gets 32 = .ok (.invokevirtual 189, 3) := by decide +kernel
theorem dX8_gets_35 : decode cX8_gets 35 = .ok (.iconst 1, 1) := by decide +kernel
theorem dX8_gets_36 : decode cX8_gets 36 = .ok (.istore_n 3, 1) := by decide +kernel
theorem dX8_gets_37 : decode cX8_gets 37 = .ok (.iload_n 3, 1) := by decide +kernel
theorem dX8_gets_38 : decode cX8_gets 38 = .ok (.bipush 100, 2) := by decide +kernel
theorem dX8_gets_40 : decode cX8_gets 40 = .ok (.if_icmp .gt 31, 3) := by decide +kernel
theorem dX8_gets_43 : decode cX8_gets 43 = .ok (.aload_n 0, 1) := by decide +kernel
theorem dX8_gets_44 : decode cX8_gets 44 = .ok (.getfield 16, 3) := by decide +kernel
theorem dX8_gets_47 : decode cX8_gets 47 = .ok (.iconst 1, 1) := by decide +kernel
theorem dX8_gets_48 : decode cX8_gets 48 = .ok (.invokevirtual 183, 3) := by decide +kernel
theorem dX8_gets_51 : decode cX8_gets 51 = .ok (.aload_n 0, 1) := by decide +kernel
theorem dX8_gets_52 : decode cX8_gets 52 = .ok (.getfield 16, 3) := by decide +kernel
theorem dX8_gets_55 : decode cX8_gets 55 = .ok (.iload_n 2, 1) := by decide +kernel
theorem dX8_gets_56 : decode cX8_gets 56 = .ok (.invokevirtual 202, 3) := by decide +kernel
theorem dX8_gets_59 : decode cX8_gets 59 = .ok (.iload_n 1, 1) := by decide +kernel
theorem dX8_gets_60 : decode cX8_gets 60 = .ok (.if_icmp .ne 5, 3) := by decide +kernel
theorem dX8_gets_63 : decode cX8_gets 63 = .ok (.iload_n 3, 1) := by decide +kernel
theorem dX8_gets_64 : decode cX8_gets 64 = .ok (.ireturn, 1) := by decide +kernel
theorem dX8_gets_65 : decode cX8_gets 65 = .ok (.iinc 3 1, 3) := by decide +kernel
theorem dX8_gets_68 : decode cX8_gets 68 = .ok (.goto (-31), 3) := by decide +kernel
theorem dX8_gets_71 : decode cX8_gets 71 = .ok (.iconst (-1), 1) := by decide +kernel
theorem dX8_gets_72 : decode cX8_gets 72 = .ok (.ireturn, 1) := by decide +kernel
theorem dX8_advise_0 : decode cX8_advise 0 = .ok (.iload_n 1, 1) := by decide +kernel
theorem dX8_advise_1 : decode cX8_advise 1 = .ok (.bipush 30, 2) := by decide +kernel
theorem dX8_advise_3 : decode cX8_advise 3 = .ok (.invokestatic 177, 3) := by decide +kernel
theorem dX8_advise_6 : decode cX8_advise 6 = .ok (.aload_n 0, 1) := by decide +kernel
theorem dX8_advise_7 : decode cX8_advise 7 = .ok (.getfield 10, 3) := by decide +kernel
theorem dX8_advise_10 : decode cX8_advise 10 = .ok (.getfield 91, 3) := by decide +kernel
theorem dX8_advise_13 : decode cX8_advise 13 = .ok (.invokevirtual 100, 3) := by decide +kernel
theorem dX8_advise_16 : decode cX8_advise 16 = .ok (.bipush 8, 2) := by decide +kernel
theorem dX8_advise_18 : decode cX8_advise 18 = .ok (.if_icmp .lt 13, 3) := by decide +kernel
theorem dX8_advise_21 : decode cX8_advise 21 = .ok (.new 29, 3) := by decide +kernel
theorem dX8_advise_24 : decode cX8_advise 24 = .ok (.dup, 1) := by decide +kernel
theorem dX8_advise_25 : decode cX8_advise 25 = .ok (.ldc 205, 2) := by decide +kernel
theorem dX8_advise_27 : decode cX8_advise 27 = .ok (.invokespecial 33, 3) := by decide +kernel
theorem dX8_advise_30 : decode cX8_advise 30 = .ok (.athrow, 1) := by decide +kernel
theorem dX8_advise_31 : decode cX8_advise 31 = .ok (.iconst (-1), 1) := by decide +kernel
theorem dX8_advise_32 : decode cX8_advise 32 = .ok (.istore_n 2, 1) := by decide +kernel
theorem dX8_advise_33 : decode cX8_advise 33 = .ok (.aload_n 0, 1) := by decide +kernel
theorem dX8_advise_34 : decode cX8_advise 34 = .ok (.iload_n 1, 1) := by decide +kernel
theorem dX8_advise_35 : decode cX8_advise 35 = .ok (.iconst (-1), 1) := by decide +kernel
theorem dX8_advise_36 : decode cX8_advise 36 = .ok (.invokevirtual 207, 3) := by decide +kernel
theorem dX8_advise_39 : decode cX8_advise 39 = .ok (.istore_n 3, 1) := by decide +kernel
theorem dX8_advise_40 : decode cX8_advise 40 = .ok (.iconst 0, 1) := by decide +kernel
theorem dX8_advise_41 : decode cX8_advise 41 = .ok (.istore 4, 2) := by decide +kernel
theorem dX8_advise_43 : decode cX8_advise 43 = .ok (.iload 4, 2) := by decide +kernel
theorem dX8_advise_45 : decode cX8_advise 45 = .ok (.aload_n 0, 1) := by decide +kernel
theorem dX8_advise_46 : decode cX8_advise 46 = .ok (.getfield 10, 3) := by decide +kernel
theorem dX8_advise_49 : decode cX8_advise 49 = .ok (.getfield 19, 3) := by decide +kernel
theorem dX8_advise_52 : decode cX8_advise 52 = .ok (.invokevirtual 23, 3) := by decide +kernel
theorem dX8_advise_55 : decode cX8_advise 55 = .ok (.if_icmp .ge 30, 3) := by decide +kernel
theorem dX8_advise_58 : decode cX8_advise 58 = .ok (.aload_n 0, 1) := by decide +kernel
theorem dX8_advise_59 : decode cX8_advise 59 = .ok (.iload_n 1, 1) := by decide +kernel
theorem dX8_advise_60 : decode cX8_advise 60 = .ok (.iload 4, 2) := by decide +kernel
theorem dX8_advise_62 : decode cX8_advise 62 = .ok (.invokevirtual 207, 3) := by decide +kernel
theorem dX8_advise_65 : decode cX8_advise 65 = .ok (.istore 5, 2) := by decide +kernel
theorem dX8_advise_67 : decode cX8_advise 67 = .ok (.iload 5, 2) := by decide +kernel
theorem dX8_advise_69 : decode cX8_advise 69 = .ok (.iload_n 3, 1) := by decide +kernel
theorem dX8_advise_70 : decode cX8_advise 70 = .ok (.if_icmp .le 9, 3) := by decide +kernel
theorem dX8_advise_73 : decode cX8_advise 73 = .ok (.iload 4, 2) := by decide +kernel
theorem dX8_advise_75 : decode cX8_advise 75 = .ok (.istore_n 2, 1) := by decide +kernel
theorem dX8_advise_76 : decode cX8_advise 76 = .ok (.iload 5, 2) := by decide +kernel
theorem dX8_advise_78 : decode cX8_advise 78 = .ok (.istore_n 3, 1) := by decide +kernel
theorem dX8_advise_79 : decode cX8_advise 79 = .ok (.iinc 4 1, 3) := by decide +kernel
theorem dX8_advise_82 : decode cX8_advise 82 = .ok (.goto (-39), 3) := by decide +kernel
theorem dX8_advise_85 : decode cX8_advise 85 = .ok (.iload_n 2, 1) := by decide +kernel
theorem dX8_advise_86 : decode cX8_advise 86 = .ok (.ireturn, 1) := by decide +kernel
theorem dX8_daily_0 : decode cX8_daily 0 = .ok (.aload_n 0, 1) := by decide +kernel
theorem dX8_daily_1 : decode cX8_daily 1 = .ok (.getfield 10, 3) := by decide +kernel
theorem dX8_daily_4 : decode cX8_daily 4 = .ok (.getfield 210, 3) := by decide +kernel
theorem dX8_daily_7 : decode cX8_daily 7 = .ok (.ifCond .gt 5, 3) := by decide +kernel
theorem dX8_daily_10 : decode cX8_daily 10 = .ok (.dconst 0, 1) := by decide +kernel
theorem dX8_daily_11 : decode cX8_daily 11 = .ok (.dreturn, 1) := by decide +kernel
theorem dX8_daily_12 : decode cX8_daily 12 = .ok (.aload_n 0, 1) := by decide +kernel
theorem dX8_daily_13 : decode cX8_daily 13 = .ok (.getfield 10, 3) := by decide +kernel
theorem dX8_daily_16 : decode cX8_daily 16 = .ok (.invokevirtual 180, 3) := by decide +kernel
theorem dX8_daily_19 : decode cX8_daily 19 = .ok (.i2d, 1) := by decide +kernel
theorem dX8_daily_20 : decode cX8_daily 20 = .ok (.aload_n 0, 1) := by decide +kernel
theorem dX8_daily_21 : decode cX8_daily 21 = .ok (.getfield 10, 3) := by decide +kernel
theorem dX8_daily_24 : decode cX8_daily 24 = .ok (.getfield 210, 3) := by decide +kernel
theorem dX8_daily_27 : decode cX8_daily 27 = .ok (.i2d, 1) := by decide +kernel
theorem dX8_daily_28 : decode cX8_daily 28 = .ok (.ddiv, 1) := by decide +kernel
theorem dX8_daily_29 : decode cX8_daily 29 = .ok (.dreturn, 1) := by decide +kernel
theorem dX8_digest_0 : decode cX8_digest 0 = .ok (.aload_n 0, 1) := by decide +kernel
theorem dX8_digest_1 : decode cX8_digest 1 = .ok (.getfield 10, 3) := by decide +kernel
theorem dX8_digest_4 : decode cX8_digest 4 = .ok (.ldc2_w 213, 3) := by decide +kernel
theorem dX8_digest_7 : decode cX8_digest 7 = .ok (.invokevirtual 215, 3) := by decide +kernel
theorem dX8_digest_10 : decode cX8_digest 10 = .ok (.lstore_n 1, 1) := by decide +kernel
theorem dX8_digest_11 : decode cX8_digest 11 = .ok (.aload_n 0, 1) := by decide +kernel
theorem dX8_digest_12 : decode cX8_digest 12 = .ok (.getfield 10, 3) := by decide +kernel
theorem dX8_digest_15 : decode cX8_digest 15 = .ok (.lload_n 1, 1) := by decide +kernel
theorem dX8_digest_16 : decode cX8_digest 16 = .ok (.invokevirtual 219, 3) := by decide +kernel
theorem dX8_digest_19 : decode cX8_digest 19 = .ok (.lstore_n 1, 1) := by decide +kernel
theorem dX8_digest_20 : decode cX8_digest 20 = .ok (.aload_n 0, 1) := by decide +kernel
theorem dX8_digest_21 : decode cX8_digest 21 = .ok (.getfield 10, 3) := by decide +kernel
theorem dX8_digest_24 : decode cX8_digest 24 = .ok (.lload_n 1, 1) := by decide +kernel
theorem dX8_digest_25 : decode cX8_digest 25 = .ok (.invokevirtual 222, 3) := by decide +kernel
theorem dX8_digest_28 : decode cX8_digest 28 = .ok (.lreturn, 1) := by decide +kernel
theorem dX8_isWithin_0 : decode cX8_isWithin 0 = .ok (.iload_n 0, 1) := by decide +kernel
theorem dX8_isWithin_1 : decode cX8_isWithin 1 = .ok (.iload_n 1, 1) := by decide +kernel
theorem dX8_isWithin_2 : decode cX8_isWithin 2 = .ok (.if_icmp .lt 12, 3) := by decide +kernel
theorem dX8_isWithin_5 : decode cX8_isWithin 5 = .ok (.iload_n 0, 1) := by decide +kernel
theorem dX8_isWithin_6 : decode cX8_isWithin 6 = .ok (.iload_n 2, 1) := by decide +kernel
theorem dX8_isWithin_7 : decode cX8_isWithin 7 = .ok (.if_icmp .gt 7, 3) := by decide +kernel
theorem dX8_isWithin_10 : decode cX8_isWithin 10 = .ok (.iconst 1, 1) := by decide +kernel
theorem dX8_isWithin_11 : decode cX8_isWithin 11 = .ok (.goto 4, 3) := by decide +kernel
theorem dX8_isWithin_14 : decode cX8_isWithin 14 = .ok (.iconst 0, 1) := by decide +kernel
theorem dX8_isWithin_15 : decode cX8_isWithin 15 = .ok (.ireturn, 1) := by decide +kernel
theorem dX8_needKind_0 : decode cX8_needKind 0 = .ok (.iload_n 0, 1) := by decide +kernel
theorem dX8_needKind_1 : decode cX8_needKind 1 = .ok (.ifCond .lt 8, 3) := by decide +kernel
theorem dX8_needKind_4 : decode cX8_needKind 4 = .ok (.iload_n 0, 1) := by decide +kernel
theorem dX8_needKind_5 : decode cX8_needKind 5 = .ok (.iload_n 1, 1) := by decide +kernel
theorem dX8_needKind_6 : decode cX8_needKind 6 = .ok (.if_icmp .lt 13, 3) := by decide +kernel
theorem dX8_needKind_9 : decode cX8_needKind 9 = .ok (.new 225, 3) := by decide +kernel
theorem dX8_needKind_12 : decode cX8_needKind 12 = .ok (.dup, 1) := by decide +kernel
theorem dX8_needKind_13 : decode cX8_needKind 13 = .ok (.ldc 227, 2) := by decide +kernel
theorem dX8_needKind_15 : decode cX8_needKind 15 = .ok (.invokespecial 229, 3) := by decide +kernel
theorem dX8_needKind_18 : decode cX8_needKind 18 = .ok (.athrow, 1) := by decide +kernel
theorem dX8_needKind_19 : decode cX8_needKind 19 = .ok (.return_, 1) := by decide +kernel
theorem dX8_needDays_0 : decode cX8_needDays 0 = .ok (.iload_n 0, 1) := by decide +kernel
theorem dX8_needDays_1 : decode cX8_needDays 1 = .ok (.iconst 1, 1) := by decide +kernel
theorem dX8_needDays_2 : decode cX8_needDays 2 = .ok (.iload_n 1, 1) := by decide +kernel
theorem dX8_needDays_3 : decode cX8_needDays 3 = .ok (.invokestatic 52, 3) := by decide +kernel
theorem dX8_needDays_6 : decode cX8_needDays 6 = .ok (.ifCond .ne 13, 3) := by decide +kernel
theorem dX8_needDays_9 : decode cX8_needDays 9 = .ok (.new 47, 3) := by decide +kernel
theorem dX8_needDays_12 : decode cX8_needDays 12 = .ok (.dup, 1) := by decide +kernel
theorem dX8_needDays_13 : decode cX8_needDays 13 = .ok (.ldc 230, 2) := by decide +kernel
theorem dX8_needDays_15 : decode cX8_needDays 15 = .ok (.invokespecial 51, 3) := by decide +kernel
theorem dX8_needDays_18 : decode cX8_needDays 18 = .ok (.athrow, 1) := by decide +kernel
theorem dX8_needDays_19 : decode cX8_needDays 19 = .ok (.return_, 1) := by decide +kernel
theorem dX8_needHalt_0 : decode cX8_needHalt 0 = .ok (.iload_n 1, 1) := by decide +kernel
theorem dX8_needHalt_1 : decode cX8_needHalt 1 = .ok (.aload_n 0, 1) := by decide +kernel
theorem dX8_needHalt_2 : decode cX8_needHalt 2 = .ok (.getfield 10, 3) := by decide +kernel
theorem dX8_needHalt_5 : decode cX8_needHalt 5 = .ok (.getfield 19, 3) := by decide +kernel
theorem dX8_needHalt_8 : decode cX8_needHalt 8 = .ok (.invokevirtual 23, 3) := by decide +kernel
theorem dX8_needHalt_11 : decode cX8_needHalt 11 = .ok (.invokestatic 70, 3) := by decide +kernel
theorem dX8_needHalt_14 : decode cX8_needHalt 14 = .ok (.return_, 1) := by decide +kernel
theorem dX8_needBook_0 : decode cX8_needBook 0 = .ok (.iload_n 1, 1) := by decide +kernel
theorem dX8_needBook_1 : decode cX8_needBook 1 = .ok (.aload_n 0, 1) := by decide +kernel
theorem dX8_needBook_2 : decode cX8_needBook 2 = .ok (.getfield 10, 3) := by decide +kernel
theorem dX8_needBook_5 : decode cX8_needBook 5 = .ok (.getfield 112, 3) := by decide +kernel
theorem dX8_needBook_8 : decode cX8_needBook 8 = .ok (.invokevirtual 23, 3) := by decide +kernel
theorem dX8_needBook_11 : decode cX8_needBook 11 = .ok (.invokestatic 70, 3) := by decide +kernel
theorem dX8_needBook_14 : decode cX8_needBook 14 = .ok (.return_, 1) := by decide +kernel
theorem dX8_needReader_0 : decode cX8_needReader 0 = .ok (.iload_n 1, 1) := by decide +kernel
theorem dX8_needReader_1 : decode cX8_needReader 1 = .ok (.aload_n 0, 1) := by decide +kernel
theorem dX8_needReader_2 : decode cX8_needReader 2 = .ok (.getfield 10, 3) := by decide +kernel
theorem dX8_needReader_5 : decode cX8_needReader 5 = .ok (.getfield 123, 3) := by decide +kernel
theorem dX8_needReader_8 : decode cX8_needReader 8 = .ok (.invokevirtual 23, 3) := by decide +kernel
theorem dX8_needReader_11 : decode cX8_needReader 11 = .ok (.invokestatic 70, 3) := by decide +kernel
theorem dX8_needReader_14 : decode cX8_needReader 14 = .ok (.return_, 1) := by decide +kernel
theorem dX8_standsForHalts_0 : decode cX8_standsForHalts 0 = .ok (.iload_n 0, 1) := by decide +kernel
theorem dX8_standsForHalts_1 : decode cX8_standsForHalts 1 = .ok (.istore_n 2, 1) := by decide +kernel
theorem dX8_standsForHalts_2 : decode cX8_standsForHalts 2 = .ok (.iload_n 2, 1) := by decide +kernel
theorem dX8_standsForHalts_3 : decode cX8_standsForHalts 3 = .ok (.ifCond .le 25, 3) := by decide +kernel
theorem dX8_standsForHalts_6 : decode cX8_standsForHalts 6 = .ok (.iload_n 2, 1) := by decide +kernel
theorem dX8_standsForHalts_7 : decode cX8_standsForHalts 7 = .ok (.bipush 10, 2) := by decide +kernel
theorem dX8_standsForHalts_9 : decode cX8_standsForHalts 9 = .ok (.irem, 1) := by decide +kernel
theorem dX8_standsForHalts_10 : decode cX8_standsForHalts 10 = .ok (.iconst 1, 1) := by decide +kernel
theorem dX8_standsForHalts_11 : decode cX8_standsForHalts 11 = .ok (.iload_n 1, 1) := by decide +kernel
theorem dX8_standsForHalts_12 : decode cX8_standsForHalts 12 = .ok (.invokestatic 52, 3) := by decide +kernel
theorem dX8_standsForHalts_15 : decode cX8_standsForHalts 15 = .ok (.ifCond .ne 5, 3) := by decide +kernel
theorem dX8_standsForHalts_18 : decode cX8_standsForHalts 18 = .ok (.iconst 0, 1) := by decide +kernel
theorem dX8_standsForHalts_19 : decode cX8_standsForHalts 19 = .ok (.ireturn, 1) := by decide +kernel
theorem dX8_standsForHalts_20 : decode cX8_standsForHalts 20 = .ok (.iload_n 2, 1) := by decide +kernel
theorem dX8_standsForHalts_21 : decode cX8_standsForHalts 21 = .ok (.bipush 10, 2) := by decide +kernel
theorem dX8_standsForHalts_23 : decode cX8_standsForHalts 23 = .ok (.idiv, 1) := by decide +kernel
theorem dX8_standsForHalts_24 : decode cX8_standsForHalts 24 = .ok (.istore_n 2, 1) := by decide +kernel
theorem dX8_standsForHalts_25 : decode cX8_standsForHalts 25 = .ok (.goto (-23), 3) := by decide +kernel
theorem dX8_standsForHalts_28 : decode cX8_standsForHalts 28 = .ok (.iconst 1, 1) := by decide +kernel
theorem dX8_standsForHalts_29 : decode cX8_standsForHalts 29 = .ok (.ireturn, 1) := by decide +kernel
theorem dX8_loansAhead_0 : decode cX8_loansAhead 0 = .ok (.aload_n 0, 1) := by decide +kernel
theorem dX8_loansAhead_1 : decode cX8_loansAhead 1 = .ok (.getfield 16, 3) := by decide +kernel
theorem dX8_loansAhead_4 : decode cX8_loansAhead 4 = .ok (.aload_n 0, 1) := by decide +kernel
theorem dX8_loansAhead_5 : decode cX8_loansAhead 5 = .ok (.getfield 10, 3) := by decide +kernel
theorem dX8_loansAhead_8 : decode cX8_loansAhead 8 = .ok (.invokevirtual 189, 3) := by decide +kernel
theorem dX8_loansAhead_11 : decode cX8_loansAhead 11 = .ok (.iload_n 2, 1) := by decide +kernel
theorem dX8_loansAhead_12 : decode cX8_loansAhead 12 = .ok (.iconst (-1), 1) := by decide +kernel
theorem dX8_loansAhead_13 : decode cX8_loansAhead 13 = .ok (.if_icmp .eq 14, 3) := by decide +kernel
theorem dX8_loansAhead_16 : decode cX8_loansAhead 16 = .ok (.aload_n 0, 1) := by decide +kernel
theorem dX8_loansAhead_17 : decode cX8_loansAhead 17 = .ok (.getfield 16, 3) := by decide +kernel
theorem dX8_loansAhead_20 : decode cX8_loansAhead 20 = .ok (.getfield 91, 3) := by decide +kernel
theorem dX8_loansAhead_23 : decode cX8_loansAhead 23 = .ok (.iload_n 2, 1) := by decide +kernel
theorem dX8_loansAhead_24 : decode cX8_loansAhead 24 = .ok (.invokevirtual 232, 3) := by decide +kernel
theorem dX8_loansAhead_27 : decode cX8_loansAhead 27 = .ok (.aload_n 0, 1) := by decide +kernel
theorem dX8_loansAhead_28 : decode cX8_loansAhead 28 = .ok (.getfield 16, 3) := by decide +kernel
theorem dX8_loansAhead_31 : decode cX8_loansAhead 31 = .ok (.iload_n 1, 1) := by decide +kernel
theorem dX8_loansAhead_32 : decode cX8_loansAhead 32 = .ok (.invokevirtual 183, 3) := by decide +kernel
theorem dX8_loansAhead_35 : decode cX8_loansAhead 35 = .ok (.aload_n 0, 1) := by decide +kernel
theorem dX8_loansAhead_36 : decode cX8_loansAhead 36 = .ok (.getfield 16, 3) := by decide +kernel
theorem dX8_loansAhead_39 : decode cX8_loansAhead 39 = .ok (.invokevirtual 180, 3) := by decide +kernel
theorem dX8_loansAhead_42 : decode cX8_loansAhead 42 = .ok (.aload_n 0, 1) := by decide +kernel
theorem dX8_loansAhead_43 : decode cX8_loansAhead 43 = .ok (.getfield 10, 3) := by decide +kernel
theorem dX8_loansAhead_46 : decode cX8_loansAhead 46 = .ok (.invokevirtual 180, 3) := by decide +kernel
theorem dX8_loansAhead_49 : decode cX8_loansAhead 49 = .ok (.isub, 1) := by decide +kernel
theorem dX8_loansAhead_50 : decode cX8_loansAhead 50 = .ok (.ireturn, 1) := by decide +kernel
theorem dX8_mix_0 : decode cX8_mix 0 = .ok (.lload_n 0, 1) := by decide +kernel
theorem dX8_mix_1 : decode cX8_mix 1 = .ok (.ldc2_w 235, 3) := by decide +kernel
theorem dX8_mix_4 : decode cX8_mix 4 = .ok (.lmul, 1) := by decide +kernel
theorem dX8_mix_5 : decode cX8_mix 5 = .ok (.lload_n 2, 1) := by decide +kernel
theorem dX8_mix_6 : decode cX8_mix 6 = .ok (.ladd, 1) := by decide +kernel
theorem dX8_mix_7 : decode cX8_mix 7 = .ok (.lreturn, 1) := by decide +kernel
theorem dX8_copyRow_0 : decode cX8_copyRow 0 = .ok (.iconst 0, 1) := by decide +kernel
theorem dX8_copyRow_1 : decode cX8_copyRow 1 = .ok (.istore_n 2, 1) := by decide +kernel
theorem dX8_copyRow_2 : decode cX8_copyRow 2 = .ok (.iload_n 2, 1) := by decide +kernel
theorem dX8_copyRow_3 : decode cX8_copyRow 3 = .ok (.aload_n 0, 1) := by decide +kernel
theorem dX8_copyRow_4 : decode cX8_copyRow 4 = .ok (.arraylength, 1) := by decide +kernel
theorem dX8_copyRow_5 : decode cX8_copyRow 5 = .ok (.if_icmp .ge 21, 3) := by decide +kernel
theorem dX8_copyRow_8 : decode cX8_copyRow 8 = .ok (.iload_n 2, 1) := by decide +kernel
theorem dX8_copyRow_9 : decode cX8_copyRow 9 = .ok (.aload_n 1, 1) := by decide +kernel
theorem dX8_copyRow_10 : decode cX8_copyRow 10 = .ok (.arraylength, 1) := by decide +kernel
theorem dX8_copyRow_11 : decode cX8_copyRow 11 = .ok (.if_icmp .ge 15, 3) := by decide +kernel
theorem dX8_copyRow_14 : decode cX8_copyRow 14 = .ok (.aload_n 1, 1) := by decide +kernel
theorem dX8_copyRow_15 : decode cX8_copyRow 15 = .ok (.iload_n 2, 1) := by decide +kernel
theorem dX8_copyRow_16 : decode cX8_copyRow 16 = .ok (.aload_n 0, 1) := by decide +kernel
theorem dX8_copyRow_17 : decode cX8_copyRow 17 = .ok (.iload_n 2, 1) := by decide +kernel
theorem dX8_copyRow_18 : decode cX8_copyRow 18 = .ok (.iaload, 1) := by decide +kernel
theorem dX8_copyRow_19 : decode cX8_copyRow 19 = .ok (.iastore, 1) := by decide +kernel
theorem dX8_copyRow_20 : decode cX8_copyRow 20 = .ok (.iinc 2 1, 3) := by decide +kernel
theorem dX8_copyRow_23 : decode cX8_copyRow 23 = .ok (.goto (-21), 3) := by decide +kernel
theorem dX8_copyRow_26 : decode cX8_copyRow 26 = .ok (.return_, 1) := by decide +kernel
end
section
theorem dX9_init_0 : decode cX9_init 0 = .ok (.aload_n 0, 1) := by decide +kernel
theorem dX9_init_1 : decode cX9_init 1 = .ok (.aload_n 1, 1) := by decide +kernel
theorem dX9_init_2 : decode cX9_init 2 = .ok (.putfield 3, 3) := by decide +kernel
theorem dX9_init_5 : decode cX9_init 5 = .ok (.aload_n 0, 1) := by decide +kernel
theorem dX9_init_6 : decode cX9_init 6 = .ok (.invokespecial 9, 3) := by decide +kernel
theorem dX9_init_9 : decode cX9_init 9 = .ok (.aload_n 0, 1) := by decide +kernel
theorem dX9_init_10 : decode cX9_init 10 = .ok (.bipush 16, 2) := by decide +kernel
theorem dX9_init_12 : decode cX9_init 12 = .ok (.newarray .int, 2) := by decide +kernel
theorem dX9_init_14 : decode cX9_init 14 = .ok (.putfield 15, 3) := by decide +kernel
theorem dX9_init_17 : decode cX9_init 17 = .ok (.aload_n 0, 1) := by decide +kernel
theorem dX9_init_18 : decode cX9_init 18 = .ok (.bipush 8, 2) := by decide +kernel
theorem dX9_init_20 : decode cX9_init 20 = .ok (.newarray .int, 2) := by decide +kernel
theorem dX9_init_22 : decode cX9_init 22 = .ok (.putfield 19, 3) := by decide +kernel
theorem dX9_init_25 : decode cX9_init 25 = .ok (.aload_n 0, 1) := by decide +kernel
theorem dX9_init_26 : decode cX9_init 26 = .ok (.bipush 8, 2) := by decide +kernel
theorem dX9_init_28 : decode cX9_init 28 = .ok (.newarray .int, 2) := by decide +kernel
theorem dX9_init_30 : decode cX9_init 30 = .ok (.putfield 22, 3) := by decide +kernel
theorem dX9_init_33 : decode cX9_init 33 = .ok (.aload_n 0, 1) := by decide +kernel
theorem dX9_init_34 : decode cX9_init 34 = .ok (.bipush 8, 2) := by decide +kernel
theorem dX9_init_36 : decode cX9_init 36 = .ok (.newarray .int, 2) := by decide +kernel
theorem dX9_init_38 : decode cX9_init 38 = .ok (.putfield 25, 3) := by decide +kernel
theorem dX9_init_41 : decode cX9_init 41 = .ok (.aload_n 0, 1) := by decide +kernel
theorem dX9_init_42 : decode cX9_init 42 = .ok (.bipush 24, 2) := by decide +kernel
theorem dX9_init_44 : decode cX9_init 44 = .ok (.newarray .int, 2) := by decide +kernel
theorem dX9_init_46 : decode cX9_init 46 = .ok (.putfield 28, 3) := by decide +kernel
theorem dX9_init_49 : decode cX9_init 49 = .ok (.aload_n 0, 1) := by decide +kernel
theorem dX9_init_50 : decode cX9_init 50 = .ok (.bipush 24, 2) := by decide +kernel
theorem dX9_init_52 : decode cX9_init 52 = .ok (.newarray .int, 2) := by decide +kernel
theorem dX9_init_54 : decode cX9_init 54 = .ok (.putfield 31, 3) := by decide +kernel
theorem dX9_init_57 : decode cX9_init 57 = .ok (.aload_n 0, 1) := by decide +kernel
theorem dX9_init_58 : decode cX9_init 58 = .ok (.bipush 24, 2) := by decide +kernel
theorem dX9_init_60 : decode cX9_init 60 = .ok (.newarray .int, 2) := by decide +kernel
theorem dX9_init_62 : decode cX9_init 62 = .ok (.putfield 34, 3) := by decide +kernel
theorem dX9_init_65 : decode cX9_init 65 = .ok (.aload_n 0, 1) := by decide +kernel
theorem dX9_init_66 : decode cX9_init 66 = .ok (.sipush 240, 3) := by decide +kernel
theorem dX9_init_69 : decode cX9_init 69 = .ok (.newarray .int, 2) := by decide +kernel
theorem dX9_init_71 : decode cX9_init 71 = .ok (.putfield 37, 3) := by decide +kernel
theorem dX9_init_74 : decode cX9_init 74 = .ok (.aload_n 0, 1) := by decide +kernel
theorem dX9_init_75 : decode cX9_init 75 = .ok (.bipush 24, 2) := by decide +kernel
theorem dX9_init_77 : decode cX9_init 77 = .ok (.newarray .int, 2) := by decide +kernel
theorem dX9_init_79 : decode cX9_init 79 = .ok (.putfield 40, 3) := by decide +kernel
theorem dX9_init_82 : decode cX9_init 82 = .ok (.aload_n 0, 1) := by decide +kernel
theorem dX9_init_83 : decode cX9_init 83 = .ok (.bipush 10, 2) := by decide +kernel
theorem dX9_init_85 : decode cX9_init 85 = .ok (.newarray .int, 2) := by decide +kernel
theorem dX9_init_87 : decode cX9_init 87 = .ok (.putfield 43, 3) := by decide +kernel
theorem dX9_init_90 : decode cX9_init 90 = .ok (.aload_n 0, 1) := by decide +kernel
theorem dX9_init_91 : decode cX9_init 91 = .ok (.bipush 10, 2) := by decide +kernel
theorem dX9_init_93 : decode cX9_init 93 = .ok (.newarray .int, 2) := by decide +kernel
theorem dX9_init_95 : decode cX9_init 95 = .ok (.putfield 46, 3) := by decide +kernel
theorem dX9_init_98 : decode cX9_init 98 = .ok (.aload_n 0, 1) := by decide +kernel
theorem dX9_init_99 : decode cX9_init 99 = .ok (.bipush 10, 2) := by decide +kernel
theorem dX9_init_101 : decode cX9_init 101 = .ok (.newarray .int, 2) := by decide +kernel
theorem dX9_init_103 : decode cX9_init 103 = .ok (.putfield 49, 3) := by decide +kernel
theorem dX9_init_106 : decode cX9_init 106 = .ok (.return_, 1) := by decide +kernel
theorem dX9_copy_0 : decode cX9_copy 0 = .ok (.aload_n 1, 1) := by decide +kernel
theorem dX9_copy_1 : decode cX9_copy 1 = .ok (.iconst 0, 1) := by decide +kernel
theorem dX9_copy_2 : decode cX9_copy 2 = .ok (.aload_n 2, 1) := by decide +kernel
theorem dX9_copy_3 : decode cX9_copy 3 = .ok (.iconst 0, 1) := by decide +kernel
theorem dX9_copy_4 : decode cX9_copy 4 = .ok (.aload_n 1, 1) := by decide +kernel
theorem dX9_copy_5 : decode cX9_copy 5 = .ok (.arraylength, 1) := by decide +kernel
theorem dX9_copy_6 : decode cX9_copy 6 = .ok (.invokestatic 52, 3) := by decide +kernel
theorem dX9_copy_9 : decode cX9_copy 9 = .ok (.return_, 1) := by decide +kernel
theorem dX9_become_0 : decode cX9_become 0 = .ok (.aload_n 0, 1) := by decide +kernel
theorem dX9_become_1 : decode cX9_become 1 = .ok (.aload_n 1, 1) := by decide +kernel
theorem dX9_become_2 : decode cX9_become 2 = .ok (.getfield 58, 3) := by decide +kernel
theorem dX9_become_5 : decode cX9_become 5 = .ok (.putfield 58, 3) := by decide +kernel
theorem dX9_become_8 : decode cX9_become 8 = .ok (.aload_n 0, 1) := by decide +kernel
theorem dX9_become_9 : decode cX9_become 9 = .ok (.aload_n 1, 1) := by decide +kernel
theorem dX9_become_10 : decode cX9_become 10 = .ok (.getfield 62, 3) := by decide +kernel
theorem dX9_become_13 : decode cX9_become 13 = .ok (.putfield 62, 3) := by decide +kernel
theorem dX9_become_16 : decode cX9_become 16 = .ok (.aload_n 0, 1) := by decide +kernel
theorem dX9_become_17 : decode cX9_become 17 = .ok (.aload_n 1, 1) := by decide +kernel
theorem dX9_become_18 : decode cX9_become 18 = .ok (.getfield 65, 3) := by decide +kernel
theorem dX9_become_21 : decode cX9_become 21 = .ok (.putfield 65, 3) := by decide +kernel
theorem dX9_become_24 : decode cX9_become 24 = .ok (.aload_n 0, 1) := by decide +kernel
theorem dX9_become_25 : decode cX9_become 25 = .ok (.aload_n 1, 1) := by decide +kernel
theorem dX9_become_26 : decode cX9_become 26 = .ok (.getfield 68, 3) := by decide +kernel
theorem dX9_become_29 : decode cX9_become 29 = .ok (.putfield 68, 3) := by decide +kernel
theorem dX9_become_32 : decode cX9_become 32 = .ok (.aload_n 0, 1) := by decide +kernel
theorem dX9_become_33 : decode cX9_become 33 = .ok (.aload_n 1, 1) := by decide +kernel
theorem dX9_become_34 : decode cX9_become 34 = .ok (.getfield 15, 3) := by decide +kernel
theorem dX9_become_37 : decode cX9_become 37 = .ok (.aload_n 0, 1) := by decide +kernel
theorem dX9_become_38 : decode cX9_become 38 = .ok (.getfield 15, 3) := by decide +kernel
theorem dX9_become_41 : decode cX9_become 41 = .ok (.invokevirtual 71, 3) := by decide +kernel
theorem dX9_become_44 : decode cX9_become 44 = .ok (.aload_n 0, 1) := by decide +kernel
theorem dX9_become_45 : decode cX9_become 45 = .ok (.aload_n 1, 1) := by decide +kernel
theorem dX9_become_46 : decode cX9_become 46 = .ok (.getfield 19, 3) := by decide +kernel
theorem dX9_become_49 : decode cX9_become 49 = .ok (.aload_n 0, 1) := by decide +kernel
theorem dX9_become_50 : decode cX9_become 50 = .ok (.getfield 19, 3) := by decide +kernel
theorem dX9_become_53 : decode cX9_become 53 = .ok (.invokevirtual 71, 3) := by decide +kernel
theorem dX9_become_56 : decode cX9_become 56 = .ok (.aload_n 0, 1) := by decide +kernel
theorem dX9_become_57 : decode cX9_become 57 = .ok (.aload_n 1, 1) := by decide +kernel
theorem dX9_become_58 : decode cX9_become 58 = .ok (.getfield 22, 3) := by decide +kernel
theorem dX9_become_61 : decode cX9_become 61 = .ok (.aload_n 0, 1) := by decide +kernel
theorem dX9_become_62 : decode cX9_become 62 = .ok (.getfield 22, 3) := by decide +kernel
theorem dX9_become_65 : decode cX9_become 65 = .ok (.invokevirtual 71, 3) := by decide +kernel
theorem dX9_become_68 : decode cX9_become 68 = .ok (.aload_n 0, 1) := by decide +kernel
theorem dX9_become_69 : decode cX9_become 69 = .ok (.aload_n 1, 1) := by decide +kernel
theorem dX9_become_70 : decode cX9_become 70 = .ok (.getfield 25, 3) := by decide +kernel
theorem dX9_become_73 : decode cX9_become 73 = .ok (.aload_n 0, 1) := by decide +kernel
theorem dX9_become_74 : decode cX9_become 74 = .ok (.getfield 25, 3) := by decide +kernel
theorem dX9_become_77 : decode cX9_become 77 = .ok (.invokevirtual 71, 3) := by decide +kernel
theorem dX9_become_80 : decode cX9_become 80 = .ok (.aload_n 0, 1) := by decide +kernel
theorem dX9_become_81 : decode cX9_become 81 = .ok (.aload_n 1, 1) := by decide +kernel
theorem dX9_become_82 : decode cX9_become 82 = .ok (.getfield 28, 3) := by decide +kernel
theorem dX9_become_85 : decode cX9_become 85 = .ok (.aload_n 0, 1) := by decide +kernel
theorem dX9_become_86 : decode cX9_become 86 = .ok (.getfield 28, 3) := by decide +kernel
theorem dX9_become_89 : decode cX9_become 89 = .ok (.invokevirtual 71, 3) := by decide +kernel
theorem dX9_become_92 : decode cX9_become 92 = .ok (.aload_n 0, 1) := by decide +kernel
theorem dX9_become_93 : decode cX9_become 93 = .ok (.aload_n 1, 1) := by decide +kernel
theorem dX9_become_94 : decode cX9_become 94 = .ok (.getfield 31, 3) := by decide +kernel
theorem dX9_become_97 : decode cX9_become 97 = .ok (.aload_n 0, 1) := by decide +kernel
theorem dX9_become_98 : decode cX9_become 98 = .ok (.getfield 31, 3) := by decide +kernel
theorem dX9_become_101 : decode cX9_become 101 = .ok (.invokevirtual 71, 3) := by decide +kernel
theorem dX9_become_104 : decode cX9_become 104 = .ok (.aload_n 0, 1) := by decide +kernel
theorem dX9_become_105 : decode cX9_become 105 = .ok (.aload_n 1, 1) := by decide +kernel
theorem dX9_become_106 : decode cX9_become 106 = .ok (.getfield 34, 3) := by decide +kernel
theorem dX9_become_109 : decode cX9_become 109 = .ok (.aload_n 0, 1) := by decide +kernel
theorem dX9_become_110 : decode cX9_become 110 = .ok (.getfield 34, 3) := by decide +kernel
theorem dX9_become_113 : decode cX9_become 113 = .ok (.invokevirtual 71, 3) := by decide +kernel
theorem dX9_become_116 : decode cX9_become 116 = .ok (.aload_n 0, 1) := by decide +kernel
theorem dX9_become_117 : decode cX9_become 117 = .ok (.aload_n 1, 1) := by decide +kernel
theorem dX9_become_118 : decode cX9_become 118 = .ok (.getfield 37, 3) := by decide +kernel
theorem dX9_become_121 : decode cX9_become 121 = .ok (.aload_n 0, 1) := by decide +kernel
theorem dX9_become_122 : decode cX9_become 122 = .ok (.getfield 37, 3) := by decide +kernel
theorem dX9_become_125 : decode cX9_become 125 = .ok (.invokevirtual 71, 3) := by decide +kernel
theorem dX9_become_128 : decode cX9_become 128 = .ok (.aload_n 0, 1) := by decide +kernel
theorem dX9_become_129 : decode cX9_become 129 = .ok (.aload_n 1, 1) := by decide +kernel
theorem dX9_become_130 : decode cX9_become 130 = .ok (.getfield 40, 3) := by decide +kernel
theorem dX9_become_133 : decode cX9_become 133 = .ok (.aload_n 0, 1) := by decide +kernel
theorem dX9_become_134 : decode cX9_become 134 = .ok (.getfield 40, 3) := by decide +kernel
theorem dX9_become_137 : decode cX9_become 137 = .ok (.invokevirtual 71, 3) := by decide +kernel
theorem dX9_become_140 : decode cX9_become 140 = .ok (.aload_n 0, 1) := by decide +kernel
theorem dX9_become_141 : decode cX9_become 141 = .ok (.aload_n 1, 1) := by decide +kernel
theorem dX9_become_142 : decode cX9_become 142 = .ok (.getfield 43, 3) := by decide +kernel
theorem dX9_become_145 : decode cX9_become 145 = .ok (.aload_n 0, 1) := by decide +kernel
theorem dX9_become_146 : decode cX9_become 146 = .ok (.getfield 43, 3) := by decide +kernel
theorem dX9_become_149 : decode cX9_become 149 = .ok (.invokevirtual 71, 3) := by decide +kernel
theorem dX9_become_152 : decode cX9_become 152 = .ok (.aload_n 0, 1) := by decide +kernel
theorem dX9_become_153 : decode cX9_become 153 = .ok (.aload_n 1, 1) := by decide +kernel
theorem dX9_become_154 : decode cX9_become 154 = .ok (.getfield 46, 3) := by decide +kernel
theorem dX9_become_157 : decode cX9_become 157 = .ok (.aload_n 0, 1) := by decide +kernel
theorem dX9_become_158 : decode cX9_become 158 = .ok (.getfield 46, 3) := by decide +kernel
theorem dX9_become_161 : decode cX9_become 161 = .ok (.invokevirtual 71, 3) := by decide +kernel
theorem dX9_become_164 : decode cX9_become 164 = .ok (.aload_n 0, 1) := by decide +kernel
theorem dX9_become_165 : decode cX9_become 165 = .ok (.aload_n 1, 1) := by decide +kernel
theorem dX9_become_166 : decode cX9_become 166 = .ok (.getfield 49, 3) := by decide +kernel
theorem dX9_become_169 : decode cX9_become 169 = .ok (.aload_n 0, 1) := by decide +kernel
theorem dX9_become_170 : decode cX9_become 170 = .ok (.getfield 49, 3) := by decide +kernel
theorem dX9_become_173 : decode cX9_become 173 = .ok (.invokevirtual 71, 3) := by decide +kernel
theorem dX9_become_176 : decode cX9_become 176 = .ok (.return_, 1) := by decide +kernel
theorem dX9_minutesOf_0 : decode cX9_minutesOf 0 = .ok (.aload_n 0, 1) := by decide +kernel
theorem dX9_minutesOf_1 : decode cX9_minutesOf 1 = .ok (.getfield 15, 3) := by decide +kernel
theorem dX9_minutesOf_4 : decode cX9_minutesOf 4 = .ok (.iload_n 1, 1) := by decide +kernel
theorem dX9_minutesOf_5 : decode cX9_minutesOf 5 = .ok (.iaload, 1) := by decide +kernel
theorem dX9_minutesOf_6 : decode cX9_minutesOf 6 = .ok (.bipush 12, 2) := by decide +kernel
theorem dX9_minutesOf_8 : decode cX9_minutesOf 8 = .ok (.if_icmp .le 7, 3) := by decide +kernel
theorem dX9_minutesOf_11 : decode cX9_minutesOf 11 = .ok (.iconst (-1), 1) := by decide +kernel
theorem dX9_minutesOf_12 : decode cX9_minutesOf 12 = .ok (.goto 25, 3) := by decide +kernel
theorem dX9_minutesOf_15 : decode cX9_minutesOf 15 = .ok (.aload_n 0, 1) := by decide +kernel
theorem dX9_minutesOf_16 : decode cX9_minutesOf 16 = .ok (.getfield 3, 3) := by decide +kernel
theorem dX9_minutesOf_19 : decode cX9_minutesOf 19 = .ok (.getfield 75, 3) := by decide +kernel
theorem dX9_minutesOf_22 : decode cX9_minutesOf 22 = .ok (.iconst 4, 1) := by decide +kernel
theorem dX9_minutesOf_23 : decode cX9_minutesOf 23 = .ok (.iload_n 1, 1) := by decide +kernel
theorem dX9_minutesOf_24 : decode cX9_minutesOf 24 = .ok (.imul, 1) := by decide +kernel
theorem dX9_minutesOf_25 : decode cX9_minutesOf 25 = .ok (.iconst 2, 1) := by decide +kernel
theorem dX9_minutesOf_26 : decode cX9_minutesOf 26 = .ok (.iadd, 1) := by decide +kernel
theorem dX9_minutesOf_27 : decode cX9_minutesOf 27 = .ok (.iaload, 1) := by decide +kernel
theorem dX9_minutesOf_28 : decode cX9_minutesOf 28 = .ok (.aload_n 0, 1) := by decide +kernel
theorem dX9_minutesOf_29 : decode cX9_minutesOf 29 = .ok (.getfield 15, 3) := by decide +kernel
theorem dX9_minutesOf_32 : decode cX9_minutesOf 32 = .ok (.iload_n 1, 1) := by decide +kernel
theorem dX9_minutesOf_33 : decode cX9_minutesOf 33 = .ok (.iaload, 1) := by decide +kernel
theorem dX9_minutesOf_34 : decode cX9_minutesOf 34 = .ok (.iconst 2, 1) := by decide +kernel
theorem dX9_minutesOf_35 : decode cX9_minutesOf 35 = .ok (.idiv, 1) := by decide +kernel
theorem dX9_minutesOf_36 : decode cX9_minutesOf 36 = .ok (.iadd, 1) := by decide +kernel
theorem dX9_minutesOf_37 : decode cX9_minutesOf 37 = .ok (.ireturn, 1) := by decide +kernel
theorem dX9_find_0 : decode cX9_find 0 = .ok (.iconst 0, 1) := by decide +kernel
theorem dX9_find_1 : decode cX9_find 1 = .ok (.istore_n 1, 1) := by decide +kernel
theorem dX9_find_2 : decode cX9_find 2 = .ok (.iload_n 1, 1) := by decide +kernel
theorem dX9_find_3 : decode cX9_find 3 = .ok (.aload_n 0, 1) := by decide +kernel
theorem dX9_find_4 : decode cX9_find 4 = .ok (.getfield 3, 3) := by decide +kernel
theorem dX9_find_7 : decode cX9_find 7 = .ok (.getfield 78, 3) := by decide +kernel
theorem dX9_find_10 : decode cX9_find 10 = .ok (.arraylength, 1) := by decide +kernel
theorem dX9_find_11 : decode cX9_find 11 = .ok (.if_icmp .ge 35, 3) := by decide +kernel
theorem dX9_find_14 : decode cX9_find 14 = .ok (.aload_n 0, 1) := by decide +kernel
theorem dX9_find_15 : decode cX9_find 15 = .ok (.getfield 3, 3) := by decide +kernel
theorem dX9_find_18 : decode cX9_find 18 = .ok (.getfield 78, 3) := by decide +kernel
theorem dX9_find_21 : decode cX9_find 21 = .ok (.iload_n 1, 1) := by decide +kernel
theorem dX9_find_22 : decode cX9_find 22 = .ok (.iload_n 1, 1) := by decide +kernel
theorem dX9_find_23 : decode cX9_find 23 = .ok (.bipush 8, 2) := by decide +kernel
theorem dX9_find_25 : decode cX9_find 25 = .ok (.idiv, 1) := by decide +kernel
theorem dX9_find_26 : decode cX9_find 26 = .ok (.iload_n 1, 1) := by decide +kernel
theorem dX9_find_27 : decode cX9_find 27 = .ok (.bipush 8, 2) := by decide +kernel
theorem dX9_find_29 : decode cX9_find 29 = .ok (.irem, 1) := by decide +kernel
theorem dX9_find_30 : decode cX9_find 30 = .ok (.if_icmp .ne 7, 3) := by decide +kernel
theorem dX9_find_33 : decode cX9_find 33 = .ok (.iconst 0, 1) := by decide +kernel
theorem dX9_find_34 : decode cX9_find 34 = .ok (.goto 5, 3) := by decide +kernel
theorem dX9_find_37 : decode cX9_find 37 = .ok (.ldc 81, 2) := by decide +kernel
theorem dX9_find_39 : decode cX9_find 39 = .ok (.iastore, 1) := by decide +kernel
theorem dX9_find_40 : decode cX9_find 40 = .ok (.iinc 1 1, 3) := by decide +kernel
theorem dX9_find_43 : decode cX9_find 43 = .ok (.goto (-41), 3) := by decide +kernel
theorem dX9_find_46 : decode cX9_find 46 = .ok (.iconst 1, 1) := by decide +kernel
theorem dX9_find_47 : decode cX9_find 47 = .ok (.istore_n 1, 1) := by decide +kernel
theorem dX9_find_48 : decode cX9_find 48 = .ok (.iload_n 1, 1) := by decide +kernel
theorem dX9_find_49 : decode cX9_find 49 = .ok (.ifCond .eq 106, 3) := by decide +kernel
theorem dX9_find_52 : decode cX9_find 52 = .ok (.iconst 0, 1) := by decide +kernel
theorem dX9_find_53 : decode cX9_find 53 = .ok (.istore_n 1, 1) := by decide +kernel
theorem dX9_find_54 : decode cX9_find 54 = .ok (.iconst 0, 1) := by decide +kernel
theorem dX9_find_55 : decode cX9_find 55 = .ok (.istore_n 2, 1) := by decide +kernel
theorem dX9_find_56 : decode cX9_find 56 = .ok (.iload_n 2, 1) := by decide +kernel
theorem dX9_find_57 : decode cX9_find 57 = .ok (.aload_n 0, 1) := by decide +kernel
theorem dX9_find_58 : decode cX9_find 58 = .ok (.getfield 3, 3) := by decide +kernel
theorem dX9_find_61 : decode cX9_find 61 = .ok (.getfield 82, 3) := by decide +kernel
theorem dX9_find_64 : decode cX9_find 64 = .ok (.if_icmp .ge 88, 3) := by decide +kernel
theorem dX9_find_67 : decode cX9_find 67 = .ok (.aload_n 0, 1) := by decide +kernel
theorem dX9_find_68 : decode cX9_find 68 = .ok (.iload_n 2, 1) := by decide +kernel
theorem dX9_find_69 : decode cX9_find 69 = .ok (.invokevirtual 85, 3) := by decide +kernel
theorem dX9_find_72 : decode cX9_find 72 = .ok (.iconst (-1), 1) := by decide +kernel
theorem dX9_find_73 : decode cX9_find 73 = .ok (.if_icmp .eq 73, 3) := by decide +kernel
theorem dX9_find_76 : decode cX9_find 76 = .ok (.iload_n 1, 1) := by decide +kernel
theorem dX9_find_77 : decode cX9_find 77 = .ok (.aload_n 0, 1) := by decide +kernel
theorem dX9_find_78 : decode cX9_find 78 = .ok (.aload_n 0, 1) := by decide +kernel
theorem dX9_find_79 : decode cX9_find 79 = .ok (.getfield 3, 3) := by decide +kernel
theorem dX9_find_82 : decode cX9_find 82 = .ok (.getfield 75, 3) := by decide +kernel
theorem dX9_find_85 : decode cX9_find 85 = .ok (.iconst 4, 1) := by decide +kernel
theorem dX9_find_86 : decode cX9_find 86 = .ok (.iload_n 2, 1) := by decide +kernel
theorem dX9_find_87 : decode cX9_find 87 = .ok (.imul, 1) := by decide +kernel
theorem dX9_find_88 : decode cX9_find 88 = .ok (.iaload, 1) := by decide +kernel
theorem dX9_find_89 : decode cX9_find 89 = .ok (.aload_n 0, 1) := by decide +kernel
theorem dX9_find_90 : decode cX9_find 90 = .ok (.getfield 3, 3) := by decide +kernel
theorem dX9_find_93 : decode cX9_find 93 = .ok (.getfield 75, 3) := by decide +kernel
theorem dX9_find_96 : decode cX9_find 96 = .ok (.iconst 4, 1) := by decide +kernel
theorem dX9_find_97 : decode cX9_find 97 = .ok (.iload_n 2, 1) := by decide +kernel
theorem dX9_find_98 : decode cX9_find 98 = .ok (.imul, 1) := by decide +kernel
theorem dX9_find_99 : decode cX9_find 99 = .ok (.iconst 1, 1) := by decide +kernel
theorem dX9_find_100 : decode cX9_find 100 = .ok (.iadd, 1) := by decide +kernel
theorem dX9_find_101 : decode cX9_find 101 = .ok (.iaload, 1) := by decide +kernel
theorem dX9_find_102 : decode cX9_find 102 = .ok (.aload_n 0, 1) := by decide +kernel
theorem dX9_find_103 : decode cX9_find 103 = .ok (.iload_n 2, 1) := by decide +kernel
theorem dX9_find_104 : decode cX9_find 104 = .ok (.invokevirtual 85, 3) := by decide +kernel
theorem dX9_find_107 : decode cX9_find 107 = .ok (.invokevirtual 89, 3) := by decide +kernel
theorem dX9_find_110 : decode cX9_find 110 = .ok (.aload_n 0, 1) := by decide +kernel
theorem dX9_find_111 : decode cX9_find 111 = .ok (.aload_n 0, 1) := by decide +kernel
theorem dX9_find_112 : decode cX9_find 112 = .ok (.getfield 3, 3) := by decide +kernel
theorem dX9_find_115 : decode cX9_find 115 = .ok (.getfield 75, 3) := by decide +kernel
theorem dX9_find_118 : decode cX9_find 118 = .ok (.iconst 4, 1) := by decide +kernel
theorem dX9_find_119 : decode cX9_find 119 = .ok (.iload_n 2, 1) := by decide +kernel
theorem dX9_find_120 : decode cX9_find 120 = .ok (.imul, 1) := by decide +kernel
theorem dX9_find_121 : decode cX9_find 121 = .ok (.iconst 1, 1) := by decide +kernel
theorem dX9_find_122 : decode cX9_find 122 = .ok (.iadd, 1) := by decide +kernel
theorem dX9_find_123 : decode cX9_find 123 = .ok (.iaload, 1) := by decide +kernel
theorem dX9_find_124 : decode cX9_find 124 = .ok (.aload_n 0, 1) := by decide +kernel
theorem dX9_find_125 : decode cX9_find 125 = .ok (.getfield 3, 3) := by decide +kernel
theorem dX9_find_128 : decode cX9_find 128 = .ok (.getfield 75, 3) := by decide +kernel
theorem dX9_find_131 : decode cX9_find 131 = .ok (.iconst 4, 1) := by decide +kernel
theorem dX9_find_132 : decode cX9_find 132 = .ok (.iload_n 2, 1) := by decide +kernel
theorem dX9_find_133 : decode cX9_find 133 = .ok (.imul, 1) := by decide +kernel
theorem dX9_find_134 : decode cX9_find 134 = .ok (.iaload, 1) := by decide +kernel
theorem dX9_find_135 : decode cX9_find 135 = .ok (.aload_n 0, 1) := by decide +kernel
theorem dX9_find_136 : decode cX9_find 136 = .ok (.iload_n 2, 1) := by decide +kernel
theorem dX9_find_137 : decode cX9_find 137 = .ok (.invokevirtual 85, 3) := by decide +kernel
theorem dX9_find_140 : decode cX9_find 140 = .ok (.invokevirtual 89, 3) := by decide +kernel
theorem dX9_find_143 : decode cX9_find 143 = .ok (.ior, 1) := by decide +kernel
theorem dX9_find_144 : decode cX9_find 144 = .ok (.ior, 1) := by decide +kernel
theorem dX9_find_145 : decode cX9_find 145 = .ok (.istore_n 1, 1) := by decide +kernel
theorem dX9_find_146 : decode cX9_find 146 = .ok (.iinc 2 1, 3) := by decide +kernel
theorem dX9_find_149 : decode cX9_find 149 = .ok (.goto (-93), 3) := by decide +kernel
theorem dX9_find_152 : decode cX9_find 152 = .ok (.goto (-104), 3) := by decide +kernel
theorem dX9_find_155 : decode cX9_find 155 = .ok (.return_, 1) := by decide +kernel
theorem dX9_relax_0 : decode cX9_relax 0 = .ok (.iconst 0, 1) := by decide +kernel
theorem dX9_relax_1 : decode cX9_relax 1 = .ok (.istore 4, 2) := by decide +kernel
theorem dX9_relax_3 : decode cX9_relax 3 = .ok (.iconst 0, 1) := by decide +kernel
theorem dX9_relax_4 : decode cX9_relax 4 = .ok (.istore 5, 2) := by decide +kernel
theorem dX9_relax_6 : decode cX9_relax 6 = .ok (.iload 5, 2) := by decide +kernel
theorem dX9_relax_8 : decode cX9_relax 8 = .ok (.aload_n 0, 1) := by decide +kernel
theorem dX9_relax_9 : decode cX9_relax 9 = .ok (.getfield 3, 3) := by decide +kernel
theorem dX9_relax_12 : decode cX9_relax 12 = .ok (.getfield 93, 3) := by decide +kernel
theorem dX9_relax_15 : decode cX9_relax 15 = .ok (.if_icmp .ge 82, 3) := by decide +kernel
theorem dX9_relax_18 : decode cX9_relax 18 = .ok (.iload_n 3, 1) := by decide +kernel
theorem dX9_relax_19 : decode cX9_relax 19 = .ok (.aload_n 0, 1) := by decide +kernel
theorem dX9_relax_20 : decode cX9_relax 20 = .ok (.getfield 3, 3) := by decide +kernel
theorem dX9_relax_23 : decode cX9_relax 23 = .ok (.getfield 78, 3) := by decide +kernel
theorem dX9_relax_26 : decode cX9_relax 26 = .ok (.bipush 8, 2) := by decide +kernel
theorem dX9_relax_28 : decode cX9_relax 28 = .ok (.iload_n 2, 1) := by decide +kernel
theorem dX9_relax_29 : decode cX9_relax 29 = .ok (.imul, 1) := by decide +kernel
theorem dX9_relax_30 : decode cX9_relax 30 = .ok (.iload 5, 2) := by decide +kernel
theorem dX9_relax_32 : decode cX9_relax 32 = .ok (.iadd, 1) := by decide +kernel
theorem dX9_relax_33 : decode cX9_relax 33 = .ok (.iaload, 1) := by decide +kernel
theorem dX9_relax_34 : decode cX9_relax 34 = .ok (.iadd, 1) := by decide +kernel
theorem dX9_relax_35 : decode cX9_relax 35 = .ok (.aload_n 0, 1) := by decide +kernel
theorem dX9_relax_36 : decode cX9_relax 36 = .ok (.getfield 3, 3) := by decide +kernel
theorem dX9_relax_39 : decode cX9_relax 39 = .ok (.getfield 78, 3) := by decide +kernel
theorem dX9_relax_42 : decode cX9_relax 42 = .ok (.bipush 8, 2) := by decide +kernel
theorem dX9_relax_44 : decode cX9_relax 44 = .ok (.iload_n 1, 1) := by decide +kernel
theorem dX9_relax_45 : decode cX9_relax 45 = .ok (.imul, 1) := by decide +kernel
theorem dX9_relax_46 : decode cX9_relax 46 = .ok (.iload 5, 2) := by decide +kernel
theorem dX9_relax_48 : decode cX9_relax 48 = .ok (.iadd, 1) := by decide +kernel
theorem dX9_relax_49 : decode cX9_relax 49 = .ok (.iaload, 1) := by decide +kernel
theorem dX9_relax_50 : decode cX9_relax 50 = .ok (.if_icmp .lt 6, 3) := by decide +kernel
theorem dX9_relax_53 : decode cX9_relax 53 = .ok (.goto 38, 3) := by decide +kernel
theorem dX9_relax_56 : decode cX9_relax 56 = .ok (.aload_n 0, 1) := by decide +kernel
theorem dX9_relax_57 : decode cX9_relax 57 = .ok (.getfield 3, 3) := by decide +kernel
theorem dX9_relax_60 : decode cX9_relax 60 = .ok (.getfield 78, 3) := by decide +kernel
theorem dX9_relax_63 : decode cX9_relax 63 = .ok (.bipush 8, 2) := by decide +kernel
theorem dX9_relax_65 : decode cX9_relax 65 = .ok (.iload_n 1, 1) := by decide +kernel
theorem dX9_relax_66 : decode cX9_relax 66 = .ok (.imul, 1) := by decide +kernel
theorem dX9_relax_67 : decode cX9_relax 67 = .ok (.iload 5, 2) := by decide +kernel
theorem dX9_relax_69 : decode cX9_relax 69 = .ok (.iadd, 1) := by decide +kernel
theorem dX9_relax_70 : decode cX9_relax 70 = .ok (.iload_n 3, 1) := by decide +kernel
theorem dX9_relax_71 : decode cX9_relax 71 = .ok (.aload_n 0, 1) := by decide +kernel
theorem dX9_relax_72 : decode cX9_relax 72 = .ok (.getfield 3, 3) := by decide +kernel
theorem dX9_relax_75 : decode cX9_relax 75 = .ok (.getfield 78, 3) := by decide +kernel
theorem dX9_relax_78 : decode cX9_relax 78 = .ok (.bipush 8, 2) := by decide +kernel
theorem dX9_relax_80 : decode cX9_relax 80 = .ok (.iload_n 2, 1) := by decide +kernel
theorem dX9_relax_81 : decode cX9_relax 81 = .ok (.imul, 1) := by decide +kernel
theorem dX9_relax_82 : decode cX9_relax 82 = .ok (.iload 5, 2) := by decide +kernel
theorem dX9_relax_84 : decode cX9_relax 84 = .ok (.iadd, 1) := by decide +kernel
theorem dX9_relax_85 : decode cX9_relax 85 = .ok (.iaload, 1) := by decide +kernel
theorem dX9_relax_86 : decode cX9_relax 86 = .ok (.iadd, 1) := by decide +kernel
theorem dX9_relax_87 : decode cX9_relax 87 = .ok (.iastore, 1) := by decide +kernel
theorem dX9_relax_88 : decode cX9_relax 88 = .ok (.iconst 1, 1) := by decide +kernel
theorem dX9_relax_89 : decode cX9_relax 89 = .ok (.istore 4, 2) := by decide +kernel
theorem dX9_relax_91 : decode cX9_relax 91 = .ok (.iinc 5 1, 3) := by decide +kernel
theorem dX9_relax_94 : decode cX9_relax 94 = .ok (.goto (-88), 3) := by decide +kernel
theorem dX9_relax_97 : decode cX9_relax 97 = .ok (.iload 4, 2) := by decide +kernel
theorem dX9_relax_99 : decode cX9_relax 99 = .ok (.ireturn, 1) := by decide +kernel
theorem dX9_many_0 : decode cX9_many 0 = .ok (.iconst 0, 1) := by decide +kernel
theorem dX9_many_1 : decode cX9_many 1 = .ok (.istore_n 2, 1) := by decide +kernel
theorem dX9_many_2 : decode cX9_many 2 = .ok (.iconst 0, 1) := by decide +kernel
theorem dX9_many_3 : decode cX9_many 3 = .ok (.istore_n 3, 1) := by decide +kernel
theorem dX9_many_4 : decode cX9_many 4 = .ok (.iload_n 3, 1) := by decide +kernel
theorem dX9_many_5 : decode cX9_many 5 = .ok (.aload_n 0, 1) := by decide +kernel
theorem dX9_many_6 : decode cX9_many 6 = .ok (.getfield 3, 3) := by decide +kernel
theorem dX9_many_9 : decode cX9_many 9 = .ok (.getfield 96, 3) := by decide +kernel
theorem dX9_many_12 : decode cX9_many 12 = .ok (.if_icmp .ge 27, 3) := by decide +kernel
theorem dX9_many_15 : decode cX9_many 15 = .ok (.iload_n 2, 1) := by decide +kernel
theorem dX9_many_16 : decode cX9_many 16 = .ok (.aload_n 0, 1) := by decide +kernel
theorem dX9_many_17 : decode cX9_many 17 = .ok (.getfield 28, 3) := by decide +kernel
theorem dX9_many_20 : decode cX9_many 20 = .ok (.iload_n 3, 1) := by decide +kernel
theorem dX9_many_21 : decode cX9_many 21 = .ok (.iaload, 1) := by decide +kernel
theorem dX9_many_22 : decode cX9_many 22 = .ok (.iload_n 1, 1) := by decide +kernel
theorem dX9_many_23 : decode cX9_many 23 = .ok (.if_icmp .ne 7, 3) := by decide +kernel
theorem dX9_many_26 : decode cX9_many 26 = .ok (.iconst 1, 1) := by decide +kernel
theorem dX9_many_27 : decode cX9_many 27 = .ok (.goto 4, 3) := by decide +kernel
theorem dX9_many_30 : decode cX9_many 30 = .ok (.iconst 0, 1) := by decide +kernel
theorem dX9_many_31 : decode cX9_many 31 = .ok (.iadd, 1) := by decide +kernel
theorem dX9_many_32 : decode cX9_many 32 = .ok (.istore_n 2, 1) := by decide +kernel
theorem dX9_many_33 : decode cX9_many 33 = .ok (.iinc 3 1, 3) := by decide +kernel
theorem dX9_many_36 : decode cX9_many 36 = .ok (.goto (-32), 3) := by decide +kernel
theorem dX9_many_39 : decode cX9_many 39 = .ok (.iload_n 2, 1) := by decide +kernel
theorem dX9_many_40 : decode cX9_many 40 = .ok (.ireturn, 1) := by decide +kernel
theorem dX9_placeOf_0 : decode cX9_placeOf 0 = .ok (.iconst 0, 1) := by decide +kernel
theorem dX9_placeOf_1 : decode cX9_placeOf 1 = .ok (.istore_n 3, 1) := by decide +kernel
theorem dX9_placeOf_2 : decode cX9_placeOf 2 = .ok (.iload_n 3, 1) := by decide +kernel
theorem dX9_placeOf_3 : decode cX9_placeOf 3 = .ok (.aload_n 0, 1) := by decide +kernel
theorem dX9_placeOf_4 : decode cX9_placeOf 4 = .ok (.getfield 40, 3) := by decide +kernel
theorem dX9_placeOf_7 : decode cX9_placeOf 7 = .ok (.iload_n 2, 1) := by decide +kernel
theorem dX9_placeOf_8 : decode cX9_placeOf 8 = .ok (.iaload, 1) := by decide +kernel
theorem dX9_placeOf_9 : decode cX9_placeOf 9 = .ok (.if_icmp .ge 26, 3) := by decide +kernel
theorem dX9_placeOf_12 : decode cX9_placeOf 12 = .ok (.aload_n 0, 1) := by decide +kernel
theorem dX9_placeOf_13 : decode cX9_placeOf 13 = .ok (.getfield 37, 3) := by decide +kernel
theorem dX9_placeOf_16 : decode cX9_placeOf 16 = .ok (.bipush 10, 2) := by decide +kernel
theorem dX9_placeOf_18 : decode cX9_placeOf 18 = .ok (.iload_n 2, 1) := by decide +kernel
theorem dX9_placeOf_19 : decode cX9_placeOf 19 = .ok (.imul, 1) := by decide +kernel
theorem dX9_placeOf_20 : decode cX9_placeOf 20 = .ok (.iload_n 3, 1) := by decide +kernel
theorem dX9_placeOf_21 : decode cX9_placeOf 21 = .ok (.iadd, 1) := by decide +kernel
theorem dX9_placeOf_22 : decode cX9_placeOf 22 = .ok (.iaload, 1) := by decide +kernel
theorem dX9_placeOf_23 : decode cX9_placeOf 23 = .ok (.iload_n 1, 1) := by decide +kernel
theorem dX9_placeOf_24 : decode cX9_placeOf 24 = .ok (.if_icmp .ne 5, 3) := by decide +kernel
theorem dX9_placeOf_27 : decode cX9_placeOf 27 = .ok (.iload_n 3, 1) := by decide +kernel
theorem dX9_placeOf_28 : decode cX9_placeOf 28 = .ok (.ireturn, 1) := by decide +kernel
theorem dX9_placeOf_29 : decode cX9_placeOf 29 = .ok (.iinc 3 1, 3) := by decide +kernel
theorem dX9_placeOf_32 : decode cX9_placeOf 32 = .ok (.goto (-30), 3) := by decide +kernel
theorem dX9_placeOf_35 : decode cX9_placeOf 35 = .ok (.iconst (-1), 1) := by decide +kernel
theorem dX9_placeOf_36 : decode cX9_placeOf 36 = .ok (.ireturn, 1) := by decide +kernel
theorem dX9_strike_0 : decode cX9_strike 0 = .ok (.aload_n 0, 1) := by decide +kernel
theorem dX9_strike_1 : decode cX9_strike 1 = .ok (.getfield 40, 3) := by decide +kernel
theorem dX9_strike_4 : decode cX9_strike 4 = .ok (.iload_n 1, 1) := by decide +kernel
theorem dX9_strike_5 : decode cX9_strike 5 = .ok (.dup2, 1) := by decide +kernel
theorem dX9_strike_6 : decode cX9_strike 6 = .ok (.iaload, 1) := by decide +kernel
theorem dX9_strike_7 : decode cX9_strike 7 = .ok (.iconst 1, 1) := by decide +kernel
theorem dX9_strike_8 : decode cX9_strike 8 = .ok (.isub, 1) := by decide +kernel
theorem dX9_strike_9 : decode cX9_strike 9 = .ok (.iastore, 1) := by decide +kernel
theorem dX9_strike_10 : decode cX9_strike 10 = .ok (.bipush 10, 2) := by decide +kernel
theorem dX9_strike_12 : decode cX9_strike 12 = .ok (.iload_n 1, 1) := by decide +kernel
theorem dX9_strike_13 : decode cX9_strike 13 = .ok (.imul, 1) := by decide +kernel
theorem dX9_strike_14 : decode cX9_strike 14 = .ok (.iload_n 2, 1) := by decide +kernel
theorem dX9_strike_15 : decode cX9_strike 15 = .ok (.iadd, 1) := by decide +kernel
theorem dX9_strike_16 : decode cX9_strike 16 = .ok (.istore_n 3, 1) := by decide +kernel
theorem dX9_strike_17 : decode cX9_strike 17 = .ok (.iload_n 3, 1) := by decide +kernel
theorem dX9_strike_18 : decode cX9_strike 18 = .ok (.bipush 10, 2) := by decide +kernel
theorem dX9_strike_20 : decode cX9_strike 20 = .ok (.iload_n 1, 1) := by decide +kernel
theorem dX9_strike_21 : decode cX9_strike 21 = .ok (.imul, 1) := by decide +kernel
theorem dX9_strike_22 : decode cX9_strike 22 = .ok (.aload_n 0, 1) := by decide +kernel
theorem dX9_strike_23 : decode cX9_strike 23 = .ok (.getfield 40, 3) := by decide +kernel
theorem dX9_strike_26 : decode cX9_strike 26 = .ok (.iload_n 1, 1) := by decide +kernel
theorem dX9_strike_27 : decode cX9_strike 27 = .ok (.iaload, 1) := by decide +kernel
theorem dX9_strike_28 : decode cX9_strike 28 = .ok (.iadd, 1) := by decide +kernel
theorem dX9_strike_29 : decode cX9_strike 29 = .ok (.if_icmp .ge 23, 3) := by decide +kernel
theorem dX9_strike_32 : decode cX9_strike 32 = .ok (.aload_n 0, 1) := by decide +kernel
theorem dX9_strike_33 : decode cX9_strike 33 = .ok (.getfield 37, 3) := by decide +kernel
theorem dX9_strike_36 : decode cX9_strike 36 = .ok (.iload_n 3, 1) := by decide +kernel
theorem dX9_strike_37 : decode cX9_strike 37 = .ok (.aload_n 0, 1) := by decide +kernel
theorem dX9_strike_38 : decode cX9_strike 38 = .ok (.getfield 37, 3) := by decide +kernel
theorem dX9_strike_41 : decode cX9_strike 41 = .ok (.iload_n 3, 1) := by decide +kernel
theorem dX9_strike_42 : decode cX9_strike 42 = .ok (.iconst 1, 1) := by decide +kernel
theorem dX9_strike_43 : decode cX9_strike 43 = .ok (.iadd, 1) := by decide +kernel
theorem dX9_strike_44 : decode cX9_strike 44 = .ok (.iaload, 1) := by decide +kernel
theorem dX9_strike_45 : decode cX9_strike 45 = .ok (.iastore, 1) := by decide +kernel
theorem dX9_strike_46 : decode cX9_strike 46 = .ok (.iinc 3 1, 3) := by decide +kernel
theorem dX9_strike_49 : decode cX9_strike 49 = .ok (.goto (-32), 3) := by decide +kernel
theorem dX9_strike_52 : decode cX9_strike 52 = .ok (.return_, 1) := by decide +kernel
theorem dX9_pass_0 : decode cX9_pass 0 = .ok (.aload_n 0, 1) := by decide +kernel
theorem dX9_pass_1 : decode cX9_pass 1 = .ok (.getfield 65, 3) := by decide +kernel
theorem dX9_pass_4 : decode cX9_pass 4 = .ok (.istore_n 1, 1) := by decide +kernel
theorem dX9_pass_5 : decode cX9_pass 5 = .ok (.aload_n 0, 1) := by decide +kernel
theorem dX9_pass_6 : decode cX9_pass 6 = .ok (.getfield 3, 3) := by decide +kernel
theorem dX9_pass_9 : decode cX9_pass 9 = .ok (.getfield 99, 3) := by decide +kernel
theorem dX9_pass_12 : decode cX9_pass 12 = .ok (.aload_n 0, 1) := by decide +kernel
theorem dX9_pass_13 : decode cX9_pass 13 = .ok (.getfield 58, 3) := by decide +kernel
theorem dX9_pass_16 : decode cX9_pass 16 = .ok (.bipush 7, 2) := by decide +kernel
theorem dX9_pass_18 : decode cX9_pass 18 = .ok (.irem, 1) := by decide +kernel
theorem dX9_pass_19 : decode cX9_pass 19 = .ok (.iaload, 1) := by decide +kernel
theorem dX9_pass_20 : decode cX9_pass 20 = .ok (.istore_n 2, 1) := by decide +kernel
theorem dX9_pass_21 : decode cX9_pass 21 = .ok (.iconst 0, 1) := by decide +kernel
theorem dX9_pass_22 : decode cX9_pass 22 = .ok (.istore_n 3, 1) := by decide +kernel
theorem dX9_pass_23 : decode cX9_pass 23 = .ok (.iload_n 3, 1) := by decide +kernel
theorem dX9_pass_24 : decode cX9_pass 24 = .ok (.aload_n 0, 1) := by decide +kernel
theorem dX9_pass_25 : decode cX9_pass 25 = .ok (.getfield 3, 3) := by decide +kernel
theorem dX9_pass_28 : decode cX9_pass 28 = .ok (.getfield 82, 3) := by decide +kernel
theorem dX9_pass_31 : decode cX9_pass 31 = .ok (.if_icmp .ge 63, 3) := by decide +kernel
theorem dX9_pass_34 : decode cX9_pass 34 = .ok (.aload_n 0, 1) := by decide +kernel
theorem dX9_pass_35 : decode cX9_pass 35 = .ok (.getfield 15, 3) := by decide +kernel
theorem dX9_pass_38 : decode cX9_pass 38 = .ok (.iload_n 3, 1) := by decide +kernel
theorem dX9_pass_39 : decode cX9_pass 39 = .ok (.iload_n 2, 1) := by decide +kernel
theorem dX9_pass_40 : decode cX9_pass 40 = .ok (.ifCond .le 35, 3) := by decide +kernel
theorem dX9_pass_43 : decode cX9_pass 43 = .ok (.bipush 20, 2) := by decide +kernel
theorem dX9_pass_45 : decode cX9_pass 45 = .ok (.aload_n 0, 1) := by decide +kernel
theorem dX9_pass_46 : decode cX9_pass 46 = .ok (.getfield 15, 3) := by decide +kernel
theorem dX9_pass_49 : decode cX9_pass 49 = .ok (.iload_n 3, 1) := by decide +kernel
theorem dX9_pass_50 : decode cX9_pass 50 = .ok (.iaload, 1) := by decide +kernel
theorem dX9_pass_51 : decode cX9_pass 51 = .ok (.iload_n 2, 1) := by decide +kernel
theorem dX9_pass_52 : decode cX9_pass 52 = .ok (.aload_n 0, 1) := by decide +kernel
theorem dX9_pass_53 : decode cX9_pass 53 = .ok (.getfield 3, 3) := by decide +kernel
theorem dX9_pass_56 : decode cX9_pass 56 = .ok (.getfield 75, 3) := by decide +kernel
theorem dX9_pass_59 : decode cX9_pass 59 = .ok (.iconst 4, 1) := by decide +kernel
theorem dX9_pass_60 : decode cX9_pass 60 = .ok (.iload_n 3, 1) := by decide +kernel
theorem dX9_pass_61 : decode cX9_pass 61 = .ok (.imul, 1) := by decide +kernel
theorem dX9_pass_62 : decode cX9_pass 62 = .ok (.iconst 3, 1) := by decide +kernel
theorem dX9_pass_63 : decode cX9_pass 63 = .ok (.iadd, 1) := by decide +kernel
theorem dX9_pass_64 : decode cX9_pass 64 = .ok (.iaload, 1) := by decide +kernel
theorem dX9_pass_65 : decode cX9_pass 65 = .ok (.imul, 1) := by decide +kernel
theorem dX9_pass_66 : decode cX9_pass 66 = .ok (.iconst 4, 1) := by decide +kernel
theorem dX9_pass_67 : decode cX9_pass 67 = .ok (.idiv, 1) := by decide +kernel
theorem dX9_pass_68 : decode cX9_pass 68 = .ok (.iadd, 1) := by decide +kernel
theorem dX9_pass_69 : decode cX9_pass 69 = .ok (.invokestatic 102, 3) := by decide +kernel
theorem dX9_pass_72 : decode cX9_pass 72 = .ok (.goto 15, 3) := by decide +kernel
theorem dX9_pass_75 : decode cX9_pass 75 = .ok (.iconst 0, 1) := by decide +kernel
theorem dX9_pass_76 : decode cX9_pass 76 = .ok (.aload_n 0, 1) := by decide +kernel
theorem dX9_pass_77 : decode cX9_pass 77 = .ok (.getfield 15, 3) := by decide +kernel
theorem dX9_pass_80 : decode cX9_pass 80 = .ok (.iload_n 3, 1) := by decide +kernel
theorem dX9_pass_81 : decode cX9_pass 81 = .ok (.iaload, 1) := by decide +kernel
theorem dX9_pass_82 : decode cX9_pass 82 = .ok (.iconst 2, 1) := by decide +kernel
theorem dX9_pass_83 : decode cX9_pass 83 = .ok (.isub, 1) := by decide +kernel
theorem dX9_pass_84 : decode cX9_pass 84 = .ok (.invokestatic 108, 3) := by decide +kernel
theorem dX9_pass_87 : decode cX9_pass 87 = .ok (.iastore, 1) := by decide +kernel
theorem dX9_pass_88 : decode cX9_pass 88 = .ok (.iinc 3 1, 3) := by decide +kernel
theorem dX9_pass_91 : decode cX9_pass 91 = .ok (.goto (-68), 3) := by decide +kernel
theorem dX9_pass_94 : decode cX9_pass 94 = .ok (.aload_n 0, 1) := by decide +kernel
theorem dX9_pass_95 : decode cX9_pass 95 = .ok (.invokevirtual 111, 3) := by decide +kernel
theorem dX9_pass_98 : decode cX9_pass 98 = .ok (.iconst 0, 1) := by decide +kernel
theorem dX9_pass_99 : decode cX9_pass 99 = .ok (.istore_n 3, 1) := by decide +kernel
theorem dX9_pass_100 : decode cX9_pass 100 = .ok (.aload_n 0, 1) := by decide +kernel
theorem dX9_pass_101 : decode cX9_pass 101 = .ok (.iconst 0, 1) := by decide +kernel
theorem dX9_pass_102 : decode cX9_pass 102 = .ok (.putfield 62, 3) := by decide +kernel
theorem dX9_pass_105 : decode cX9_pass 105 = .ok (.iconst 0, 1) := by decide +kernel
theorem dX9_pass_106 : decode cX9_pass 106 = .ok (.istore 4, 2) := by decide +kernel
theorem dX9_pass_108 : decode cX9_pass 108 = .ok (.iload 4, 2) := by decide +kernel
theorem dX9_pass_110 : decode cX9_pass 110 = .ok (.aload_n 0, 1) := by decide +kernel
theorem dX9_pass_111 : decode cX9_pass 111 = .ok (.getfield 68, 3) := by decide +kernel
theorem dX9_pass_114 : decode cX9_pass 114 = .ok (.if_icmp .ge 117, 3) := by decide +kernel
theorem dX9_pass_117 : decode cX9_pass 117 = .ok (.aload_n 0, 1) := by decide +kernel
theorem dX9_pass_118 : decode cX9_pass 118 = .ok (.getfield 19, 3) := by decide +kernel
theorem dX9_pass_121 : decode cX9_pass 121 = .ok (.iload 4, 2) := by decide +kernel
theorem dX9_pass_123 : decode cX9_pass 123 = .ok (.iaload, 1) := by decide +kernel
theorem dX9_pass_124 : decode cX9_pass 124 = .ok (.istore 5, 2) := by decide +kernel
theorem dX9_pass_126 : decode cX9_pass 126 = .ok (.aload_n 0, 1) := by decide +kernel
theorem dX9_pass_127 : decode cX9_pass 127 = .ok (.getfield 62, 3) := by decide +kernel
theorem dX9_pass_130 : decode cX9_pass 130 = .ok (.aload_n 0, 1) := by decide +kernel
theorem dX9_pass_131 : decode cX9_pass 131 = .ok (.getfield 3, 3) := by decide +kernel
theorem dX9_pass_134 : decode cX9_pass 134 = .ok (.getfield 78, 3) := by decide +kernel
theorem dX9_pass_137 : decode cX9_pass 137 = .ok (.bipush 8, 2) := by decide +kernel
theorem dX9_pass_139 : decode cX9_pass 139 = .ok (.iload_n 3, 1) := by decide +kernel
theorem dX9_pass_140 : decode cX9_pass 140 = .ok (.imul, 1) := by decide +kernel
theorem dX9_pass_141 : decode cX9_pass 141 = .ok (.iload 5, 2) := by decide +kernel
theorem dX9_pass_143 : decode cX9_pass 143 = .ok (.iadd, 1) := by decide +kernel
theorem dX9_pass_144 : decode cX9_pass 144 = .ok (.iaload, 1) := by decide +kernel
theorem dX9_pass_145 : decode cX9_pass 145 = .ok (.iadd, 1) := by decide +kernel
theorem dX9_pass_146 : decode cX9_pass 146 = .ok (.iconst 5, 1) := by decide +kernel
theorem dX9_pass_147 : decode cX9_pass 147 = .ok (.iadd, 1) := by decide +kernel
theorem dX9_pass_148 : decode cX9_pass 148 = .ok (.aload_n 0, 1) := by decide +kernel
theorem dX9_pass_149 : decode cX9_pass 149 = .ok (.getfield 3, 3) := by decide +kernel
theorem dX9_pass_152 : decode cX9_pass 152 = .ok (.getfield 78, 3) := by decide +kernel
theorem dX9_pass_155 : decode cX9_pass 155 = .ok (.bipush 8, 2) := by decide +kernel
theorem dX9_pass_157 : decode cX9_pass 157 = .ok (.iload 5, 2) := by decide +kernel
theorem dX9_pass_159 : decode cX9_pass 159 = .ok (.imul, 1) := by decide +kernel
theorem dX9_pass_160 : decode cX9_pass 160 = .ok (.iaload, 1) := by decide +kernel
theorem dX9_pass_161 : decode cX9_pass 161 = .ok (.iadd, 1) := by decide +kernel
theorem dX9_pass_162 : decode cX9_pass 162 = .ok (.istore 6, 2) := by decide +kernel
theorem dX9_pass_164 : decode cX9_pass 164 = .ok (.iload 6, 2) := by decide +kernel
theorem dX9_pass_166 : decode cX9_pass 166 = .ok (.aload_n 0, 1) := by decide +kernel
theorem dX9_pass_167 : decode cX9_pass 167 = .ok (.getfield 3, 3) := by decide +kernel
theorem dX9_pass_170 : decode cX9_pass 170 = .ok (.getfield 114, 3) := by decide +kernel
theorem dX9_pass_173 : decode cX9_pass 173 = .ok (.if_icmp .le 17, 3) := by decide +kernel
theorem dX9_pass_176 : decode cX9_pass 176 = .ok (.aload_n 0, 1) := by decide +kernel
theorem dX9_pass_177 : decode cX9_pass 177 = .ok (.getfield 25, 3) := by decide +kernel
theorem dX9_pass_180 : decode cX9_pass 180 = .ok (.iload 5, 2) := by decide +kernel
theorem dX9_pass_182 : decode cX9_pass 182 = .ok (.dup2, 1) := by decide +kernel
theorem dX9_pass_183 : decode cX9_pass 183 = .ok (.iaload, 1) := by decide +kernel
theorem dX9_pass_184 : decode cX9_pass 184 = .ok (.iconst 1, 1) := by decide +kernel
theorem dX9_pass_185 : decode cX9_pass 185 = .ok (.iadd, 1) := by decide +kernel
theorem dX9_pass_186 : decode cX9_pass 186 = .ok (.iastore, 1) := by decide +kernel
theorem dX9_pass_187 : decode cX9_pass 187 = .ok (.goto 38, 3) := by decide +kernel
theorem dX9_pass_190 : decode cX9_pass 190 = .ok (.aload_n 0, 1) := by decide +kernel
theorem dX9_pass_191 : decode cX9_pass 191 = .ok (.dup, 1) := by decide +kernel
theorem dX9_pass_192 : decode cX9_pass 192 = .ok (.getfield 62, 3) := by decide +kernel
theorem dX9_pass_195 : decode cX9_pass 195 = .ok (.aload_n 0, 1) := by decide +kernel
theorem dX9_pass_196 : decode cX9_pass 196 = .ok (.getfield 3, 3) := by decide +kernel
theorem dX9_pass_199 : decode cX9_pass 199 = .ok (.getfield 78, 3) := by decide +kernel
theorem dX9_pass_202 : decode cX9_pass 202 = .ok (.bipush 8, 2) := by decide +kernel
theorem dX9_pass_204 : decode cX9_pass 204 = .ok (.iload_n 3, 1) := by decide +kernel
theorem dX9_pass_205 : decode cX9_pass 205 = .ok (.imul, 1) := by decide +kernel
theorem dX9_pass_206 : decode cX9_pass 206 = .ok (.iload 5, 2) := by decide +kernel
theorem dX9_pass_208 : decode cX9_pass 208 = .ok (.iadd, 1) := by decide +kernel
theorem dX9_pass_209 : decode cX9_pass 209 = .ok (.iaload, 1) := by decide +kernel
theorem dX9_pass_210 : decode cX9_pass 210 = .ok (.iconst 5, 1) := by decide +kernel
theorem dX9_pass_211 : decode cX9_pass 211 = .ok (.iadd, 1) := by decide +kernel
theorem dX9_pass_212 : decode cX9_pass 212 = .ok (.iadd, 1) := by decide +kernel
theorem dX9_pass_213 : decode cX9_pass 213 = .ok (.putfield 62, 3) := by decide +kernel
theorem dX9_pass_216 : decode cX9_pass 216 = .ok (.iload 5, 2) := by decide +kernel
theorem dX9_pass_218 : decode cX9_pass 218 = .ok (.istore_n 3, 1) := by decide +kernel
theorem dX9_pass_219 : decode cX9_pass 219 = .ok (.aload_n 0, 1) := by decide +kernel
theorem dX9_pass_220 : decode cX9_pass 220 = .ok (.iload 5, 2) := by decide +kernel
theorem dX9_pass_222 : decode cX9_pass 222 = .ok (.invokevirtual 117, 3) := by decide +kernel
theorem dX9_pass_225 : decode cX9_pass 225 = .ok (.iinc 4 1, 3) := by decide +kernel
theorem dX9_pass_228 : decode cX9_pass 228 = .ok (.goto (-120), 3) := by decide +kernel
theorem dX9_pass_231 : decode cX9_pass 231 = .ok (.aload_n 0, 1) := by decide +kernel
theorem dX9_pass_232 : decode cX9_pass 232 = .ok (.dup, 1) := by decide +kernel
theorem dX9_pass_233 : decode cX9_pass 233 = .ok (.getfield 62, 3) := by decide +kernel
theorem dX9_pass_236 : decode cX9_pass 236 = .ok (.aload_n 0, 1) := by decide +kernel
theorem dX9_pass_237 : decode cX9_pass 237 = .ok (.getfield 3, 3) := by decide +kernel
theorem dX9_pass_240 : decode cX9_pass 240 = .ok (.getfield 78, 3) := by decide +kernel
theorem dX9_pass_243 : decode cX9_pass 243 = .ok (.bipush 8, 2) := by decide +kernel
theorem dX9_pass_245 : decode cX9_pass 245 = .ok (.iload_n 3, 1) := by decide +kernel
theorem dX9_pass_246 : decode cX9_pass 246 = .ok (.imul, 1) := by decide +kernel
theorem dX9_pass_247 : decode cX9_pass 247 = .ok (.iaload, 1) := by decide +kernel
theorem dX9_pass_248 : decode cX9_pass 248 = .ok (.iadd, 1) := by decide +kernel
theorem dX9_pass_249 : decode cX9_pass 249 = .ok (.putfield 62, 3) := by decide +kernel
theorem dX9_pass_252 : decode cX9_pass 252 = .ok (.aload_n 0, 1) := by decide +kernel
theorem dX9_pass_253 : decode cX9_pass 253 = .ok (.dup, 1) := by decide +kernel
theorem dX9_pass_254 : decode cX9_pass 254 = .ok (.getfield 58, 3) := by decide +kernel
theorem dX9_pass_257 : decode cX9_pass 257 = .ok (.iconst 1, 1) := by decide +kernel
theorem dX9_pass_258 : decode cX9_pass 258 = .ok (.iadd, 1) := by decide +kernel
theorem dX9_pass_259 : decode cX9_pass 259 = .ok (.putfield 58, 3) := by decide +kernel
theorem dX9_pass_262 : decode cX9_pass 262 = .ok (.aload_n 0, 1) := by decide +kernel
theorem dX9_pass_263 : decode cX9_pass 263 = .ok (.getfield 65, 3) := by decide +kernel
theorem dX9_pass_266 : decode cX9_pass 266 = .ok (.iload_n 1, 1) := by decide +kernel
theorem dX9_pass_267 : decode cX9_pass 267 = .ok (.isub, 1) := by decide +kernel
theorem dX9_pass_268 : decode cX9_pass 268 = .ok (.ireturn, 1) := by decide +kernel
theorem dX9_serve_0 : decode cX9_serve 0 = .ok (.aload_n 0, 1) := by decide +kernel
theorem dX9_serve_1 : decode cX9_serve 1 = .ok (.getfield 22, 3) := by decide +kernel
theorem dX9_serve_4 : decode cX9_serve 4 = .ok (.iload_n 1, 1) := by decide +kernel
theorem dX9_serve_5 : decode cX9_serve 5 = .ok (.dup2, 1) := by decide +kernel
theorem dX9_serve_6 : decode cX9_serve 6 = .ok (.iaload, 1) := by decide +kernel
theorem dX9_serve_7 : decode cX9_serve 7 = .ok (.iconst 1, 1) := by decide +kernel
theorem dX9_serve_8 : decode cX9_serve 8 = .ok (.iadd, 1) := by decide +kernel
theorem dX9_serve_9 : decode cX9_serve 9 = .ok (.iastore, 1) := by decide +kernel
theorem dX9_serve_10 : decode cX9_serve 10 = .ok (.iconst 0, 1) := by decide +kernel
theorem dX9_serve_11 : decode cX9_serve 11 = .ok (.istore_n 2, 1) := by decide +kernel
theorem dX9_serve_12 : decode cX9_serve 12 = .ok (.iload_n 2, 1) := by decide +kernel
theorem dX9_serve_13 : decode cX9_serve 13 = .ok (.aload_n 0, 1) := by decide +kernel
theorem dX9_serve_14 : decode cX9_serve 14 = .ok (.getfield 3, 3) := by decide +kernel
theorem dX9_serve_17 : decode cX9_serve 17 = .ok (.getfield 121, 3) := by decide +kernel
theorem dX9_serve_20 : decode cX9_serve 20 = .ok (.if_icmp .ge 29, 3) := by decide +kernel
theorem dX9_serve_23 : decode cX9_serve 23 = .ok (.aload_n 0, 1) := by decide +kernel
theorem dX9_serve_24 : decode cX9_serve 24 = .ok (.getfield 3, 3) := by decide +kernel
theorem dX9_serve_27 : decode cX9_serve 27 = .ok (.getfield 124, 3) := by decide +kernel
theorem dX9_serve_30 : decode cX9_serve 30 = .ok (.iconst 3, 1) := by decide +kernel
theorem dX9_serve_31 : decode cX9_serve 31 = .ok (.iload_n 2, 1) := by decide +kernel
theorem dX9_serve_32 : decode cX9_serve 32 = .ok (.imul, 1) := by decide +kernel
theorem dX9_serve_33 : decode cX9_serve 33 = .ok (.iaload, 1) := by decide +kernel
theorem dX9_serve_34 : decode cX9_serve 34 = .ok (.iload_n 1, 1) := by decide +kernel
theorem dX9_serve_35 : decode cX9_serve 35 = .ok (.if_icmp .ne 8, 3) := by decide +kernel
theorem dX9_serve_38 : decode cX9_serve 38 = .ok (.aload_n 0, 1) := by decide +kernel
theorem dX9_serve_39 : decode cX9_serve 39 = .ok (.iload_n 2, 1) := by decide +kernel
theorem dX9_serve_40 : decode cX9_serve 40 = .ok (.invokevirtual 127, 3) := by decide +kernel
theorem dX9_serve_43 : decode cX9_serve 43 = .ok (.iinc 2 1, 3) := by decide +kernel
theorem dX9_serve_46 : decode cX9_serve 46 = .ok (.goto (-34), 3) := by decide +kernel
theorem dX9_serve_49 : decode cX9_serve 49 = .ok (.iconst 0, 1) := by decide +kernel
theorem dX9_serve_50 : decode cX9_serve 50 = .ok (.istore_n 2, 1) := by decide +kernel
theorem dX9_serve_51 : decode cX9_serve 51 = .ok (.iload_n 2, 1) := by decide +kernel
theorem dX9_serve_52 : decode cX9_serve 52 = .ok (.aload_n 0, 1) := by decide +kernel
theorem dX9_serve_53 : decode cX9_serve 53 = .ok (.getfield 3, 3) := by decide +kernel
theorem dX9_serve_56 : decode cX9_serve 56 = .ok (.getfield 121, 3) := by decide +kernel
theorem dX9_serve_59 : decode cX9_serve 59 = .ok (.if_icmp .ge 99, 3) := by decide +kernel
theorem dX9_serve_62 : decode cX9_serve 62 = .ok (.iconst 0, 1) := by decide +kernel
theorem dX9_serve_63 : decode cX9_serve 63 = .ok (.istore_n 3, 1) := by decide +kernel
theorem dX9_serve_64 : decode cX9_serve 64 = .ok (.iload_n 3, 1) := by decide +kernel
theorem dX9_serve_65 : decode cX9_serve 65 = .ok (.aload_n 0, 1) := by decide +kernel
theorem dX9_serve_66 : decode cX9_serve 66 = .ok (.getfield 3, 3) := by decide +kernel
theorem dX9_serve_69 : decode cX9_serve 69 = .ok (.getfield 96, 3) := by decide +kernel
theorem dX9_serve_72 : decode cX9_serve 72 = .ok (.if_icmp .ge 80, 3) := by decide +kernel
theorem dX9_serve_75 : decode cX9_serve 75 = .ok (.aload_n 0, 1) := by decide +kernel
theorem dX9_serve_76 : decode cX9_serve 76 = .ok (.getfield 3, 3) := by decide +kernel
theorem dX9_serve_79 : decode cX9_serve 79 = .ok (.getfield 124, 3) := by decide +kernel
theorem dX9_serve_82 : decode cX9_serve 82 = .ok (.iconst 3, 1) := by decide +kernel
theorem dX9_serve_83 : decode cX9_serve 83 = .ok (.iload_n 2, 1) := by decide +kernel
theorem dX9_serve_84 : decode cX9_serve 84 = .ok (.imul, 1) := by decide +kernel
theorem dX9_serve_85 : decode cX9_serve 85 = .ok (.iaload, 1) := by decide +kernel
theorem dX9_serve_86 : decode cX9_serve 86 = .ok (.iload_n 1, 1) := by decide +kernel
theorem dX9_serve_87 : decode cX9_serve 87 = .ok (.if_icmp .ne 65, 3) := by decide +kernel
theorem dX9_serve_90 : decode cX9_serve 90 = .ok (.aload_n 0, 1) := by decide +kernel
theorem dX9_serve_91 : decode cX9_serve 91 = .ok (.getfield 28, 3) := by decide +kernel
theorem dX9_serve_94 : decode cX9_serve 94 = .ok (.iload_n 3, 1) := by decide +kernel
theorem dX9_serve_95 : decode cX9_serve 95 = .ok (.iaload, 1) := by decide +kernel
theorem dX9_serve_96 : decode cX9_serve 96 = .ok (.iconst (-1), 1) := by decide +kernel
theorem dX9_serve_97 : decode cX9_serve 97 = .ok (.if_icmp .ne 49, 3) := by decide +kernel
theorem dX9_serve_100 : decode cX9_serve 100 = .ok (.aload_n 0, 1) := by decide +kernel
theorem dX9_serve_101 : decode cX9_serve 101 = .ok (.getfield 40, 3) := by decide +kernel
theorem dX9_serve_104 : decode cX9_serve 104 = .ok (.iload_n 3, 1) := by decide +kernel
theorem dX9_serve_105 : decode cX9_serve 105 = .ok (.iaload, 1) := by decide +kernel
theorem dX9_serve_106 : decode cX9_serve 106 = .ok (.ifCond .eq 40, 3) := by decide +kernel
theorem dX9_serve_109 : decode cX9_serve 109 = .ok (.aload_n 0, 1) := by decide +kernel
theorem dX9_serve_110 : decode cX9_serve 110 = .ok (.getfield 37, 3) := by decide +kernel
theorem dX9_serve_113 : decode cX9_serve 113 = .ok (.bipush 10, 2) := by decide +kernel
theorem dX9_serve_115 : decode cX9_serve 115 = .ok (.iload_n 3, 1) := by decide +kernel
theorem dX9_serve_116 : decode cX9_serve 116 = .ok (.imul, 1) := by decide +kernel
theorem dX9_serve_117 : decode cX9_serve 117 = .ok (.iaload, 1) := by decide +kernel
theorem dX9_serve_118 : decode cX9_serve 118 = .ok (.iload_n 2, 1) := by decide +kernel
theorem dX9_serve_119 : decode cX9_serve 119 = .ok (.if_icmp .ne 27, 3) := by decide +kernel
theorem dX9_serve_122 : decode cX9_serve 122 = .ok (.aload_n 0, 1) := by decide +kernel
theorem dX9_serve_123 : decode cX9_serve 123 = .ok (.iload_n 2, 1) := by decide +kernel
theorem dX9_serve_124 : decode cX9_serve 124 = .ok (.invokevirtual 130, 3) := by decide +kernel
theorem dX9_serve_127 : decode cX9_serve 127 = .ok (.iconst 3, 1) := by decide +kernel
theorem dX9_serve_128 : decode cX9_serve 128 = .ok (.if_icmp .ne 6, 3) := by decide +kernel
theorem dX9_serve_131 : decode cX9_serve 131 = .ok (.goto 15, 3) := by decide +kernel
theorem dX9_serve_134 : decode cX9_serve 134 = .ok (.aload_n 0, 1) := by decide +kernel
theorem dX9_serve_135 : decode cX9_serve 135 = .ok (.iload_n 3, 1) := by decide +kernel
theorem dX9_serve_136 : decode cX9_serve 136 = .ok (.iconst 0, 1) := by decide +kernel
theorem dX9_serve_137 : decode cX9_serve 137 = .ok (.invokevirtual 133, 3) := by decide +kernel
theorem dX9_serve_140 : decode cX9_serve 140 = .ok (.aload_n 0, 1) := by decide +kernel
theorem dX9_serve_141 : decode cX9_serve 141 = .ok (.iload_n 2, 1) := by decide +kernel
theorem dX9_serve_142 : decode cX9_serve 142 = .ok (.iload_n 3, 1) := by decide +kernel
theorem dX9_serve_143 : decode cX9_serve 143 = .ok (.invokevirtual 137, 3) := by decide +kernel
theorem dX9_serve_146 : decode cX9_serve 146 = .ok (.iinc 3 1, 3) := by decide +kernel
theorem dX9_serve_149 : decode cX9_serve 149 = .ok (.goto (-85), 3) := by decide +kernel
theorem dX9_serve_152 : decode cX9_serve 152 = .ok (.iinc 2 1, 3) := by decide +kernel
theorem dX9_serve_155 : decode cX9_serve 155 = .ok (.goto (-104), 3) := by decide +kernel
theorem dX9_serve_158 : decode cX9_serve 158 = .ok (.iconst 0, 1) := by decide +kernel
theorem dX9_serve_159 : decode cX9_serve 159 = .ok (.istore_n 2, 1) := by decide +kernel
theorem dX9_serve_160 : decode cX9_serve 160 = .ok (.iload_n 2, 1) := by decide +kernel
theorem dX9_serve_161 : decode cX9_serve 161 = .ok (.aload_n 0, 1) := by decide +kernel
theorem dX9_serve_162 : decode cX9_serve 162 = .ok (.getfield 3, 3) := by decide +kernel
theorem dX9_serve_165 : decode cX9_serve 165 = .ok (.getfield 121, 3) := by decide +kernel
theorem dX9_serve_168 : decode cX9_serve 168 = .ok (.if_icmp .ge 38, 3) := by decide +kernel
theorem dX9_serve_171 : decode cX9_serve 171 = .ok (.aload_n 0, 1) := by decide +kernel
theorem dX9_serve_172 : decode cX9_serve 172 = .ok (.getfield 3, 3) := by decide +kernel
theorem dX9_serve_175 : decode cX9_serve 175 = .ok (.getfield 124, 3) := by decide +kernel
theorem dX9_serve_178 : decode cX9_serve 178 = .ok (.iconst 3, 1) := by decide +kernel
theorem dX9_serve_179 : decode cX9_serve 179 = .ok (.iload_n 2, 1) := by decide +kernel
theorem dX9_serve_180 : decode cX9_serve 180 = .ok (.imul, 1) := by decide +kernel
theorem dX9_serve_181 : decode cX9_serve 181 = .ok (.iaload, 1) := by decide +kernel
theorem dX9_serve_182 : decode cX9_serve 182 = .ok (.iload_n 1, 1) := by decide +kernel
theorem dX9_serve_183 : decode cX9_serve 183 = .ok (.if_icmp .ne 17, 3) := by decide +kernel
theorem dX9_serve_186 : decode cX9_serve 186 = .ok (.aload_n 0, 1) := by decide +kernel
theorem dX9_serve_187 : decode cX9_serve 187 = .ok (.iload_n 2, 1) := by decide +kernel
theorem dX9_serve_188 : decode cX9_serve 188 = .ok (.invokevirtual 130, 3) := by decide +kernel
theorem dX9_serve_191 : decode cX9_serve 191 = .ok (.iconst 3, 1) := by decide +kernel
theorem dX9_serve_192 : decode cX9_serve 192 = .ok (.if_icmp .ge 8, 3) := by decide +kernel
theorem dX9_serve_195 : decode cX9_serve 195 = .ok (.aload_n 0, 1) := by decide +kernel
theorem dX9_serve_196 : decode cX9_serve 196 = .ok (.iload_n 2, 1) := by decide +kernel
theorem dX9_serve_197 : decode cX9_serve 197 = .ok (.invokevirtual 140, 3) := by decide +kernel
theorem dX9_serve_200 : decode cX9_serve 200 = .ok (.iinc 2 1, 3) := by decide +kernel
theorem dX9_serve_203 : decode cX9_serve 203 = .ok (.goto (-43), 3) := by decide +kernel
theorem dX9_serve_206 : decode cX9_serve 206 = .ok (.return_, 1) := by decide +kernel
theorem dX9_bringBack_0 : decode cX9_bringBack 0 = .ok (.iconst 0, 1) := by decide +kernel
theorem dX9_bringBack_1 : decode cX9_bringBack 1 = .ok (.istore_n 2, 1) := by decide +kernel
theorem dX9_bringBack_2 : decode cX9_bringBack 2 = .ok (.iload_n 2, 1) := by decide +kernel
theorem dX9_bringBack_3 : decode cX9_bringBack 3 = .ok (.aload_n 0, 1) := by decide +kernel
theorem dX9_bringBack_4 : decode cX9_bringBack 4 = .ok (.getfield 3, 3) := by decide +kernel
theorem dX9_bringBack_7 : decode cX9_bringBack 7 = .ok (.getfield 96, 3) := by decide +kernel
theorem dX9_bringBack_10 : decode cX9_bringBack 10 = .ok (.if_icmp .ge 75, 3) := by decide +kernel
theorem dX9_bringBack_13 : decode cX9_bringBack 13 = .ok (.aload_n 0, 1) := by decide +kernel
theorem dX9_bringBack_14 : decode cX9_bringBack 14 = .ok (.getfield 58, 3) := by decide +kernel
theorem dX9_bringBack_17 : decode cX9_bringBack 17 = .ok (.aload_n 0, 1) := by decide +kernel
theorem dX9_bringBack_18 : decode cX9_bringBack 18 = .ok (.getfield 31, 3) := by decide +kernel
theorem dX9_bringBack_21 : decode cX9_bringBack 21 = .ok (.iload_n 2, 1) := by decide +kernel
theorem dX9_bringBack_22 : decode cX9_bringBack 22 = .ok (.iaload, 1) := by decide +kernel
theorem dX9_bringBack_23 : decode cX9_bringBack 23 = .ok (.isub, 1) := by decide +kernel
theorem dX9_bringBack_24 : decode cX9_bringBack 24 = .ok (.istore_n 3, 1) := by decide +kernel
theorem dX9_bringBack_25 : decode cX9_bringBack 25 = .ok (.aload_n 0, 1) := by decide +kernel
theorem dX9_bringBack_26 : decode cX9_bringBack 26 = .ok (.getfield 28, 3) := by decide +kernel
theorem dX9_bringBack_29 : decode cX9_bringBack 29 = .ok (.iload_n 2, 1) := by decide +kernel
theorem dX9_bringBack_30 : decode cX9_bringBack 30 = .ok (.iaload, 1) := by decide +kernel
theorem dX9_bringBack_31 : decode cX9_bringBack 31 = .ok (.iload_n 1, 1) := by decide +kernel
theorem dX9_bringBack_32 : decode cX9_bringBack 32 = .ok (.if_icmp .ne 47, 3) := by decide +kernel
theorem dX9_bringBack_35 : decode cX9_bringBack 35 = .ok (.iload_n 3, 1) := by decide +kernel
theorem dX9_bringBack_36 : decode cX9_bringBack 36 = .ok (.aload_n 0, 1) := by decide +kernel
theorem dX9_bringBack_37 : decode cX9_bringBack 37 = .ok (.getfield 3, 3) := by decide +kernel
theorem dX9_bringBack_40 : decode cX9_bringBack 40 = .ok (.getfield 124, 3) := by decide +kernel
theorem dX9_bringBack_43 : decode cX9_bringBack 43 = .ok (.iconst 3, 1) := by decide +kernel
theorem dX9_bringBack_44 : decode cX9_bringBack 44 = .ok (.iload_n 1, 1) := by decide +kernel
theorem dX9_bringBack_45 : decode cX9_bringBack 45 = .ok (.imul, 1) := by decide +kernel
theorem dX9_bringBack_46 : decode cX9_bringBack 46 = .ok (.iconst 2, 1) := by decide +kernel
theorem dX9_bringBack_47 : decode cX9_bringBack 47 = .ok (.iadd, 1) := by decide +kernel
theorem dX9_bringBack_48 : decode cX9_bringBack 48 = .ok (.iaload, 1) := by decide +kernel
theorem dX9_bringBack_49 : decode cX9_bringBack 49 = .ok (.if_icmp .ge 6, 3) := by decide +kernel
theorem dX9_bringBack_52 : decode cX9_bringBack 52 = .ok (.goto 27, 3) := by decide +kernel
theorem dX9_bringBack_55 : decode cX9_bringBack 55 = .ok (.aload_n 0, 1) := by decide +kernel
theorem dX9_bringBack_56 : decode cX9_bringBack 56 = .ok (.getfield 28, 3) := by decide +kernel
theorem dX9_bringBack_59 : decode cX9_bringBack 59 = .ok (.iload_n 2, 1) := by decide +kernel
theorem dX9_bringBack_60 : decode cX9_bringBack 60 = .ok (.iconst (-1), 1) := by decide +kernel
theorem dX9_bringBack_61 : decode cX9_bringBack 61 = .ok (.iastore, 1) := by decide +kernel
theorem dX9_bringBack_62 : decode cX9_bringBack 62 = .ok (.aload_n 0, 1) := by decide +kernel
theorem dX9_bringBack_63 : decode cX9_bringBack 63 = .ok (.getfield 46, 3) := by decide +kernel
theorem dX9_bringBack_66 : decode cX9_bringBack 66 = .ok (.iload_n 1, 1) := by decide +kernel
theorem dX9_bringBack_67 : decode cX9_bringBack 67 = .ok (.dup2, 1) := by decide +kernel
theorem dX9_bringBack_68 : decode cX9_bringBack 68 = .ok (.iaload, 1) := by decide +kernel
theorem dX9_bringBack_69 : decode cX9_bringBack 69 = .ok (.iconst 0, 1) := by decide +kernel
theorem dX9_bringBack_70 : decode cX9_bringBack 70 = .ok (.iload_n 3, 1) := by decide +kernel
theorem dX9_bringBack_71 : decode cX9_bringBack 71 = .ok (.bipush 14, 2) := by decide +kernel
theorem dX9_bringBack_73 : decode cX9_bringBack 73 = .ok (.isub, 1) := by decide +kernel
theorem dX9_bringBack_74 : decode cX9_bringBack 74 = .ok (.invokestatic 108, 3) := by decide +kernel
theorem dX9_bringBack_77 : decode cX9_bringBack 77 = .ok (.iadd, 1) := by decide +kernel
theorem dX9_bringBack_78 : decode cX9_bringBack 78 = .ok (.iastore, 1) := by decide +kernel
theorem dX9_bringBack_79 : decode cX9_bringBack 79 = .ok (.iinc 2 1, 3) := by decide +kernel
theorem dX9_bringBack_82 : decode cX9_bringBack 82 = .ok (.goto (-80), 3) := by decide +kernel
theorem dX9_bringBack_85 : decode cX9_bringBack 85 = .ok (.return_, 1) := by decide +kernel
theorem dX9_lend_0 : decode cX9_lend 0 = .ok (.aload_n 0, 1) := by decide +kernel
theorem dX9_lend_1 : decode cX9_lend 1 = .ok (.getfield 28, 3) := by decide +kernel
theorem dX9_lend_4 : decode cX9_lend 4 = .ok (.iload_n 2, 1) := by decide +kernel
theorem dX9_lend_5 : decode cX9_lend 5 = .ok (.iload_n 1, 1) := by decide +kernel
theorem dX9_lend_6 : decode cX9_lend 6 = .ok (.iastore, 1) := by decide +kernel
theorem dX9_lend_7 : decode cX9_lend 7 = .ok (.aload_n 0, 1) := by decide +kernel
theorem dX9_lend_8 : decode cX9_lend 8 = .ok (.getfield 31, 3) := by decide +kernel
theorem dX9_lend_11 : decode cX9_lend 11 = .ok (.iload_n 2, 1) := by decide +kernel
theorem dX9_lend_12 : decode cX9_lend 12 = .ok (.aload_n 0, 1) := by decide +kernel
theorem dX9_lend_13 : decode cX9_lend 13 = .ok (.getfield 58, 3) := by decide +kernel
theorem dX9_lend_16 : decode cX9_lend 16 = .ok (.iastore, 1) := by decide +kernel
theorem dX9_lend_17 : decode cX9_lend 17 = .ok (.aload_n 0, 1) := by decide +kernel
theorem dX9_lend_18 : decode cX9_lend 18 = .ok (.getfield 34, 3) := by decide +kernel
theorem dX9_lend_21 : decode cX9_lend 21 = .ok (.iload_n 2, 1) := by decide +kernel
theorem dX9_lend_22 : decode cX9_lend 22 = .ok (.dup2, 1) := by decide +kernel
theorem dX9_lend_23 : decode cX9_lend 23 = .ok (.iaload, 1) := by decide +kernel
theorem dX9_lend_24 : decode cX9_lend 24 = .ok (.iconst 1, 1) := by decide +kernel
theorem dX9_lend_25 : decode cX9_lend 25 = .ok (.iadd, 1) := by decide +kernel
theorem dX9_lend_26 : decode cX9_lend 26 = .ok (.iastore, 1) := by decide +kernel
theorem dX9_lend_27 : decode cX9_lend 27 = .ok (.aload_n 0, 1) := by decide +kernel
theorem dX9_lend_28 : decode cX9_lend 28 = .ok (.getfield 49, 3) := by decide +kernel
theorem dX9_lend_31 : decode cX9_lend 31 = .ok (.iload_n 1, 1) := by decide +kernel
theorem dX9_lend_32 : decode cX9_lend 32 = .ok (.dup2, 1) := by decide +kernel
theorem dX9_lend_33 : decode cX9_lend 33 = .ok (.iaload, 1) := by decide +kernel
theorem dX9_lend_34 : decode cX9_lend 34 = .ok (.iconst 1, 1) := by decide +kernel
theorem dX9_lend_35 : decode cX9_lend 35 = .ok (.iadd, 1) := by decide +kernel
theorem dX9_lend_36 : decode cX9_lend 36 = .ok (.iastore, 1) := by decide +kernel
theorem dX9_lend_37 : decode cX9_lend 37 = .ok (.aload_n 0, 1) := by decide +kernel
theorem dX9_lend_38 : decode cX9_lend 38 = .ok (.getfield 43, 3) := by decide +kernel
theorem dX9_lend_41 : decode cX9_lend 41 = .ok (.iload_n 1, 1) := by decide +kernel
theorem dX9_lend_42 : decode cX9_lend 42 = .ok (.dup2, 1) := by decide +kernel
theorem dX9_lend_43 : decode cX9_lend 43 = .ok (.iaload, 1) := by decide +kernel
theorem dX9_lend_44 : decode cX9_lend 44 = .ok (.iconst 1, 1) := by decide +kernel
theorem dX9_lend_45 : decode cX9_lend 45 = .ok (.iload_n 2, 1) := by decide +kernel
theorem dX9_lend_46 : decode cX9_lend 46 = .ok (.ishl, 1) := by decide +kernel
theorem dX9_lend_47 : decode cX9_lend 47 = .ok (.ior, 1) := by decide +kernel
theorem dX9_lend_48 : decode cX9_lend 48 = .ok (.iastore, 1) := by decide +kernel
theorem dX9_lend_49 : decode cX9_lend 49 = .ok (.aload_n 0, 1) := by decide +kernel
theorem dX9_lend_50 : decode cX9_lend 50 = .ok (.dup, 1) := by decide +kernel
theorem dX9_lend_51 : decode cX9_lend 51 = .ok (.getfield 65, 3) := by decide +kernel
theorem dX9_lend_54 : decode cX9_lend 54 = .ok (.iconst 1, 1) := by decide +kernel
theorem dX9_lend_55 : decode cX9_lend 55 = .ok (.iadd, 1) := by decide +kernel
theorem dX9_lend_56 : decode cX9_lend 56 = .ok (.putfield 65, 3) := by decide +kernel
theorem dX9_lend_59 : decode cX9_lend 59 = .ok (.return_, 1) := by decide +kernel
theorem dX9_choose_0 : decode cX9_choose 0 = .ok (.iconst 0, 1) := by decide +kernel
theorem dX9_choose_1 : decode cX9_choose 1 = .ok (.istore_n 2, 1) := by decide +kernel
theorem dX9_choose_2 : decode cX9_choose 2 = .ok (.iload_n 2, 1) := by decide +kernel
theorem dX9_choose_3 : decode cX9_choose 3 = .ok (.aload_n 0, 1) := by decide +kernel
theorem dX9_choose_4 : decode cX9_choose 4 = .ok (.getfield 3, 3) := by decide +kernel
theorem dX9_choose_7 : decode cX9_choose 7 = .ok (.getfield 96, 3) := by decide +kernel
theorem dX9_choose_10 : decode cX9_choose 10 = .ok (.if_icmp .ge 77, 3) := by decide +kernel
theorem dX9_choose_13 : decode cX9_choose 13 = .ok (.aload_n 0, 1) := by decide +kernel
theorem dX9_choose_14 : decode cX9_choose 14 = .ok (.getfield 28, 3) := by decide +kernel
theorem dX9_choose_17 : decode cX9_choose 17 = .ok (.iload_n 2, 1) := by decide +kernel
theorem dX9_choose_18 : decode cX9_choose 18 = .ok (.iaload, 1) := by decide +kernel
theorem dX9_choose_19 : decode cX9_choose 19 = .ok (.iconst (-1), 1) := by decide +kernel
theorem dX9_choose_20 : decode cX9_choose 20 = .ok (.if_icmp .ne 61, 3) := by decide +kernel
theorem dX9_choose_23 : decode cX9_choose 23 = .ok (.aload_n 0, 1) := by decide +kernel
theorem dX9_choose_24 : decode cX9_choose 24 = .ok (.getfield 3, 3) := by decide +kernel
theorem dX9_choose_27 : decode cX9_choose 27 = .ok (.getfield 143, 3) := by decide +kernel
theorem dX9_choose_30 : decode cX9_choose 30 = .ok (.iload_n 2, 1) := by decide +kernel
theorem dX9_choose_31 : decode cX9_choose 31 = .ok (.iaload, 1) := by decide +kernel
theorem dX9_choose_32 : decode cX9_choose 32 = .ok (.aload_n 0, 1) := by decide +kernel
theorem dX9_choose_33 : decode cX9_choose 33 = .ok (.getfield 3, 3) := by decide +kernel
theorem dX9_choose_36 : decode cX9_choose 36 = .ok (.getfield 124, 3) := by decide +kernel
theorem dX9_choose_39 : decode cX9_choose 39 = .ok (.iconst 3, 1) := by decide +kernel
theorem dX9_choose_40 : decode cX9_choose 40 = .ok (.iload_n 1, 1) := by decide +kernel
theorem dX9_choose_41 : decode cX9_choose 41 = .ok (.imul, 1) := by decide +kernel
theorem dX9_choose_42 : decode cX9_choose 42 = .ok (.iconst 1, 1) := by decide +kernel
theorem dX9_choose_43 : decode cX9_choose 43 = .ok (.iadd, 1) := by decide +kernel
theorem dX9_choose_44 : decode cX9_choose 44 = .ok (.iaload, 1) := by decide +kernel
theorem dX9_choose_45 : decode cX9_choose 45 = .ok (.if_icmp .ne 36, 3) := by decide +kernel
theorem dX9_choose_48 : decode cX9_choose 48 = .ok (.aload_n 0, 1) := by decide +kernel
theorem dX9_choose_49 : decode cX9_choose 49 = .ok (.getfield 40, 3) := by decide +kernel
theorem dX9_choose_52 : decode cX9_choose 52 = .ok (.iload_n 2, 1) := by decide +kernel
theorem dX9_choose_53 : decode cX9_choose 53 = .ok (.iaload, 1) := by decide +kernel
theorem dX9_choose_54 : decode cX9_choose 54 = .ok (.ifCond .gt 27, 3) := by decide +kernel
theorem dX9_choose_57 : decode cX9_choose 57 = .ok (.aload_n 0, 1) := by decide +kernel
theorem dX9_choose_58 : decode cX9_choose 58 = .ok (.getfield 43, 3) := by decide +kernel
theorem dX9_choose_61 : decode cX9_choose 61 = .ok (.iload_n 1, 1) := by decide +kernel
theorem dX9_choose_62 : decode cX9_choose 62 = .ok (.iaload, 1) := by decide +kernel
theorem dX9_choose_63 : decode cX9_choose 63 = .ok (.iload_n 2, 1) := by decide +kernel
theorem dX9_choose_64 : decode cX9_choose 64 = .ok (.ishr, 1) := by decide +kernel
theorem dX9_choose_65 : decode cX9_choose 65 = .ok (.iconst 1, 1) := by decide +kernel
theorem dX9_choose_66 : decode cX9_choose 66 = .ok (.iand, 1) := by decide +kernel
theorem dX9_choose_67 : decode cX9_choose 67 = .ok (.iconst 1, 1) := by decide +kernel
theorem dX9_choose_68 : decode cX9_choose 68 = .ok (.if_icmp .ne 6, 3) := by decide +kernel
theorem dX9_choose_71 : decode cX9_choose 71 = .ok (.goto 10, 3) := by decide +kernel
theorem dX9_choose_74 : decode cX9_choose 74 = .ok (.aload_n 0, 1) := by decide +kernel
theorem dX9_choose_75 : decode cX9_choose 75 = .ok (.iload_n 1, 1) := by decide +kernel
theorem dX9_choose_76 : decode cX9_choose 76 = .ok (.iload_n 2, 1) := by decide +kernel
theorem dX9_choose_77 : decode cX9_choose 77 = .ok (.invokevirtual 137, 3) := by decide +kernel
theorem dX9_choose_80 : decode cX9_choose 80 = .ok (.return_, 1) := by decide +kernel
theorem dX9_choose_81 : decode cX9_choose 81 = .ok (.iinc 2 1, 3) := by decide +kernel
theorem dX9_choose_84 : decode cX9_choose 84 = .ok (.goto (-82), 3) := by decide +kernel
theorem dX9_choose_87 : decode cX9_choose 87 = .ok (.return_, 1) := by decide +kernel
theorem dX9_owed_0 : decode cX9_owed 0 = .ok (.iconst 0, 1) := by decide +kernel
theorem dX9_owed_1 : decode cX9_owed 1 = .ok (.istore_n 1, 1) := by decide +kernel
theorem dX9_owed_2 : decode cX9_owed 2 = .ok (.iconst 0, 1) := by decide +kernel
theorem dX9_owed_3 : decode cX9_owed 3 = .ok (.istore_n 2, 1) := by decide +kernel
theorem dX9_owed_4 : decode cX9_owed 4 = .ok (.iload_n 2, 1) := by decide +kernel
theorem dX9_owed_5 : decode cX9_owed 5 = .ok (.aload_n 0, 1) := by decide +kernel
theorem dX9_owed_6 : decode cX9_owed 6 = .ok (.getfield 3, 3) := by decide +kernel
theorem dX9_owed_9 : decode cX9_owed 9 = .ok (.getfield 121, 3) := by decide +kernel
theorem dX9_owed_12 : decode cX9_owed 12 = .ok (.if_icmp .ge 18, 3) := by decide +kernel
theorem dX9_owed_15 : decode cX9_owed 15 = .ok (.iload_n 1, 1) := by decide +kernel
theorem dX9_owed_16 : decode cX9_owed 16 = .ok (.aload_n 0, 1) := by decide +kernel
theorem dX9_owed_17 : decode cX9_owed 17 = .ok (.getfield 46, 3) := by decide +kernel
theorem dX9_owed_20 : decode cX9_owed 20 = .ok (.iload_n 2, 1) := by decide +kernel
theorem dX9_owed_21 : decode cX9_owed 21 = .ok (.iaload, 1) := by decide +kernel
theorem dX9_owed_22 : decode cX9_owed 22 = .ok (.iadd, 1) := by decide +kernel
theorem dX9_owed_23 : decode cX9_owed 23 = .ok (.istore_n 1, 1) := by decide +kernel
theorem dX9_owed_24 : decode cX9_owed 24 = .ok (.iinc 2 1, 3) := by decide +kernel
theorem dX9_owed_27 : decode cX9_owed 27 = .ok (.goto (-23), 3) := by decide +kernel
theorem dX9_owed_30 : decode cX9_owed 30 = .ok (.iload_n 1, 1) := by decide +kernel
theorem dX9_owed_31 : decode cX9_owed 31 = .ok (.ireturn, 1) := by decide +kernel
theorem dX9_missedOnes_0 : decode cX9_missedOnes 0 = .ok (.iconst 0, 1) := by decide +kernel
theorem dX9_missedOnes_1 : decode cX9_missedOnes 1 = .ok (.istore_n 1, 1) := by decide +kernel
theorem dX9_missedOnes_2 : decode cX9_missedOnes 2 = .ok (.iconst 0, 1) := by decide +kernel
theorem dX9_missedOnes_3 : decode cX9_missedOnes 3 = .ok (.istore_n 2, 1) := by decide +kernel
theorem dX9_missedOnes_4 : decode cX9_missedOnes 4 = .ok (.iload_n 2, 1) := by decide +kernel
theorem dX9_missedOnes_5 : decode cX9_missedOnes 5 = .ok (.aload_n 0, 1) := by decide +kernel
theorem dX9_missedOnes_6 : decode cX9_missedOnes 6 = .ok (.getfield 3, 3) := by decide +kernel
theorem dX9_missedOnes_9 : decode cX9_missedOnes 9 = .ok (.getfield 93, 3) := by decide +kernel
theorem dX9_missedOnes_12 : decode cX9_missedOnes 12 = .ok (.if_icmp .ge 18, 3) := by decide +kernel
theorem dX9_missedOnes_15 : decode cX9_missedOnes 15 = .ok (.iload_n 1, 1) := by decide +kernel
theorem dX9_missedOnes_16 : decode cX9_missedOnes 16 = .ok (.aload_n 0, 1) := by decide +kernel
theorem dX9_missedOnes_17 : decode cX9_missedOnes 17 = .ok (.getfield 25, 3) := by decide +kernel
theorem dX9_missedOnes_20 : decode cX9_missedOnes 20 = .ok (.iload_n 2, 1) := by decide +kernel
theorem dX9_missedOnes_21 : decode cX9_missedOnes 21 = .ok (.iaload, 1) := by decide +kernel
theorem dX9_missedOnes_22 : decode cX9_missedOnes 22 = .ok (.iadd, 1) := by decide +kernel
theorem dX9_missedOnes_23 : decode cX9_missedOnes 23 = .ok (.istore_n 1, 1) := by decide +kernel
theorem dX9_missedOnes_24 : decode cX9_missedOnes 24 = .ok (.iinc 2 1, 3) := by decide +kernel
theorem dX9_missedOnes_27 : decode cX9_missedOnes 27 = .ok (.goto (-23), 3) := by decide +kernel
theorem dX9_missedOnes_30 : decode cX9_missedOnes 30 = .ok (.iload_n 1, 1) := by decide +kernel
theorem dX9_missedOnes_31 : decode cX9_missedOnes 31 = .ok (.ireturn, 1) := by decide +kernel
end
section
theorem dX10_init_0 : decode cX10_init 0 = .ok (.aload_n 0, 1) := by decide +kernel
theorem dX10_init_1 : decode cX10_init 1 = .ok (.invokespecial 1, 3) := by decide +kernel
theorem dX10_init_4 : decode cX10_init 4 = .ok (.aload_n 0, 1) := by decide +kernel
theorem dX10_init_5 : decode cX10_init 5 = .ok (.bipush 64, 2) := by decide +kernel
theorem dX10_init_7 : decode cX10_init 7 = .ok (.newarray .int, 2) := by decide +kernel
theorem dX10_init_9 : decode cX10_init 9 = .ok (.putfield 9, 3) := by decide +kernel
theorem dX10_init_12 : decode cX10_init 12 = .ok (.aload_n 0, 1) := by decide +kernel
theorem dX10_init_13 : decode cX10_init 13 = .ok (.bipush 7, 2) := by decide +kernel
theorem dX10_init_15 : decode cX10_init 15 = .ok (.newarray .int, 2) := by decide +kernel
theorem dX10_init_17 : decode cX10_init 17 = .ok (.putfield 13, 3) := by decide +kernel
theorem dX10_init_20 : decode cX10_init 20 = .ok (.aload_n 0, 1) := by decide +kernel
theorem dX10_init_21 : decode cX10_init 21 = .ok (.bipush 120, 2) := by decide +kernel
theorem dX10_init_23 : decode cX10_init 23 = .ok (.putfield 16, 3) := by decide +kernel
theorem dX10_init_26 : decode cX10_init 26 = .ok (.aload_n 0, 1) := by decide +kernel
theorem dX10_init_27 : decode cX10_init 27 = .ok (.bipush 24, 2) := by decide +kernel
theorem dX10_init_29 : decode cX10_init 29 = .ok (.newarray .int, 2) := by decide +kernel
theorem dX10_init_31 : decode cX10_init 31 = .ok (.putfield 20, 3) := by decide +kernel
theorem dX10_init_34 : decode cX10_init 34 = .ok (.aload_n 0, 1) := by decide +kernel
theorem dX10_init_35 : decode cX10_init 35 = .ok (.bipush 30, 2) := by decide +kernel
theorem dX10_init_37 : decode cX10_init 37 = .ok (.newarray .int, 2) := by decide +kernel
theorem dX10_init_39 : decode cX10_init 39 = .ok (.putfield 23, 3) := by decide +kernel
theorem dX10_init_42 : decode cX10_init 42 = .ok (.aload_n 0, 1) := by decide +kernel
theorem dX10_init_43 : decode cX10_init 43 = .ok (.bipush 64, 2) := by decide +kernel
theorem dX10_init_45 : decode cX10_init 45 = .ok (.newarray .int, 2) := by decide +kernel
theorem dX10_init_47 : decode cX10_init 47 = .ok (.putfield 26, 3) := by decide +kernel
theorem dX10_init_50 : decode cX10_init 50 = .ok (.aload_n 0, 1) := by decide +kernel
theorem dX10_init_51 : decode cX10_init 51 = .ok (.new 29, 3) := by decide +kernel
theorem dX10_init_54 : decode cX10_init 54 = .ok (.dup, 1) := by decide +kernel
theorem dX10_init_55 : decode cX10_init 55 = .ok (.aload_n 0, 1) := by decide +kernel
theorem dX10_init_56 : decode cX10_init 56 = .ok (.invokespecial 31, 3) := by decide +kernel
theorem dX10_init_59 : decode cX10_init 59 = .ok (.putfield 34, 3) := by decide +kernel
theorem dX10_init_62 : decode cX10_init 62 = .ok (.aload_n 0, 1) := by decide +kernel
theorem dX10_init_63 : decode cX10_init 63 = .ok (.new 29, 3) := by decide +kernel
theorem dX10_init_66 : decode cX10_init 66 = .ok (.dup, 1) := by decide +kernel
theorem dX10_init_67 : decode cX10_init 67 = .ok (.aload_n 0, 1) := by decide +kernel
theorem dX10_init_68 : decode cX10_init 68 = .ok (.invokespecial 31, 3) := by decide +kernel
theorem dX10_init_71 : decode cX10_init 71 = .ok (.putfield 38, 3) := by decide +kernel
theorem dX10_init_74 : decode cX10_init 74 = .ok (.return_, 1) := by decide +kernel
theorem dX10_thrown_0 : decode cX10_thrown 0 = .ok (.aload_n 0, 1) := by decide +kernel
theorem dX10_thrown_1 : decode cX10_thrown 1 = .ok (.getfield 41, 3) := by decide +kernel
theorem dX10_thrown_4 : decode cX10_thrown 4 = .ok (.ireturn, 1) := by decide +kernel
theorem dX10_no_0 : decode cX10_no 0 = .ok (.aload_n 0, 1) := by decide +kernel
theorem dX10_no_1 : decode cX10_no 1 = .ok (.iload_n 1, 1) := by decide +kernel
theorem dX10_no_2 : decode cX10_no 2 = .ok (.putfield 41, 3) := by decide +kernel
theorem dX10_no_5 : decode cX10_no 5 = .ok (.iconst 0, 1) := by decide +kernel
theorem dX10_no_6 : decode cX10_no 6 = .ok (.ireturn, 1) := by decide +kernel
theorem dX10_isIn_0 : decode cX10_isIn 0 = .ok (.iload_n 0, 1) := by decide +kernel
theorem dX10_isIn_1 : decode cX10_isIn 1 = .ok (.iload_n 1, 1) := by decide +kernel
theorem dX10_isIn_2 : decode cX10_isIn 2 = .ok (.if_icmp .lt 12, 3) := by decide +kernel
theorem dX10_isIn_5 : decode cX10_isIn 5 = .ok (.iload_n 0, 1) := by decide +kernel
theorem dX10_isIn_6 : decode cX10_isIn 6 = .ok (.iload_n 2, 1) := by decide +kernel
theorem dX10_isIn_7 : decode cX10_isIn 7 = .ok (.if_icmp .gt 7, 3) := by decide +kernel
theorem dX10_isIn_10 : decode cX10_isIn 10 = .ok (.iconst 1, 1) := by decide +kernel
theorem dX10_isIn_11 : decode cX10_isIn 11 = .ok (.goto 4, 3) := by decide +kernel
theorem dX10_isIn_14 : decode cX10_isIn 14 = .ok (.iconst 0, 1) := by decide +kernel
theorem dX10_isIn_15 : decode cX10_isIn 15 = .ok (.ireturn, 1) := by decide +kernel
theorem dX10_isHalt_0 : decode cX10_isHalt 0 = .ok (.iload_n 1, 1) := by decide +kernel
theorem dX10_isHalt_1 : decode cX10_isHalt 1 = .ok (.iconst 0, 1) := by decide +kernel
theorem dX10_isHalt_2 : decode cX10_isHalt 2 = .ok (.aload_n 0, 1) := by decide +kernel
theorem dX10_isHalt_3 : decode cX10_isHalt 3 = .ok (.getfield 44, 3) := by decide +kernel
theorem dX10_isHalt_6 : decode cX10_isHalt 6 = .ok (.iconst 1, 1) := by decide +kernel
theorem dX10_isHalt_7 : decode cX10_isHalt 7 = .ok (.isub, 1) := by decide +kernel
theorem dX10_isHalt_8 : decode cX10_isHalt 8 = .ok (.invokestatic 47, 3) := by decide +kernel
theorem dX10_isHalt_11 : decode cX10_isHalt 11 = .ok (.ireturn, 1) := by decide +kernel
theorem dX10_isReader_0 : decode cX10_isReader 0 = .ok (.iload_n 1, 1) := by decide +kernel
theorem dX10_isReader_1 : decode cX10_isReader 1 = .ok (.iconst 0, 1) := by decide +kernel
theorem dX10_isReader_2 : decode cX10_isReader 2 = .ok (.aload_n 0, 1) := by decide +kernel
theorem dX10_isReader_3 : decode cX10_isReader 3 = .ok (.getfield 51, 3) := by decide +kernel
theorem dX10_isReader_6 : decode cX10_isReader 6 = .ok (.iconst 1, 1) := by decide +kernel
theorem dX10_isReader_7 : decode cX10_isReader 7 = .ok (.isub, 1) := by decide +kernel
theorem dX10_isReader_8 : decode cX10_isReader 8 = .ok (.invokestatic 47, 3) := by decide +kernel
theorem dX10_isReader_11 : decode cX10_isReader 11 = .ok (.ireturn, 1) := by decide +kernel
theorem dX10_isBook_0 : decode cX10_isBook 0 = .ok (.iload_n 1, 1) := by decide +kernel
theorem dX10_isBook_1 : decode cX10_isBook 1 = .ok (.iconst 0, 1) := by decide +kernel
theorem dX10_isBook_2 : decode cX10_isBook 2 = .ok (.aload_n 0, 1) := by decide +kernel
theorem dX10_isBook_3 : decode cX10_isBook 3 = .ok (.getfield 54, 3) := by decide +kernel
theorem dX10_isBook_6 : decode cX10_isBook 6 = .ok (.iconst 1, 1) := by decide +kernel
theorem dX10_isBook_7 : decode cX10_isBook 7 = .ok (.isub, 1) := by decide +kernel
theorem dX10_isBook_8 : decode cX10_isBook 8 = .ok (.invokestatic 47, 3) := by decide +kernel
theorem dX10_isBook_11 : decode cX10_isBook 11 = .ok (.ireturn, 1) := by decide +kernel
theorem dX10_addHalt_0 : decode cX10_addHalt 0 = .ok (.aload_n 0, 1) := by decide +kernel
theorem dX10_addHalt_1 : decode cX10_addHalt 1 = .ok (.iconst 0, 1) := by decide +kernel
theorem dX10_addHalt_2 : decode cX10_addHalt 2 = .ok (.putfield 41, 3) := by decide +kernel
theorem dX10_addHalt_5 : decode cX10_addHalt 5 = .ok (.aload_n 0, 1) := by decide +kernel
theorem dX10_addHalt_6 : decode cX10_addHalt 6 = .ok (.getfield 44, 3) := by decide +kernel
theorem dX10_addHalt_9 : decode cX10_addHalt 9 = .ok (.bipush 8, 2) := by decide +kernel
theorem dX10_addHalt_11 : decode cX10_addHalt 11 = .ok (.if_icmp .ne 9, 3) := by decide +kernel
theorem dX10_addHalt_14 : decode cX10_addHalt 14 = .ok (.aload_n 0, 1) := by decide +kernel
theorem dX10_addHalt_15 : decode cX10_addHalt 15 = .ok (.iconst 1, 1) := by decide +kernel
theorem dX10_addHalt_16 : decode cX10_addHalt 16 = .ok (.invokevirtual 57, 3) := by decide +kernel
theorem dX10_addHalt_19 : decode cX10_addHalt 19 = .ok (.ireturn, 1) := by decide +kernel
theorem dX10_addHalt_20 : decode cX10_addHalt 20 = .ok (.aload_n 0, 1) := by decide +kernel
theorem dX10_addHalt_21 : decode cX10_addHalt 21 = .ok (.dup, 1) := by decide +kernel
theorem dX10_addHalt_22 : decode cX10_addHalt 22 = .ok (.getfield 44, 3) := by decide +kernel
theorem dX10_addHalt_25 : decode cX10_addHalt 25 = .ok (.iconst 1, 1) := by decide +kernel
theorem dX10_addHalt_26 : decode cX10_addHalt 26 = .ok (.iadd, 1) := by decide +kernel
theorem dX10_addHalt_27 : decode cX10_addHalt 27 = .ok (.putfield 44, 3) := by decide +kernel
theorem dX10_addHalt_30 : decode cX10_addHalt 30 = .ok (.aload_n 0, 1) := by decide +kernel
theorem dX10_addHalt_31 : decode cX10_addHalt 31 = .ok (.getfield 44, 3) := by decide +kernel
theorem dX10_addHalt_34 : decode cX10_addHalt 34 = .ok (.iconst 1, 1) := by decide +kernel
theorem dX10_addHalt_35 : decode cX10_addHalt 35 = .ok (.isub, 1) := by decide +kernel
theorem dX10_addHalt_36 : decode cX10_addHalt 36 = .ok (.ireturn, 1) := by decide +kernel
theorem dX10_addLane_0 : decode cX10_addLane 0 = .ok (.aload_n 0, 1) := by decide +kernel
theorem dX10_addLane_1 : decode cX10_addLane 1 = .ok (.iconst 0, 1) := by decide +kernel
theorem dX10_addLane_2 : decode cX10_addLane 2 = .ok (.putfield 41, 3) := by decide +kernel
theorem dX10_addLane_5 : decode cX10_addLane 5 = .ok (.aload_n 0, 1) := by decide +kernel
theorem dX10_addLane_6 : decode cX10_addLane 6 = .ok (.iload_n 1, 1) := by decide +kernel
theorem dX10_addLane_7 : decode cX10_addLane 7 = .ok (.invokevirtual 61, 3) := by decide +kernel
theorem dX10_addLane_10 : decode cX10_addLane 10 = .ok (.ifCond .eq 11, 3) := by decide +kernel
theorem dX10_addLane_13 : decode cX10_addLane 13 = .ok (.aload_n 0, 1) := by decide +kernel
theorem dX10_addLane_14 : decode cX10_addLane 14 = .ok (.iload_n 2, 1) := by decide +kernel
theorem dX10_addLane_15 : decode cX10_addLane 15 = .ok (.invokevirtual 61, 3) := by decide +kernel
theorem dX10_addLane_18 : decode cX10_addLane 18 = .ok (.ifCond .ne 9, 3) := by decide +kernel
theorem dX10_addLane_21 : decode cX10_addLane 21 = .ok (.aload_n 0, 1) := by decide +kernel
theorem dX10_addLane_22 : decode cX10_addLane 22 = .ok (.iconst 1, 1) := by decide +kernel
theorem dX10_addLane_23 : decode cX10_addLane 23 = .ok (.invokevirtual 57, 3) := by decide +kernel
theorem dX10_addLane_26 : decode cX10_addLane 26 = .ok (.ireturn, 1) := by decide +kernel
theorem dX10_addLane_27 : decode cX10_addLane 27 = .ok (.iload_n 1, 1) := by decide +kernel
theorem dX10_addLane_28 : decode cX10_addLane 28 = .ok (.iload_n 2, 1) := by decide +kernel
theorem dX10_addLane_29 : decode cX10_addLane 29 = .ok (.if_icmp .eq 24, 3) := by decide +kernel
theorem dX10_addLane_32 : decode cX10_addLane 32 = .ok (.iload_n 3, 1) := by decide +kernel
theorem dX10_addLane_33 : decode cX10_addLane 33 = .ok (.iconst 1, 1) := by decide +kernel
theorem dX10_addLane_34 : decode cX10_addLane 34 = .ok (.bipush 30, 2) := by decide +kernel
theorem dX10_addLane_36 : decode cX10_addLane 36 = .ok (.invokestatic 47, 3) := by decide +kernel
theorem dX10_addLane_39 : decode cX10_addLane 39 = .ok (.ifCond .eq 14, 3) := by decide +kernel
theorem dX10_addLane_42 : decode cX10_addLane 42 = .ok (.iload 4, 2) := by decide +kernel
theorem dX10_addLane_44 : decode cX10_addLane 44 = .ok (.iconst 0, 1) := by decide +kernel
theorem dX10_addLane_45 : decode cX10_addLane 45 = .ok (.bipush 9, 2) := by decide +kernel
theorem dX10_addLane_47 : decode cX10_addLane 47 = .ok (.invokestatic 47, 3) := by decide +kernel
theorem dX10_addLane_50 : decode cX10_addLane 50 = .ok (.ifCond .ne 9, 3) := by decide +kernel
theorem dX10_addLane_53 : decode cX10_addLane 53 = .ok (.aload_n 0, 1) := by decide +kernel
theorem dX10_addLane_54 : decode cX10_addLane 54 = .ok (.iconst 2, 1) := by decide +kernel
theorem dX10_addLane_55 : decode cX10_addLane 55 = .ok (.invokevirtual 57, 3) := by decide +kernel
theorem dX10_addLane_58 : decode cX10_addLane 58 = .ok (.ireturn, 1) := by decide +kernel
theorem dX10_addLane_59 : decode cX10_addLane 59 = .ok (.aload_n 0, 1) := by decide +kernel
theorem dX10_addLane_60 : decode cX10_addLane 60 = .ok (.getfield 65, 3) := by decide +kernel
theorem dX10_addLane_63 : decode cX10_addLane 63 = .ok (.bipush 16, 2) := by decide +kernel
theorem dX10_addLane_65 : decode cX10_addLane 65 = .ok (.if_icmp .ne 9, 3) := by decide +kernel
theorem dX10_addLane_68 : decode cX10_addLane 68 = .ok (.aload_n 0, 1) := by decide +kernel
theorem dX10_addLane_69 : decode cX10_addLane 69 = .ok (.iconst 3, 1) := by decide +kernel
theorem dX10_addLane_70 : decode cX10_addLane 70 = .ok (.invokevirtual 57, 3) := by decide +kernel
theorem dX10_addLane_73 : decode cX10_addLane 73 = .ok (.ireturn, 1) := by decide +kernel
theorem dX10_addLane_74 : decode cX10_addLane 74 = .ok (.iconst 4, 1) := by decide +kernel
theorem dX10_addLane_75 : decode cX10_addLane 75 = .ok (.newarray .int, 2) := by decide +kernel
theorem dX10_addLane_77 : decode cX10_addLane 77 = .ok (.dup, 1) := by decide +kernel
theorem dX10_addLane_78 : decode cX10_addLane 78 = .ok (.iconst 0, 1) := by decide +kernel
theorem dX10_addLane_79 : decode cX10_addLane 79 = .ok (.iload_n 1, 1) := by decide +kernel
theorem dX10_addLane_80 : decode cX10_addLane 80 = .ok (.iastore, 1) := by decide +kernel
theorem dX10_addLane_81 : decode cX10_addLane 81 = .ok (.dup, 1) := by decide +kernel
theorem dX10_addLane_82 : decode cX10_addLane 82 = .ok (.iconst 1, 1) := by decide +kernel
theorem dX10_addLane_83 : decode cX10_addLane 83 = .ok (.iload_n 2, 1) := by decide +kernel
theorem dX10_addLane_84 : decode cX10_addLane 84 = .ok (.iastore, 1) := by decide +kernel
theorem dX10_addLane_85 : decode cX10_addLane 85 = .ok (.dup, 1) := by decide +kernel
theorem dX10_addLane_86 : decode cX10_addLane 86 = .ok (.iconst 2, 1) := by decide +kernel
theorem dX10_addLane_87 : decode cX10_addLane 87 = .ok (.iload_n 3, 1) := by decide +kernel
theorem dX10_addLane_88 : decode cX10_addLane 88 = .ok (.iastore, 1) := by decide +kernel
theorem dX10_addLane_89 : decode cX10_addLane 89 = .ok (.dup, 1) := by decide +kernel
theorem dX10_addLane_90 : decode cX10_addLane 90 = .ok (.iconst 3, 1) := by decide +kernel
theorem dX10_addLane_91 : decode cX10_addLane 91 = .ok (.iload 4, 2) := by decide +kernel
theorem dX10_addLane_93 : decode cX10_addLane 93 = .ok (.iastore, 1) := by decide +kernel
theorem dX10_addLane_94 : decode cX10_addLane 94 = .ok (.astore 5, 2) := by decide +kernel
theorem dX10_addLane_96 : decode cX10_addLane 96 = .ok (.aload 5, 2) := by decide +kernel
theorem dX10_addLane_98 : decode cX10_addLane 98 = .ok (.iconst 0, 1) := by decide +kernel
theorem dX10_addLane_99 : decode cX10_addLane 99 = .ok (.aload_n 0, 1) := by decide +kernel
theorem dX10_addLane_100 : decode cX10_addLane 100 = .ok (.getfield 9, 3) := by decide +kernel
theorem dX10_addLane_103 : decode cX10_addLane 103 = .ok (.iconst 4, 1) := by decide +kernel
theorem dX10_addLane_104 : decode cX10_addLane 104 = .ok (.aload_n 0, 1) := by decide +kernel
theorem dX10_addLane_105 : decode cX10_addLane 105 = .ok (.getfield 65, 3) := by decide +kernel
theorem dX10_addLane_108 : decode cX10_addLane 108 = .ok (.imul, 1) := by decide +kernel
theorem dX10_addLane_109 : decode cX10_addLane 109 = .ok (.iconst 4, 1) := by decide +kernel
theorem dX10_addLane_110 : decode cX10_addLane 110 = .ok (.invokestatic 68, 3) := by decide +kernel
theorem dX10_addLane_113 : decode cX10_addLane 113 = .ok (.aload_n 0, 1) := by decide +kernel
theorem dX10_addLane_114 : decode cX10_addLane 114 = .ok (.dup, 1) := by decide +kernel
theorem dX10_addLane_115 : decode cX10_addLane 115 = .ok (.getfield 65, 3) := by decide +kernel
theorem dX10_addLane_118 : decode cX10_addLane 118 = .ok (.iconst 1, 1) := by decide +kernel
theorem dX10_addLane_119 : decode cX10_addLane 119 = .ok (.iadd, 1) := by decide +kernel
theorem dX10_addLane_120 : decode cX10_addLane 120 = .ok (.putfield 65, 3) := by decide +kernel
theorem dX10_addLane_123 : decode cX10_addLane 123 = .ok (.aload_n 0, 1) := by decide +kernel
theorem dX10_addLane_124 : decode cX10_addLane 124 = .ok (.getfield 65, 3) := by decide +kernel
theorem dX10_addLane_127 : decode cX10_addLane 127 = .ok (.iconst 1, 1) := by decide +kernel
theorem dX10_addLane_128 : decode cX10_addLane 128 = .ok (.isub, 1) := by decide +kernel
theorem dX10_addLane_129 : decode cX10_addLane 129 = .ok (.ireturn, 1) := by decide +kernel
theorem dX10_setRain_0 : decode cX10_setRain 0 = .ok (.aload_n 0, 1) := by decide +kernel
theorem dX10_setRain_1 : decode cX10_setRain 1 = .ok (.iconst 0, 1) := by decide +kernel
theorem dX10_setRain_2 : decode cX10_setRain 2 = .ok (.putfield 41, 3) := by decide +kernel
theorem dX10_setRain_5 : decode cX10_setRain 5 = .ok (.iload_n 1, 1) := by decide +kernel
theorem dX10_setRain_6 : decode cX10_setRain 6 = .ok (.iconst 0, 1) := by decide +kernel
theorem dX10_setRain_7 : decode cX10_setRain 7 = .ok (.bipush 6, 2) := by decide +kernel
theorem dX10_setRain_9 : decode cX10_setRain 9 = .ok (.invokestatic 47, 3) := by decide +kernel
theorem dX10_setRain_12 : decode cX10_setRain 12 = .ok (.ifCond .ne 9, 3) := by decide +kernel
theorem dX10_setRain_15 : decode cX10_setRain 15 = .ok (.aload_n 0, 1) := by decide +kernel
theorem dX10_setRain_16 : decode cX10_setRain 16 = .ok (.iconst 1, 1) := by decide +kernel
theorem dX10_setRain_17 : decode cX10_setRain 17 = .ok (.invokevirtual 57, 3) := by decide +kernel
theorem dX10_setRain_20 : decode cX10_setRain 20 = .ok (.ireturn, 1) := by decide +kernel
theorem dX10_setRain_21 : decode cX10_setRain 21 = .ok (.iload_n 2, 1) := by decide +kernel
theorem dX10_setRain_22 : decode cX10_setRain 22 = .ok (.iconst 0, 1) := by decide +kernel
theorem dX10_setRain_23 : decode cX10_setRain 23 = .ok (.bipush 9, 2) := by decide +kernel
theorem dX10_setRain_25 : decode cX10_setRain 25 = .ok (.invokestatic 47, 3) := by decide +kernel
theorem dX10_setRain_28 : decode cX10_setRain 28 = .ok (.ifCond .ne 9, 3) := by decide +kernel
theorem dX10_setRain_31 : decode cX10_setRain 31 = .ok (.aload_n 0, 1) := by decide +kernel
theorem dX10_setRain_32 : decode cX10_setRain 32 = .ok (.iconst 2, 1) := by decide +kernel
theorem dX10_setRain_33 : decode cX10_setRain 33 = .ok (.invokevirtual 57, 3) := by decide +kernel
theorem dX10_setRain_36 : decode cX10_setRain 36 = .ok (.ireturn, 1) := by decide +kernel
theorem dX10_setRain_37 : decode cX10_setRain 37 = .ok (.aload_n 0, 1) := by decide +kernel
theorem dX10_setRain_38 : decode cX10_setRain 38 = .ok (.getfield 13, 3) := by decide +kernel
theorem dX10_setRain_41 : decode cX10_setRain 41 = .ok (.iload_n 1, 1) := by decide +kernel
theorem dX10_setRain_42 : decode cX10_setRain 42 = .ok (.iaload, 1) := by decide +kernel
theorem dX10_setRain_43 : decode cX10_setRain 43 = .ok (.istore_n 3, 1) := by decide +kernel
theorem dX10_setRain_44 : decode cX10_setRain 44 = .ok (.aload_n 0, 1) := by decide +kernel
theorem dX10_setRain_45 : decode cX10_setRain 45 = .ok (.getfield 13, 3) := by decide +kernel
theorem dX10_setRain_48 : decode cX10_setRain 48 = .ok (.iload_n 1, 1) := by decide +kernel
theorem dX10_setRain_49 : decode cX10_setRain 49 = .ok (.iload_n 2, 1) := by decide +kernel
theorem dX10_setRain_50 : decode cX10_setRain 50 = .ok (.iastore, 1) := by decide +kernel
theorem dX10_setRain_51 : decode cX10_setRain 51 = .ok (.iload_n 3, 1) := by decide +kernel
theorem dX10_setRain_52 : decode cX10_setRain 52 = .ok (.ireturn, 1) := by decide +kernel
theorem dX10_setRound_0 : decode cX10_setRound 0 = .ok (.aload_n 0, 1) := by decide +kernel
theorem dX10_setRound_1 : decode cX10_setRound 1 = .ok (.iconst 0, 1) := by decide +kernel
theorem dX10_setRound_2 : decode cX10_setRound 2 = .ok (.putfield 41, 3) := by decide +kernel
theorem dX10_setRound_5 : decode cX10_setRound 5 = .ok (.iload_n 1, 1) := by decide +kernel
theorem dX10_setRound_6 : decode cX10_setRound 6 = .ok (.ifCond .lt 25, 3) := by decide +kernel
theorem dX10_setRound_9 : decode cX10_setRound 9 = .ok (.iload_n 1, 1) := by decide +kernel
theorem dX10_setRound_10 : decode cX10_setRound 10 = .ok (.ldc 74, 2) := by decide +kernel
theorem dX10_setRound_12 : decode cX10_setRound 12 = .ok (.if_icmp .ge 19, 3) := by decide +kernel
theorem dX10_setRound_15 : decode cX10_setRound 15 = .ok (.iload_n 2, 1) := by decide +kernel
theorem dX10_setRound_16 : decode cX10_setRound 16 = .ok (.bipush 10, 2) := by decide +kernel
theorem dX10_setRound_18 : decode cX10_setRound 18 = .ok (.sipush 300, 3) := by decide +kernel
theorem dX10_setRound_21 : decode cX10_setRound 21 = .ok (.invokestatic 47, 3) := by decide +kernel
theorem dX10_setRound_24 : decode cX10_setRound 24 = .ok (.ifCond .eq 7, 3) := by decide +kernel
theorem dX10_setRound_27 : decode cX10_setRound 27 = .ok (.iconst 1, 1) := by decide +kernel
theorem dX10_setRound_28 : decode cX10_setRound 28 = .ok (.goto 4, 3) := by decide +kernel
theorem dX10_setRound_31 : decode cX10_setRound 31 = .ok (.iconst 0, 1) := by decide +kernel
theorem dX10_setRound_32 : decode cX10_setRound 32 = .ok (.istore_n 3, 1) := by decide +kernel
theorem dX10_setRound_33 : decode cX10_setRound 33 = .ok (.iconst 0, 1) := by decide +kernel
theorem dX10_setRound_34 : decode cX10_setRound 34 = .ok (.istore 4, 2) := by decide +kernel
theorem dX10_setRound_36 : decode cX10_setRound 36 = .ok (.iload_n 1, 1) := by decide +kernel
theorem dX10_setRound_37 : decode cX10_setRound 37 = .ok (.istore 5, 2) := by decide +kernel
theorem dX10_setRound_39 : decode cX10_setRound 39 = .ok (.iload 5, 2) := by decide +kernel
theorem dX10_setRound_41 : decode cX10_setRound 41 = .ok (.ifCond .le 32, 3) := by decide +kernel
theorem dX10_setRound_44 : decode cX10_setRound 44 = .ok (.iload_n 3, 1) := by decide +kernel
theorem dX10_setRound_45 : decode cX10_setRound 45 = .ok (.ifCond .eq 28, 3) := by decide +kernel
theorem dX10_setRound_48 : decode cX10_setRound 48 = .ok (.aload_n 0, 1) := by decide +kernel
theorem dX10_setRound_49 : decode cX10_setRound 49 = .ok (.iload 5, 2) := by decide +kernel
theorem dX10_setRound_51 : decode cX10_setRound 51 = .ok (.bipush 10, 2) := by decide +kernel
theorem dX10_setRound_53 : decode cX10_setRound 53 = .ok (.irem, 1) := by decide +kernel
theorem dX10_setRound_54 : decode cX10_setRound 54 = .ok (.iconst 1, 1) := by decide +kernel
theorem dX10_setRound_55 : decode cX10_setRound 55 = .ok (.isub, 1) := by decide +kernel
theorem dX10_setRound_56 : decode cX10_setRound 56 = .ok (.invokevirtual 61, 3) := by decide +kernel
theorem dX10_setRound_59 : decode cX10_setRound 59 = .ok (.istore_n 3, 1) := by decide +kernel
theorem dX10_setRound_60 : decode cX10_setRound 60 = .ok (.iinc 4 1, 3) := by decide +kernel
theorem dX10_setRound_63 : decode cX10_setRound 63 = .ok (.iload 5, 2) := by decide +kernel
theorem dX10_setRound_65 : decode cX10_setRound 65 = .ok (.bipush 10, 2) := by decide +kernel
theorem dX10_setRound_67 : decode cX10_setRound 67 = .ok (.idiv, 1) := by decide +kernel
theorem dX10_setRound_68 : decode cX10_setRound 68 = .ok (.istore 5, 2) := by decide +kernel
theorem dX10_setRound_70 : decode cX10_setRound 70 = .ok (.goto (-31), 3) := by decide +kernel
theorem dX10_setRound_73 : decode cX10_setRound 73 = .ok (.iload_n 3, 1) := by decide +kernel
theorem dX10_setRound_74 : decode cX10_setRound 74 = .ok (.ifCond .ne 9, 3) := by decide +kernel
theorem dX10_setRound_77 : decode cX10_setRound 77 = .ok (.aload_n 0, 1) := by decide +kernel
theorem dX10_setRound_78 : decode cX10_setRound 78 = .ok (.iconst 1, 1) := by decide +kernel
theorem dX10_setRound_79 : decode cX10_setRound 79 = .ok (.invokevirtual 57, 3) := by decide +kernel
theorem dX10_setRound_82 : decode cX10_setRound 82 = .ok (.ireturn, 1) := by decide +kernel
theorem dX10_setRound_83 : decode cX10_setRound 83 = .ok (.aload_n 0, 1) := by decide +kernel
theorem dX10_setRound_84 : decode cX10_setRound 84 = .ok (.getfield 34, 3) := by decide +kernel
theorem dX10_setRound_87 : decode cX10_setRound 87 = .ok (.iload 4, 2) := by decide +kernel
theorem dX10_setRound_89 : decode cX10_setRound 89 = .ok (.putfield 75, 3) := by decide +kernel
theorem dX10_setRound_92 : decode cX10_setRound 92 = .ok (.iload_n 1, 1) := by decide +kernel
theorem dX10_setRound_93 : decode cX10_setRound 93 = .ok (.istore 5, 2) := by decide +kernel
theorem dX10_setRound_95 : decode cX10_setRound 95 = .ok (.iload 5, 2) := by decide +kernel
theorem dX10_setRound_97 : decode cX10_setRound 97 = .ok (.ifCond .le 33, 3) := by decide +kernel
theorem dX10_setRound_100 : decode cX10_setRound 100 = .ok (.iinc 4 (-1), 3) := by decide +kernel
theorem dX10_setRound_103 : decode cX10_setRound 103 = .ok (.aload_n 0, 1) := by decide +kernel
theorem dX10_setRound_104 : decode cX10_setRound 104 = .ok (.getfield 34, 3) := by decide +kernel
theorem dX10_setRound_107 : decode cX10_setRound 107 = .ok (.getfield 78, 3) := by decide +kernel
theorem dX10_setRound_110 : decode cX10_setRound 110 = .ok (.iload 4, 2) := by decide +kernel
theorem dX10_setRound_112 : decode cX10_setRound 112 = .ok (.iload 5, 2) := by decide +kernel
theorem dX10_setRound_114 : decode cX10_setRound 114 = .ok (.bipush 10, 2) := by decide +kernel
theorem dX10_setRound_116 : decode cX10_setRound 116 = .ok (.irem, 1) := by decide +kernel
theorem dX10_setRound_117 : decode cX10_setRound 117 = .ok (.iconst 1, 1) := by decide +kernel
theorem dX10_setRound_118 : decode cX10_setRound 118 = .ok (.isub, 1) := by decide +kernel
theorem dX10_setRound_119 : decode cX10_setRound 119 = .ok (.iastore, 1) := by decide +kernel
theorem dX10_setRound_120 : decode cX10_setRound 120 = .ok (.iload 5, 2) := by decide +kernel
theorem dX10_setRound_122 : decode cX10_setRound 122 = .ok (.bipush 10, 2) := by decide +kernel
theorem dX10_setRound_124 : decode cX10_setRound 124 = .ok (.idiv, 1) := by decide +kernel
theorem dX10_setRound_125 : decode cX10_setRound 125 = .ok (.istore 5, 2) := by decide +kernel
theorem dX10_setRound_127 : decode cX10_setRound 127 = .ok (.goto (-32), 3) := by decide +kernel
theorem dX10_setRound_130 : decode cX10_setRound 130 = .ok (.aload_n 0, 1) := by decide +kernel
theorem dX10_setRound_131 : decode cX10_setRound 131 = .ok (.iload_n 2, 1) := by decide +kernel
theorem dX10_setRound_132 : decode cX10_setRound 132 = .ok (.putfield 16, 3) := by decide +kernel
theorem dX10_setRound_135 : decode cX10_setRound 135 = .ok (.aload_n 0, 1) := by decide +kernel
theorem dX10_setRound_136 : decode cX10_setRound 136 = .ok (.getfield 34, 3) := by decide +kernel
theorem dX10_setRound_139 : decode cX10_setRound 139 = .ok (.getfield 75, 3) := by decide +kernel
theorem dX10_setRound_142 : decode cX10_setRound 142 = .ok (.ireturn, 1) := by decide +kernel
theorem dX10_haltTold_0 : decode cX10_haltTold 0 = .ok (.iconst 0, 1) := by decide +kernel
theorem dX10_haltTold_1 : decode cX10_haltTold 1 = .ok (.istore_n 3, 1) := by decide +kernel
theorem dX10_haltTold_2 : decode cX10_haltTold 2 = .ok (.iconst 0, 1) := by decide +kernel
theorem dX10_haltTold_3 : decode cX10_haltTold 3 = .ok (.istore 4, 2) := by decide +kernel
theorem dX10_haltTold_5 : decode cX10_haltTold 5 = .ok (.iconst 0, 1) := by decide +kernel
theorem dX10_haltTold_6 : decode cX10_haltTold 6 = .ok (.istore 5, 2) := by decide +kernel
theorem dX10_haltTold_8 : decode cX10_haltTold 8 = .ok (.iconst 0, 1) := by decide +kernel
theorem dX10_haltTold_9 : decode cX10_haltTold 9 = .ok (.istore 6, 2) := by decide +kernel
theorem dX10_haltTold_11 : decode cX10_haltTold 11 = .ok (.iload 6, 2) := by decide +kernel
theorem dX10_haltTold_13 : decode cX10_haltTold 13 = .ok (.aload_n 0, 1) := by decide +kernel
theorem dX10_haltTold_14 : decode cX10_haltTold 14 = .ok (.getfield 51, 3) := by decide +kernel
theorem dX10_haltTold_17 : decode cX10_haltTold 17 = .ok (.if_icmp .ge 30, 3) := by decide +kernel
theorem dX10_haltTold_20 : decode cX10_haltTold 20 = .ok (.iload_n 3, 1) := by decide +kernel
theorem dX10_haltTold_21 : decode cX10_haltTold 21 = .ok (.aload_n 0, 1) := by decide +kernel
theorem dX10_haltTold_22 : decode cX10_haltTold 22 = .ok (.getfield 23, 3) := by decide +kernel
theorem dX10_haltTold_25 : decode cX10_haltTold 25 = .ok (.iconst 3, 1) := by decide +kernel
theorem dX10_haltTold_26 : decode cX10_haltTold 26 = .ok (.iload 6, 2) := by decide +kernel
theorem dX10_haltTold_28 : decode cX10_haltTold 28 = .ok (.imul, 1) := by decide +kernel
theorem dX10_haltTold_29 : decode cX10_haltTold 29 = .ok (.iaload, 1) := by decide +kernel
theorem dX10_haltTold_30 : decode cX10_haltTold 30 = .ok (.iload_n 1, 1) := by decide +kernel
theorem dX10_haltTold_31 : decode cX10_haltTold 31 = .ok (.if_icmp .ne 7, 3) := by decide +kernel
theorem dX10_haltTold_34 : decode cX10_haltTold 34 = .ok (.iconst 1, 1) := by decide +kernel
theorem dX10_haltTold_35 : decode cX10_haltTold 35 = .ok (.goto 4, 3) := by decide +kernel
theorem dX10_haltTold_38 : decode cX10_haltTold 38 = .ok (.iconst 0, 1) := by decide +kernel
theorem dX10_haltTold_39 : decode cX10_haltTold 39 = .ok (.iadd, 1) := by decide +kernel
theorem dX10_haltTold_40 : decode cX10_haltTold 40 = .ok (.istore_n 3, 1) := by decide +kernel
theorem dX10_haltTold_41 : decode cX10_haltTold 41 = .ok (.iinc 6 1, 3) := by decide +kernel
theorem dX10_haltTold_44 : decode cX10_haltTold 44 = .ok (.goto (-33), 3) := by decide +kernel
theorem dX10_haltTold_47 : decode cX10_haltTold 47 = .ok (.iconst 0, 1) := by decide +kernel
theorem dX10_haltTold_48 : decode cX10_haltTold 48 = .ok (.istore 6, 2) := by decide +kernel
theorem dX10_haltTold_50 : decode cX10_haltTold 50 = .ok (.iload 6, 2) := by decide +kernel
theorem dX10_haltTold_52 : decode cX10_haltTold 52 = .ok (.aload_n 0, 1) := by decide +kernel
theorem dX10_haltTold_53 : decode cX10_haltTold 53 = .ok (.getfield 65, 3) := by decide +kernel
theorem dX10_haltTold_56 : decode cX10_haltTold 56 = .ok (.if_icmp .ge 47, 3) := by decide +kernel
theorem dX10_haltTold_59 : decode cX10_haltTold 59 = .ok (.iload 4, 2) := by decide +kernel
theorem dX10_haltTold_61 : decode cX10_haltTold 61 = .ok (.aload_n 0, 1) := by decide +kernel
theorem dX10_haltTold_62 : decode cX10_haltTold 62 = .ok (.getfield 9, 3) := by decide +kernel
theorem dX10_haltTold_65 : decode cX10_haltTold 65 = .ok (.iconst 4, 1) := by decide +kernel
theorem dX10_haltTold_66 : decode cX10_haltTold 66 = .ok (.iload 6, 2) := by decide +kernel
theorem dX10_haltTold_68 : decode cX10_haltTold 68 = .ok (.imul, 1) := by decide +kernel
theorem dX10_haltTold_69 : decode cX10_haltTold 69 = .ok (.iaload, 1) := by decide +kernel
theorem dX10_haltTold_70 : decode cX10_haltTold 70 = .ok (.iload_n 1, 1) := by decide +kernel
theorem dX10_haltTold_71 : decode cX10_haltTold 71 = .ok (.if_icmp .eq 18, 3) := by decide +kernel
theorem dX10_haltTold_74 : decode cX10_haltTold 74 = .ok (.aload_n 0, 1) := by decide +kernel
theorem dX10_haltTold_75 : decode cX10_haltTold 75 = .ok (.getfield 9, 3) := by decide +kernel
theorem dX10_haltTold_78 : decode cX10_haltTold 78 = .ok (.iconst 4, 1) := by decide +kernel
theorem dX10_haltTold_79 : decode cX10_haltTold 79 = .ok (.iload 6, 2) := by decide +kernel
theorem dX10_haltTold_81 : decode cX10_haltTold 81 = .ok (.imul, 1) := by decide +kernel
theorem dX10_haltTold_82 : decode cX10_haltTold 82 = .ok (.iconst 1, 1) := by decide +kernel
theorem dX10_haltTold_83 : decode cX10_haltTold 83 = .ok (.iadd, 1) := by decide +kernel
theorem dX10_haltTold_84 : decode cX10_haltTold 84 = .ok (.iaload, 1) := by decide +kernel
theorem dX10_haltTold_85 : decode cX10_haltTold 85 = .ok (.iload_n 1, 1) := by decide +kernel
theorem dX10_haltTold_86 : decode cX10_haltTold 86 = .ok (.if_icmp .ne 7, 3) := by decide +kernel
theorem dX10_haltTold_89 : decode cX10_haltTold 89 = .ok (.iconst 1, 1) := by decide +kernel
theorem dX10_haltTold_90 : decode cX10_haltTold 90 = .ok (.goto 4, 3) := by decide +kernel
theorem dX10_haltTold_93 : decode cX10_haltTold 93 = .ok (.iconst 0, 1) := by decide +kernel
theorem dX10_haltTold_94 : decode cX10_haltTold 94 = .ok (.iadd, 1) := by decide +kernel
theorem dX10_haltTold_95 : decode cX10_haltTold 95 = .ok (.istore 4, 2) := by decide +kernel
theorem dX10_haltTold_97 : decode cX10_haltTold 97 = .ok (.iinc 6 1, 3) := by decide +kernel
theorem dX10_haltTold_100 : decode cX10_haltTold 100 = .ok (.goto (-50), 3) := by decide +kernel
theorem dX10_haltTold_103 : decode cX10_haltTold 103 = .ok (.iconst 0, 1) := by decide +kernel
theorem dX10_haltTold_104 : decode cX10_haltTold 104 = .ok (.istore 6, 2) := by decide +kernel
theorem dX10_haltTold_106 : decode cX10_haltTold 106 = .ok (.iload 6, 2) := by decide +kernel
theorem dX10_haltTold_108 : decode cX10_haltTold 108 = .ok (.aload_n 0, 1) := by decide +kernel
theorem dX10_haltTold_109 : decode cX10_haltTold 109 = .ok (.getfield 34, 3) := by decide +kernel
theorem dX10_haltTold_112 : decode cX10_haltTold 112 = .ok (.getfield 75, 3) := by decide +kernel
theorem dX10_haltTold_115 : decode cX10_haltTold 115 = .ok (.if_icmp .ge 33, 3) := by decide +kernel
theorem dX10_haltTold_118 : decode cX10_haltTold 118 = .ok (.iload 5, 2) := by decide +kernel
theorem dX10_haltTold_120 : decode cX10_haltTold 120 = .ok (.aload_n 0, 1) := by decide +kernel
theorem dX10_haltTold_121 : decode cX10_haltTold 121 = .ok (.getfield 34, 3) := by decide +kernel
theorem dX10_haltTold_124 : decode cX10_haltTold 124 = .ok (.getfield 78, 3) := by decide +kernel
theorem dX10_haltTold_127 : decode cX10_haltTold 127 = .ok (.iload 6, 2) := by decide +kernel
theorem dX10_haltTold_129 : decode cX10_haltTold 129 = .ok (.iaload, 1) := by decide +kernel
theorem dX10_haltTold_130 : decode cX10_haltTold 130 = .ok (.iload_n 1, 1) := by decide +kernel
theorem dX10_haltTold_131 : decode cX10_haltTold 131 = .ok (.if_icmp .ne 7, 3) := by decide +kernel
theorem dX10_haltTold_134 : decode cX10_haltTold 134 = .ok (.iconst 1, 1) := by decide +kernel
theorem dX10_haltTold_135 : decode cX10_haltTold 135 = .ok (.goto 4, 3) := by decide +kernel
theorem dX10_haltTold_138 : decode cX10_haltTold 138 = .ok (.iconst 0, 1) := by decide +kernel
theorem dX10_haltTold_139 : decode cX10_haltTold 139 = .ok (.iadd, 1) := by decide +kernel
theorem dX10_haltTold_140 : decode cX10_haltTold 140 = .ok (.istore 5, 2) := by decide +kernel
theorem dX10_haltTold_142 : decode cX10_haltTold 142 = .ok (.iinc 6 1, 3) := by decide +kernel
theorem dX10_haltTold_145 : decode cX10_haltTold 145 = .ok (.goto (-39), 3) := by decide +kernel
theorem dX10_haltTold_148 : decode cX10_haltTold 148 = .ok (.iload_n 2, 1) := by decide +kernel
theorem dX10_haltTold_149 : decode cX10_haltTold 149 = .ok (.ifCond .ne 7, 3) := by decide +kernel
theorem dX10_haltTold_152 : decode cX10_haltTold 152 = .ok (.iload_n 3, 1) := by decide +kernel
theorem dX10_haltTold_153 : decode cX10_haltTold 153 = .ok (.goto 49, 3) := by decide +kernel
theorem dX10_haltTold_156 : decode cX10_haltTold 156 = .ok (.iload_n 2, 1) := by decide +kernel
theorem dX10_haltTold_157 : decode cX10_haltTold 157 = .ok (.iconst 1, 1) := by decide +kernel
theorem dX10_haltTold_158 : decode cX10_haltTold 158 = .ok (.if_icmp .ne 8, 3) := by decide +kernel
theorem dX10_haltTold_161 : decode cX10_haltTold 161 = .ok (.iload 4, 2) := by decide +kernel
theorem dX10_haltTold_163 : decode cX10_haltTold 163 = .ok (.goto 39, 3) := by decide +kernel
theorem dX10_haltTold_166 : decode cX10_haltTold 166 = .ok (.iload_n 2, 1) := by decide +kernel
theorem dX10_haltTold_167 : decode cX10_haltTold 167 = .ok (.iconst 2, 1) := by decide +kernel
theorem dX10_haltTold_168 : decode cX10_haltTold 168 = .ok (.if_icmp .ne 8, 3) := by decide +kernel
theorem dX10_haltTold_171 : decode cX10_haltTold 171 = .ok (.iload 5, 2) := by decide +kernel
theorem dX10_haltTold_173 : decode cX10_haltTold 173 = .ok (.goto 29, 3) := by decide +kernel
theorem dX10_haltTold_176 : decode cX10_haltTold 176 = .ok (.iload_n 2, 1) := by decide +kernel
theorem dX10_haltTold_177 : decode cX10_haltTold 177 = .ok (.iconst 3, 1) := by decide +kernel
theorem dX10_haltTold_178 : decode cX10_haltTold 178 = .ok (.if_icmp .ne 15, 3) := by decide +kernel
theorem dX10_haltTold_181 : decode cX10_haltTold 181 = .ok (.aload_n 0, 1) := by decide +kernel
theorem dX10_haltTold_182 : decode cX10_haltTold 182 = .ok (.getfield 34, 3) := by decide +kernel
theorem dX10_haltTold_185 : decode cX10_haltTold 185 = .ok (.getfield 81, 3) := by decide +kernel
theorem dX10_haltTold_188 : decode cX10_haltTold 188 = .ok (.iload_n 1, 1) := by decide +kernel
theorem dX10_haltTold_189 : decode cX10_haltTold 189 = .ok (.iaload, 1) := by decide +kernel
theorem dX10_haltTold_190 : decode cX10_haltTold 190 = .ok (.goto 12, 3) := by decide +kernel
theorem dX10_haltTold_193 : decode cX10_haltTold 193 = .ok (.aload_n 0, 1) := by decide +kernel
theorem dX10_haltTold_194 : decode cX10_haltTold 194 = .ok (.getfield 34, 3) := by decide +kernel
theorem dX10_haltTold_197 : decode cX10_haltTold 197 = .ok (.getfield 84, 3) := by decide +kernel
theorem dX10_haltTold_200 : decode cX10_haltTold 200 = .ok (.iload_n 1, 1) := by decide +kernel
theorem dX10_haltTold_201 : decode cX10_haltTold 201 = .ok (.iaload, 1) := by decide +kernel
theorem dX10_haltTold_202 : decode cX10_haltTold 202 = .ok (.ireturn, 1) := by decide +kernel
theorem dX10_halt_0 : decode cX10_halt 0 = .ok (.aload_n 0, 1) := by decide +kernel
theorem dX10_halt_1 : decode cX10_halt 1 = .ok (.iconst 0, 1) := by decide +kernel
theorem dX10_halt_2 : decode cX10_halt 2 = .ok (.putfield 41, 3) := by decide +kernel
theorem dX10_halt_5 : decode cX10_halt 5 = .ok (.aload_n 0, 1) := by decide +kernel
theorem dX10_halt_6 : decode cX10_halt 6 = .ok (.iload_n 1, 1) := by decide +kernel
theorem dX10_halt_7 : decode cX10_halt 7 = .ok (.invokevirtual 61, 3) := by decide +kernel
theorem dX10_halt_10 : decode cX10_halt 10 = .ok (.ifCond .eq 21, 3) := by decide +kernel
theorem dX10_halt_13 : decode cX10_halt 13 = .ok (.iload_n 2, 1) := by decide +kernel
theorem dX10_halt_14 : decode cX10_halt 14 = .ok (.iconst 0, 1) := by decide +kernel
theorem dX10_halt_15 : decode cX10_halt 15 = .ok (.iconst 4, 1) := by decide +kernel
theorem dX10_halt_16 : decode cX10_halt 16 = .ok (.invokestatic 47, 3) := by decide +kernel
theorem dX10_halt_19 : decode cX10_halt 19 = .ok (.ifCond .eq 12, 3) := by decide +kernel
theorem dX10_halt_22 : decode cX10_halt 22 = .ok (.aload_n 0, 1) := by decide +kernel
theorem dX10_halt_23 : decode cX10_halt 23 = .ok (.iload_n 1, 1) := by decide +kernel
theorem dX10_halt_24 : decode cX10_halt 24 = .ok (.iload_n 2, 1) := by decide +kernel
theorem dX10_halt_25 : decode cX10_halt 25 = .ok (.invokevirtual 87, 3) := by decide +kernel
theorem dX10_halt_28 : decode cX10_halt 28 = .ok (.goto 8, 3) := by decide +kernel
theorem dX10_halt_31 : decode cX10_halt 31 = .ok (.aload_n 0, 1) := by decide +kernel
theorem dX10_halt_32 : decode cX10_halt 32 = .ok (.iconst 1, 1) := by decide +kernel
theorem dX10_halt_33 : decode cX10_halt 33 = .ok (.invokevirtual 57, 3) := by decide +kernel
theorem dX10_halt_36 : decode cX10_halt 36 = .ok (.ireturn, 1) := by decide +kernel
theorem dX10_laneTold_0 : decode cX10_laneTold 0 = .ok (.iload_n 2, 1) := by decide +kernel
theorem dX10_laneTold_1 : decode cX10_laneTold 1 = .ok (.iconst 4, 1) := by decide +kernel
theorem dX10_laneTold_2 : decode cX10_laneTold 2 = .ok (.if_icmp .ge 16, 3) := by decide +kernel
theorem dX10_laneTold_5 : decode cX10_laneTold 5 = .ok (.aload_n 0, 1) := by decide +kernel
theorem dX10_laneTold_6 : decode cX10_laneTold 6 = .ok (.getfield 9, 3) := by decide +kernel
theorem dX10_laneTold_9 : decode cX10_laneTold 9 = .ok (.iconst 4, 1) := by decide +kernel
theorem dX10_laneTold_10 : decode cX10_laneTold 10 = .ok (.iload_n 1, 1) := by decide +kernel
theorem dX10_laneTold_11 : decode cX10_laneTold 11 = .ok (.imul, 1) := by decide +kernel
theorem dX10_laneTold_12 : decode cX10_laneTold 12 = .ok (.iload_n 2, 1) := by decide +kernel
theorem dX10_laneTold_13 : decode cX10_laneTold 13 = .ok (.iadd, 1) := by decide +kernel
theorem dX10_laneTold_14 : decode cX10_laneTold 14 = .ok (.iaload, 1) := by decide +kernel
theorem dX10_laneTold_15 : decode cX10_laneTold 15 = .ok (.goto 28, 3) := by decide +kernel
theorem dX10_laneTold_18 : decode cX10_laneTold 18 = .ok (.iload_n 2, 1) := by decide +kernel
theorem dX10_laneTold_19 : decode cX10_laneTold 19 = .ok (.iconst 4, 1) := by decide +kernel
theorem dX10_laneTold_20 : decode cX10_laneTold 20 = .ok (.if_icmp .ne 15, 3) := by decide +kernel
theorem dX10_laneTold_23 : decode cX10_laneTold 23 = .ok (.aload_n 0, 1) := by decide +kernel
theorem dX10_laneTold_24 : decode cX10_laneTold 24 = .ok (.getfield 34, 3) := by decide +kernel
theorem dX10_laneTold_27 : decode cX10_laneTold 27 = .ok (.getfield 91, 3) := by decide +kernel
theorem dX10_laneTold_30 : decode cX10_laneTold 30 = .ok (.iload_n 1, 1) := by decide +kernel
theorem dX10_laneTold_31 : decode cX10_laneTold 31 = .ok (.iaload, 1) := by decide +kernel
theorem dX10_laneTold_32 : decode cX10_laneTold 32 = .ok (.goto 11, 3) := by decide +kernel
theorem dX10_laneTold_35 : decode cX10_laneTold 35 = .ok (.aload_n 0, 1) := by decide +kernel
theorem dX10_laneTold_36 : decode cX10_laneTold 36 = .ok (.getfield 34, 3) := by decide +kernel
theorem dX10_laneTold_39 : decode cX10_laneTold 39 = .ok (.iload_n 1, 1) := by decide +kernel
theorem dX10_laneTold_40 : decode cX10_laneTold 40 = .ok (.invokevirtual 94, 3) := by decide +kernel
theorem dX10_laneTold_43 : decode cX10_laneTold 43 = .ok (.ireturn, 1) := by decide +kernel
theorem dX10_lane_0 : decode cX10_lane 0 = .ok (.aload_n 0, 1) := by decide +kernel
theorem dX10_lane_1 : decode cX10_lane 1 = .ok (.iconst 0, 1) := by decide +kernel
theorem dX10_lane_2 : decode cX10_lane 2 = .ok (.putfield 41, 3) := by decide +kernel
theorem dX10_lane_5 : decode cX10_lane 5 = .ok (.iload_n 1, 1) := by decide +kernel
theorem dX10_lane_6 : decode cX10_lane 6 = .ok (.iconst 0, 1) := by decide +kernel
theorem dX10_lane_7 : decode cX10_lane 7 = .ok (.aload_n 0, 1) := by decide +kernel
theorem dX10_lane_8 : decode cX10_lane 8 = .ok (.getfield 65, 3) := by decide +kernel
theorem dX10_lane_11 : decode cX10_lane 11 = .ok (.iconst 1, 1) := by decide +kernel
theorem dX10_lane_12 : decode cX10_lane 12 = .ok (.isub, 1) := by decide +kernel
theorem dX10_lane_13 : decode cX10_lane 13 = .ok (.invokestatic 47, 3) := by decide +kernel
theorem dX10_lane_16 : decode cX10_lane 16 = .ok (.ifCond .eq 21, 3) := by decide +kernel
theorem dX10_lane_19 : decode cX10_lane 19 = .ok (.iload_n 2, 1) := by decide +kernel
theorem dX10_lane_20 : decode cX10_lane 20 = .ok (.iconst 0, 1) := by decide +kernel
theorem dX10_lane_21 : decode cX10_lane 21 = .ok (.iconst 5, 1) := by decide +kernel
theorem dX10_lane_22 : decode cX10_lane 22 = .ok (.invokestatic 47, 3) := by decide +kernel
theorem dX10_lane_25 : decode cX10_lane 25 = .ok (.ifCond .eq 12, 3) := by decide +kernel
theorem dX10_lane_28 : decode cX10_lane 28 = .ok (.aload_n 0, 1) := by decide +kernel
theorem dX10_lane_29 : decode cX10_lane 29 = .ok (.iload_n 1, 1) := by decide +kernel
theorem dX10_lane_30 : decode cX10_lane 30 = .ok (.iload_n 2, 1) := by decide +kernel
theorem dX10_lane_31 : decode cX10_lane 31 = .ok (.invokevirtual 97, 3) := by decide +kernel
theorem dX10_lane_34 : decode cX10_lane 34 = .ok (.goto 8, 3) := by decide +kernel
theorem dX10_lane_37 : decode cX10_lane 37 = .ok (.aload_n 0, 1) := by decide +kernel
theorem dX10_lane_38 : decode cX10_lane 38 = .ok (.iconst 1, 1) := by decide +kernel
theorem dX10_lane_39 : decode cX10_lane 39 = .ok (.invokevirtual 57, 3) := by decide +kernel
theorem dX10_lane_42 : decode cX10_lane 42 = .ok (.ireturn, 1) := by decide +kernel
theorem dX10_way_0 : decode cX10_way 0 = .ok (.aload_n 0, 1) := by decide +kernel
theorem dX10_way_1 : decode cX10_way 1 = .ok (.iconst 0, 1) := by decide +kernel
theorem dX10_way_2 : decode cX10_way 2 = .ok (.putfield 41, 3) := by decide +kernel
theorem dX10_way_5 : decode cX10_way 5 = .ok (.aload_n 0, 1) := by decide +kernel
theorem dX10_way_6 : decode cX10_way 6 = .ok (.iload_n 1, 1) := by decide +kernel
theorem dX10_way_7 : decode cX10_way 7 = .ok (.invokevirtual 61, 3) := by decide +kernel
theorem dX10_way_10 : decode cX10_way 10 = .ok (.ifCond .eq 11, 3) := by decide +kernel
theorem dX10_way_13 : decode cX10_way 13 = .ok (.aload_n 0, 1) := by decide +kernel
theorem dX10_way_14 : decode cX10_way 14 = .ok (.iload_n 2, 1) := by decide +kernel
theorem dX10_way_15 : decode cX10_way 15 = .ok (.invokevirtual 61, 3) := by decide +kernel
theorem dX10_way_18 : decode cX10_way 18 = .ok (.ifCond .ne 9, 3) := by decide +kernel
theorem dX10_way_21 : decode cX10_way 21 = .ok (.aload_n 0, 1) := by decide +kernel
theorem dX10_way_22 : decode cX10_way 22 = .ok (.iconst 1, 1) := by decide +kernel
theorem dX10_way_23 : decode cX10_way 23 = .ok (.invokevirtual 57, 3) := by decide +kernel
theorem dX10_way_26 : decode cX10_way 26 = .ok (.ireturn, 1) := by decide +kernel
theorem dX10_way_27 : decode cX10_way 27 = .ok (.aload_n 0, 1) := by decide +kernel
theorem dX10_way_28 : decode cX10_way 28 = .ok (.getfield 34, 3) := by decide +kernel
theorem dX10_way_31 : decode cX10_way 31 = .ok (.invokevirtual 100, 3) := by decide +kernel
theorem dX10_way_34 : decode cX10_way 34 = .ok (.aload_n 0, 1) := by decide +kernel
theorem dX10_way_35 : decode cX10_way 35 = .ok (.getfield 26, 3) := by decide +kernel
theorem dX10_way_38 : decode cX10_way 38 = .ok (.bipush 8, 2) := by decide +kernel
theorem dX10_way_40 : decode cX10_way 40 = .ok (.iload_n 1, 1) := by decide +kernel
theorem dX10_way_41 : decode cX10_way 41 = .ok (.imul, 1) := by decide +kernel
theorem dX10_way_42 : decode cX10_way 42 = .ok (.iload_n 2, 1) := by decide +kernel
theorem dX10_way_43 : decode cX10_way 43 = .ok (.iadd, 1) := by decide +kernel
theorem dX10_way_44 : decode cX10_way 44 = .ok (.iaload, 1) := by decide +kernel
theorem dX10_way_45 : decode cX10_way 45 = .ok (.ldc 103, 2) := by decide +kernel
theorem dX10_way_47 : decode cX10_way 47 = .ok (.if_icmp .ge 17, 3) := by decide +kernel
theorem dX10_way_50 : decode cX10_way 50 = .ok (.aload_n 0, 1) := by decide +kernel
theorem dX10_way_51 : decode cX10_way 51 = .ok (.getfield 26, 3) := by decide +kernel
theorem dX10_way_54 : decode cX10_way 54 = .ok (.bipush 8, 2) := by decide +kernel
theorem dX10_way_56 : decode cX10_way 56 = .ok (.iload_n 1, 1) := by decide +kernel
theorem dX10_way_57 : decode cX10_way 57 = .ok (.imul, 1) := by decide +kernel
theorem dX10_way_58 : decode cX10_way 58 = .ok (.iload_n 2, 1) := by decide +kernel
theorem dX10_way_59 : decode cX10_way 59 = .ok (.iadd, 1) := by decide +kernel
theorem dX10_way_60 : decode cX10_way 60 = .ok (.iaload, 1) := by decide +kernel
theorem dX10_way_61 : decode cX10_way 61 = .ok (.goto 4, 3) := by decide +kernel
theorem dX10_way_64 : decode cX10_way 64 = .ok (.iconst (-1), 1) := by decide +kernel
theorem dX10_way_65 : decode cX10_way 65 = .ok (.ireturn, 1) := by decide +kernel
theorem dX10_addBook_0 : decode cX10_addBook 0 = .ok (.aload_n 0, 1) := by decide +kernel
theorem dX10_addBook_1 : decode cX10_addBook 1 = .ok (.iconst 0, 1) := by decide +kernel
theorem dX10_addBook_2 : decode cX10_addBook 2 = .ok (.putfield 41, 3) := by decide +kernel
theorem dX10_addBook_5 : decode cX10_addBook 5 = .ok (.iload_n 1, 1) := by decide +kernel
theorem dX10_addBook_6 : decode cX10_addBook 6 = .ok (.iconst 0, 1) := by decide +kernel
theorem dX10_addBook_7 : decode cX10_addBook 7 = .ok (.iconst 5, 1) := by decide +kernel
theorem dX10_addBook_8 : decode cX10_addBook 8 = .ok (.invokestatic 47, 3) := by decide +kernel
theorem dX10_addBook_11 : decode cX10_addBook 11 = .ok (.ifCond .ne 9, 3) := by decide +kernel
theorem dX10_addBook_14 : decode cX10_addBook 14 = .ok (.aload_n 0, 1) := by decide +kernel
theorem dX10_addBook_15 : decode cX10_addBook 15 = .ok (.iconst 1, 1) := by decide +kernel
theorem dX10_addBook_16 : decode cX10_addBook 16 = .ok (.invokevirtual 57, 3) := by decide +kernel
theorem dX10_addBook_19 : decode cX10_addBook 19 = .ok (.ireturn, 1) := by decide +kernel
theorem dX10_addBook_20 : decode cX10_addBook 20 = .ok (.aload_n 0, 1) := by decide +kernel
theorem dX10_addBook_21 : decode cX10_addBook 21 = .ok (.getfield 54, 3) := by decide +kernel
theorem dX10_addBook_24 : decode cX10_addBook 24 = .ok (.bipush 24, 2) := by decide +kernel
theorem dX10_addBook_26 : decode cX10_addBook 26 = .ok (.if_icmp .ne 9, 3) := by decide +kernel
theorem dX10_addBook_29 : decode cX10_addBook 29 = .ok (.aload_n 0, 1) := by decide +kernel
theorem dX10_addBook_30 : decode cX10_addBook 30 = .ok (.iconst 2, 1) := by decide +kernel
theorem dX10_addBook_31 : decode cX10_addBook 31 = .ok (.invokevirtual 57, 3) := by decide +kernel
theorem dX10_addBook_34 : decode cX10_addBook 34 = .ok (.ireturn, 1) := by decide +kernel
theorem dX10_addBook_35 : decode cX10_addBook 35 = .ok (.aload_n 0, 1) := by decide +kernel
theorem dX10_addBook_36 : decode cX10_addBook 36 = .ok (.getfield 20, 3) := by decide +kernel
theorem dX10_addBook_39 : decode cX10_addBook 39 = .ok (.aload_n 0, 1) := by decide +kernel
theorem dX10_addBook_40 : decode cX10_addBook 40 = .ok (.getfield 54, 3) := by decide +kernel
theorem dX10_addBook_43 : decode cX10_addBook 43 = .ok (.iload_n 1, 1) := by decide +kernel
theorem dX10_addBook_44 : decode cX10_addBook 44 = .ok (.iastore, 1) := by decide +kernel
theorem dX10_addBook_45 : decode cX10_addBook 45 = .ok (.aload_n 0, 1) := by decide +kernel
theorem dX10_addBook_46 : decode cX10_addBook 46 = .ok (.getfield 34, 3) := by decide +kernel
theorem dX10_addBook_49 : decode cX10_addBook 49 = .ok (.getfield 104, 3) := by decide +kernel
theorem dX10_addBook_52 : decode cX10_addBook 52 = .ok (.aload_n 0, 1) := by decide +kernel
theorem dX10_addBook_53 : decode cX10_addBook 53 = .ok (.getfield 54, 3) := by decide +kernel
theorem dX10_addBook_56 : decode cX10_addBook 56 = .ok (.iconst (-1), 1) := by decide +kernel
theorem dX10_addBook_57 : decode cX10_addBook 57 = .ok (.iastore, 1) := by decide +kernel
theorem dX10_addBook_58 : decode cX10_addBook 58 = .ok (.aload_n 0, 1) := by decide +kernel
theorem dX10_addBook_59 : decode cX10_addBook 59 = .ok (.dup, 1) := by decide +kernel
theorem dX10_addBook_60 : decode cX10_addBook 60 = .ok (.getfield 54, 3) := by decide +kernel
theorem dX10_addBook_63 : decode cX10_addBook 63 = .ok (.iconst 1, 1) := by decide +kernel
theorem dX10_addBook_64 : decode cX10_addBook 64 = .ok (.iadd, 1) := by decide +kernel
theorem dX10_addBook_65 : decode cX10_addBook 65 = .ok (.putfield 54, 3) := by decide +kernel
theorem dX10_addBook_68 : decode cX10_addBook 68 = .ok (.aload_n 0, 1) := by decide +kernel
theorem dX10_addBook_69 : decode cX10_addBook 69 = .ok (.getfield 54, 3) := by decide +kernel
theorem dX10_addBook_72 : decode cX10_addBook 72 = .ok (.iconst 1, 1) := by decide +kernel
theorem dX10_addBook_73 : decode cX10_addBook 73 = .ok (.isub, 1) := by decide +kernel
theorem dX10_addBook_74 : decode cX10_addBook 74 = .ok (.ireturn, 1) := by decide +kernel
theorem dX10_addReader_0 : decode cX10_addReader 0 = .ok (.aload_n 0, 1) := by decide +kernel
theorem dX10_addReader_1 : decode cX10_addReader 1 = .ok (.iconst 0, 1) := by decide +kernel
theorem dX10_addReader_2 : decode cX10_addReader 2 = .ok (.putfield 41, 3) := by decide +kernel
theorem dX10_addReader_5 : decode cX10_addReader 5 = .ok (.aload_n 0, 1) := by decide +kernel
theorem dX10_addReader_6 : decode cX10_addReader 6 = .ok (.iload_n 1, 1) := by decide +kernel
theorem dX10_addReader_7 : decode cX10_addReader 7 = .ok (.invokevirtual 61, 3) := by decide +kernel
theorem dX10_addReader_10 : decode cX10_addReader 10 = .ok (.ifCond .ne 9, 3) := by decide +kernel
theorem dX10_addReader_13 : decode cX10_addReader 13 = .ok (.aload_n 0, 1) := by decide +kernel
theorem dX10_addReader_14 : decode cX10_addReader 14 = .ok (.iconst 1, 1) := by decide +kernel
theorem dX10_addReader_15 : decode cX10_addReader 15 = .ok (.invokevirtual 57, 3) := by decide +kernel
theorem dX10_addReader_18 : decode cX10_addReader 18 = .ok (.ireturn, 1) := by decide +kernel
theorem dX10_addReader_19 : decode cX10_addReader 19 = .ok (.iload_n 2, 1) := by decide +kernel
theorem dX10_addReader_20 : decode cX10_addReader 20 = .ok (.iconst 0, 1) := by decide +kernel
theorem dX10_addReader_21 : decode cX10_addReader 21 = .ok (.iconst 5, 1) := by decide +kernel
theorem dX10_addReader_22 : decode cX10_addReader 22 = .ok (.invokestatic 47, 3) := by decide +kernel
theorem dX10_addReader_25 : decode cX10_addReader 25 = .ok (.ifCond .eq 13, 3) := by decide +kernel
theorem dX10_addReader_28 : decode cX10_addReader 28 = .ok (.iload_n 3, 1) := by decide +kernel
theorem dX10_addReader_29 : decode cX10_addReader 29 = .ok (.iconst 1, 1) := by decide +kernel
theorem dX10_addReader_30 : decode cX10_addReader 30 = .ok (.bipush 30, 2) := by decide +kernel
theorem dX10_addReader_32 : decode cX10_addReader 32 = .ok (.invokestatic 47, 3) := by decide +kernel
theorem dX10_addReader_35 : decode cX10_addReader 35 = .ok (.ifCond .ne 9, 3) := by decide +kernel
theorem dX10_addReader_38 : decode cX10_addReader 38 = .ok (.aload_n 0, 1) := by decide +kernel
theorem dX10_addReader_39 : decode cX10_addReader 39 = .ok (.iconst 2, 1) := by decide +kernel
theorem dX10_addReader_40 : decode cX10_addReader 40 = .ok (.invokevirtual 57, 3) := by decide +kernel
theorem dX10_addReader_43 : decode cX10_addReader 43 = .ok (.ireturn, 1) := by decide +kernel
theorem dX10_addReader_44 : decode cX10_addReader 44 = .ok (.aload_n 0, 1) := by decide +kernel
theorem dX10_addReader_45 : decode cX10_addReader 45 = .ok (.getfield 51, 3) := by decide +kernel
theorem dX10_addReader_48 : decode cX10_addReader 48 = .ok (.bipush 10, 2) := by decide +kernel
theorem dX10_addReader_50 : decode cX10_addReader 50 = .ok (.if_icmp .ne 9, 3) := by decide +kernel
theorem dX10_addReader_53 : decode cX10_addReader 53 = .ok (.aload_n 0, 1) := by decide +kernel
theorem dX10_addReader_54 : decode cX10_addReader 54 = .ok (.iconst 3, 1) := by decide +kernel
theorem dX10_addReader_55 : decode cX10_addReader 55 = .ok (.invokevirtual 57, 3) := by decide +kernel
theorem dX10_addReader_58 : decode cX10_addReader 58 = .ok (.ireturn, 1) := by decide +kernel
theorem dX10_addReader_59 : decode cX10_addReader 59 = .ok (.iconst 3, 1) := by decide +kernel
theorem dX10_addReader_60 : decode cX10_addReader 60 = .ok (.newarray .int, 2) := by decide +kernel
theorem dX10_addReader_62 : decode cX10_addReader 62 = .ok (.dup, 1) := by decide +kernel
theorem dX10_addReader_63 : decode cX10_addReader 63 = .ok (.iconst 0, 1) := by decide +kernel
theorem dX10_addReader_64 : decode cX10_addReader 64 = .ok (.iload_n 1, 1) := by decide +kernel
theorem dX10_addReader_65 : decode cX10_addReader 65 = .ok (.iastore, 1) := by decide +kernel
theorem dX10_addReader_66 : decode cX10_addReader 66 = .ok (.dup, 1) := by decide +kernel
theorem dX10_addReader_67 : decode cX10_addReader 67 = .ok (.iconst 1, 1) := by decide +kernel
theorem dX10_addReader_68 : decode cX10_addReader 68 = .ok (.iload_n 2, 1) := by decide +kernel
theorem dX10_addReader_69 : decode cX10_addReader 69 = .ok (.iastore, 1) := by decide +kernel
theorem dX10_addReader_70 : decode cX10_addReader 70 = .ok (.dup, 1) := by decide +kernel
theorem dX10_addReader_71 : decode cX10_addReader 71 = .ok (.iconst 2, 1) := by decide +kernel
theorem dX10_addReader_72 : decode cX10_addReader 72 = .ok (.iload_n 3, 1) := by decide +kernel
theorem dX10_addReader_73 : decode cX10_addReader 73 = .ok (.iastore, 1) := by decide +kernel
theorem dX10_addReader_74 : decode cX10_addReader 74 = .ok (.astore 4, 2) := by decide +kernel
theorem dX10_addReader_76 : decode cX10_addReader 76 = .ok (.aload 4, 2) := by decide +kernel
theorem dX10_addReader_78 : decode cX10_addReader 78 = .ok (.iconst 0, 1) := by decide +kernel
theorem dX10_addReader_79 : decode cX10_addReader 79 = .ok (.aload_n 0, 1) := by decide +kernel
theorem dX10_addReader_80 : decode cX10_addReader 80 = .ok (.getfield 23, 3) := by decide +kernel
theorem dX10_addReader_83 : decode cX10_addReader 83 = .ok (.iconst 3, 1) := by decide +kernel
theorem dX10_addReader_84 : decode cX10_addReader 84 = .ok (.aload_n 0, 1) := by decide +kernel
theorem dX10_addReader_85 : decode cX10_addReader 85 = .ok (.getfield 51, 3) := by decide +kernel
theorem dX10_addReader_88 : decode cX10_addReader 88 = .ok (.imul, 1) := by decide +kernel
theorem dX10_addReader_89 : decode cX10_addReader 89 = .ok (.iconst 3, 1) := by decide +kernel
theorem dX10_addReader_90 : decode cX10_addReader 90 = .ok (.invokestatic 68, 3) := by decide +kernel
theorem dX10_addReader_93 : decode cX10_addReader 93 = .ok (.aload_n 0, 1) := by decide +kernel
theorem dX10_addReader_94 : decode cX10_addReader 94 = .ok (.dup, 1) := by decide +kernel
theorem dX10_addReader_95 : decode cX10_addReader 95 = .ok (.getfield 51, 3) := by decide +kernel
theorem dX10_addReader_98 : decode cX10_addReader 98 = .ok (.iconst 1, 1) := by decide +kernel
theorem dX10_addReader_99 : decode cX10_addReader 99 = .ok (.iadd, 1) := by decide +kernel
theorem dX10_addReader_100 : decode cX10_addReader 100 = .ok (.putfield 51, 3) := by decide +kernel
theorem dX10_addReader_103 : decode cX10_addReader 103 = .ok (.aload_n 0, 1) := by decide +kernel
theorem dX10_addReader_104 : decode cX10_addReader 104 = .ok (.getfield 51, 3) := by decide +kernel
theorem dX10_addReader_107 : decode cX10_addReader 107 = .ok (.iconst 1, 1) := by decide +kernel
theorem dX10_addReader_108 : decode cX10_addReader 108 = .ok (.isub, 1) := by decide +kernel
theorem dX10_addReader_109 : decode cX10_addReader 109 = .ok (.ireturn, 1) := by decide +kernel
theorem dX10_reserve_0 : decode cX10_reserve 0 = .ok (.aload_n 0, 1) := by decide +kernel
theorem dX10_reserve_1 : decode cX10_reserve 1 = .ok (.iconst 0, 1) := by decide +kernel
theorem dX10_reserve_2 : decode cX10_reserve 2 = .ok (.putfield 41, 3) := by decide +kernel
theorem dX10_reserve_5 : decode cX10_reserve 5 = .ok (.aload_n 0, 1) := by decide +kernel
theorem dX10_reserve_6 : decode cX10_reserve 6 = .ok (.iload_n 1, 1) := by decide +kernel
theorem dX10_reserve_7 : decode cX10_reserve 7 = .ok (.invokevirtual 107, 3) := by decide +kernel
theorem dX10_reserve_10 : decode cX10_reserve 10 = .ok (.ifCond .eq 11, 3) := by decide +kernel
theorem dX10_reserve_13 : decode cX10_reserve 13 = .ok (.aload_n 0, 1) := by decide +kernel
theorem dX10_reserve_14 : decode cX10_reserve 14 = .ok (.iload_n 2, 1) := by decide +kernel
theorem dX10_reserve_15 : decode cX10_reserve 15 = .ok (.invokevirtual 110, 3) := by decide +kernel
theorem dX10_reserve_18 : decode cX10_reserve 18 = .ok (.ifCond .ne 9, 3) := by decide +kernel
theorem dX10_reserve_21 : decode cX10_reserve 21 = .ok (.aload_n 0, 1) := by decide +kernel
theorem dX10_reserve_22 : decode cX10_reserve 22 = .ok (.iconst 1, 1) := by decide +kernel
theorem dX10_reserve_23 : decode cX10_reserve 23 = .ok (.invokevirtual 57, 3) := by decide +kernel
theorem dX10_reserve_26 : decode cX10_reserve 26 = .ok (.ireturn, 1) := by decide +kernel
theorem dX10_reserve_27 : decode cX10_reserve 27 = .ok (.aload_n 0, 1) := by decide +kernel
theorem dX10_reserve_28 : decode cX10_reserve 28 = .ok (.getfield 34, 3) := by decide +kernel
theorem dX10_reserve_31 : decode cX10_reserve 31 = .ok (.iload_n 1, 1) := by decide +kernel
theorem dX10_reserve_32 : decode cX10_reserve 32 = .ok (.iload_n 2, 1) := by decide +kernel
theorem dX10_reserve_33 : decode cX10_reserve 33 = .ok (.invokevirtual 113, 3) := by decide +kernel
theorem dX10_reserve_36 : decode cX10_reserve 36 = .ok (.iconst (-1), 1) := by decide +kernel
theorem dX10_reserve_37 : decode cX10_reserve 37 = .ok (.if_icmp .ne 16, 3) := by decide +kernel
theorem dX10_reserve_40 : decode cX10_reserve 40 = .ok (.aload_n 0, 1) := by decide +kernel
theorem dX10_reserve_41 : decode cX10_reserve 41 = .ok (.getfield 34, 3) := by decide +kernel
theorem dX10_reserve_44 : decode cX10_reserve 44 = .ok (.getfield 104, 3) := by decide +kernel
theorem dX10_reserve_47 : decode cX10_reserve 47 = .ok (.iload_n 2, 1) := by decide +kernel
theorem dX10_reserve_48 : decode cX10_reserve 48 = .ok (.iaload, 1) := by decide +kernel
theorem dX10_reserve_49 : decode cX10_reserve 49 = .ok (.iload_n 1, 1) := by decide +kernel
theorem dX10_reserve_50 : decode cX10_reserve 50 = .ok (.if_icmp .ne 9, 3) := by decide +kernel
theorem dX10_reserve_53 : decode cX10_reserve 53 = .ok (.aload_n 0, 1) := by decide +kernel
theorem dX10_reserve_54 : decode cX10_reserve 54 = .ok (.iconst 2, 1) := by decide +kernel
theorem dX10_reserve_55 : decode cX10_reserve 55 = .ok (.invokevirtual 57, 3) := by decide +kernel
theorem dX10_reserve_58 : decode cX10_reserve 58 = .ok (.ireturn, 1) := by decide +kernel
theorem dX10_reserve_59 : decode cX10_reserve 59 = .ok (.aload_n 0, 1) := by decide +kernel
theorem dX10_reserve_60 : decode cX10_reserve 60 = .ok (.getfield 34, 3) := by decide +kernel
theorem dX10_reserve_63 : decode cX10_reserve 63 = .ok (.getfield 116, 3) := by decide +kernel
theorem dX10_reserve_66 : decode cX10_reserve 66 = .ok (.bipush 10, 2) := by decide +kernel
theorem dX10_reserve_68 : decode cX10_reserve 68 = .ok (.iload_n 2, 1) := by decide +kernel
theorem dX10_reserve_69 : decode cX10_reserve 69 = .ok (.imul, 1) := by decide +kernel
theorem dX10_reserve_70 : decode cX10_reserve 70 = .ok (.aload_n 0, 1) := by decide +kernel
theorem dX10_reserve_71 : decode cX10_reserve 71 = .ok (.getfield 34, 3) := by decide +kernel
theorem dX10_reserve_74 : decode cX10_reserve 74 = .ok (.getfield 119, 3) := by decide +kernel
theorem dX10_reserve_77 : decode cX10_reserve 77 = .ok (.iload_n 2, 1) := by decide +kernel
theorem dX10_reserve_78 : decode cX10_reserve 78 = .ok (.iaload, 1) := by decide +kernel
theorem dX10_reserve_79 : decode cX10_reserve 79 = .ok (.iadd, 1) := by decide +kernel
theorem dX10_reserve_80 : decode cX10_reserve 80 = .ok (.iload_n 1, 1) := by decide +kernel
theorem dX10_reserve_81 : decode cX10_reserve 81 = .ok (.iastore, 1) := by decide +kernel
theorem dX10_reserve_82 : decode cX10_reserve 82 = .ok (.aload_n 0, 1) := by decide +kernel
theorem dX10_reserve_83 : decode cX10_reserve 83 = .ok (.getfield 34, 3) := by decide +kernel
theorem dX10_reserve_86 : decode cX10_reserve 86 = .ok (.getfield 119, 3) := by decide +kernel
theorem dX10_reserve_89 : decode cX10_reserve 89 = .ok (.iload_n 2, 1) := by decide +kernel
theorem dX10_reserve_90 : decode cX10_reserve 90 = .ok (.dup2, 1) := by decide +kernel
theorem dX10_reserve_91 : decode cX10_reserve 91 = .ok (.iaload, 1) := by decide +kernel
theorem dX10_reserve_92 : decode cX10_reserve 92 = .ok (.iconst 1, 1) := by decide +kernel
theorem dX10_reserve_93 : decode cX10_reserve 93 = .ok (.iadd, 1) := by decide +kernel
theorem dX10_reserve_94 : decode cX10_reserve 94 = .ok (.iastore, 1) := by decide +kernel
theorem dX10_reserve_95 : decode cX10_reserve 95 = .ok (.aload_n 0, 1) := by decide +kernel
theorem dX10_reserve_96 : decode cX10_reserve 96 = .ok (.getfield 34, 3) := by decide +kernel
theorem dX10_reserve_99 : decode cX10_reserve 99 = .ok (.getfield 119, 3) := by decide +kernel
theorem dX10_reserve_102 : decode cX10_reserve 102 = .ok (.iload_n 2, 1) := by decide +kernel
theorem dX10_reserve_103 : decode cX10_reserve 103 = .ok (.iaload, 1) := by decide +kernel
theorem dX10_reserve_104 : decode cX10_reserve 104 = .ok (.ireturn, 1) := by decide +kernel
theorem dX10_cancel_0 : decode cX10_cancel 0 = .ok (.aload_n 0, 1) := by decide +kernel
theorem dX10_cancel_1 : decode cX10_cancel 1 = .ok (.iconst 0, 1) := by decide +kernel
theorem dX10_cancel_2 : decode cX10_cancel 2 = .ok (.putfield 41, 3) := by decide +kernel
theorem dX10_cancel_5 : decode cX10_cancel 5 = .ok (.aload_n 0, 1) := by decide +kernel
theorem dX10_cancel_6 : decode cX10_cancel 6 = .ok (.iload_n 1, 1) := by decide +kernel
theorem dX10_cancel_7 : decode cX10_cancel 7 = .ok (.invokevirtual 107, 3) := by decide +kernel
theorem dX10_cancel_10 : decode cX10_cancel 10 = .ok (.ifCond .eq 11, 3) := by decide +kernel
theorem dX10_cancel_13 : decode cX10_cancel 13 = .ok (.aload_n 0, 1) := by decide +kernel
theorem dX10_cancel_14 : decode cX10_cancel 14 = .ok (.iload_n 2, 1) := by decide +kernel
theorem dX10_cancel_15 : decode cX10_cancel 15 = .ok (.invokevirtual 110, 3) := by decide +kernel
theorem dX10_cancel_18 : decode cX10_cancel 18 = .ok (.ifCond .ne 9, 3) := by decide +kernel
theorem dX10_cancel_21 : decode cX10_cancel 21 = .ok (.aload_n 0, 1) := by decide +kernel
theorem dX10_cancel_22 : decode cX10_cancel 22 = .ok (.iconst 1, 1) := by decide +kernel
theorem dX10_cancel_23 : decode cX10_cancel 23 = .ok (.invokevirtual 57, 3) := by decide +kernel
theorem dX10_cancel_26 : decode cX10_cancel 26 = .ok (.ireturn, 1) := by decide +kernel
theorem dX10_cancel_27 : decode cX10_cancel 27 = .ok (.aload_n 0, 1) := by decide +kernel
theorem dX10_cancel_28 : decode cX10_cancel 28 = .ok (.getfield 34, 3) := by decide +kernel
theorem dX10_cancel_31 : decode cX10_cancel 31 = .ok (.iload_n 1, 1) := by decide +kernel
theorem dX10_cancel_32 : decode cX10_cancel 32 = .ok (.iload_n 2, 1) := by decide +kernel
theorem dX10_cancel_33 : decode cX10_cancel 33 = .ok (.invokevirtual 113, 3) := by decide +kernel
theorem dX10_cancel_36 : decode cX10_cancel 36 = .ok (.istore_n 3, 1) := by decide +kernel
theorem dX10_cancel_37 : decode cX10_cancel 37 = .ok (.iload_n 3, 1) := by decide +kernel
theorem dX10_cancel_38 : decode cX10_cancel 38 = .ok (.iconst (-1), 1) := by decide +kernel
theorem dX10_cancel_39 : decode cX10_cancel 39 = .ok (.if_icmp .eq 12, 3) := by decide +kernel
theorem dX10_cancel_42 : decode cX10_cancel 42 = .ok (.aload_n 0, 1) := by decide +kernel
theorem dX10_cancel_43 : decode cX10_cancel 43 = .ok (.getfield 34, 3) := by decide +kernel
theorem dX10_cancel_46 : decode cX10_cancel 46 = .ok (.iload_n 2, 1) := by decide +kernel
theorem dX10_cancel_47 : decode cX10_cancel 47 = .ok (.iload_n 3, 1) := by decide +kernel
theorem dX10_cancel_48 : decode cX10_cancel 48 = .ok (.invokevirtual 122, 3) := by decide +kernel
theorem dX10_cancel_51 : decode cX10_cancel 51 = .ok (.iload_n 3, 1) := by decide +kernel
theorem dX10_cancel_52 : decode cX10_cancel 52 = .ok (.ireturn, 1) := by decide +kernel
theorem dX10_bookTold_0 : decode cX10_bookTold 0 = .ok (.aload_n 0, 1) := by decide +kernel
theorem dX10_bookTold_1 : decode cX10_bookTold 1 = .ok (.getfield 34, 3) := by decide +kernel
theorem dX10_bookTold_4 : decode cX10_bookTold 4 = .ok (.getfield 104, 3) := by decide +kernel
theorem dX10_bookTold_7 : decode cX10_bookTold 7 = .ok (.iload_n 1, 1) := by decide +kernel
theorem dX10_bookTold_8 : decode cX10_bookTold 8 = .ok (.iaload, 1) := by decide +kernel
theorem dX10_bookTold_9 : decode cX10_bookTold 9 = .ok (.iconst (-1), 1) := by decide +kernel
theorem dX10_bookTold_10 : decode cX10_bookTold 10 = .ok (.if_icmp .ne 7, 3) := by decide +kernel
theorem dX10_bookTold_13 : decode cX10_bookTold 13 = .ok (.iconst 1, 1) := by decide +kernel
theorem dX10_bookTold_14 : decode cX10_bookTold 14 = .ok (.goto 4, 3) := by decide +kernel
theorem dX10_bookTold_17 : decode cX10_bookTold 17 = .ok (.iconst 0, 1) := by decide +kernel
theorem dX10_bookTold_18 : decode cX10_bookTold 18 = .ok (.istore_n 3, 1) := by decide +kernel
theorem dX10_bookTold_19 : decode cX10_bookTold 19 = .ok (.iconst 0, 1) := by decide +kernel
theorem dX10_bookTold_20 : decode cX10_bookTold 20 = .ok (.istore 4, 2) := by decide +kernel
theorem dX10_bookTold_22 : decode cX10_bookTold 22 = .ok (.iconst 0, 1) := by decide +kernel
theorem dX10_bookTold_23 : decode cX10_bookTold 23 = .ok (.istore 5, 2) := by decide +kernel
theorem dX10_bookTold_25 : decode cX10_bookTold 25 = .ok (.iload 5, 2) := by decide +kernel
theorem dX10_bookTold_27 : decode cX10_bookTold 27 = .ok (.aload_n 0, 1) := by decide +kernel
theorem dX10_bookTold_28 : decode cX10_bookTold 28 = .ok (.getfield 51, 3) := by decide +kernel
theorem dX10_bookTold_31 : decode cX10_bookTold 31 = .ok (.if_icmp .ge 28, 3) := by decide +kernel
theorem dX10_bookTold_34 : decode cX10_bookTold 34 = .ok (.iload 4, 2) := by decide +kernel
theorem dX10_bookTold_36 : decode cX10_bookTold 36 = .ok (.aload_n 0, 1) := by decide +kernel
theorem dX10_bookTold_37 : decode cX10_bookTold 37 = .ok (.getfield 34, 3) := by decide +kernel
theorem dX10_bookTold_40 : decode cX10_bookTold 40 = .ok (.getfield 126, 3) := by decide +kernel
theorem dX10_bookTold_43 : decode cX10_bookTold 43 = .ok (.iload 5, 2) := by decide +kernel
theorem dX10_bookTold_45 : decode cX10_bookTold 45 = .ok (.iaload, 1) := by decide +kernel
theorem dX10_bookTold_46 : decode cX10_bookTold 46 = .ok (.iload_n 1, 1) := by decide +kernel
theorem dX10_bookTold_47 : decode cX10_bookTold 47 = .ok (.ishr, 1) := by decide +kernel
theorem dX10_bookTold_48 : decode cX10_bookTold 48 = .ok (.iconst 1, 1) := by decide +kernel
theorem dX10_bookTold_49 : decode cX10_bookTold 49 = .ok (.iand, 1) := by decide +kernel
theorem dX10_bookTold_50 : decode cX10_bookTold 50 = .ok (.iadd, 1) := by decide +kernel
theorem dX10_bookTold_51 : decode cX10_bookTold 51 = .ok (.istore 4, 2) := by decide +kernel
theorem dX10_bookTold_53 : decode cX10_bookTold 53 = .ok (.iinc 5 1, 3) := by decide +kernel
theorem dX10_bookTold_56 : decode cX10_bookTold 56 = .ok (.goto (-31), 3) := by decide +kernel
theorem dX10_bookTold_59 : decode cX10_bookTold 59 = .ok (.bipush 7, 2) := by decide +kernel
theorem dX10_bookTold_61 : decode cX10_bookTold 61 = .ok (.newarray .int, 2) := by decide +kernel
theorem dX10_bookTold_63 : decode cX10_bookTold 63 = .ok (.dup, 1) := by decide +kernel
theorem dX10_bookTold_64 : decode cX10_bookTold 64 = .ok (.iconst 0, 1) := by decide +kernel
theorem dX10_bookTold_65 : decode cX10_bookTold 65 = .ok (.aload_n 0, 1) := by decide +kernel
theorem dX10_bookTold_66 : decode cX10_bookTold 66 = .ok (.getfield 20, 3) := by decide +kernel
theorem dX10_bookTold_69 : decode cX10_bookTold 69 = .ok (.iload_n 1, 1) := by decide +kernel
theorem dX10_bookTold_70 : decode cX10_bookTold 70 = .ok (.iaload, 1) := by decide +kernel
theorem dX10_bookTold_71 : decode cX10_bookTold 71 = .ok (.iastore, 1) := by decide +kernel
theorem dX10_bookTold_72 : decode cX10_bookTold 72 = .ok (.dup, 1) := by decide +kernel
theorem dX10_bookTold_73 : decode cX10_bookTold 73 = .ok (.iconst 1, 1) := by decide +kernel
theorem dX10_bookTold_74 : decode cX10_bookTold 74 = .ok (.aload_n 0, 1) := by decide +kernel
theorem dX10_bookTold_75 : decode cX10_bookTold 75 = .ok (.getfield 34, 3) := by decide +kernel
theorem dX10_bookTold_78 : decode cX10_bookTold 78 = .ok (.getfield 104, 3) := by decide +kernel
theorem dX10_bookTold_81 : decode cX10_bookTold 81 = .ok (.iload_n 1, 1) := by decide +kernel
theorem dX10_bookTold_82 : decode cX10_bookTold 82 = .ok (.iaload, 1) := by decide +kernel
theorem dX10_bookTold_83 : decode cX10_bookTold 83 = .ok (.iastore, 1) := by decide +kernel
theorem dX10_bookTold_84 : decode cX10_bookTold 84 = .ok (.dup, 1) := by decide +kernel
theorem dX10_bookTold_85 : decode cX10_bookTold 85 = .ok (.iconst 2, 1) := by decide +kernel
theorem dX10_bookTold_86 : decode cX10_bookTold 86 = .ok (.iload_n 3, 1) := by decide +kernel
theorem dX10_bookTold_87 : decode cX10_bookTold 87 = .ok (.ifCond .eq 7, 3) := by decide +kernel
theorem dX10_bookTold_90 : decode cX10_bookTold 90 = .ok (.iconst (-1), 1) := by decide +kernel
theorem dX10_bookTold_91 : decode cX10_bookTold 91 = .ok (.goto 12, 3) := by decide +kernel
theorem dX10_bookTold_94 : decode cX10_bookTold 94 = .ok (.aload_n 0, 1) := by decide +kernel
theorem dX10_bookTold_95 : decode cX10_bookTold 95 = .ok (.getfield 34, 3) := by decide +kernel
theorem dX10_bookTold_98 : decode cX10_bookTold 98 = .ok (.getfield 129, 3) := by decide +kernel
theorem dX10_bookTold_101 : decode cX10_bookTold 101 = .ok (.iload_n 1, 1) := by decide +kernel
theorem dX10_bookTold_102 : decode cX10_bookTold 102 = .ok (.iaload, 1) := by decide +kernel
theorem dX10_bookTold_103 : decode cX10_bookTold 103 = .ok (.iastore, 1) := by decide +kernel
theorem dX10_bookTold_104 : decode cX10_bookTold 104 = .ok (.dup, 1) := by decide +kernel
theorem dX10_bookTold_105 : decode cX10_bookTold 105 = .ok (.iconst 3, 1) := by decide +kernel
theorem dX10_bookTold_106 : decode cX10_bookTold 106 = .ok (.aload_n 0, 1) := by decide +kernel
theorem dX10_bookTold_107 : decode cX10_bookTold 107 = .ok (.getfield 34, 3) := by decide +kernel
theorem dX10_bookTold_110 : decode cX10_bookTold 110 = .ok (.getfield 119, 3) := by decide +kernel
theorem dX10_bookTold_113 : decode cX10_bookTold 113 = .ok (.iload_n 1, 1) := by decide +kernel
theorem dX10_bookTold_114 : decode cX10_bookTold 114 = .ok (.iaload, 1) := by decide +kernel
theorem dX10_bookTold_115 : decode cX10_bookTold 115 = .ok (.iastore, 1) := by decide +kernel
theorem dX10_bookTold_116 : decode cX10_bookTold 116 = .ok (.dup, 1) := by decide +kernel
theorem dX10_bookTold_117 : decode cX10_bookTold 117 = .ok (.iconst 4, 1) := by decide +kernel
theorem dX10_bookTold_118 : decode cX10_bookTold 118 = .ok (.aload_n 0, 1) := by decide +kernel
theorem dX10_bookTold_119 : decode cX10_bookTold 119 = .ok (.getfield 34, 3) := by decide +kernel
theorem dX10_bookTold_122 : decode cX10_bookTold 122 = .ok (.getfield 119, 3) := by decide +kernel
theorem dX10_bookTold_125 : decode cX10_bookTold 125 = .ok (.iload_n 1, 1) := by decide +kernel
theorem dX10_bookTold_126 : decode cX10_bookTold 126 = .ok (.iaload, 1) := by decide +kernel
theorem dX10_bookTold_127 : decode cX10_bookTold 127 = .ok (.ifCond .ne 7, 3) := by decide +kernel
theorem dX10_bookTold_130 : decode cX10_bookTold 130 = .ok (.iconst (-1), 1) := by decide +kernel
theorem dX10_bookTold_131 : decode cX10_bookTold 131 = .ok (.goto 15, 3) := by decide +kernel
theorem dX10_bookTold_134 : decode cX10_bookTold 134 = .ok (.aload_n 0, 1) := by decide +kernel
theorem dX10_bookTold_135 : decode cX10_bookTold 135 = .ok (.getfield 34, 3) := by decide +kernel
theorem dX10_bookTold_138 : decode cX10_bookTold 138 = .ok (.getfield 116, 3) := by decide +kernel
theorem dX10_bookTold_141 : decode cX10_bookTold 141 = .ok (.bipush 10, 2) := by decide +kernel
theorem dX10_bookTold_143 : decode cX10_bookTold 143 = .ok (.iload_n 1, 1) := by decide +kernel
theorem dX10_bookTold_144 : decode cX10_bookTold 144 = .ok (.imul, 1) := by decide +kernel
theorem dX10_bookTold_145 : decode cX10_bookTold 145 = .ok (.iaload, 1) := by decide +kernel
theorem dX10_bookTold_146 : decode cX10_bookTold 146 = .ok (.iastore, 1) := by decide +kernel
theorem dX10_bookTold_147 : decode cX10_bookTold 147 = .ok (.dup, 1) := by decide +kernel
theorem dX10_bookTold_148 : decode cX10_bookTold 148 = .ok (.iconst 5, 1) := by decide +kernel
theorem dX10_bookTold_149 : decode cX10_bookTold 149 = .ok (.aload_n 0, 1) := by decide +kernel
theorem dX10_bookTold_150 : decode cX10_bookTold 150 = .ok (.getfield 34, 3) := by decide +kernel
theorem dX10_bookTold_153 : decode cX10_bookTold 153 = .ok (.getfield 132, 3) := by decide +kernel
theorem dX10_bookTold_156 : decode cX10_bookTold 156 = .ok (.iload_n 1, 1) := by decide +kernel
theorem dX10_bookTold_157 : decode cX10_bookTold 157 = .ok (.iaload, 1) := by decide +kernel
theorem dX10_bookTold_158 : decode cX10_bookTold 158 = .ok (.iastore, 1) := by decide +kernel
theorem dX10_bookTold_159 : decode cX10_bookTold 159 = .ok (.dup, 1) := by decide +kernel
theorem dX10_bookTold_160 : decode cX10_bookTold 160 = .ok (.bipush 6, 2) := by decide +kernel
theorem dX10_bookTold_162 : decode cX10_bookTold 162 = .ok (.iload 4, 2) := by decide +kernel
theorem dX10_bookTold_164 : decode cX10_bookTold 164 = .ok (.iastore, 1) := by decide +kernel
theorem dX10_bookTold_165 : decode cX10_bookTold 165 = .ok (.astore 5, 2) := by decide +kernel
theorem dX10_bookTold_167 : decode cX10_bookTold 167 = .ok (.aload 5, 2) := by decide +kernel
theorem dX10_bookTold_169 : decode cX10_bookTold 169 = .ok (.iload_n 2, 1) := by decide +kernel
theorem dX10_bookTold_170 : decode cX10_bookTold 170 = .ok (.iaload, 1) := by decide +kernel
theorem dX10_bookTold_171 : decode cX10_bookTold 171 = .ok (.ireturn, 1) := by decide +kernel
theorem dX10_book_0 : decode cX10_book 0 = .ok (.aload_n 0, 1) := by decide +kernel
theorem dX10_book_1 : decode cX10_book 1 = .ok (.iconst 0, 1) := by decide +kernel
theorem dX10_book_2 : decode cX10_book 2 = .ok (.putfield 41, 3) := by decide +kernel
theorem dX10_book_5 : decode cX10_book 5 = .ok (.aload_n 0, 1) := by decide +kernel
theorem dX10_book_6 : decode cX10_book 6 = .ok (.iload_n 1, 1) := by decide +kernel
theorem dX10_book_7 : decode cX10_book 7 = .ok (.invokevirtual 110, 3) := by decide +kernel
theorem dX10_book_10 : decode cX10_book 10 = .ok (.ifCond .eq 22, 3) := by decide +kernel
theorem dX10_book_13 : decode cX10_book 13 = .ok (.iload_n 2, 1) := by decide +kernel
theorem dX10_book_14 : decode cX10_book 14 = .ok (.iconst 0, 1) := by decide +kernel
theorem dX10_book_15 : decode cX10_book 15 = .ok (.bipush 6, 2) := by decide +kernel
theorem dX10_book_17 : decode cX10_book 17 = .ok (.invokestatic 47, 3) := by decide +kernel
theorem dX10_book_20 : decode cX10_book 20 = .ok (.ifCond .eq 12, 3) := by decide +kernel
theorem dX10_book_23 : decode cX10_book 23 = .ok (.aload_n 0, 1) := by decide +kernel
theorem dX10_book_24 : decode cX10_book 24 = .ok (.iload_n 1, 1) := by decide +kernel
theorem dX10_book_25 : decode cX10_book 25 = .ok (.iload_n 2, 1) := by decide +kernel
theorem dX10_book_26 : decode cX10_book 26 = .ok (.invokevirtual 135, 3) := by decide +kernel
theorem dX10_book_29 : decode cX10_book 29 = .ok (.goto 8, 3) := by decide +kernel
theorem dX10_book_32 : decode cX10_book 32 = .ok (.aload_n 0, 1) := by decide +kernel
theorem dX10_book_33 : decode cX10_book 33 = .ok (.iconst 1, 1) := by decide +kernel
theorem dX10_book_34 : decode cX10_book 34 = .ok (.invokevirtual 57, 3) := by decide +kernel
theorem dX10_book_37 : decode cX10_book 37 = .ok (.ireturn, 1) := by decide +kernel
theorem dX10_readerTold_0 : decode cX10_readerTold 0 = .ok (.iload_n 2, 1) := by decide +kernel
theorem dX10_readerTold_1 : decode cX10_readerTold 1 = .ok (.iconst 3, 1) := by decide +kernel
theorem dX10_readerTold_2 : decode cX10_readerTold 2 = .ok (.if_icmp .ge 14, 3) := by decide +kernel
theorem dX10_readerTold_5 : decode cX10_readerTold 5 = .ok (.aload_n 0, 1) := by decide +kernel
theorem dX10_readerTold_6 : decode cX10_readerTold 6 = .ok (.getfield 23, 3) := by decide +kernel
theorem dX10_readerTold_9 : decode cX10_readerTold 9 = .ok (.iconst 3, 1) := by decide +kernel
theorem dX10_readerTold_10 : decode cX10_readerTold 10 = .ok (.iload_n 1, 1) := by decide +kernel
theorem dX10_readerTold_11 : decode cX10_readerTold 11 = .ok (.imul, 1) := by decide +kernel
theorem dX10_readerTold_12 : decode cX10_readerTold 12 = .ok (.iload_n 2, 1) := by decide +kernel
theorem dX10_readerTold_13 : decode cX10_readerTold 13 = .ok (.iadd, 1) := by decide +kernel
theorem dX10_readerTold_14 : decode cX10_readerTold 14 = .ok (.iaload, 1) := by decide +kernel
theorem dX10_readerTold_15 : decode cX10_readerTold 15 = .ok (.ireturn, 1) := by decide +kernel
theorem dX10_readerTold_16 : decode cX10_readerTold 16 = .ok (.iconst 0, 1) := by decide +kernel
theorem dX10_readerTold_17 : decode cX10_readerTold 17 = .ok (.istore_n 3, 1) := by decide +kernel
theorem dX10_readerTold_18 : decode cX10_readerTold 18 = .ok (.iconst 0, 1) := by decide +kernel
theorem dX10_readerTold_19 : decode cX10_readerTold 19 = .ok (.istore 4, 2) := by decide +kernel
theorem dX10_readerTold_21 : decode cX10_readerTold 21 = .ok (.iload 4, 2) := by decide +kernel
theorem dX10_readerTold_23 : decode cX10_readerTold 23 = .ok (.aload_n 0, 1) := by decide +kernel
theorem dX10_readerTold_24 : decode cX10_readerTold 24 = .ok (.getfield 54, 3) := by decide +kernel
theorem dX10_readerTold_27 : decode cX10_readerTold 27 = .ok (.if_icmp .ge 31, 3) := by decide +kernel
theorem dX10_readerTold_30 : decode cX10_readerTold 30 = .ok (.iload_n 3, 1) := by decide +kernel
theorem dX10_readerTold_31 : decode cX10_readerTold 31 = .ok (.aload_n 0, 1) := by decide +kernel
theorem dX10_readerTold_32 : decode cX10_readerTold 32 = .ok (.getfield 34, 3) := by decide +kernel
theorem dX10_readerTold_35 : decode cX10_readerTold 35 = .ok (.iload_n 1, 1) := by decide +kernel
theorem dX10_readerTold_36 : decode cX10_readerTold 36 = .ok (.iload 4, 2) := by decide +kernel
theorem dX10_readerTold_38 : decode cX10_readerTold 38 = .ok (.invokevirtual 113, 3) := by decide +kernel
theorem dX10_readerTold_41 : decode cX10_readerTold 41 = .ok (.iconst (-1), 1) := by decide +kernel
theorem dX10_readerTold_42 : decode cX10_readerTold 42 = .ok (.if_icmp .ne 7, 3) := by decide +kernel
theorem dX10_readerTold_45 : decode cX10_readerTold 45 = .ok (.iconst 0, 1) := by decide +kernel
theorem dX10_readerTold_46 : decode cX10_readerTold 46 = .ok (.goto 4, 3) := by decide +kernel
theorem dX10_readerTold_49 : decode cX10_readerTold 49 = .ok (.iconst 1, 1) := by decide +kernel
theorem dX10_readerTold_50 : decode cX10_readerTold 50 = .ok (.iadd, 1) := by decide +kernel
theorem dX10_readerTold_51 : decode cX10_readerTold 51 = .ok (.istore_n 3, 1) := by decide +kernel
theorem dX10_readerTold_52 : decode cX10_readerTold 52 = .ok (.iinc 4 1, 3) := by decide +kernel
theorem dX10_readerTold_55 : decode cX10_readerTold 55 = .ok (.goto (-34), 3) := by decide +kernel
theorem dX10_readerTold_58 : decode cX10_readerTold 58 = .ok (.iload_n 2, 1) := by decide +kernel
theorem dX10_readerTold_59 : decode cX10_readerTold 59 = .ok (.iconst 3, 1) := by decide +kernel
theorem dX10_readerTold_60 : decode cX10_readerTold 60 = .ok (.if_icmp .ne 14, 3) := by decide +kernel
theorem dX10_readerTold_63 : decode cX10_readerTold 63 = .ok (.aload_n 0, 1) := by decide +kernel
theorem dX10_readerTold_64 : decode cX10_readerTold 64 = .ok (.getfield 34, 3) := by decide +kernel
theorem dX10_readerTold_67 : decode cX10_readerTold 67 = .ok (.iload_n 1, 1) := by decide +kernel
theorem dX10_readerTold_68 : decode cX10_readerTold 68 = .ok (.invokevirtual 138, 3) := by decide +kernel
theorem dX10_readerTold_71 : decode cX10_readerTold 71 = .ok (.goto 59, 3) := by decide +kernel
theorem dX10_readerTold_74 : decode cX10_readerTold 74 = .ok (.iload_n 2, 1) := by decide +kernel
theorem dX10_readerTold_75 : decode cX10_readerTold 75 = .ok (.iconst 4, 1) := by decide +kernel
theorem dX10_readerTold_76 : decode cX10_readerTold 76 = .ok (.if_icmp .ne 18, 3) := by decide +kernel
theorem dX10_readerTold_79 : decode cX10_readerTold 79 = .ok (.aload_n 0, 1) := by decide +kernel
theorem dX10_readerTold_80 : decode cX10_readerTold 80 = .ok (.getfield 34, 3) := by decide +kernel
theorem dX10_readerTold_83 : decode cX10_readerTold 83 = .ok (.getfield 126, 3) := by decide +kernel
theorem dX10_readerTold_86 : decode cX10_readerTold 86 = .ok (.iload_n 1, 1) := by decide +kernel
theorem dX10_readerTold_87 : decode cX10_readerTold 87 = .ok (.iaload, 1) := by decide +kernel
theorem dX10_readerTold_88 : decode cX10_readerTold 88 = .ok (.invokestatic 141, 3) := by decide +kernel
theorem dX10_readerTold_91 : decode cX10_readerTold 91 = .ok (.goto 39, 3) := by decide +kernel
theorem dX10_readerTold_94 : decode cX10_readerTold 94 = .ok (.iload_n 2, 1) := by decide +kernel
theorem dX10_readerTold_95 : decode cX10_readerTold 95 = .ok (.iconst 5, 1) := by decide +kernel
theorem dX10_readerTold_96 : decode cX10_readerTold 96 = .ok (.if_icmp .ne 15, 3) := by decide +kernel
theorem dX10_readerTold_99 : decode cX10_readerTold 99 = .ok (.aload_n 0, 1) := by decide +kernel
theorem dX10_readerTold_100 : decode cX10_readerTold 100 = .ok (.getfield 34, 3) := by decide +kernel
theorem dX10_readerTold_103 : decode cX10_readerTold 103 = .ok (.getfield 146, 3) := by decide +kernel
theorem dX10_readerTold_106 : decode cX10_readerTold 106 = .ok (.iload_n 1, 1) := by decide +kernel
theorem dX10_readerTold_107 : decode cX10_readerTold 107 = .ok (.iaload, 1) := by decide +kernel
theorem dX10_readerTold_108 : decode cX10_readerTold 108 = .ok (.goto 22, 3) := by decide +kernel
theorem dX10_readerTold_111 : decode cX10_readerTold 111 = .ok (.iload_n 2, 1) := by decide +kernel
theorem dX10_readerTold_112 : decode cX10_readerTold 112 = .ok (.bipush 6, 2) := by decide +kernel
theorem dX10_readerTold_114 : decode cX10_readerTold 114 = .ok (.if_icmp .ne 7, 3) := by decide +kernel
theorem dX10_readerTold_117 : decode cX10_readerTold 117 = .ok (.iload_n 3, 1) := by decide +kernel
theorem dX10_readerTold_118 : decode cX10_readerTold 118 = .ok (.goto 12, 3) := by decide +kernel
theorem dX10_readerTold_121 : decode cX10_readerTold 121 = .ok (.aload_n 0, 1) := by decide +kernel
theorem dX10_readerTold_122 : decode cX10_readerTold 122 = .ok (.getfield 34, 3) := by decide +kernel
theorem dX10_readerTold_125 : decode cX10_readerTold 125 = .ok (.getfield 149, 3) := by decide +kernel
theorem dX10_readerTold_128 : decode cX10_readerTold 128 = .ok (.iload_n 1, 1) := by decide +kernel
theorem dX10_readerTold_129 : decode cX10_readerTold 129 = .ok (.iaload, 1) := by decide +kernel
theorem dX10_readerTold_130 : decode cX10_readerTold 130 = .ok (.ireturn, 1) := by decide +kernel
theorem dX10_reader_0 : decode cX10_reader 0 = .ok (.aload_n 0, 1) := by decide +kernel
theorem dX10_reader_1 : decode cX10_reader 1 = .ok (.iconst 0, 1) := by decide +kernel
theorem dX10_reader_2 : decode cX10_reader 2 = .ok (.putfield 41, 3) := by decide +kernel
theorem dX10_reader_5 : decode cX10_reader 5 = .ok (.aload_n 0, 1) := by decide +kernel
theorem dX10_reader_6 : decode cX10_reader 6 = .ok (.iload_n 1, 1) := by decide +kernel
theorem dX10_reader_7 : decode cX10_reader 7 = .ok (.invokevirtual 107, 3) := by decide +kernel
theorem dX10_reader_10 : decode cX10_reader 10 = .ok (.ifCond .eq 22, 3) := by decide +kernel
theorem dX10_reader_13 : decode cX10_reader 13 = .ok (.iload_n 2, 1) := by decide +kernel
theorem dX10_reader_14 : decode cX10_reader 14 = .ok (.iconst 0, 1) := by decide +kernel
theorem dX10_reader_15 : decode cX10_reader 15 = .ok (.bipush 7, 2) := by decide +kernel
theorem dX10_reader_17 : decode cX10_reader 17 = .ok (.invokestatic 47, 3) := by decide +kernel
theorem dX10_reader_20 : decode cX10_reader 20 = .ok (.ifCond .eq 12, 3) := by decide +kernel
theorem dX10_reader_23 : decode cX10_reader 23 = .ok (.aload_n 0, 1) := by decide +kernel
theorem dX10_reader_24 : decode cX10_reader 24 = .ok (.iload_n 1, 1) := by decide +kernel
theorem dX10_reader_25 : decode cX10_reader 25 = .ok (.iload_n 2, 1) := by decide +kernel
theorem dX10_reader_26 : decode cX10_reader 26 = .ok (.invokevirtual 152, 3) := by decide +kernel
theorem dX10_reader_29 : decode cX10_reader 29 = .ok (.goto 8, 3) := by decide +kernel
theorem dX10_reader_32 : decode cX10_reader 32 = .ok (.aload_n 0, 1) := by decide +kernel
theorem dX10_reader_33 : decode cX10_reader 33 = .ok (.iconst 1, 1) := by decide +kernel
theorem dX10_reader_34 : decode cX10_reader 34 = .ok (.invokevirtual 57, 3) := by decide +kernel
theorem dX10_reader_37 : decode cX10_reader 37 = .ok (.ireturn, 1) := by decide +kernel
theorem dX10_pay_0 : decode cX10_pay 0 = .ok (.aload_n 0, 1) := by decide +kernel
theorem dX10_pay_1 : decode cX10_pay 1 = .ok (.iconst 0, 1) := by decide +kernel
theorem dX10_pay_2 : decode cX10_pay 2 = .ok (.putfield 41, 3) := by decide +kernel
theorem dX10_pay_5 : decode cX10_pay 5 = .ok (.aload_n 0, 1) := by decide +kernel
theorem dX10_pay_6 : decode cX10_pay 6 = .ok (.iload_n 1, 1) := by decide +kernel
theorem dX10_pay_7 : decode cX10_pay 7 = .ok (.invokevirtual 107, 3) := by decide +kernel
theorem dX10_pay_10 : decode cX10_pay 10 = .ok (.ifCond .ne 9, 3) := by decide +kernel
theorem dX10_pay_13 : decode cX10_pay 13 = .ok (.aload_n 0, 1) := by decide +kernel
theorem dX10_pay_14 : decode cX10_pay 14 = .ok (.iconst 1, 1) := by decide +kernel
theorem dX10_pay_15 : decode cX10_pay 15 = .ok (.invokevirtual 57, 3) := by decide +kernel
theorem dX10_pay_18 : decode cX10_pay 18 = .ok (.ireturn, 1) := by decide +kernel
theorem dX10_pay_19 : decode cX10_pay 19 = .ok (.iload_n 2, 1) := by decide +kernel
theorem dX10_pay_20 : decode cX10_pay 20 = .ok (.iconst 1, 1) := by decide +kernel
theorem dX10_pay_21 : decode cX10_pay 21 = .ok (.aload_n 0, 1) := by decide +kernel
theorem dX10_pay_22 : decode cX10_pay 22 = .ok (.getfield 34, 3) := by decide +kernel
theorem dX10_pay_25 : decode cX10_pay 25 = .ok (.getfield 146, 3) := by decide +kernel
theorem dX10_pay_28 : decode cX10_pay 28 = .ok (.iload_n 1, 1) := by decide +kernel
theorem dX10_pay_29 : decode cX10_pay 29 = .ok (.iaload, 1) := by decide +kernel
theorem dX10_pay_30 : decode cX10_pay 30 = .ok (.invokestatic 47, 3) := by decide +kernel
theorem dX10_pay_33 : decode cX10_pay 33 = .ok (.ifCond .ne 9, 3) := by decide +kernel
theorem dX10_pay_36 : decode cX10_pay 36 = .ok (.aload_n 0, 1) := by decide +kernel
theorem dX10_pay_37 : decode cX10_pay 37 = .ok (.iconst 2, 1) := by decide +kernel
theorem dX10_pay_38 : decode cX10_pay 38 = .ok (.invokevirtual 57, 3) := by decide +kernel
theorem dX10_pay_41 : decode cX10_pay 41 = .ok (.ireturn, 1) := by decide +kernel
theorem dX10_pay_42 : decode cX10_pay 42 = .ok (.aload_n 0, 1) := by decide +kernel
theorem dX10_pay_43 : decode cX10_pay 43 = .ok (.getfield 34, 3) := by decide +kernel
theorem dX10_pay_46 : decode cX10_pay 46 = .ok (.getfield 146, 3) := by decide +kernel
theorem dX10_pay_49 : decode cX10_pay 49 = .ok (.iload_n 1, 1) := by decide +kernel
theorem dX10_pay_50 : decode cX10_pay 50 = .ok (.dup2, 1) := by decide +kernel
theorem dX10_pay_51 : decode cX10_pay 51 = .ok (.iaload, 1) := by decide +kernel
theorem dX10_pay_52 : decode cX10_pay 52 = .ok (.iload_n 2, 1) := by decide +kernel
theorem dX10_pay_53 : decode cX10_pay 53 = .ok (.isub, 1) := by decide +kernel
theorem dX10_pay_54 : decode cX10_pay 54 = .ok (.iastore, 1) := by decide +kernel
theorem dX10_pay_55 : decode cX10_pay 55 = .ok (.aload_n 0, 1) := by decide +kernel
theorem dX10_pay_56 : decode cX10_pay 56 = .ok (.getfield 34, 3) := by decide +kernel
theorem dX10_pay_59 : decode cX10_pay 59 = .ok (.getfield 146, 3) := by decide +kernel
theorem dX10_pay_62 : decode cX10_pay 62 = .ok (.iload_n 1, 1) := by decide +kernel
theorem dX10_pay_63 : decode cX10_pay 63 = .ok (.iaload, 1) := by decide +kernel
theorem dX10_pay_64 : decode cX10_pay 64 = .ok (.ireturn, 1) := by decide +kernel
theorem dX10_pass_0 : decode cX10_pass 0 = .ok (.iconst 0, 1) := by decide +kernel
theorem dX10_pass_1 : decode cX10_pass 1 = .ok (.istore_n 2, 1) := by decide +kernel
theorem dX10_pass_2 : decode cX10_pass 2 = .ok (.iconst 0, 1) := by decide +kernel
theorem dX10_pass_3 : decode cX10_pass 3 = .ok (.istore_n 3, 1) := by decide +kernel
theorem dX10_pass_4 : decode cX10_pass 4 = .ok (.iload_n 3, 1) := by decide +kernel
theorem dX10_pass_5 : decode cX10_pass 5 = .ok (.iload_n 1, 1) := by decide +kernel
theorem dX10_pass_6 : decode cX10_pass 6 = .ok (.if_icmp .ge 16, 3) := by decide +kernel
theorem dX10_pass_9 : decode cX10_pass 9 = .ok (.iload_n 2, 1) := by decide +kernel
theorem dX10_pass_10 : decode cX10_pass 10 = .ok (.aload_n 0, 1) := by decide +kernel
theorem dX10_pass_11 : decode cX10_pass 11 = .ok (.invokevirtual 155, 3) := by decide +kernel
theorem dX10_pass_14 : decode cX10_pass 14 = .ok (.iadd, 1) := by decide +kernel
theorem dX10_pass_15 : decode cX10_pass 15 = .ok (.istore_n 2, 1) := by decide +kernel
theorem dX10_pass_16 : decode cX10_pass 16 = .ok (.iinc 3 1, 3) := by decide +kernel
theorem dX10_pass_19 : decode cX10_pass 19 = .ok (.goto (-15), 3) := by decide +kernel
theorem dX10_pass_22 : decode cX10_pass 22 = .ok (.iload_n 2, 1) := by decide +kernel
theorem dX10_pass_23 : decode cX10_pass 23 = .ok (.ireturn, 1) := by decide +kernel
theorem dX10_pass__0 : decode cX10_pass_ 0 = .ok (.aload_n 0, 1) := by decide +kernel
theorem dX10_pass__1 : decode cX10_pass_ 1 = .ok (.iconst 0, 1) := by decide +kernel
theorem dX10_pass__2 : decode cX10_pass_ 2 = .ok (.putfield 41, 3) := by decide +kernel
theorem dX10_pass__5 : decode cX10_pass_ 5 = .ok (.iload_n 1, 1) := by decide +kernel
theorem dX10_pass__6 : decode cX10_pass_ 6 = .ok (.iconst 1, 1) := by decide +kernel
theorem dX10_pass__7 : decode cX10_pass_ 7 = .ok (.bipush 60, 2) := by decide +kernel
theorem dX10_pass__9 : decode cX10_pass_ 9 = .ok (.invokestatic 47, 3) := by decide +kernel
theorem dX10_pass__12 : decode cX10_pass_ 12 = .ok (.ifCond .eq 14, 3) := by decide +kernel
theorem dX10_pass__15 : decode cX10_pass_ 15 = .ok (.aload_n 0, 1) := by decide +kernel
theorem dX10_pass__16 : decode cX10_pass_ 16 = .ok (.getfield 34, 3) := by decide +kernel
theorem dX10_pass__19 : decode cX10_pass_ 19 = .ok (.iload_n 1, 1) := by decide +kernel
theorem dX10_pass__20 : decode cX10_pass_ 20 = .ok (.invokestatic 159, 3) := by decide +kernel
theorem dX10_pass__23 : decode cX10_pass_ 23 = .ok (.goto 8, 3) := by decide +kernel
theorem dX10_pass__26 : decode cX10_pass_ 26 = .ok (.aload_n 0, 1) := by decide +kernel
theorem dX10_pass__27 : decode cX10_pass_ 27 = .ok (.iconst 1, 1) := by decide +kernel
theorem dX10_pass__28 : decode cX10_pass_ 28 = .ok (.invokevirtual 57, 3) := by decide +kernel
theorem dX10_pass__31 : decode cX10_pass_ 31 = .ok (.ireturn, 1) := by decide +kernel
theorem dX10_counted_0 : decode cX10_counted 0 = .ok (.iconst 0, 1) := by decide +kernel
theorem dX10_counted_1 : decode cX10_counted 1 = .ok (.istore_n 2, 1) := by decide +kernel
theorem dX10_counted_2 : decode cX10_counted 2 = .ok (.iconst 0, 1) := by decide +kernel
theorem dX10_counted_3 : decode cX10_counted 3 = .ok (.istore_n 3, 1) := by decide +kernel
theorem dX10_counted_4 : decode cX10_counted 4 = .ok (.iload_n 3, 1) := by decide +kernel
theorem dX10_counted_5 : decode cX10_counted 5 = .ok (.aload_n 0, 1) := by decide +kernel
theorem dX10_counted_6 : decode cX10_counted 6 = .ok (.getfield 65, 3) := by decide +kernel
theorem dX10_counted_9 : decode cX10_counted 9 = .ok (.if_icmp .ge 29, 3) := by decide +kernel
theorem dX10_counted_12 : decode cX10_counted 12 = .ok (.iload_n 2, 1) := by decide +kernel
theorem dX10_counted_13 : decode cX10_counted 13 = .ok (.aload_n 0, 1) := by decide +kernel
theorem dX10_counted_14 : decode cX10_counted 14 = .ok (.getfield 34, 3) := by decide +kernel
theorem dX10_counted_17 : decode cX10_counted 17 = .ok (.iload_n 3, 1) := by decide +kernel
theorem dX10_counted_18 : decode cX10_counted 18 = .ok (.invokevirtual 94, 3) := by decide +kernel
theorem dX10_counted_21 : decode cX10_counted 21 = .ok (.iconst (-1), 1) := by decide +kernel
theorem dX10_counted_22 : decode cX10_counted 22 = .ok (.if_icmp .ne 7, 3) := by decide +kernel
theorem dX10_counted_25 : decode cX10_counted 25 = .ok (.iconst 1, 1) := by decide +kernel
theorem dX10_counted_26 : decode cX10_counted 26 = .ok (.goto 4, 3) := by decide +kernel
theorem dX10_counted_29 : decode cX10_counted 29 = .ok (.iconst 0, 1) := by decide +kernel
theorem dX10_counted_30 : decode cX10_counted 30 = .ok (.iadd, 1) := by decide +kernel
theorem dX10_counted_31 : decode cX10_counted 31 = .ok (.istore_n 2, 1) := by decide +kernel
theorem dX10_counted_32 : decode cX10_counted 32 = .ok (.iinc 3 1, 3) := by decide +kernel
theorem dX10_counted_35 : decode cX10_counted 35 = .ok (.goto (-31), 3) := by decide +kernel
theorem dX10_counted_38 : decode cX10_counted 38 = .ok (.bipush 10, 2) := by decide +kernel
theorem dX10_counted_40 : decode cX10_counted 40 = .ok (.newarray .int, 2) := by decide +kernel
theorem dX10_counted_42 : decode cX10_counted 42 = .ok (.dup, 1) := by decide +kernel
theorem dX10_counted_43 : decode cX10_counted 43 = .ok (.iconst 0, 1) := by decide +kernel
theorem dX10_counted_44 : decode cX10_counted 44 = .ok (.aload_n 0, 1) := by decide +kernel
theorem dX10_counted_45 : decode cX10_counted 45 = .ok (.getfield 34, 3) := by decide +kernel
theorem dX10_counted_48 : decode cX10_counted 48 = .ok (.getfield 162, 3) := by decide +kernel
theorem dX10_counted_51 : decode cX10_counted 51 = .ok (.iastore, 1) := by decide +kernel
theorem dX10_counted_52 : decode cX10_counted 52 = .ok (.dup, 1) := by decide +kernel
theorem dX10_counted_53 : decode cX10_counted 53 = .ok (.iconst 1, 1) := by decide +kernel
theorem dX10_counted_54 : decode cX10_counted 54 = .ok (.aload_n 0, 1) := by decide +kernel
theorem dX10_counted_55 : decode cX10_counted 55 = .ok (.getfield 44, 3) := by decide +kernel
theorem dX10_counted_58 : decode cX10_counted 58 = .ok (.iastore, 1) := by decide +kernel
theorem dX10_counted_59 : decode cX10_counted 59 = .ok (.dup, 1) := by decide +kernel
theorem dX10_counted_60 : decode cX10_counted 60 = .ok (.iconst 2, 1) := by decide +kernel
theorem dX10_counted_61 : decode cX10_counted 61 = .ok (.aload_n 0, 1) := by decide +kernel
theorem dX10_counted_62 : decode cX10_counted 62 = .ok (.getfield 65, 3) := by decide +kernel
theorem dX10_counted_65 : decode cX10_counted 65 = .ok (.iastore, 1) := by decide +kernel
theorem dX10_counted_66 : decode cX10_counted 66 = .ok (.dup, 1) := by decide +kernel
theorem dX10_counted_67 : decode cX10_counted 67 = .ok (.iconst 3, 1) := by decide +kernel
theorem dX10_counted_68 : decode cX10_counted 68 = .ok (.aload_n 0, 1) := by decide +kernel
theorem dX10_counted_69 : decode cX10_counted 69 = .ok (.getfield 54, 3) := by decide +kernel
theorem dX10_counted_72 : decode cX10_counted 72 = .ok (.iastore, 1) := by decide +kernel
theorem dX10_counted_73 : decode cX10_counted 73 = .ok (.dup, 1) := by decide +kernel
theorem dX10_counted_74 : decode cX10_counted 74 = .ok (.iconst 4, 1) := by decide +kernel
theorem dX10_counted_75 : decode cX10_counted 75 = .ok (.aload_n 0, 1) := by decide +kernel
theorem dX10_counted_76 : decode cX10_counted 76 = .ok (.getfield 51, 3) := by decide +kernel
theorem dX10_counted_79 : decode cX10_counted 79 = .ok (.iastore, 1) := by decide +kernel
theorem dX10_counted_80 : decode cX10_counted 80 = .ok (.dup, 1) := by decide +kernel
theorem dX10_counted_81 : decode cX10_counted 81 = .ok (.iconst 5, 1) := by decide +kernel
theorem dX10_counted_82 : decode cX10_counted 82 = .ok (.aload_n 0, 1) := by decide +kernel
theorem dX10_counted_83 : decode cX10_counted 83 = .ok (.getfield 34, 3) := by decide +kernel
theorem dX10_counted_86 : decode cX10_counted 86 = .ok (.iconst (-1), 1) := by decide +kernel
theorem dX10_counted_87 : decode cX10_counted 87 = .ok (.invokevirtual 138, 3) := by decide +kernel
theorem dX10_counted_90 : decode cX10_counted 90 = .ok (.iastore, 1) := by decide +kernel
theorem dX10_counted_91 : decode cX10_counted 91 = .ok (.dup, 1) := by decide +kernel
theorem dX10_counted_92 : decode cX10_counted 92 = .ok (.bipush 6, 2) := by decide +kernel
theorem dX10_counted_94 : decode cX10_counted 94 = .ok (.aload_n 0, 1) := by decide +kernel
theorem dX10_counted_95 : decode cX10_counted 95 = .ok (.getfield 34, 3) := by decide +kernel
theorem dX10_counted_98 : decode cX10_counted 98 = .ok (.getfield 165, 3) := by decide +kernel
theorem dX10_counted_101 : decode cX10_counted 101 = .ok (.iastore, 1) := by decide +kernel
theorem dX10_counted_102 : decode cX10_counted 102 = .ok (.dup, 1) := by decide +kernel
theorem dX10_counted_103 : decode cX10_counted 103 = .ok (.bipush 7, 2) := by decide +kernel
theorem dX10_counted_105 : decode cX10_counted 105 = .ok (.aload_n 0, 1) := by decide +kernel
theorem dX10_counted_106 : decode cX10_counted 106 = .ok (.getfield 34, 3) := by decide +kernel
theorem dX10_counted_109 : decode cX10_counted 109 = .ok (.invokevirtual 168, 3) := by decide +kernel
theorem dX10_counted_112 : decode cX10_counted 112 = .ok (.iastore, 1) := by decide +kernel
theorem dX10_counted_113 : decode cX10_counted 113 = .ok (.dup, 1) := by decide +kernel
theorem dX10_counted_114 : decode cX10_counted 114 = .ok (.bipush 8, 2) := by decide +kernel
theorem dX10_counted_116 : decode cX10_counted 116 = .ok (.iload_n 2, 1) := by decide +kernel
theorem dX10_counted_117 : decode cX10_counted 117 = .ok (.iastore, 1) := by decide +kernel
theorem dX10_counted_118 : decode cX10_counted 118 = .ok (.dup, 1) := by decide +kernel
theorem dX10_counted_119 : decode cX10_counted 119 = .ok (.bipush 9, 2) := by decide +kernel
theorem dX10_counted_121 : decode cX10_counted 121 = .ok (.aload_n 0, 1) := by decide +kernel
theorem dX10_counted_122 : decode cX10_counted 122 = .ok (.getfield 34, 3) := by decide +kernel
theorem dX10_counted_125 : decode cX10_counted 125 = .ok (.getfield 171, 3) := by decide +kernel
theorem dX10_counted_128 : decode cX10_counted 128 = .ok (.iastore, 1) := by decide +kernel
theorem dX10_counted_129 : decode cX10_counted 129 = .ok (.astore_n 3, 1) := by decide +kernel
theorem dX10_counted_130 : decode cX10_counted 130 = .ok (.aload_n 3, 1) := by decide +kernel
theorem dX10_counted_131 : decode cX10_counted 131 = .ok (.iload_n 1, 1) := by decide +kernel
theorem dX10_counted_132 : decode cX10_counted 132 = .ok (.iaload, 1) := by decide +kernel
theorem dX10_counted_133 : decode cX10_counted 133 = .ok (.ireturn, 1) := by decide +kernel
theorem dX10_count_0 : decode cX10_count 0 = .ok (.aload_n 0, 1) := by decide +kernel
theorem dX10_count_1 : decode cX10_count 1 = .ok (.iconst 0, 1) := by decide +kernel
theorem dX10_count_2 : decode cX10_count 2 = .ok (.putfield 41, 3) := by decide +kernel
theorem dX10_count_5 : decode cX10_count 5 = .ok (.iload_n 1, 1) := by decide +kernel
theorem dX10_count_6 : decode cX10_count 6 = .ok (.iconst 0, 1) := by decide +kernel
theorem dX10_count_7 : decode cX10_count 7 = .ok (.bipush 9, 2) := by decide +kernel
theorem dX10_count_9 : decode cX10_count 9 = .ok (.invokestatic 47, 3) := by decide +kernel
theorem dX10_count_12 : decode cX10_count 12 = .ok (.ifCond .eq 11, 3) := by decide +kernel
theorem dX10_count_15 : decode cX10_count 15 = .ok (.aload_n 0, 1) := by decide +kernel
theorem dX10_count_16 : decode cX10_count 16 = .ok (.iload_n 1, 1) := by decide +kernel
theorem dX10_count_17 : decode cX10_count 17 = .ok (.invokevirtual 174, 3) := by decide +kernel
theorem dX10_count_20 : decode cX10_count 20 = .ok (.goto 8, 3) := by decide +kernel
theorem dX10_count_23 : decode cX10_count 23 = .ok (.aload_n 0, 1) := by decide +kernel
theorem dX10_count_24 : decode cX10_count 24 = .ok (.iconst 1, 1) := by decide +kernel
theorem dX10_count_25 : decode cX10_count 25 = .ok (.invokevirtual 57, 3) := by decide +kernel
theorem dX10_count_28 : decode cX10_count 28 = .ok (.ireturn, 1) := by decide +kernel
theorem dX10_foresee_0 : decode cX10_foresee 0 = .ok (.aload_n 0, 1) := by decide +kernel
theorem dX10_foresee_1 : decode cX10_foresee 1 = .ok (.iconst 0, 1) := by decide +kernel
theorem dX10_foresee_2 : decode cX10_foresee 2 = .ok (.putfield 41, 3) := by decide +kernel
theorem dX10_foresee_5 : decode cX10_foresee 5 = .ok (.iload_n 1, 1) := by decide +kernel
theorem dX10_foresee_6 : decode cX10_foresee 6 = .ok (.iconst 1, 1) := by decide +kernel
theorem dX10_foresee_7 : decode cX10_foresee 7 = .ok (.bipush 60, 2) := by decide +kernel
theorem dX10_foresee_9 : decode cX10_foresee 9 = .ok (.invokestatic 47, 3) := by decide +kernel
theorem dX10_foresee_12 : decode cX10_foresee 12 = .ok (.ifCond .ne 9, 3) := by decide +kernel
theorem dX10_foresee_15 : decode cX10_foresee 15 = .ok (.aload_n 0, 1) := by decide +kernel
theorem dX10_foresee_16 : decode cX10_foresee 16 = .ok (.iconst 1, 1) := by decide +kernel
theorem dX10_foresee_17 : decode cX10_foresee 17 = .ok (.invokevirtual 57, 3) := by decide +kernel
theorem dX10_foresee_20 : decode cX10_foresee 20 = .ok (.ireturn, 1) := by decide +kernel
theorem dX10_foresee_21 : decode cX10_foresee 21 = .ok (.iload_n 2, 1) := by decide +kernel
theorem dX10_foresee_22 : decode cX10_foresee 22 = .ok (.iconst 0, 1) := by decide +kernel
theorem dX10_foresee_23 : decode cX10_foresee 23 = .ok (.iconst 3, 1) := by decide +kernel
theorem dX10_foresee_24 : decode cX10_foresee 24 = .ok (.invokestatic 47, 3) := by decide +kernel
theorem dX10_foresee_27 : decode cX10_foresee 27 = .ok (.ifCond .ne 9, 3) := by decide +kernel
theorem dX10_foresee_30 : decode cX10_foresee 30 = .ok (.aload_n 0, 1) := by decide +kernel
theorem dX10_foresee_31 : decode cX10_foresee 31 = .ok (.iconst 2, 1) := by decide +kernel
theorem dX10_foresee_32 : decode cX10_foresee 32 = .ok (.invokevirtual 57, 3) := by decide +kernel
theorem dX10_foresee_35 : decode cX10_foresee 35 = .ok (.ireturn, 1) := by decide +kernel
theorem dX10_foresee_36 : decode cX10_foresee 36 = .ok (.aload_n 0, 1) := by decide +kernel
theorem dX10_foresee_37 : decode cX10_foresee 37 = .ok (.getfield 38, 3) := by decide +kernel
theorem dX10_foresee_40 : decode cX10_foresee 40 = .ok (.aload_n 0, 1) := by decide +kernel
theorem dX10_foresee_41 : decode cX10_foresee 41 = .ok (.getfield 34, 3) := by decide +kernel
theorem dX10_foresee_44 : decode cX10_foresee 44 = .ok (.invokevirtual 177, 3) := by decide +kernel
theorem dX10_foresee_47 : decode cX10_foresee 47 = .ok (.aload_n 0, 1) := by decide +kernel
theorem dX10_foresee_48 : decode cX10_foresee 48 = .ok (.getfield 38, 3) := by decide +kernel
theorem dX10_foresee_51 : decode cX10_foresee 51 = .ok (.iload_n 1, 1) := by decide +kernel
theorem dX10_foresee_52 : decode cX10_foresee 52 = .ok (.invokestatic 159, 3) := by decide +kernel
theorem dX10_foresee_55 : decode cX10_foresee 55 = .ok (.istore_n 3, 1) := by decide +kernel
theorem dX10_foresee_56 : decode cX10_foresee 56 = .ok (.iload_n 2, 1) := by decide +kernel
theorem dX10_foresee_57 : decode cX10_foresee 57 = .ok (.ifCond .ne 7, 3) := by decide +kernel
theorem dX10_foresee_60 : decode cX10_foresee 60 = .ok (.iload_n 3, 1) := by decide +kernel
theorem dX10_foresee_61 : decode cX10_foresee 61 = .ok (.goto 49, 3) := by decide +kernel
theorem dX10_foresee_64 : decode cX10_foresee 64 = .ok (.iload_n 2, 1) := by decide +kernel
theorem dX10_foresee_65 : decode cX10_foresee 65 = .ok (.iconst 1, 1) := by decide +kernel
theorem dX10_foresee_66 : decode cX10_foresee 66 = .ok (.if_icmp .ne 21, 3) := by decide +kernel
theorem dX10_foresee_69 : decode cX10_foresee 69 = .ok (.aload_n 0, 1) := by decide +kernel
theorem dX10_foresee_70 : decode cX10_foresee 70 = .ok (.getfield 38, 3) := by decide +kernel
theorem dX10_foresee_73 : decode cX10_foresee 73 = .ok (.invokevirtual 181, 3) := by decide +kernel
theorem dX10_foresee_76 : decode cX10_foresee 76 = .ok (.aload_n 0, 1) := by decide +kernel
theorem dX10_foresee_77 : decode cX10_foresee 77 = .ok (.getfield 34, 3) := by decide +kernel
theorem dX10_foresee_80 : decode cX10_foresee 80 = .ok (.invokevirtual 181, 3) := by decide +kernel
theorem dX10_foresee_83 : decode cX10_foresee 83 = .ok (.isub, 1) := by decide +kernel
theorem dX10_foresee_84 : decode cX10_foresee 84 = .ok (.goto 26, 3) := by decide +kernel
theorem dX10_foresee_87 : decode cX10_foresee 87 = .ok (.iload_n 2, 1) := by decide +kernel
theorem dX10_foresee_88 : decode cX10_foresee 88 = .ok (.iconst 2, 1) := by decide +kernel
theorem dX10_foresee_89 : decode cX10_foresee 89 = .ok (.if_icmp .ne 14, 3) := by decide +kernel
theorem dX10_foresee_92 : decode cX10_foresee 92 = .ok (.aload_n 0, 1) := by decide +kernel
theorem dX10_foresee_93 : decode cX10_foresee 93 = .ok (.getfield 38, 3) := by decide +kernel
theorem dX10_foresee_96 : decode cX10_foresee 96 = .ok (.iconst (-1), 1) := by decide +kernel
theorem dX10_foresee_97 : decode cX10_foresee 97 = .ok (.invokevirtual 138, 3) := by decide +kernel
theorem dX10_foresee_100 : decode cX10_foresee 100 = .ok (.goto 10, 3) := by decide +kernel
theorem dX10_foresee_103 : decode cX10_foresee 103 = .ok (.aload_n 0, 1) := by decide +kernel
theorem dX10_foresee_104 : decode cX10_foresee 104 = .ok (.getfield 38, 3) := by decide +kernel
theorem dX10_foresee_107 : decode cX10_foresee 107 = .ok (.invokevirtual 168, 3) := by decide +kernel
theorem dX10_foresee_110 : decode cX10_foresee 110 = .ok (.ireturn, 1) := by decide +kernel
theorem dX10_gets_0 : decode cX10_gets 0 = .ok (.aload_n 0, 1) := by decide +kernel
theorem dX10_gets_1 : decode cX10_gets 1 = .ok (.iconst 0, 1) := by decide +kernel
theorem dX10_gets_2 : decode cX10_gets 2 = .ok (.putfield 41, 3) := by decide +kernel
theorem dX10_gets_5 : decode cX10_gets 5 = .ok (.aload_n 0, 1) := by decide +kernel
theorem dX10_gets_6 : decode cX10_gets 6 = .ok (.iload_n 1, 1) := by decide +kernel
theorem dX10_gets_7 : decode cX10_gets 7 = .ok (.invokevirtual 107, 3) := by decide +kernel
theorem dX10_gets_10 : decode cX10_gets 10 = .ok (.ifCond .eq 11, 3) := by decide +kernel
theorem dX10_gets_13 : decode cX10_gets 13 = .ok (.aload_n 0, 1) := by decide +kernel
theorem dX10_gets_14 : decode cX10_gets 14 = .ok (.iload_n 2, 1) := by decide +kernel
theorem dX10_gets_15 : decode cX10_gets 15 = .ok (.invokevirtual 110, 3) := by decide +kernel
theorem dX10_gets_18 : decode cX10_gets 18 = .ok (.ifCond .ne 9, 3) := by decide +kernel
theorem dX10_gets_21 : decode cX10_gets 21 = .ok (.aload_n 0, 1) := by decide +kernel
theorem dX10_gets_22 : decode cX10_gets 22 = .ok (.iconst 1, 1) := by decide +kernel
theorem dX10_gets_23 : decode cX10_gets 23 = .ok (.invokevirtual 57, 3) := by decide +kernel
theorem dX10_gets_26 : decode cX10_gets 26 = .ok (.ireturn, 1) := by decide +kernel
theorem dX10_gets_27 : decode cX10_gets 27 = .ok (.aload_n 0, 1) := by decide +kernel
theorem dX10_gets_28 : decode cX10_gets 28 = .ok (.getfield 38, 3) := by decide +kernel
theorem dX10_gets_31 : decode cX10_gets 31 = .ok (.aload_n 0, 1) := by decide +kernel
theorem dX10_gets_32 : decode cX10_gets 32 = .ok (.getfield 34, 3) := by decide +kernel
theorem dX10_gets_35 : decode cX10_gets 35 = .ok (.invokevirtual 177, 3) := by decide +kernel
theorem dX10_gets_38 : decode cX10_gets 38 = .ok (.iconst 0, 1) := by decide +kernel
theorem dX10_gets_39 : decode cX10_gets 39 = .ok (.istore_n 3, 1) := by decide +kernel
theorem dX10_gets_40 : decode cX10_gets 40 = .ok (.aload_n 0, 1) := by decide +kernel
theorem dX10_gets_41 : decode cX10_gets 41 = .ok (.getfield 38, 3) := by decide +kernel
theorem dX10_gets_44 : decode cX10_gets 44 = .ok (.getfield 104, 3) := by decide +kernel
theorem dX10_gets_47 : decode cX10_gets 47 = .ok (.iload_n 2, 1) := by decide +kernel
theorem dX10_gets_48 : decode cX10_gets 48 = .ok (.iaload, 1) := by decide +kernel
theorem dX10_gets_49 : decode cX10_gets 49 = .ok (.iload_n 1, 1) := by decide +kernel
theorem dX10_gets_50 : decode cX10_gets 50 = .ok (.if_icmp .eq 23, 3) := by decide +kernel
theorem dX10_gets_53 : decode cX10_gets 53 = .ok (.iload_n 3, 1) := by decide +kernel
theorem dX10_gets_54 : decode cX10_gets 54 = .ok (.bipush 100, 2) := by decide +kernel
theorem dX10_gets_56 : decode cX10_gets 56 = .ok (.if_icmp .ge 17, 3) := by decide +kernel
theorem dX10_gets_59 : decode cX10_gets 59 = .ok (.aload_n 0, 1) := by decide +kernel
theorem dX10_gets_60 : decode cX10_gets 60 = .ok (.getfield 38, 3) := by decide +kernel
theorem dX10_gets_63 : decode cX10_gets 63 = .ok (.invokevirtual 155, 3) := by decide +kernel
theorem dX10_gets_66 : decode cX10_gets 66 = .ok (.pop, 1) := by decide +kernel
theorem dX10_gets_67 : decode cX10_gets 67 = .ok (.iinc 3 1, 3) := by decide +kernel
theorem dX10_gets_70 : decode cX10_gets 70 = .ok (.goto (-30), 3) := by decide +kernel
theorem dX10_gets_73 : decode cX10_gets 73 = .ok (.aload_n 0, 1) := by decide +kernel
theorem dX10_gets_74 : decode cX10_gets 74 = .ok (.getfield 38, 3) := by decide +kernel
theorem dX10_gets_77 : decode cX10_gets 77 = .ok (.getfield 104, 3) := by decide +kernel
theorem dX10_gets_80 : decode cX10_gets 80 = .ok (.iload_n 2, 1) := by decide +kernel
theorem dX10_gets_81 : decode cX10_gets 81 = .ok (.iaload, 1) := by decide +kernel
theorem dX10_gets_82 : decode cX10_gets 82 = .ok (.iload_n 1, 1) := by decide +kernel
theorem dX10_gets_83 : decode cX10_gets 83 = .ok (.if_icmp .ne 7, 3) := by decide +kernel
theorem dX10_gets_86 : decode cX10_gets 86 = .ok (.iload_n 3, 1) := by decide +kernel
theorem dX10_gets_87 : decode cX10_gets 87 = .ok (.goto 4, 3) := by decide +kernel
theorem dX10_gets_90 : decode cX10_gets 90 = .ok (.iconst (-1), 1) := by decide +kernel
theorem dX10_gets_91 : decode cX10_gets 91 = .ok (.ireturn, 1) := by decide +kernel
theorem dX10_advise_0 : decode cX10_advise 0 = .ok (.aload_n 0, 1) := by decide +kernel
theorem dX10_advise_1 : decode cX10_advise 1 = .ok (.iconst 0, 1) := by decide +kernel
theorem dX10_advise_2 : decode cX10_advise 2 = .ok (.putfield 41, 3) := by decide +kernel
theorem dX10_advise_5 : decode cX10_advise 5 = .ok (.iload_n 1, 1) := by decide +kernel
theorem dX10_advise_6 : decode cX10_advise 6 = .ok (.iconst 1, 1) := by decide +kernel
theorem dX10_advise_7 : decode cX10_advise 7 = .ok (.bipush 30, 2) := by decide +kernel
theorem dX10_advise_9 : decode cX10_advise 9 = .ok (.invokestatic 47, 3) := by decide +kernel
theorem dX10_advise_12 : decode cX10_advise 12 = .ok (.ifCond .ne 9, 3) := by decide +kernel
theorem dX10_advise_15 : decode cX10_advise 15 = .ok (.aload_n 0, 1) := by decide +kernel
theorem dX10_advise_16 : decode cX10_advise 16 = .ok (.iconst 1, 1) := by decide +kernel
theorem dX10_advise_17 : decode cX10_advise 17 = .ok (.invokevirtual 57, 3) := by decide +kernel
theorem dX10_advise_20 : decode cX10_advise 20 = .ok (.ireturn, 1) := by decide +kernel
theorem dX10_advise_21 : decode cX10_advise 21 = .ok (.aload_n 0, 1) := by decide +kernel
theorem dX10_advise_22 : decode cX10_advise 22 = .ok (.getfield 34, 3) := by decide +kernel
theorem dX10_advise_25 : decode cX10_advise 25 = .ok (.getfield 75, 3) := by decide +kernel
theorem dX10_advise_28 : decode cX10_advise 28 = .ok (.bipush 8, 2) := by decide +kernel
theorem dX10_advise_30 : decode cX10_advise 30 = .ok (.if_icmp .ne 9, 3) := by decide +kernel
theorem dX10_advise_33 : decode cX10_advise 33 = .ok (.aload_n 0, 1) := by decide +kernel
theorem dX10_advise_34 : decode cX10_advise 34 = .ok (.iconst 2, 1) := by decide +kernel
theorem dX10_advise_35 : decode cX10_advise 35 = .ok (.invokevirtual 57, 3) := by decide +kernel
theorem dX10_advise_38 : decode cX10_advise 38 = .ok (.ireturn, 1) := by decide +kernel
theorem dX10_advise_39 : decode cX10_advise 39 = .ok (.aload_n 0, 1) := by decide +kernel
theorem dX10_advise_40 : decode cX10_advise 40 = .ok (.getfield 38, 3) := by decide +kernel
theorem dX10_advise_43 : decode cX10_advise 43 = .ok (.aload_n 0, 1) := by decide +kernel
theorem dX10_advise_44 : decode cX10_advise 44 = .ok (.getfield 34, 3) := by decide +kernel
theorem dX10_advise_47 : decode cX10_advise 47 = .ok (.invokevirtual 177, 3) := by decide +kernel
theorem dX10_advise_50 : decode cX10_advise 50 = .ok (.iconst (-1), 1) := by decide +kernel
theorem dX10_advise_51 : decode cX10_advise 51 = .ok (.istore_n 2, 1) := by decide +kernel
theorem dX10_advise_52 : decode cX10_advise 52 = .ok (.aload_n 0, 1) := by decide +kernel
theorem dX10_advise_53 : decode cX10_advise 53 = .ok (.getfield 38, 3) := by decide +kernel
theorem dX10_advise_56 : decode cX10_advise 56 = .ok (.iload_n 1, 1) := by decide +kernel
theorem dX10_advise_57 : decode cX10_advise 57 = .ok (.invokestatic 159, 3) := by decide +kernel
theorem dX10_advise_60 : decode cX10_advise 60 = .ok (.istore_n 3, 1) := by decide +kernel
theorem dX10_advise_61 : decode cX10_advise 61 = .ok (.iconst 0, 1) := by decide +kernel
theorem dX10_advise_62 : decode cX10_advise 62 = .ok (.istore 4, 2) := by decide +kernel
theorem dX10_advise_64 : decode cX10_advise 64 = .ok (.iload 4, 2) := by decide +kernel
theorem dX10_advise_66 : decode cX10_advise 66 = .ok (.aload_n 0, 1) := by decide +kernel
theorem dX10_advise_67 : decode cX10_advise 67 = .ok (.getfield 44, 3) := by decide +kernel
theorem dX10_advise_70 : decode cX10_advise 70 = .ok (.if_icmp .ge 75, 3) := by decide +kernel
theorem dX10_advise_73 : decode cX10_advise 73 = .ok (.aload_n 0, 1) := by decide +kernel
theorem dX10_advise_74 : decode cX10_advise 74 = .ok (.getfield 38, 3) := by decide +kernel
theorem dX10_advise_77 : decode cX10_advise 77 = .ok (.aload_n 0, 1) := by decide +kernel
theorem dX10_advise_78 : decode cX10_advise 78 = .ok (.getfield 34, 3) := by decide +kernel
theorem dX10_advise_81 : decode cX10_advise 81 = .ok (.invokevirtual 177, 3) := by decide +kernel
theorem dX10_advise_84 : decode cX10_advise 84 = .ok (.aload_n 0, 1) := by decide +kernel
theorem dX10_advise_85 : decode cX10_advise 85 = .ok (.getfield 38, 3) := by decide +kernel
theorem dX10_advise_88 : decode cX10_advise 88 = .ok (.getfield 78, 3) := by decide +kernel
theorem dX10_advise_91 : decode cX10_advise 91 = .ok (.aload_n 0, 1) := by decide +kernel
theorem dX10_advise_92 : decode cX10_advise 92 = .ok (.getfield 38, 3) := by decide +kernel
theorem dX10_advise_95 : decode cX10_advise 95 = .ok (.getfield 75, 3) := by decide +kernel
theorem dX10_advise_98 : decode cX10_advise 98 = .ok (.iload 4, 2) := by decide +kernel
theorem dX10_advise_100 : decode cX10_advise 100 = .ok (.iastore, 1) := by decide +kernel
theorem dX10_advise_101 : decode cX10_advise 101 = .ok (.aload_n 0, 1) := by decide +kernel
theorem dX10_advise_102 : decode cX10_advise 102 = .ok (.getfield 38, 3) := by decide +kernel
theorem dX10_advise_105 : decode cX10_advise 105 = .ok (.dup, 1) := by decide +kernel
theorem dX10_advise_106 : decode cX10_advise 106 = .ok (.getfield 75, 3) := by decide +kernel
theorem dX10_advise_109 : decode cX10_advise 109 = .ok (.iconst 1, 1) := by decide +kernel
theorem dX10_advise_110 : decode cX10_advise 110 = .ok (.iadd, 1) := by decide +kernel
theorem dX10_advise_111 : decode cX10_advise 111 = .ok (.putfield 75, 3) := by decide +kernel
theorem dX10_advise_114 : decode cX10_advise 114 = .ok (.aload_n 0, 1) := by decide +kernel
theorem dX10_advise_115 : decode cX10_advise 115 = .ok (.getfield 38, 3) := by decide +kernel
theorem dX10_advise_118 : decode cX10_advise 118 = .ok (.iload_n 1, 1) := by decide +kernel
theorem dX10_advise_119 : decode cX10_advise 119 = .ok (.invokestatic 159, 3) := by decide +kernel
theorem dX10_advise_122 : decode cX10_advise 122 = .ok (.istore 5, 2) := by decide +kernel
theorem dX10_advise_124 : decode cX10_advise 124 = .ok (.iload 5, 2) := by decide +kernel
theorem dX10_advise_126 : decode cX10_advise 126 = .ok (.iload_n 3, 1) := by decide +kernel
theorem dX10_advise_127 : decode cX10_advise 127 = .ok (.if_icmp .gt 6, 3) := by decide +kernel
theorem dX10_advise_130 : decode cX10_advise 130 = .ok (.goto 9, 3) := by decide +kernel
theorem dX10_advise_133 : decode cX10_advise 133 = .ok (.iload 4, 2) := by decide +kernel
theorem dX10_advise_135 : decode cX10_advise 135 = .ok (.istore_n 2, 1) := by decide +kernel
theorem dX10_advise_136 : decode cX10_advise 136 = .ok (.iload 5, 2) := by decide +kernel
theorem dX10_advise_138 : decode cX10_advise 138 = .ok (.istore_n 3, 1) := by decide +kernel
theorem dX10_advise_139 : decode cX10_advise 139 = .ok (.iinc 4 1, 3) := by decide +kernel
theorem dX10_advise_142 : decode cX10_advise 142 = .ok (.goto (-78), 3) := by decide +kernel
theorem dX10_advise_145 : decode cX10_advise 145 = .ok (.iload_n 2, 1) := by decide +kernel
theorem dX10_advise_146 : decode cX10_advise 146 = .ok (.ireturn, 1) := by decide +kernel
theorem dX10_daily_0 : decode cX10_daily 0 = .ok (.aload_n 0, 1) := by decide +kernel
theorem dX10_daily_1 : decode cX10_daily 1 = .ok (.iconst 0, 1) := by decide +kernel
theorem dX10_daily_2 : decode cX10_daily 2 = .ok (.putfield 41, 3) := by decide +kernel
theorem dX10_daily_5 : decode cX10_daily 5 = .ok (.aload_n 0, 1) := by decide +kernel
theorem dX10_daily_6 : decode cX10_daily 6 = .ok (.getfield 34, 3) := by decide +kernel
theorem dX10_daily_9 : decode cX10_daily 9 = .ok (.getfield 162, 3) := by decide +kernel
theorem dX10_daily_12 : decode cX10_daily 12 = .ok (.ifCond .ne 7, 3) := by decide +kernel
theorem dX10_daily_15 : decode cX10_daily 15 = .ok (.dconst 0, 1) := by decide +kernel
theorem dX10_daily_16 : decode cX10_daily 16 = .ok (.goto 20, 3) := by decide +kernel
theorem dX10_daily_19 : decode cX10_daily 19 = .ok (.aload_n 0, 1) := by decide +kernel
theorem dX10_daily_20 : decode cX10_daily 20 = .ok (.getfield 34, 3) := by decide +kernel
theorem dX10_daily_23 : decode cX10_daily 23 = .ok (.getfield 165, 3) := by decide +kernel
theorem dX10_daily_26 : decode cX10_daily 26 = .ok (.i2d, 1) := by decide +kernel
theorem dX10_daily_27 : decode cX10_daily 27 = .ok (.aload_n 0, 1) := by decide +kernel
theorem dX10_daily_28 : decode cX10_daily 28 = .ok (.getfield 34, 3) := by decide +kernel
theorem dX10_daily_31 : decode cX10_daily 31 = .ok (.getfield 162, 3) := by decide +kernel
theorem dX10_daily_34 : decode cX10_daily 34 = .ok (.i2d, 1) := by decide +kernel
theorem dX10_daily_35 : decode cX10_daily 35 = .ok (.ddiv, 1) := by decide +kernel
theorem dX10_daily_36 : decode cX10_daily 36 = .ok (.dreturn, 1) := by decide +kernel
theorem dX10_digest_0 : decode cX10_digest 0 = .ok (.aload_n 0, 1) := by decide +kernel
theorem dX10_digest_1 : decode cX10_digest 1 = .ok (.iconst 0, 1) := by decide +kernel
theorem dX10_digest_2 : decode cX10_digest 2 = .ok (.putfield 41, 3) := by decide +kernel
theorem dX10_digest_5 : decode cX10_digest 5 = .ok (.ldc2_w 184, 3) := by decide +kernel
theorem dX10_digest_8 : decode cX10_digest 8 = .ok (.lstore_n 1, 1) := by decide +kernel
theorem dX10_digest_9 : decode cX10_digest 9 = .ok (.iconst 0, 1) := by decide +kernel
theorem dX10_digest_10 : decode cX10_digest 10 = .ok (.istore_n 3, 1) := by decide +kernel
theorem dX10_digest_11 : decode cX10_digest 11 = .ok (.iload_n 3, 1) := by decide +kernel
theorem dX10_digest_12 : decode cX10_digest 12 = .ok (.bipush 10, 2) := by decide +kernel
theorem dX10_digest_14 : decode cX10_digest 14 = .ok (.if_icmp .ge 22, 3) := by decide +kernel
theorem dX10_digest_17 : decode cX10_digest 17 = .ok (.lload_n 1, 1) := by decide +kernel
theorem dX10_digest_18 : decode cX10_digest 18 = .ok (.ldc2_w 186, 3) := by decide +kernel
theorem dX10_digest_21 : decode cX10_digest 21 = .ok (.lmul, 1) := by decide +kernel
theorem dX10_digest_22 : decode cX10_digest 22 = .ok (.aload_n 0, 1) := by decide +kernel
theorem dX10_digest_23 : decode cX10_digest 23 = .ok (.iload_n 3, 1) := by decide +kernel
theorem dX10_digest_24 : decode cX10_digest 24 = .ok (.invokevirtual 174, 3) := by decide +kernel
theorem dX10_digest_27 : decode cX10_digest 27 = .ok (.i2l, 1) := by decide +kernel
theorem dX10_digest_28 : decode cX10_digest 28 = .ok (.ladd, 1) := by decide +kernel
theorem dX10_digest_29 : decode cX10_digest 29 = .ok (.lstore_n 1, 1) := by decide +kernel
theorem dX10_digest_30 : decode cX10_digest 30 = .ok (.iinc 3 1, 3) := by decide +kernel
theorem dX10_digest_33 : decode cX10_digest 33 = .ok (.goto (-22), 3) := by decide +kernel
theorem dX10_digest_36 : decode cX10_digest 36 = .ok (.aload_n 0, 1) := by decide +kernel
theorem dX10_digest_37 : decode cX10_digest 37 = .ok (.getfield 13, 3) := by decide +kernel
theorem dX10_digest_40 : decode cX10_digest 40 = .ok (.astore_n 3, 1) := by decide +kernel
theorem dX10_digest_41 : decode cX10_digest 41 = .ok (.aload_n 3, 1) := by decide +kernel
theorem dX10_digest_42 : decode cX10_digest 42 = .ok (.arraylength, 1) := by decide +kernel
theorem dX10_digest_43 : decode cX10_digest 43 = .ok (.istore 4, 2) := by decide +kernel
theorem dX10_digest_45 : decode cX10_digest 45 = .ok (.iconst 0, 1) := by decide +kernel
theorem dX10_digest_46 : decode cX10_digest 46 = .ok (.istore 5, 2) := by decide +kernel
theorem dX10_digest_48 : decode cX10_digest 48 = .ok (.iload 5, 2) := by decide +kernel
theorem dX10_digest_50 : decode cX10_digest 50 = .ok (.iload 4, 2) := by decide +kernel
theorem dX10_digest_52 : decode cX10_digest 52 = .ok (.if_icmp .ge 25, 3) := by decide +kernel
theorem dX10_digest_55 : decode cX10_digest 55 = .ok (.aload_n 3, 1) := by decide +kernel
theorem dX10_digest_56 : decode cX10_digest 56 = .ok (.iload 5, 2) := by decide +kernel
theorem dX10_digest_58 : decode cX10_digest 58 = .ok (.iaload, 1) := by decide +kernel
theorem dX10_digest_59 : decode cX10_digest 59 = .ok (.istore 6, 2) := by decide +kernel
theorem dX10_digest_61 : decode cX10_digest 61 = .ok (.lload_n 1, 1) := by decide +kernel
theorem dX10_digest_62 : decode cX10_digest 62 = .ok (.ldc2_w 186, 3) := by decide +kernel
theorem dX10_digest_65 : decode cX10_digest 65 = .ok (.lmul, 1) := by decide +kernel
theorem dX10_digest_66 : decode cX10_digest 66 = .ok (.iload 6, 2) := by decide +kernel
theorem dX10_digest_68 : decode cX10_digest 68 = .ok (.i2l, 1) := by decide +kernel
theorem dX10_digest_69 : decode cX10_digest 69 = .ok (.ladd, 1) := by decide +kernel
theorem dX10_digest_70 : decode cX10_digest 70 = .ok (.lstore_n 1, 1) := by decide +kernel
theorem dX10_digest_71 : decode cX10_digest 71 = .ok (.iinc 5 1, 3) := by decide +kernel
theorem dX10_digest_74 : decode cX10_digest 74 = .ok (.goto (-26), 3) := by decide +kernel
theorem dX10_digest_77 : decode cX10_digest 77 = .ok (.iconst 0, 1) := by decide +kernel
theorem dX10_digest_78 : decode cX10_digest 78 = .ok (.istore_n 3, 1) := by decide +kernel
theorem dX10_digest_79 : decode cX10_digest 79 = .ok (.iload_n 3, 1) := by decide +kernel
theorem dX10_digest_80 : decode cX10_digest 80 = .ok (.aload_n 0, 1) := by decide +kernel
theorem dX10_digest_81 : decode cX10_digest 81 = .ok (.getfield 34, 3) := by decide +kernel
theorem dX10_digest_84 : decode cX10_digest 84 = .ok (.getfield 75, 3) := by decide +kernel
theorem dX10_digest_87 : decode cX10_digest 87 = .ok (.if_icmp .ge 26, 3) := by decide +kernel
theorem dX10_digest_90 : decode cX10_digest 90 = .ok (.lload_n 1, 1) := by decide +kernel
theorem dX10_digest_91 : decode cX10_digest 91 = .ok (.ldc2_w 186, 3) := by decide +kernel
theorem dX10_digest_94 : decode cX10_digest 94 = .ok (.lmul, 1) := by decide +kernel
theorem dX10_digest_95 : decode cX10_digest 95 = .ok (.aload_n 0, 1) := by decide +kernel
theorem dX10_digest_96 : decode cX10_digest 96 = .ok (.getfield 34, 3) := by decide +kernel
theorem dX10_digest_99 : decode cX10_digest 99 = .ok (.getfield 78, 3) := by decide +kernel
theorem dX10_digest_102 : decode cX10_digest 102 = .ok (.iload_n 3, 1) := by decide +kernel
theorem dX10_digest_103 : decode cX10_digest 103 = .ok (.iaload, 1) := by decide +kernel
theorem dX10_digest_104 : decode cX10_digest 104 = .ok (.i2l, 1) := by decide +kernel
theorem dX10_digest_105 : decode cX10_digest 105 = .ok (.ladd, 1) := by decide +kernel
theorem dX10_digest_106 : decode cX10_digest 106 = .ok (.lstore_n 1, 1) := by decide +kernel
theorem dX10_digest_107 : decode cX10_digest 107 = .ok (.iinc 3 1, 3) := by decide +kernel
theorem dX10_digest_110 : decode cX10_digest 110 = .ok (.goto (-31), 3) := by decide +kernel
theorem dX10_digest_113 : decode cX10_digest 113 = .ok (.iconst 0, 1) := by decide +kernel
theorem dX10_digest_114 : decode cX10_digest 114 = .ok (.istore_n 3, 1) := by decide +kernel
theorem dX10_digest_115 : decode cX10_digest 115 = .ok (.iload_n 3, 1) := by decide +kernel
theorem dX10_digest_116 : decode cX10_digest 116 = .ok (.aload_n 0, 1) := by decide +kernel
theorem dX10_digest_117 : decode cX10_digest 117 = .ok (.getfield 44, 3) := by decide +kernel
theorem dX10_digest_120 : decode cX10_digest 120 = .ok (.if_icmp .ge 39, 3) := by decide +kernel
theorem dX10_digest_123 : decode cX10_digest 123 = .ok (.iconst 0, 1) := by decide +kernel
theorem dX10_digest_124 : decode cX10_digest 124 = .ok (.istore 4, 2) := by decide +kernel
theorem dX10_digest_126 : decode cX10_digest 126 = .ok (.iload 4, 2) := by decide +kernel
theorem dX10_digest_128 : decode cX10_digest 128 = .ok (.iconst 5, 1) := by decide +kernel
theorem dX10_digest_129 : decode cX10_digest 129 = .ok (.if_icmp .ge 24, 3) := by decide +kernel
theorem dX10_digest_132 : decode cX10_digest 132 = .ok (.lload_n 1, 1) := by decide +kernel
theorem dX10_digest_133 : decode cX10_digest 133 = .ok (.ldc2_w 186, 3) := by decide +kernel
theorem dX10_digest_136 : decode cX10_digest 136 = .ok (.lmul, 1) := by decide +kernel
theorem dX10_digest_137 : decode cX10_digest 137 = .ok (.aload_n 0, 1) := by decide +kernel
theorem dX10_digest_138 : decode cX10_digest 138 = .ok (.iload_n 3, 1) := by decide +kernel
theorem dX10_digest_139 : decode cX10_digest 139 = .ok (.iload 4, 2) := by decide +kernel
theorem dX10_digest_141 : decode cX10_digest 141 = .ok (.invokevirtual 87, 3) := by decide +kernel
theorem dX10_digest_144 : decode cX10_digest 144 = .ok (.i2l, 1) := by decide +kernel
theorem dX10_digest_145 : decode cX10_digest 145 = .ok (.ladd, 1) := by decide +kernel
theorem dX10_digest_146 : decode cX10_digest 146 = .ok (.lstore_n 1, 1) := by decide +kernel
theorem dX10_digest_147 : decode cX10_digest 147 = .ok (.iinc 4 1, 3) := by decide +kernel
theorem dX10_digest_150 : decode cX10_digest 150 = .ok (.goto (-24), 3) := by decide +kernel
theorem dX10_digest_153 : decode cX10_digest 153 = .ok (.iinc 3 1, 3) := by decide +kernel
theorem dX10_digest_156 : decode cX10_digest 156 = .ok (.goto (-41), 3) := by decide +kernel
theorem dX10_digest_159 : decode cX10_digest 159 = .ok (.iconst 0, 1) := by decide +kernel
theorem dX10_digest_160 : decode cX10_digest 160 = .ok (.istore_n 3, 1) := by decide +kernel
theorem dX10_digest_161 : decode cX10_digest 161 = .ok (.iload_n 3, 1) := by decide +kernel
theorem dX10_digest_162 : decode cX10_digest 162 = .ok (.aload_n 0, 1) := by decide +kernel
theorem dX10_digest_163 : decode cX10_digest 163 = .ok (.getfield 65, 3) := by decide +kernel
theorem dX10_digest_166 : decode cX10_digest 166 = .ok (.if_icmp .ge 40, 3) := by decide +kernel
theorem dX10_digest_169 : decode cX10_digest 169 = .ok (.iconst 0, 1) := by decide +kernel
theorem dX10_digest_170 : decode cX10_digest 170 = .ok (.istore 4, 2) := by decide +kernel
theorem dX10_digest_172 : decode cX10_digest 172 = .ok (.iload 4, 2) := by decide +kernel
theorem dX10_digest_174 : decode cX10_digest 174 = .ok (.bipush 6, 2) := by decide +kernel
theorem dX10_digest_176 : decode cX10_digest 176 = .ok (.if_icmp .ge 24, 3) := by decide +kernel
theorem dX10_digest_179 : decode cX10_digest 179 = .ok (.lload_n 1, 1) := by decide +kernel
theorem dX10_digest_180 : decode cX10_digest 180 = .ok (.ldc2_w 186, 3) := by decide +kernel
theorem dX10_digest_183 : decode cX10_digest 183 = .ok (.lmul, 1) := by decide +kernel
theorem dX10_digest_184 : decode cX10_digest 184 = .ok (.aload_n 0, 1) := by decide +kernel
theorem dX10_digest_185 : decode cX10_digest 185 = .ok (.iload_n 3, 1) := by decide +kernel
theorem dX10_digest_186 : decode cX10_digest 186 = .ok (.iload 4, 2) := by decide +kernel
theorem dX10_digest_188 : decode cX10_digest 188 = .ok (.invokevirtual 97, 3) := by decide +kernel
theorem dX10_digest_191 : decode cX10_digest 191 = .ok (.i2l, 1) := by decide +kernel
theorem dX10_digest_192 : decode cX10_digest 192 = .ok (.ladd, 1) := by decide +kernel
theorem dX10_digest_193 : decode cX10_digest 193 = .ok (.lstore_n 1, 1) := by decide +kernel
theorem dX10_digest_194 : decode cX10_digest 194 = .ok (.iinc 4 1, 3) := by decide +kernel
theorem dX10_digest_197 : decode cX10_digest 197 = .ok (.goto (-25), 3) := by decide +kernel
theorem dX10_digest_200 : decode cX10_digest 200 = .ok (.iinc 3 1, 3) := by decide +kernel
theorem dX10_digest_203 : decode cX10_digest 203 = .ok (.goto (-42), 3) := by decide +kernel
theorem dX10_digest_206 : decode cX10_digest 206 = .ok (.iconst 0, 1) := by decide +kernel
theorem dX10_digest_207 : decode cX10_digest 207 = .ok (.istore_n 3, 1) := by decide +kernel
theorem dX10_digest_208 : decode cX10_digest 208 = .ok (.iload_n 3, 1) := by decide +kernel
theorem dX10_digest_209 : decode cX10_digest 209 = .ok (.aload_n 0, 1) := by decide +kernel
theorem dX10_digest_210 : decode cX10_digest 210 = .ok (.getfield 54, 3) := by decide +kernel
theorem dX10_digest_213 : decode cX10_digest 213 = .ok (.if_icmp .ge 86, 3) := by decide +kernel
theorem dX10_digest_216 : decode cX10_digest 216 = .ok (.iconst 0, 1) := by decide +kernel
theorem dX10_digest_217 : decode cX10_digest 217 = .ok (.istore 4, 2) := by decide +kernel
theorem dX10_digest_219 : decode cX10_digest 219 = .ok (.iload 4, 2) := by decide +kernel
theorem dX10_digest_221 : decode cX10_digest 221 = .ok (.bipush 7, 2) := by decide +kernel
theorem dX10_digest_223 : decode cX10_digest 223 = .ok (.if_icmp .ge 24, 3) := by decide +kernel
theorem dX10_digest_226 : decode cX10_digest 226 = .ok (.lload_n 1, 1) := by decide +kernel
theorem dX10_digest_227 : decode cX10_digest 227 = .ok (.ldc2_w 186, 3) := by decide +kernel
theorem dX10_digest_230 : decode cX10_digest 230 = .ok (.lmul, 1) := by decide +kernel
theorem dX10_digest_231 : decode cX10_digest 231 = .ok (.aload_n 0, 1) := by decide +kernel
theorem dX10_digest_232 : decode cX10_digest 232 = .ok (.iload_n 3, 1) := by decide +kernel
theorem dX10_digest_233 : decode cX10_digest 233 = .ok (.iload 4, 2) := by decide +kernel
theorem dX10_digest_235 : decode cX10_digest 235 = .ok (.invokevirtual 135, 3) := by decide +kernel
theorem dX10_digest_238 : decode cX10_digest 238 = .ok (.i2l, 1) := by decide +kernel
theorem dX10_digest_239 : decode cX10_digest 239 = .ok (.ladd, 1) := by decide +kernel
theorem dX10_digest_240 : decode cX10_digest 240 = .ok (.lstore_n 1, 1) := by decide +kernel
theorem dX10_digest_241 : decode cX10_digest 241 = .ok (.iinc 4 1, 3) := by decide +kernel
theorem dX10_digest_244 : decode cX10_digest 244 = .ok (.goto (-25), 3) := by decide +kernel
theorem dX10_digest_247 : decode cX10_digest 247 = .ok (.iconst 0, 1) := by decide +kernel
theorem dX10_digest_248 : decode cX10_digest 248 = .ok (.istore 4, 2) := by decide +kernel
theorem dX10_digest_250 : decode cX10_digest 250 = .ok (.iload 4, 2) := by decide +kernel
theorem dX10_digest_252 : decode cX10_digest 252 = .ok (.aload_n 0, 1) := by decide +kernel
theorem dX10_digest_253 : decode cX10_digest 253 = .ok (.getfield 34, 3) := by decide +kernel
theorem dX10_digest_256 : decode cX10_digest 256 = .ok (.getfield 119, 3) := by decide +kernel
theorem dX10_digest_259 : decode cX10_digest 259 = .ok (.iload_n 3, 1) := by decide +kernel
theorem dX10_digest_260 : decode cX10_digest 260 = .ok (.iaload, 1) := by decide +kernel
theorem dX10_digest_261 : decode cX10_digest 261 = .ok (.if_icmp .ge 32, 3) := by decide +kernel
theorem dX10_digest_264 : decode cX10_digest 264 = .ok (.lload_n 1, 1) := by decide +kernel
theorem dX10_digest_265 : decode cX10_digest 265 = .ok (.ldc2_w 186, 3) := by decide +kernel
theorem dX10_digest_268 : decode cX10_digest 268 = .ok (.lmul, 1) := by decide +kernel
theorem dX10_digest_269 : decode cX10_digest 269 = .ok (.aload_n 0, 1) := by decide +kernel
theorem dX10_digest_270 : decode cX10_digest 270 = .ok (.getfield 34, 3) := by decide +kernel
theorem dX10_digest_273 : decode cX10_digest 273 = .ok (.getfield 116, 3) := by decide +kernel
theorem dX10_digest_276 : decode cX10_digest 276 = .ok (.bipush 10, 2) := by decide +kernel
theorem dX10_digest_278 : decode cX10_digest 278 = .ok (.iload_n 3, 1) := by decide +kernel
theorem dX10_digest_279 : decode cX10_digest 279 = .ok (.imul, 1) := by decide +kernel
theorem dX10_digest_280 : decode cX10_digest 280 = .ok (.iload 4, 2) := by decide +kernel
theorem dX10_digest_282 : decode cX10_digest 282 = .ok (.iadd, 1) := by decide +kernel
theorem dX10_digest_283 : decode cX10_digest 283 = .ok (.iaload, 1) := by decide +kernel
theorem dX10_digest_284 : decode cX10_digest 284 = .ok (.i2l, 1) := by decide +kernel
theorem dX10_digest_285 : decode cX10_digest 285 = .ok (.ladd, 1) := by decide +kernel
theorem dX10_digest_286 : decode cX10_digest 286 = .ok (.lstore_n 1, 1) := by decide +kernel
theorem dX10_digest_287 : decode cX10_digest 287 = .ok (.iinc 4 1, 3) := by decide +kernel
theorem dX10_digest_290 : decode cX10_digest 290 = .ok (.goto (-40), 3) := by decide +kernel
theorem dX10_digest_293 : decode cX10_digest 293 = .ok (.iinc 3 1, 3) := by decide +kernel
theorem dX10_digest_296 : decode cX10_digest 296 = .ok (.goto (-88), 3) := by decide +kernel
theorem dX10_digest_299 : decode cX10_digest 299 = .ok (.iconst 0, 1) := by decide +kernel
theorem dX10_digest_300 : decode cX10_digest 300 = .ok (.istore_n 3, 1) := by decide +kernel
theorem dX10_digest_301 : decode cX10_digest 301 = .ok (.iload_n 3, 1) := by decide +kernel
theorem dX10_digest_302 : decode cX10_digest 302 = .ok (.aload_n 0, 1) := by decide +kernel
theorem dX10_digest_303 : decode cX10_digest 303 = .ok (.getfield 51, 3) := by decide +kernel
theorem dX10_digest_306 : decode cX10_digest 306 = .ok (.if_icmp .ge 40, 3) := by decide +kernel
theorem dX10_digest_309 : decode cX10_digest 309 = .ok (.iconst 0, 1) := by decide +kernel
theorem dX10_digest_310 : decode cX10_digest 310 = .ok (.istore 4, 2) := by decide +kernel
theorem dX10_digest_312 : decode cX10_digest 312 = .ok (.iload 4, 2) := by decide +kernel
theorem dX10_digest_314 : decode cX10_digest 314 = .ok (.bipush 8, 2) := by decide +kernel
theorem dX10_digest_316 : decode cX10_digest 316 = .ok (.if_icmp .ge 24, 3) := by decide +kernel
theorem dX10_digest_319 : decode cX10_digest 319 = .ok (.lload_n 1, 1) := by decide +kernel
theorem dX10_digest_320 : decode cX10_digest 320 = .ok (.ldc2_w 186, 3) := by decide +kernel
theorem dX10_digest_323 : decode cX10_digest 323 = .ok (.lmul, 1) := by decide +kernel
theorem dX10_digest_324 : decode cX10_digest 324 = .ok (.aload_n 0, 1) := by decide +kernel
theorem dX10_digest_325 : decode cX10_digest 325 = .ok (.iload_n 3, 1) := by decide +kernel
theorem dX10_digest_326 : decode cX10_digest 326 = .ok (.iload 4, 2) := by decide +kernel
theorem dX10_digest_328 : decode cX10_digest 328 = .ok (.invokevirtual 152, 3) := by decide +kernel
theorem dX10_digest_331 : decode cX10_digest 331 = .ok (.i2l, 1) := by decide +kernel
theorem dX10_digest_332 : decode cX10_digest 332 = .ok (.ladd, 1) := by decide +kernel
theorem dX10_digest_333 : decode cX10_digest 333 = .ok (.lstore_n 1, 1) := by decide +kernel
theorem dX10_digest_334 : decode cX10_digest 334 = .ok (.iinc 4 1, 3) := by decide +kernel
theorem dX10_digest_337 : decode cX10_digest 337 = .ok (.goto (-25), 3) := by decide +kernel
theorem dX10_digest_340 : decode cX10_digest 340 = .ok (.iinc 3 1, 3) := by decide +kernel
theorem dX10_digest_343 : decode cX10_digest 343 = .ok (.goto (-42), 3) := by decide +kernel
theorem dX10_digest_346 : decode cX10_digest 346 = .ok (.lload_n 1, 1) := by decide +kernel
theorem dX10_digest_347 : decode cX10_digest 347 = .ok (.lreturn, 1) := by decide +kernel
end
section
theorem dL_addHalt_0 : decode cL_addHalt 0 = .ok (.aload_n 1, 1) := by decide +kernel
theorem dL_addHalt_1 : decode cL_addHalt 1 = .ok (.iconst 0, 1) := by decide +kernel
theorem dL_addHalt_2 : decode cL_addHalt 2 = .ok (.aload_n 0, 1) := by decide +kernel
theorem dL_addHalt_3 : decode cL_addHalt 3 = .ok (.invokevirtual 7, 3) := by decide +kernel
theorem dL_addHalt_6 : decode cL_addHalt 6 = .ok (.i2l, 1) := by decide +kernel
theorem dL_addHalt_7 : decode cL_addHalt 7 = .ok (.lastore, 1) := by decide +kernel
theorem dL_addHalt_8 : decode cL_addHalt 8 = .ok (.goto 6, 3) := by decide +kernel
theorem dL_addHalt_11 : decode cL_addHalt 11 = .ok (.astore_n 2, 1) := by decide +kernel
theorem dL_addHalt_12 : decode cL_addHalt 12 = .ok (.iconst 1, 1) := by decide +kernel
theorem dL_addHalt_13 : decode cL_addHalt 13 = .ok (.ireturn, 1) := by decide +kernel
theorem dL_addHalt_14 : decode cL_addHalt 14 = .ok (.iconst 0, 1) := by decide +kernel
theorem dL_addHalt_15 : decode cL_addHalt 15 = .ok (.ireturn, 1) := by decide +kernel
theorem dL_addLane_0 : decode cL_addLane 0 = .ok (.aload 5, 2) := by decide +kernel
theorem dL_addLane_2 : decode cL_addLane 2 = .ok (.iconst 0, 1) := by decide +kernel
theorem dL_addLane_3 : decode cL_addLane 3 = .ok (.aload_n 0, 1) := by decide +kernel
theorem dL_addLane_4 : decode cL_addLane 4 = .ok (.iload_n 1, 1) := by decide +kernel
theorem dL_addLane_5 : decode cL_addLane 5 = .ok (.iload_n 2, 1) := by decide +kernel
theorem dL_addLane_6 : decode cL_addLane 6 = .ok (.iload_n 3, 1) := by decide +kernel
theorem dL_addLane_7 : decode cL_addLane 7 = .ok (.iload 4, 2) := by decide +kernel
theorem dL_addLane_9 : decode cL_addLane 9 = .ok (.invokevirtual 15, 3) := by decide +kernel
theorem dL_addLane_12 : decode cL_addLane 12 = .ok (.i2l, 1) := by decide +kernel
theorem dL_addLane_13 : decode cL_addLane 13 = .ok (.lastore, 1) := by decide +kernel
theorem dL_addLane_14 : decode cL_addLane 14 = .ok (.goto 15, 3) := by decide +kernel
theorem dL_addLane_17 : decode cL_addLane 17 = .ok (.astore 6, 2) := by decide +kernel
theorem dL_addLane_19 : decode cL_addLane 19 = .ok (.iconst 1, 1) := by decide +kernel
theorem dL_addLane_20 : decode cL_addLane 20 = .ok (.ireturn, 1) := by decide +kernel
theorem dL_addLane_21 : decode cL_addLane 21 = .ok (.astore 6, 2) := by decide +kernel
theorem dL_addLane_23 : decode cL_addLane 23 = .ok (.iconst 2, 1) := by decide +kernel
theorem dL_addLane_24 : decode cL_addLane 24 = .ok (.ireturn, 1) := by decide +kernel
theorem dL_addLane_25 : decode cL_addLane 25 = .ok (.astore 6, 2) := by decide +kernel
theorem dL_addLane_27 : decode cL_addLane 27 = .ok (.iconst 3, 1) := by decide +kernel
theorem dL_addLane_28 : decode cL_addLane 28 = .ok (.ireturn, 1) := by decide +kernel
theorem dL_addLane_29 : decode cL_addLane 29 = .ok (.iconst 0, 1) := by decide +kernel
theorem dL_addLane_30 : decode cL_addLane 30 = .ok (.ireturn, 1) := by decide +kernel
theorem dL_setRain_0 : decode cL_setRain 0 = .ok (.aload_n 3, 1) := by decide +kernel
theorem dL_setRain_1 : decode cL_setRain 1 = .ok (.iconst 0, 1) := by decide +kernel
theorem dL_setRain_2 : decode cL_setRain 2 = .ok (.aload_n 0, 1) := by decide +kernel
theorem dL_setRain_3 : decode cL_setRain 3 = .ok (.iload_n 1, 1) := by decide +kernel
theorem dL_setRain_4 : decode cL_setRain 4 = .ok (.iload_n 2, 1) := by decide +kernel
theorem dL_setRain_5 : decode cL_setRain 5 = .ok (.invokevirtual 23, 3) := by decide +kernel
theorem dL_setRain_8 : decode cL_setRain 8 = .ok (.i2l, 1) := by decide +kernel
theorem dL_setRain_9 : decode cL_setRain 9 = .ok (.lastore, 1) := by decide +kernel
theorem dL_setRain_10 : decode cL_setRain 10 = .ok (.goto 11, 3) := by decide +kernel
theorem dL_setRain_13 : decode cL_setRain 13 = .ok (.astore 4, 2) := by decide +kernel
theorem dL_setRain_15 : decode cL_setRain 15 = .ok (.iconst 1, 1) := by decide +kernel
theorem dL_setRain_16 : decode cL_setRain 16 = .ok (.ireturn, 1) := by decide +kernel
theorem dL_setRain_17 : decode cL_setRain 17 = .ok (.astore 4, 2) := by decide +kernel
theorem dL_setRain_19 : decode cL_setRain 19 = .ok (.iconst 2, 1) := by decide +kernel
theorem dL_setRain_20 : decode cL_setRain 20 = .ok (.ireturn, 1) := by decide +kernel
theorem dL_setRain_21 : decode cL_setRain 21 = .ok (.iconst 0, 1) := by decide +kernel
theorem dL_setRain_22 : decode cL_setRain 22 = .ok (.ireturn, 1) := by decide +kernel
theorem dL_setRound_0 : decode cL_setRound 0 = .ok (.aload_n 3, 1) := by decide +kernel
theorem dL_setRound_1 : decode cL_setRound 1 = .ok (.iconst 0, 1) := by decide +kernel
theorem dL_setRound_2 : decode cL_setRound 2 = .ok (.aload_n 0, 1) := by decide +kernel
theorem dL_setRound_3 : decode cL_setRound 3 = .ok (.iload_n 1, 1) := by decide +kernel
theorem dL_setRound_4 : decode cL_setRound 4 = .ok (.iload_n 2, 1) := by decide +kernel
theorem dL_setRound_5 : decode cL_setRound 5 = .ok (.invokevirtual 27, 3) := by decide +kernel
theorem dL_setRound_8 : decode cL_setRound 8 = .ok (.i2l, 1) := by decide +kernel
theorem dL_setRound_9 : decode cL_setRound 9 = .ok (.lastore, 1) := by decide +kernel
theorem dL_setRound_10 : decode cL_setRound 10 = .ok (.goto 7, 3) := by decide +kernel
theorem dL_setRound_13 : decode cL_setRound 13 = .ok (.astore 4, 2) := by decide +kernel
theorem dL_setRound_15 : decode cL_setRound 15 = .ok (.iconst 1, 1) := by decide +kernel
theorem dL_setRound_16 : decode cL_setRound 16 = .ok (.ireturn, 1) := by decide +kernel
theorem dL_setRound_17 : decode cL_setRound 17 = .ok (.iconst 0, 1) := by decide +kernel
theorem dL_setRound_18 : decode cL_setRound 18 = .ok (.ireturn, 1) := by decide +kernel
theorem dL_halt_0 : decode cL_halt 0 = .ok (.aload_n 3, 1) := by decide +kernel
theorem dL_halt_1 : decode cL_halt 1 = .ok (.iconst 0, 1) := by decide +kernel
theorem dL_halt_2 : decode cL_halt 2 = .ok (.aload_n 0, 1) := by decide +kernel
theorem dL_halt_3 : decode cL_halt 3 = .ok (.iload_n 1, 1) := by decide +kernel
theorem dL_halt_4 : decode cL_halt 4 = .ok (.iload_n 2, 1) := by decide +kernel
theorem dL_halt_5 : decode cL_halt 5 = .ok (.invokevirtual 30, 3) := by decide +kernel
theorem dL_halt_8 : decode cL_halt 8 = .ok (.i2l, 1) := by decide +kernel
theorem dL_halt_9 : decode cL_halt 9 = .ok (.lastore, 1) := by decide +kernel
theorem dL_halt_10 : decode cL_halt 10 = .ok (.goto 7, 3) := by decide +kernel
theorem dL_halt_13 : decode cL_halt 13 = .ok (.astore 4, 2) := by decide +kernel
theorem dL_halt_15 : decode cL_halt 15 = .ok (.iconst 1, 1) := by decide +kernel
theorem dL_halt_16 : decode cL_halt 16 = .ok (.ireturn, 1) := by decide +kernel
theorem dL_halt_17 : decode cL_halt 17 = .ok (.iconst 0, 1) := by decide +kernel
theorem dL_halt_18 : decode cL_halt 18 = .ok (.ireturn, 1) := by decide +kernel
theorem dL_lane_0 : decode cL_lane 0 = .ok (.aload_n 3, 1) := by decide +kernel
theorem dL_lane_1 : decode cL_lane 1 = .ok (.iconst 0, 1) := by decide +kernel
theorem dL_lane_2 : decode cL_lane 2 = .ok (.aload_n 0, 1) := by decide +kernel
theorem dL_lane_3 : decode cL_lane 3 = .ok (.iload_n 1, 1) := by decide +kernel
theorem dL_lane_4 : decode cL_lane 4 = .ok (.iload_n 2, 1) := by decide +kernel
theorem dL_lane_5 : decode cL_lane 5 = .ok (.invokevirtual 33, 3) := by decide +kernel
theorem dL_lane_8 : decode cL_lane 8 = .ok (.i2l, 1) := by decide +kernel
theorem dL_lane_9 : decode cL_lane 9 = .ok (.lastore, 1) := by decide +kernel
theorem dL_lane_10 : decode cL_lane 10 = .ok (.goto 7, 3) := by decide +kernel
theorem dL_lane_13 : decode cL_lane 13 = .ok (.astore 4, 2) := by decide +kernel
theorem dL_lane_15 : decode cL_lane 15 = .ok (.iconst 1, 1) := by decide +kernel
theorem dL_lane_16 : decode cL_lane 16 = .ok (.ireturn, 1) := by decide +kernel
theorem dL_lane_17 : decode cL_lane 17 = .ok (.iconst 0, 1) := by decide +kernel
theorem dL_lane_18 : decode cL_lane 18 = .ok (.ireturn, 1) := by decide +kernel
theorem dL_way_0 : decode cL_way 0 = .ok (.aload_n 3, 1) := by decide +kernel
theorem dL_way_1 : decode cL_way 1 = .ok (.iconst 0, 1) := by decide +kernel
theorem dL_way_2 : decode cL_way 2 = .ok (.aload_n 0, 1) := by decide +kernel
theorem dL_way_3 : decode cL_way 3 = .ok (.iload_n 1, 1) := by decide +kernel
theorem dL_way_4 : decode cL_way 4 = .ok (.iload_n 2, 1) := by decide +kernel
theorem dL_way_5 : decode cL_way 5 = .ok (.invokevirtual 36, 3) := by decide +kernel
theorem dL_way_8 : decode cL_way 8 = .ok (.i2l, 1) := by decide +kernel
theorem dL_way_9 : decode cL_way 9 = .ok (.lastore, 1) := by decide +kernel
theorem dL_way_10 : decode cL_way 10 = .ok (.goto 7, 3) := by decide +kernel
theorem dL_way_13 : decode cL_way 13 = .ok (.astore 4, 2) := by decide +kernel
theorem dL_way_15 : decode cL_way 15 = .ok (.iconst 1, 1) := by decide +kernel
theorem dL_way_16 : decode cL_way 16 = .ok (.ireturn, 1) := by decide +kernel
theorem dL_way_17 : decode cL_way 17 = .ok (.iconst 0, 1) := by decide +kernel
theorem dL_way_18 : decode cL_way 18 = .ok (.ireturn, 1) := by decide +kernel
theorem dL_addBook_0 : decode cL_addBook 0 = .ok (.aload_n 2, 1) := by decide +kernel
theorem dL_addBook_1 : decode cL_addBook 1 = .ok (.iconst 0, 1) := by decide +kernel
theorem dL_addBook_2 : decode cL_addBook 2 = .ok (.aload_n 0, 1) := by decide +kernel
theorem dL_addBook_3 : decode cL_addBook 3 = .ok (.iload_n 1, 1) := by decide +kernel
theorem dL_addBook_4 : decode cL_addBook 4 = .ok (.invokevirtual 39, 3) := by decide +kernel
theorem dL_addBook_7 : decode cL_addBook 7 = .ok (.i2l, 1) := by decide +kernel
theorem dL_addBook_8 : decode cL_addBook 8 = .ok (.lastore, 1) := by decide +kernel
theorem dL_addBook_9 : decode cL_addBook 9 = .ok (.goto 9, 3) := by decide +kernel
theorem dL_addBook_12 : decode cL_addBook 12 = .ok (.astore_n 3, 1) := by decide +kernel
theorem dL_addBook_13 : decode cL_addBook 13 = .ok (.iconst 1, 1) := by decide +kernel
theorem dL_addBook_14 : decode cL_addBook 14 = .ok (.ireturn, 1) := by decide +kernel
theorem dL_addBook_15 : decode cL_addBook 15 = .ok (.astore_n 3, 1) := by decide +kernel
theorem dL_addBook_16 : decode cL_addBook 16 = .ok (.iconst 2, 1) := by decide +kernel
theorem dL_addBook_17 : decode cL_addBook 17 = .ok (.ireturn, 1) := by decide +kernel
theorem dL_addBook_18 : decode cL_addBook 18 = .ok (.iconst 0, 1) := by decide +kernel
theorem dL_addBook_19 : decode cL_addBook 19 = .ok (.ireturn, 1) := by decide +kernel
theorem dL_addReader_0 : decode cL_addReader 0 = .ok (.aload 4, 2) := by decide +kernel
theorem dL_addReader_2 : decode cL_addReader 2 = .ok (.iconst 0, 1) := by decide +kernel
theorem dL_addReader_3 : decode cL_addReader 3 = .ok (.aload_n 0, 1) := by decide +kernel
theorem dL_addReader_4 : decode cL_addReader 4 = .ok (.iload_n 1, 1) := by decide +kernel
theorem dL_addReader_5 : decode cL_addReader 5 = .ok (.iload_n 2, 1) := by decide +kernel
theorem dL_addReader_6 : decode cL_addReader 6 = .ok (.iload_n 3, 1) := by decide +kernel
theorem dL_addReader_7 : decode cL_addReader 7 = .ok (.invokevirtual 43, 3) := by decide +kernel
theorem dL_addReader_10 : decode cL_addReader 10 = .ok (.i2l, 1) := by decide +kernel
theorem dL_addReader_11 : decode cL_addReader 11 = .ok (.lastore, 1) := by decide +kernel
theorem dL_addReader_12 : decode cL_addReader 12 = .ok (.goto 15, 3) := by decide +kernel
theorem dL_addReader_15 : decode cL_addReader 15 = .ok (.astore 5, 2) := by decide +kernel
theorem dL_addReader_17 : decode cL_addReader 17 = .ok (.iconst 1, 1) := by decide +kernel
theorem dL_addReader_18 : decode cL_addReader 18 = .ok (.ireturn, 1) := by decide +kernel
theorem dL_addReader_19 : decode cL_addReader 19 = .ok (.astore 5, 2) := by decide +kernel
theorem dL_addReader_21 : decode cL_addReader 21 = .ok (.iconst 2, 1) := by decide +kernel
theorem dL_addReader_22 : decode cL_addReader 22 = .ok (.ireturn, 1) := by decide +kernel
theorem dL_addReader_23 : decode cL_addReader 23 = .ok (.astore 5, 2) := by decide +kernel
theorem dL_addReader_25 : decode cL_addReader 25 = .ok (.iconst 3, 1) := by decide +kernel
theorem dL_addReader_26 : decode cL_addReader 26 = .ok (.ireturn, 1) := by decide +kernel
theorem dL_addReader_27 : decode cL_addReader 27 = .ok (.iconst 0, 1) := by decide +kernel
theorem dL_addReader_28 : decode cL_addReader 28 = .ok (.ireturn, 1) := by decide +kernel
theorem dL_reserve_0 : decode cL_reserve 0 = .ok (.aload_n 3, 1) := by decide +kernel
theorem dL_reserve_1 : decode cL_reserve 1 = .ok (.iconst 0, 1) := by decide +kernel
theorem dL_reserve_2 : decode cL_reserve 2 = .ok (.aload_n 0, 1) := by decide +kernel
theorem dL_reserve_3 : decode cL_reserve 3 = .ok (.iload_n 1, 1) := by decide +kernel
theorem dL_reserve_4 : decode cL_reserve 4 = .ok (.iload_n 2, 1) := by decide +kernel
theorem dL_reserve_5 : decode cL_reserve 5 = .ok (.invokevirtual 47, 3) := by decide +kernel
theorem dL_reserve_8 : decode cL_reserve 8 = .ok (.i2l, 1) := by decide +kernel
theorem dL_reserve_9 : decode cL_reserve 9 = .ok (.lastore, 1) := by decide +kernel
theorem dL_reserve_10 : decode cL_reserve 10 = .ok (.goto 11, 3) := by decide +kernel
theorem dL_reserve_13 : decode cL_reserve 13 = .ok (.astore 4, 2) := by decide +kernel
theorem dL_reserve_15 : decode cL_reserve 15 = .ok (.iconst 1, 1) := by decide +kernel
theorem dL_reserve_16 : decode cL_reserve 16 = .ok (.ireturn, 1) := by decide +kernel
theorem dL_reserve_17 : decode cL_reserve 17 = .ok (.astore 4, 2) := by decide +kernel
theorem dL_reserve_19 : decode cL_reserve 19 = .ok (.iconst 2, 1) := by decide +kernel
theorem dL_reserve_20 : decode cL_reserve 20 = .ok (.ireturn, 1) := by decide +kernel
theorem dL_reserve_21 : decode cL_reserve 21 = .ok (.iconst 0, 1) := by decide +kernel
theorem dL_reserve_22 : decode cL_reserve 22 = .ok (.ireturn, 1) := by decide +kernel
theorem dL_cancel_0 : decode cL_cancel 0 = .ok (.aload_n 3, 1) := by decide +kernel
theorem dL_cancel_1 : decode cL_cancel 1 = .ok (.iconst 0, 1) := by decide +kernel
theorem dL_cancel_2 : decode cL_cancel 2 = .ok (.aload_n 0, 1) := by decide +kernel
theorem dL_cancel_3 : decode cL_cancel 3 = .ok (.iload_n 1, 1) := by decide +kernel
theorem dL_cancel_4 : decode cL_cancel 4 = .ok (.iload_n 2, 1) := by decide +kernel
theorem dL_cancel_5 : decode cL_cancel 5 = .ok (.invokevirtual 50, 3) := by decide +kernel
theorem dL_cancel_8 : decode cL_cancel 8 = .ok (.i2l, 1) := by decide +kernel
theorem dL_cancel_9 : decode cL_cancel 9 = .ok (.lastore, 1) := by decide +kernel
theorem dL_cancel_10 : decode cL_cancel 10 = .ok (.goto 7, 3) := by decide +kernel
theorem dL_cancel_13 : decode cL_cancel 13 = .ok (.astore 4, 2) := by decide +kernel
theorem dL_cancel_15 : decode cL_cancel 15 = .ok (.iconst 1, 1) := by decide +kernel
theorem dL_cancel_16 : decode cL_cancel 16 = .ok (.ireturn, 1) := by decide +kernel
theorem dL_cancel_17 : decode cL_cancel 17 = .ok (.iconst 0, 1) := by decide +kernel
theorem dL_cancel_18 : decode cL_cancel 18 = .ok (.ireturn, 1) := by decide +kernel
theorem dL_book_0 : decode cL_book 0 = .ok (.aload_n 3, 1) := by decide +kernel
theorem dL_book_1 : decode cL_book 1 = .ok (.iconst 0, 1) := by decide +kernel
theorem dL_book_2 : decode cL_book 2 = .ok (.aload_n 0, 1) := by decide +kernel
theorem dL_book_3 : decode cL_book 3 = .ok (.iload_n 1, 1) := by decide +kernel
theorem dL_book_4 : decode cL_book 4 = .ok (.iload_n 2, 1) := by decide +kernel
theorem dL_book_5 : decode cL_book 5 = .ok (.invokevirtual 53, 3) := by decide +kernel
theorem dL_book_8 : decode cL_book 8 = .ok (.i2l, 1) := by decide +kernel
theorem dL_book_9 : decode cL_book 9 = .ok (.lastore, 1) := by decide +kernel
theorem dL_book_10 : decode cL_book 10 = .ok (.goto 7, 3) := by decide +kernel
theorem dL_book_13 : decode cL_book 13 = .ok (.astore 4, 2) := by decide +kernel
theorem dL_book_15 : decode cL_book 15 = .ok (.iconst 1, 1) := by decide +kernel
theorem dL_book_16 : decode cL_book 16 = .ok (.ireturn, 1) := by decide +kernel
theorem dL_book_17 : decode cL_book 17 = .ok (.iconst 0, 1) := by decide +kernel
theorem dL_book_18 : decode cL_book 18 = .ok (.ireturn, 1) := by decide +kernel
theorem dL_reader_0 : decode cL_reader 0 = .ok (.aload_n 3, 1) := by decide +kernel
theorem dL_reader_1 : decode cL_reader 1 = .ok (.iconst 0, 1) := by decide +kernel
theorem dL_reader_2 : decode cL_reader 2 = .ok (.aload_n 0, 1) := by decide +kernel
theorem dL_reader_3 : decode cL_reader 3 = .ok (.iload_n 1, 1) := by decide +kernel
theorem dL_reader_4 : decode cL_reader 4 = .ok (.iload_n 2, 1) := by decide +kernel
theorem dL_reader_5 : decode cL_reader 5 = .ok (.invokevirtual 56, 3) := by decide +kernel
theorem dL_reader_8 : decode cL_reader 8 = .ok (.i2l, 1) := by decide +kernel
theorem dL_reader_9 : decode cL_reader 9 = .ok (.lastore, 1) := by decide +kernel
theorem dL_reader_10 : decode cL_reader 10 = .ok (.goto 7, 3) := by decide +kernel
theorem dL_reader_13 : decode cL_reader 13 = .ok (.astore 4, 2) := by decide +kernel
theorem dL_reader_15 : decode cL_reader 15 = .ok (.iconst 1, 1) := by decide +kernel
theorem dL_reader_16 : decode cL_reader 16 = .ok (.ireturn, 1) := by decide +kernel
theorem dL_reader_17 : decode cL_reader 17 = .ok (.iconst 0, 1) := by decide +kernel
theorem dL_reader_18 : decode cL_reader 18 = .ok (.ireturn, 1) := by decide +kernel
theorem dL_pay_0 : decode cL_pay 0 = .ok (.aload_n 3, 1) := by decide +kernel
theorem dL_pay_1 : decode cL_pay 1 = .ok (.iconst 0, 1) := by decide +kernel
theorem dL_pay_2 : decode cL_pay 2 = .ok (.aload_n 0, 1) := by decide +kernel
theorem dL_pay_3 : decode cL_pay 3 = .ok (.iload_n 1, 1) := by decide +kernel
theorem dL_pay_4 : decode cL_pay 4 = .ok (.iload_n 2, 1) := by decide +kernel
theorem dL_pay_5 : decode cL_pay 5 = .ok (.invokevirtual 59, 3) := by decide +kernel
theorem dL_pay_8 : decode cL_pay 8 = .ok (.i2l, 1) := by decide +kernel
theorem dL_pay_9 : decode cL_pay 9 = .ok (.lastore, 1) := by decide +kernel
theorem dL_pay_10 : decode cL_pay 10 = .ok (.goto 11, 3) := by decide +kernel
theorem dL_pay_13 : decode cL_pay 13 = .ok (.astore 4, 2) := by decide +kernel
theorem dL_pay_15 : decode cL_pay 15 = .ok (.iconst 1, 1) := by decide +kernel
theorem dL_pay_16 : decode cL_pay 16 = .ok (.ireturn, 1) := by decide +kernel
theorem dL_pay_17 : decode cL_pay 17 = .ok (.astore 4, 2) := by decide +kernel
theorem dL_pay_19 : decode cL_pay 19 = .ok (.iconst 2, 1) := by decide +kernel
theorem dL_pay_20 : decode cL_pay 20 = .ok (.ireturn, 1) := by decide +kernel
theorem dL_pay_21 : decode cL_pay 21 = .ok (.iconst 0, 1) := by decide +kernel
theorem dL_pay_22 : decode cL_pay 22 = .ok (.ireturn, 1) := by decide +kernel
theorem dL_pass_0 : decode cL_pass 0 = .ok (.aload_n 2, 1) := by decide +kernel
theorem dL_pass_1 : decode cL_pass 1 = .ok (.iconst 0, 1) := by decide +kernel
theorem dL_pass_2 : decode cL_pass 2 = .ok (.aload_n 0, 1) := by decide +kernel
theorem dL_pass_3 : decode cL_pass 3 = .ok (.iload_n 1, 1) := by decide +kernel
theorem dL_pass_4 : decode cL_pass 4 = .ok (.invokevirtual 62, 3) := by decide +kernel
theorem dL_pass_7 : decode cL_pass 7 = .ok (.i2l, 1) := by decide +kernel
theorem dL_pass_8 : decode cL_pass 8 = .ok (.lastore, 1) := by decide +kernel
theorem dL_pass_9 : decode cL_pass 9 = .ok (.goto 6, 3) := by decide +kernel
theorem dL_pass_12 : decode cL_pass 12 = .ok (.astore_n 3, 1) := by decide +kernel
theorem dL_pass_13 : decode cL_pass 13 = .ok (.iconst 1, 1) := by decide +kernel
theorem dL_pass_14 : decode cL_pass 14 = .ok (.ireturn, 1) := by decide +kernel
theorem dL_pass_15 : decode cL_pass 15 = .ok (.iconst 0, 1) := by decide +kernel
theorem dL_pass_16 : decode cL_pass 16 = .ok (.ireturn, 1) := by decide +kernel
theorem dL_count_0 : decode cL_count 0 = .ok (.aload_n 2, 1) := by decide +kernel
theorem dL_count_1 : decode cL_count 1 = .ok (.iconst 0, 1) := by decide +kernel
theorem dL_count_2 : decode cL_count 2 = .ok (.aload_n 0, 1) := by decide +kernel
theorem dL_count_3 : decode cL_count 3 = .ok (.iload_n 1, 1) := by decide +kernel
theorem dL_count_4 : decode cL_count 4 = .ok (.invokevirtual 65, 3) := by decide +kernel
theorem dL_count_7 : decode cL_count 7 = .ok (.i2l, 1) := by decide +kernel
theorem dL_count_8 : decode cL_count 8 = .ok (.lastore, 1) := by decide +kernel
theorem dL_count_9 : decode cL_count 9 = .ok (.goto 6, 3) := by decide +kernel
theorem dL_count_12 : decode cL_count 12 = .ok (.astore_n 3, 1) := by decide +kernel
theorem dL_count_13 : decode cL_count 13 = .ok (.iconst 1, 1) := by decide +kernel
theorem dL_count_14 : decode cL_count 14 = .ok (.ireturn, 1) := by decide +kernel
theorem dL_count_15 : decode cL_count 15 = .ok (.iconst 0, 1) := by decide +kernel
theorem dL_count_16 : decode cL_count 16 = .ok (.ireturn, 1) := by decide +kernel
theorem dL_foresee_0 : decode cL_foresee 0 = .ok (.aload_n 3, 1) := by decide +kernel
theorem dL_foresee_1 : decode cL_foresee 1 = .ok (.iconst 0, 1) := by decide +kernel
theorem dL_foresee_2 : decode cL_foresee 2 = .ok (.aload_n 0, 1) := by decide +kernel
theorem dL_foresee_3 : decode cL_foresee 3 = .ok (.iload_n 1, 1) := by decide +kernel
theorem dL_foresee_4 : decode cL_foresee 4 = .ok (.iload_n 2, 1) := by decide +kernel
theorem dL_foresee_5 : decode cL_foresee 5 = .ok (.invokevirtual 68, 3) := by decide +kernel
theorem dL_foresee_8 : decode cL_foresee 8 = .ok (.i2l, 1) := by decide +kernel
theorem dL_foresee_9 : decode cL_foresee 9 = .ok (.lastore, 1) := by decide +kernel
theorem dL_foresee_10 : decode cL_foresee 10 = .ok (.goto 11, 3) := by decide +kernel
theorem dL_foresee_13 : decode cL_foresee 13 = .ok (.astore 4, 2) := by decide +kernel
theorem dL_foresee_15 : decode cL_foresee 15 = .ok (.iconst 1, 1) := by decide +kernel
theorem dL_foresee_16 : decode cL_foresee 16 = .ok (.ireturn, 1) := by decide +kernel
theorem dL_foresee_17 : decode cL_foresee 17 = .ok (.astore 4, 2) := by decide +kernel
theorem dL_foresee_19 : decode cL_foresee 19 = .ok (.iconst 2, 1) := by decide +kernel
theorem dL_foresee_20 : decode cL_foresee 20 = .ok (.ireturn, 1) := by decide +kernel
theorem dL_foresee_21 : decode cL_foresee 21 = .ok (.iconst 0, 1) := by decide +kernel
theorem dL_foresee_22 : decode cL_foresee 22 = .ok (.ireturn, 1) := by decide +kernel
theorem dL_gets_0 : decode cL_gets 0 = .ok (.aload_n 3, 1) := by decide +kernel
theorem dL_gets_1 : decode cL_gets 1 = .ok (.iconst 0, 1) := by decide +kernel
theorem dL_gets_2 : decode cL_gets 2 = .ok (.aload_n 0, 1) := by decide +kernel
theorem dL_gets_3 : decode cL_gets 3 = .ok (.iload_n 1, 1) := by decide +kernel
theorem dL_gets_4 : decode cL_gets 4 = .ok (.iload_n 2, 1) := by decide +kernel
theorem dL_gets_5 : decode cL_gets 5 = .ok (.invokevirtual 71, 3) := by decide +kernel
theorem dL_gets_8 : decode cL_gets 8 = .ok (.i2l, 1) := by decide +kernel
theorem dL_gets_9 : decode cL_gets 9 = .ok (.lastore, 1) := by decide +kernel
theorem dL_gets_10 : decode cL_gets 10 = .ok (.goto 7, 3) := by decide +kernel
theorem dL_gets_13 : decode cL_gets 13 = .ok (.astore 4, 2) := by decide +kernel
theorem dL_gets_15 : decode cL_gets 15 = .ok (.iconst 1, 1) := by decide +kernel
theorem dL_gets_16 : decode cL_gets 16 = .ok (.ireturn, 1) := by decide +kernel
theorem dL_gets_17 : decode cL_gets 17 = .ok (.iconst 0, 1) := by decide +kernel
theorem dL_gets_18 : decode cL_gets 18 = .ok (.ireturn, 1) := by decide +kernel
theorem dL_advise_0 : decode cL_advise 0 = .ok (.aload_n 2, 1) := by decide +kernel
theorem dL_advise_1 : decode cL_advise 1 = .ok (.iconst 0, 1) := by decide +kernel
theorem dL_advise_2 : decode cL_advise 2 = .ok (.aload_n 0, 1) := by decide +kernel
theorem dL_advise_3 : decode cL_advise 3 = .ok (.iload_n 1, 1) := by decide +kernel
theorem dL_advise_4 : decode cL_advise 4 = .ok (.invokevirtual 74, 3) := by decide +kernel
theorem dL_advise_7 : decode cL_advise 7 = .ok (.i2l, 1) := by decide +kernel
theorem dL_advise_8 : decode cL_advise 8 = .ok (.lastore, 1) := by decide +kernel
theorem dL_advise_9 : decode cL_advise 9 = .ok (.goto 9, 3) := by decide +kernel
theorem dL_advise_12 : decode cL_advise 12 = .ok (.astore_n 3, 1) := by decide +kernel
theorem dL_advise_13 : decode cL_advise 13 = .ok (.iconst 1, 1) := by decide +kernel
theorem dL_advise_14 : decode cL_advise 14 = .ok (.ireturn, 1) := by decide +kernel
theorem dL_advise_15 : decode cL_advise 15 = .ok (.astore_n 3, 1) := by decide +kernel
theorem dL_advise_16 : decode cL_advise 16 = .ok (.iconst 2, 1) := by decide +kernel
theorem dL_advise_17 : decode cL_advise 17 = .ok (.ireturn, 1) := by decide +kernel
theorem dL_advise_18 : decode cL_advise 18 = .ok (.iconst 0, 1) := by decide +kernel
theorem dL_advise_19 : decode cL_advise 19 = .ok (.ireturn, 1) := by decide +kernel
theorem dL_law_0 : decode cL_law 0 = .ok (.new 8, 3) := by decide +kernel
theorem dL_law_3 : decode cL_law 3 = .ok (.dup, 1) := by decide +kernel
theorem dL_law_4 : decode cL_law 4 = .ok (.invokespecial 77, 3) := by decide +kernel
theorem dL_law_7 : decode cL_law 7 = .ok (.astore_n 1, 1) := by decide +kernel
theorem dL_law_8 : decode cL_law 8 = .ok (.new 78, 3) := by decide +kernel
theorem dL_law_11 : decode cL_law 11 = .ok (.dup, 1) := by decide +kernel
theorem dL_law_12 : decode cL_law 12 = .ok (.invokespecial 80, 3) := by decide +kernel
theorem dL_law_15 : decode cL_law 15 = .ok (.astore_n 2, 1) := by decide +kernel
theorem dL_law_16 : decode cL_law 16 = .ok (.iconst 1, 1) := by decide +kernel
theorem dL_law_17 : decode cL_law 17 = .ok (.newarray .long, 2) := by decide +kernel
theorem dL_law_19 : decode cL_law 19 = .ok (.astore_n 3, 1) := by decide +kernel
theorem dL_law_20 : decode cL_law 20 = .ok (.iconst 0, 1) := by decide +kernel
theorem dL_law_21 : decode cL_law 21 = .ok (.istore 4, 2) := by decide +kernel
theorem dL_law_23 : decode cL_law 23 = .ok (.iload 4, 2) := by decide +kernel
theorem dL_law_25 : decode cL_law 25 = .ok (.aload_n 0, 1) := by decide +kernel
theorem dL_law_26 : decode cL_law 26 = .ok (.arraylength, 1) := by decide +kernel
theorem dL_law_27 : decode cL_law 27 = .ok (.iconst 5, 1) := by decide +kernel
theorem dL_law_28 : decode cL_law 28 = .ok (.isub, 1) := by decide +kernel
theorem dL_law_29 : decode cL_law 29 = .ok (.if_icmp .gt 1424, 3) := by decide +kernel
theorem dL_law_32 : decode cL_law 32 = .ok (.aload_n 0, 1) := by decide +kernel
theorem dL_law_33 : decode cL_law 33 = .ok (.iload 4, 2) := by decide +kernel
theorem dL_law_35 : decode cL_law 35 = .ok (.iaload, 1) := by decide +kernel
theorem dL_law_36 : decode cL_law 36 = .ok (.bipush 31, 2) := by decide +kernel
theorem dL_law_38 : decode cL_law 38 = .ok (.iand, 1) := by decide +kernel
theorem dL_law_39 : decode cL_law 39 = .ok (.tableswitch 1408 0 20 #[97, 141, 233, 301, 369, 437, 505, 573, 629, 709, 777, 845, 913, 981, 1049, 1105, 1161, 1229, 1297, 1353, 1394], 97) := by decide +kernel
theorem dL_law_136 : decode cL_law 136 = .ok (.aload_n 1, 1) := by decide +kernel
theorem dL_law_137 : decode cL_law 137 = .ok (.aload_n 3, 1) := by decide +kernel
theorem dL_law_138 : decode cL_law 138 = .ok (.invokestatic 81, 3) := by decide +kernel
theorem dL_law_141 : decode cL_law 141 = .ok (.istore 5, 2) := by decide +kernel
theorem dL_law_143 : decode cL_law 143 = .ok (.aload_n 2, 1) := by decide +kernel
theorem dL_law_144 : decode cL_law 144 = .ok (.invokevirtual 86, 3) := by decide +kernel
theorem dL_law_147 : decode cL_law 147 = .ok (.istore 6, 2) := by decide +kernel
theorem dL_law_149 : decode cL_law 149 = .ok (.aload_n 2, 1) := by decide +kernel
theorem dL_law_150 : decode cL_law 150 = .ok (.invokevirtual 87, 3) := by decide +kernel
theorem dL_law_153 : decode cL_law 153 = .ok (.iload 5, 2) := by decide +kernel
theorem dL_law_155 : decode cL_law 155 = .ok (.if_icmp .eq 5, 3) := by decide +kernel
theorem dL_law_158 : decode cL_law 158 = .ok (.iconst 0, 1) := by decide +kernel
theorem dL_law_159 : decode cL_law 159 = .ok (.ireturn, 1) := by decide +kernel
theorem dL_law_160 : decode cL_law 160 = .ok (.iload 5, 2) := by decide +kernel
theorem dL_law_162 : decode cL_law 162 = .ok (.ifCond .ne 15, 3) := by decide +kernel
theorem dL_law_165 : decode cL_law 165 = .ok (.aload_n 3, 1) := by decide +kernel
theorem dL_law_166 : decode cL_law 166 = .ok (.iconst 0, 1) := by decide +kernel
theorem dL_law_167 : decode cL_law 167 = .ok (.laload, 1) := by decide +kernel
theorem dL_law_168 : decode cL_law 168 = .ok (.iload 6, 2) := by decide +kernel
theorem dL_law_170 : decode cL_law 170 = .ok (.i2l, 1) := by decide +kernel
theorem dL_law_171 : decode cL_law 171 = .ok (.lcmp, 1) := by decide +kernel
theorem dL_law_172 : decode cL_law 172 = .ok (.ifCond .eq 5, 3) := by decide +kernel
theorem dL_law_175 : decode cL_law 175 = .ok (.iconst 0, 1) := by decide +kernel
theorem dL_law_176 : decode cL_law 176 = .ok (.ireturn, 1) := by decide +kernel
theorem dL_law_177 : decode cL_law 177 = .ok (.goto 1270, 3) := by decide +kernel
theorem dL_law_180 : decode cL_law 180 = .ok (.aload_n 1, 1) := by decide +kernel
theorem dL_law_181 : decode cL_law 181 = .ok (.aload_n 0, 1) := by decide +kernel
theorem dL_law_182 : decode cL_law 182 = .ok (.iload 4, 2) := by decide +kernel
theorem dL_law_184 : decode cL_law 184 = .ok (.iconst 1, 1) := by decide +kernel
theorem dL_law_185 : decode cL_law 185 = .ok (.iadd, 1) := by decide +kernel
theorem dL_law_186 : decode cL_law 186 = .ok (.iaload, 1) := by decide +kernel
theorem dL_law_187 : decode cL_law 187 = .ok (.aload_n 0, 1) := by decide +kernel
theorem dL_law_188 : decode cL_law 188 = .ok (.iload 4, 2) := by decide +kernel
theorem dL_law_190 : decode cL_law 190 = .ok (.iconst 2, 1) := by decide +kernel
theorem dL_law_191 : decode cL_law 191 = .ok (.iadd, 1) := by decide +kernel
theorem dL_law_192 : decode cL_law 192 = .ok (.iaload, 1) := by decide +kernel
theorem dL_law_193 : decode cL_law 193 = .ok (.aload_n 0, 1) := by decide +kernel
theorem dL_law_194 : decode cL_law 194 = .ok (.iload 4, 2) := by decide +kernel
theorem dL_law_196 : decode cL_law 196 = .ok (.iconst 3, 1) := by decide +kernel
theorem dL_law_197 : decode cL_law 197 = .ok (.iadd, 1) := by decide +kernel
theorem dL_law_198 : decode cL_law 198 = .ok (.iaload, 1) := by decide +kernel
theorem dL_law_199 : decode cL_law 199 = .ok (.aload_n 0, 1) := by decide +kernel
theorem dL_law_200 : decode cL_law 200 = .ok (.iload 4, 2) := by decide +kernel
theorem dL_law_202 : decode cL_law 202 = .ok (.iconst 4, 1) := by decide +kernel
theorem dL_law_203 : decode cL_law 203 = .ok (.iadd, 1) := by decide +kernel
theorem dL_law_204 : decode cL_law 204 = .ok (.iaload, 1) := by decide +kernel
theorem dL_law_205 : decode cL_law 205 = .ok (.aload_n 3, 1) := by decide +kernel
theorem dL_law_206 : decode cL_law 206 = .ok (.invokestatic 90, 3) := by decide +kernel
theorem dL_law_209 : decode cL_law 209 = .ok (.istore 5, 2) := by decide +kernel
theorem dL_law_211 : decode cL_law 211 = .ok (.aload_n 2, 1) := by decide +kernel
theorem dL_law_212 : decode cL_law 212 = .ok (.aload_n 0, 1) := by decide +kernel
theorem dL_law_213 : decode cL_law 213 = .ok (.iload 4, 2) := by decide +kernel
theorem dL_law_215 : decode cL_law 215 = .ok (.iconst 1, 1) := by decide +kernel
theorem dL_law_216 : decode cL_law 216 = .ok (.iadd, 1) := by decide +kernel
theorem dL_law_217 : decode cL_law 217 = .ok (.iaload, 1) := by decide +kernel
theorem dL_law_218 : decode cL_law 218 = .ok (.aload_n 0, 1) := by decide +kernel
theorem dL_law_219 : decode cL_law 219 = .ok (.iload 4, 2) := by decide +kernel
theorem dL_law_221 : decode cL_law 221 = .ok (.iconst 2, 1) := by decide +kernel
theorem dL_law_222 : decode cL_law 222 = .ok (.iadd, 1) := by decide +kernel
theorem dL_law_223 : decode cL_law 223 = .ok (.iaload, 1) := by decide +kernel
theorem dL_law_224 : decode cL_law 224 = .ok (.aload_n 0, 1) := by decide +kernel
theorem dL_law_225 : decode cL_law 225 = .ok (.iload 4, 2) := by decide +kernel
theorem dL_law_227 : decode cL_law 227 = .ok (.iconst 3, 1) := by decide +kernel
theorem dL_law_228 : decode cL_law 228 = .ok (.iadd, 1) := by decide +kernel
theorem dL_law_229 : decode cL_law 229 = .ok (.iaload, 1) := by decide +kernel
theorem dL_law_230 : decode cL_law 230 = .ok (.aload_n 0, 1) := by decide +kernel
theorem dL_law_231 : decode cL_law 231 = .ok (.iload 4, 2) := by decide +kernel
theorem dL_law_233 : decode cL_law 233 = .ok (.iconst 4, 1) := by decide +kernel
theorem dL_law_234 : decode cL_law 234 = .ok (.iadd, 1) := by decide +kernel
theorem dL_law_235 : decode cL_law 235 = .ok (.iaload, 1) := by decide +kernel
theorem dL_law_236 : decode cL_law 236 = .ok (.invokevirtual 93, 3) := by decide +kernel
theorem dL_law_239 : decode cL_law 239 = .ok (.istore 6, 2) := by decide +kernel
theorem dL_law_241 : decode cL_law 241 = .ok (.aload_n 2, 1) := by decide +kernel
theorem dL_law_242 : decode cL_law 242 = .ok (.invokevirtual 87, 3) := by decide +kernel
theorem dL_law_245 : decode cL_law 245 = .ok (.iload 5, 2) := by decide +kernel
theorem dL_law_247 : decode cL_law 247 = .ok (.if_icmp .eq 5, 3) := by decide +kernel
theorem dL_law_250 : decode cL_law 250 = .ok (.iconst 0, 1) := by decide +kernel
theorem dL_law_251 : decode cL_law 251 = .ok (.ireturn, 1) := by decide +kernel
theorem dL_law_252 : decode cL_law 252 = .ok (.iload 5, 2) := by decide +kernel
theorem dL_law_254 : decode cL_law 254 = .ok (.ifCond .ne 15, 3) := by decide +kernel
theorem dL_law_257 : decode cL_law 257 = .ok (.aload_n 3, 1) := by decide +kernel
theorem dL_law_258 : decode cL_law 258 = .ok (.iconst 0, 1) := by decide +kernel
theorem dL_law_259 : decode cL_law 259 = .ok (.laload, 1) := by decide +kernel
theorem dL_law_260 : decode cL_law 260 = .ok (.iload 6, 2) := by decide +kernel
theorem dL_law_262 : decode cL_law 262 = .ok (.i2l, 1) := by decide +kernel
theorem dL_law_263 : decode cL_law 263 = .ok (.lcmp, 1) := by decide +kernel
theorem dL_law_264 : decode cL_law 264 = .ok (.ifCond .eq 5, 3) := by decide +kernel
theorem dL_law_267 : decode cL_law 267 = .ok (.iconst 0, 1) := by decide +kernel
theorem dL_law_268 : decode cL_law 268 = .ok (.ireturn, 1) := by decide +kernel
theorem dL_law_269 : decode cL_law 269 = .ok (.goto 1178, 3) := by decide +kernel
theorem dL_law_272 : decode cL_law 272 = .ok (.aload_n 1, 1) := by decide +kernel
theorem dL_law_273 : decode cL_law 273 = .ok (.aload_n 0, 1) := by decide +kernel
theorem dL_law_274 : decode cL_law 274 = .ok (.iload 4, 2) := by decide +kernel
theorem dL_law_276 : decode cL_law 276 = .ok (.iconst 1, 1) := by decide +kernel
theorem dL_law_277 : decode cL_law 277 = .ok (.iadd, 1) := by decide +kernel
theorem dL_law_278 : decode cL_law 278 = .ok (.iaload, 1) := by decide +kernel
theorem dL_law_279 : decode cL_law 279 = .ok (.aload_n 0, 1) := by decide +kernel
theorem dL_law_280 : decode cL_law 280 = .ok (.iload 4, 2) := by decide +kernel
theorem dL_law_282 : decode cL_law 282 = .ok (.iconst 2, 1) := by decide +kernel
theorem dL_law_283 : decode cL_law 283 = .ok (.iadd, 1) := by decide +kernel
theorem dL_law_284 : decode cL_law 284 = .ok (.iaload, 1) := by decide +kernel
theorem dL_law_285 : decode cL_law 285 = .ok (.aload_n 3, 1) := by decide +kernel
theorem dL_law_286 : decode cL_law 286 = .ok (.invokestatic 94, 3) := by decide +kernel
theorem dL_law_289 : decode cL_law 289 = .ok (.istore 5, 2) := by decide +kernel
theorem dL_law_291 : decode cL_law 291 = .ok (.aload_n 2, 1) := by decide +kernel
theorem dL_law_292 : decode cL_law 292 = .ok (.aload_n 0, 1) := by decide +kernel
theorem dL_law_293 : decode cL_law 293 = .ok (.iload 4, 2) := by decide +kernel
theorem dL_law_295 : decode cL_law 295 = .ok (.iconst 1, 1) := by decide +kernel
theorem dL_law_296 : decode cL_law 296 = .ok (.iadd, 1) := by decide +kernel
theorem dL_law_297 : decode cL_law 297 = .ok (.iaload, 1) := by decide +kernel
theorem dL_law_298 : decode cL_law 298 = .ok (.aload_n 0, 1) := by decide +kernel
theorem dL_law_299 : decode cL_law 299 = .ok (.iload 4, 2) := by decide +kernel
theorem dL_law_301 : decode cL_law 301 = .ok (.iconst 2, 1) := by decide +kernel
theorem dL_law_302 : decode cL_law 302 = .ok (.iadd, 1) := by decide +kernel
theorem dL_law_303 : decode cL_law 303 = .ok (.iaload, 1) := by decide +kernel
theorem dL_law_304 : decode cL_law 304 = .ok (.invokevirtual 97, 3) := by decide +kernel
theorem dL_law_307 : decode cL_law 307 = .ok (.istore 6, 2) := by decide +kernel
theorem dL_law_309 : decode cL_law 309 = .ok (.aload_n 2, 1) := by decide +kernel
theorem dL_law_310 : decode cL_law 310 = .ok (.invokevirtual 87, 3) := by decide +kernel
theorem dL_law_313 : decode cL_law 313 = .ok (.iload 5, 2) := by decide +kernel
theorem dL_law_315 : decode cL_law 315 = .ok (.if_icmp .eq 5, 3) := by decide +kernel
theorem dL_law_318 : decode cL_law 318 = .ok (.iconst 0, 1) := by decide +kernel
theorem dL_law_319 : decode cL_law 319 = .ok (.ireturn, 1) := by decide +kernel
theorem dL_law_320 : decode cL_law 320 = .ok (.iload 5, 2) := by decide +kernel
theorem dL_law_322 : decode cL_law 322 = .ok (.ifCond .ne 15, 3) := by decide +kernel
theorem dL_law_325 : decode cL_law 325 = .ok (.aload_n 3, 1) := by decide +kernel
theorem dL_law_326 : decode cL_law 326 = .ok (.iconst 0, 1) := by decide +kernel
theorem dL_law_327 : decode cL_law 327 = .ok (.laload, 1) := by decide +kernel
theorem dL_law_328 : decode cL_law 328 = .ok (.iload 6, 2) := by decide +kernel
theorem dL_law_330 : decode cL_law 330 = .ok (.i2l, 1) := by decide +kernel
theorem dL_law_331 : decode cL_law 331 = .ok (.lcmp, 1) := by decide +kernel
theorem dL_law_332 : decode cL_law 332 = .ok (.ifCond .eq 5, 3) := by decide +kernel
theorem dL_law_335 : decode cL_law 335 = .ok (.iconst 0, 1) := by decide +kernel
theorem dL_law_336 : decode cL_law 336 = .ok (.ireturn, 1) := by decide +kernel
theorem dL_law_337 : decode cL_law 337 = .ok (.goto 1110, 3) := by decide +kernel
theorem dL_law_340 : decode cL_law 340 = .ok (.aload_n 1, 1) := by decide +kernel
theorem dL_law_341 : decode cL_law 341 = .ok (.aload_n 0, 1) := by decide +kernel
theorem dL_law_342 : decode cL_law 342 = .ok (.iload 4, 2) := by decide +kernel
theorem dL_law_344 : decode cL_law 344 = .ok (.iconst 1, 1) := by decide +kernel
theorem dL_law_345 : decode cL_law 345 = .ok (.iadd, 1) := by decide +kernel
theorem dL_law_346 : decode cL_law 346 = .ok (.iaload, 1) := by decide +kernel
theorem dL_law_347 : decode cL_law 347 = .ok (.aload_n 0, 1) := by decide +kernel
theorem dL_law_348 : decode cL_law 348 = .ok (.iload 4, 2) := by decide +kernel
theorem dL_law_350 : decode cL_law 350 = .ok (.iconst 2, 1) := by decide +kernel
theorem dL_law_351 : decode cL_law 351 = .ok (.iadd, 1) := by decide +kernel
theorem dL_law_352 : decode cL_law 352 = .ok (.iaload, 1) := by decide +kernel
theorem dL_law_353 : decode cL_law 353 = .ok (.aload_n 3, 1) := by decide +kernel
theorem dL_law_354 : decode cL_law 354 = .ok (.invokestatic 98, 3) := by decide +kernel
theorem dL_law_357 : decode cL_law 357 = .ok (.istore 5, 2) := by decide +kernel
theorem dL_law_359 : decode cL_law 359 = .ok (.aload_n 2, 1) := by decide +kernel
theorem dL_law_360 : decode cL_law 360 = .ok (.aload_n 0, 1) := by decide +kernel
theorem dL_law_361 : decode cL_law 361 = .ok (.iload 4, 2) := by decide +kernel
theorem dL_law_363 : decode cL_law 363 = .ok (.iconst 1, 1) := by decide +kernel
theorem dL_law_364 : decode cL_law 364 = .ok (.iadd, 1) := by decide +kernel
theorem dL_law_365 : decode cL_law 365 = .ok (.iaload, 1) := by decide +kernel
theorem dL_law_366 : decode cL_law 366 = .ok (.aload_n 0, 1) := by decide +kernel
theorem dL_law_367 : decode cL_law 367 = .ok (.iload 4, 2) := by decide +kernel
theorem dL_law_369 : decode cL_law 369 = .ok (.iconst 2, 1) := by decide +kernel
theorem dL_law_370 : decode cL_law 370 = .ok (.iadd, 1) := by decide +kernel
theorem dL_law_371 : decode cL_law 371 = .ok (.iaload, 1) := by decide +kernel
theorem dL_law_372 : decode cL_law 372 = .ok (.invokevirtual 100, 3) := by decide +kernel
theorem dL_law_375 : decode cL_law 375 = .ok (.istore 6, 2) := by decide +kernel
theorem dL_law_377 : decode cL_law 377 = .ok (.aload_n 2, 1) := by decide +kernel
theorem dL_law_378 : decode cL_law 378 = .ok (.invokevirtual 87, 3) := by decide +kernel
theorem dL_law_381 : decode cL_law 381 = .ok (.iload 5, 2) := by decide +kernel
theorem dL_law_383 : decode cL_law 383 = .ok (.if_icmp .eq 5, 3) := by decide +kernel
theorem dL_law_386 : decode cL_law 386 = .ok (.iconst 0, 1) := by decide +kernel
theorem dL_law_387 : decode cL_law 387 = .ok (.ireturn, 1) := by decide +kernel
theorem dL_law_388 : decode cL_law 388 = .ok (.iload 5, 2) := by decide +kernel
theorem dL_law_390 : decode cL_law 390 = .ok (.ifCond .ne 15, 3) := by decide +kernel
theorem dL_law_393 : decode cL_law 393 = .ok (.aload_n 3, 1) := by decide +kernel
theorem dL_law_394 : decode cL_law 394 = .ok (.iconst 0, 1) := by decide +kernel
theorem dL_law_395 : decode cL_law 395 = .ok (.laload, 1) := by decide +kernel
theorem dL_law_396 : decode cL_law 396 = .ok (.iload 6, 2) := by decide +kernel
theorem dL_law_398 : decode cL_law 398 = .ok (.i2l, 1) := by decide +kernel
theorem dL_law_399 : decode cL_law 399 = .ok (.lcmp, 1) := by decide +kernel
theorem dL_law_400 : decode cL_law 400 = .ok (.ifCond .eq 5, 3) := by decide +kernel
theorem dL_law_403 : decode cL_law 403 = .ok (.iconst 0, 1) := by decide +kernel
theorem dL_law_404 : decode cL_law 404 = .ok (.ireturn, 1) := by decide +kernel
theorem dL_law_405 : decode cL_law 405 = .ok (.goto 1042, 3) := by decide +kernel
theorem dL_law_408 : decode cL_law 408 = .ok (.aload_n 1, 1) := by decide +kernel
theorem dL_law_409 : decode cL_law 409 = .ok (.aload_n 0, 1) := by decide +kernel
theorem dL_law_410 : decode cL_law 410 = .ok (.iload 4, 2) := by decide +kernel
theorem dL_law_412 : decode cL_law 412 = .ok (.iconst 1, 1) := by decide +kernel
theorem dL_law_413 : decode cL_law 413 = .ok (.iadd, 1) := by decide +kernel
theorem dL_law_414 : decode cL_law 414 = .ok (.iaload, 1) := by decide +kernel
theorem dL_law_415 : decode cL_law 415 = .ok (.aload_n 0, 1) := by decide +kernel
theorem dL_law_416 : decode cL_law 416 = .ok (.iload 4, 2) := by decide +kernel
theorem dL_law_418 : decode cL_law 418 = .ok (.iconst 2, 1) := by decide +kernel
theorem dL_law_419 : decode cL_law 419 = .ok (.iadd, 1) := by decide +kernel
theorem dL_law_420 : decode cL_law 420 = .ok (.iaload, 1) := by decide +kernel
theorem dL_law_421 : decode cL_law 421 = .ok (.aload_n 3, 1) := by decide +kernel
theorem dL_law_422 : decode cL_law 422 = .ok (.invokestatic 101, 3) := by decide +kernel
theorem dL_law_425 : decode cL_law 425 = .ok (.istore 5, 2) := by decide +kernel
theorem dL_law_427 : decode cL_law 427 = .ok (.aload_n 2, 1) := by decide +kernel
theorem dL_law_428 : decode cL_law 428 = .ok (.aload_n 0, 1) := by decide +kernel
theorem dL_law_429 : decode cL_law 429 = .ok (.iload 4, 2) := by decide +kernel
theorem dL_law_431 : decode cL_law 431 = .ok (.iconst 1, 1) := by decide +kernel
theorem dL_law_432 : decode cL_law 432 = .ok (.iadd, 1) := by decide +kernel
theorem dL_law_433 : decode cL_law 433 = .ok (.iaload, 1) := by decide +kernel
theorem dL_law_434 : decode cL_law 434 = .ok (.aload_n 0, 1) := by decide +kernel
theorem dL_law_435 : decode cL_law 435 = .ok (.iload 4, 2) := by decide +kernel
theorem dL_law_437 : decode cL_law 437 = .ok (.iconst 2, 1) := by decide +kernel
theorem dL_law_438 : decode cL_law 438 = .ok (.iadd, 1) := by decide +kernel
theorem dL_law_439 : decode cL_law 439 = .ok (.iaload, 1) := by decide +kernel
theorem dL_law_440 : decode cL_law 440 = .ok (.invokevirtual 103, 3) := by decide +kernel
theorem dL_law_443 : decode cL_law 443 = .ok (.istore 6, 2) := by decide +kernel
theorem dL_law_445 : decode cL_law 445 = .ok (.aload_n 2, 1) := by decide +kernel
theorem dL_law_446 : decode cL_law 446 = .ok (.invokevirtual 87, 3) := by decide +kernel
theorem dL_law_449 : decode cL_law 449 = .ok (.iload 5, 2) := by decide +kernel
theorem dL_law_451 : decode cL_law 451 = .ok (.if_icmp .eq 5, 3) := by decide +kernel
theorem dL_law_454 : decode cL_law 454 = .ok (.iconst 0, 1) := by decide +kernel
theorem dL_law_455 : decode cL_law 455 = .ok (.ireturn, 1) := by decide +kernel
theorem dL_law_456 : decode cL_law 456 = .ok (.iload 5, 2) := by decide +kernel
theorem dL_law_458 : decode cL_law 458 = .ok (.ifCond .ne 15, 3) := by decide +kernel
theorem dL_law_461 : decode cL_law 461 = .ok (.aload_n 3, 1) := by decide +kernel
theorem dL_law_462 : decode cL_law 462 = .ok (.iconst 0, 1) := by decide +kernel
theorem dL_law_463 : decode cL_law 463 = .ok (.laload, 1) := by decide +kernel
theorem dL_law_464 : decode cL_law 464 = .ok (.iload 6, 2) := by decide +kernel
theorem dL_law_466 : decode cL_law 466 = .ok (.i2l, 1) := by decide +kernel
theorem dL_law_467 : decode cL_law 467 = .ok (.lcmp, 1) := by decide +kernel
theorem dL_law_468 : decode cL_law 468 = .ok (.ifCond .eq 5, 3) := by decide +kernel
theorem dL_law_471 : decode cL_law 471 = .ok (.iconst 0, 1) := by decide +kernel
theorem dL_law_472 : decode cL_law 472 = .ok (.ireturn, 1) := by decide +kernel
theorem dL_law_473 : decode cL_law 473 = .ok (.goto 974, 3) := by decide +kernel
theorem dL_law_476 : decode cL_law 476 = .ok (.aload_n 1, 1) := by decide +kernel
theorem dL_law_477 : decode cL_law 477 = .ok (.aload_n 0, 1) := by decide +kernel
theorem dL_law_478 : decode cL_law 478 = .ok (.iload 4, 2) := by decide +kernel
theorem dL_law_480 : decode cL_law 480 = .ok (.iconst 1, 1) := by decide +kernel
theorem dL_law_481 : decode cL_law 481 = .ok (.iadd, 1) := by decide +kernel
theorem dL_law_482 : decode cL_law 482 = .ok (.iaload, 1) := by decide +kernel
theorem dL_law_483 : decode cL_law 483 = .ok (.aload_n 0, 1) := by decide +kernel
theorem dL_law_484 : decode cL_law 484 = .ok (.iload 4, 2) := by decide +kernel
theorem dL_law_486 : decode cL_law 486 = .ok (.iconst 2, 1) := by decide +kernel
theorem dL_law_487 : decode cL_law 487 = .ok (.iadd, 1) := by decide +kernel
theorem dL_law_488 : decode cL_law 488 = .ok (.iaload, 1) := by decide +kernel
theorem dL_law_489 : decode cL_law 489 = .ok (.aload_n 3, 1) := by decide +kernel
theorem dL_law_490 : decode cL_law 490 = .ok (.invokestatic 104, 3) := by decide +kernel
theorem dL_law_493 : decode cL_law 493 = .ok (.istore 5, 2) := by decide +kernel
theorem dL_law_495 : decode cL_law 495 = .ok (.aload_n 2, 1) := by decide +kernel
theorem dL_law_496 : decode cL_law 496 = .ok (.aload_n 0, 1) := by decide +kernel
theorem dL_law_497 : decode cL_law 497 = .ok (.iload 4, 2) := by decide +kernel
theorem dL_law_499 : decode cL_law 499 = .ok (.iconst 1, 1) := by decide +kernel
theorem dL_law_500 : decode cL_law 500 = .ok (.iadd, 1) := by decide +kernel
theorem dL_law_501 : decode cL_law 501 = .ok (.iaload, 1) := by decide +kernel
theorem dL_law_502 : decode cL_law 502 = .ok (.aload_n 0, 1) := by decide +kernel
theorem dL_law_503 : decode cL_law 503 = .ok (.iload 4, 2) := by decide +kernel
theorem dL_law_505 : decode cL_law 505 = .ok (.iconst 2, 1) := by decide +kernel
theorem dL_law_506 : decode cL_law 506 = .ok (.iadd, 1) := by decide +kernel
theorem dL_law_507 : decode cL_law 507 = .ok (.iaload, 1) := by decide +kernel
theorem dL_law_508 : decode cL_law 508 = .ok (.invokevirtual 106, 3) := by decide +kernel
theorem dL_law_511 : decode cL_law 511 = .ok (.istore 6, 2) := by decide +kernel
theorem dL_law_513 : decode cL_law 513 = .ok (.aload_n 2, 1) := by decide +kernel
theorem dL_law_514 : decode cL_law 514 = .ok (.invokevirtual 87, 3) := by decide +kernel
theorem dL_law_517 : decode cL_law 517 = .ok (.iload 5, 2) := by decide +kernel
theorem dL_law_519 : decode cL_law 519 = .ok (.if_icmp .eq 5, 3) := by decide +kernel
theorem dL_law_522 : decode cL_law 522 = .ok (.iconst 0, 1) := by decide +kernel
theorem dL_law_523 : decode cL_law 523 = .ok (.ireturn, 1) := by decide +kernel
theorem dL_law_524 : decode cL_law 524 = .ok (.iload 5, 2) := by decide +kernel
theorem dL_law_526 : decode cL_law 526 = .ok (.ifCond .ne 15, 3) := by decide +kernel
theorem dL_law_529 : decode cL_law 529 = .ok (.aload_n 3, 1) := by decide +kernel
theorem dL_law_530 : decode cL_law 530 = .ok (.iconst 0, 1) := by decide +kernel
theorem dL_law_531 : decode cL_law 531 = .ok (.laload, 1) := by decide +kernel
theorem dL_law_532 : decode cL_law 532 = .ok (.iload 6, 2) := by decide +kernel
theorem dL_law_534 : decode cL_law 534 = .ok (.i2l, 1) := by decide +kernel
theorem dL_law_535 : decode cL_law 535 = .ok (.lcmp, 1) := by decide +kernel
theorem dL_law_536 : decode cL_law 536 = .ok (.ifCond .eq 5, 3) := by decide +kernel
theorem dL_law_539 : decode cL_law 539 = .ok (.iconst 0, 1) := by decide +kernel
theorem dL_law_540 : decode cL_law 540 = .ok (.ireturn, 1) := by decide +kernel
theorem dL_law_541 : decode cL_law 541 = .ok (.goto 906, 3) := by decide +kernel
theorem dL_law_544 : decode cL_law 544 = .ok (.aload_n 1, 1) := by decide +kernel
theorem dL_law_545 : decode cL_law 545 = .ok (.aload_n 0, 1) := by decide +kernel
theorem dL_law_546 : decode cL_law 546 = .ok (.iload 4, 2) := by decide +kernel
theorem dL_law_548 : decode cL_law 548 = .ok (.iconst 1, 1) := by decide +kernel
theorem dL_law_549 : decode cL_law 549 = .ok (.iadd, 1) := by decide +kernel
theorem dL_law_550 : decode cL_law 550 = .ok (.iaload, 1) := by decide +kernel
theorem dL_law_551 : decode cL_law 551 = .ok (.aload_n 0, 1) := by decide +kernel
theorem dL_law_552 : decode cL_law 552 = .ok (.iload 4, 2) := by decide +kernel
theorem dL_law_554 : decode cL_law 554 = .ok (.iconst 2, 1) := by decide +kernel
theorem dL_law_555 : decode cL_law 555 = .ok (.iadd, 1) := by decide +kernel
theorem dL_law_556 : decode cL_law 556 = .ok (.iaload, 1) := by decide +kernel
theorem dL_law_557 : decode cL_law 557 = .ok (.aload_n 3, 1) := by decide +kernel
theorem dL_law_558 : decode cL_law 558 = .ok (.invokestatic 107, 3) := by decide +kernel
theorem dL_law_561 : decode cL_law 561 = .ok (.istore 5, 2) := by decide +kernel
theorem dL_law_563 : decode cL_law 563 = .ok (.aload_n 2, 1) := by decide +kernel
theorem dL_law_564 : decode cL_law 564 = .ok (.aload_n 0, 1) := by decide +kernel
theorem dL_law_565 : decode cL_law 565 = .ok (.iload 4, 2) := by decide +kernel
theorem dL_law_567 : decode cL_law 567 = .ok (.iconst 1, 1) := by decide +kernel
theorem dL_law_568 : decode cL_law 568 = .ok (.iadd, 1) := by decide +kernel
theorem dL_law_569 : decode cL_law 569 = .ok (.iaload, 1) := by decide +kernel
theorem dL_law_570 : decode cL_law 570 = .ok (.aload_n 0, 1) := by decide +kernel
theorem dL_law_571 : decode cL_law 571 = .ok (.iload 4, 2) := by decide +kernel
theorem dL_law_573 : decode cL_law 573 = .ok (.iconst 2, 1) := by decide +kernel
theorem dL_law_574 : decode cL_law 574 = .ok (.iadd, 1) := by decide +kernel
theorem dL_law_575 : decode cL_law 575 = .ok (.iaload, 1) := by decide +kernel
theorem dL_law_576 : decode cL_law 576 = .ok (.invokevirtual 109, 3) := by decide +kernel
theorem dL_law_579 : decode cL_law 579 = .ok (.istore 6, 2) := by decide +kernel
theorem dL_law_581 : decode cL_law 581 = .ok (.aload_n 2, 1) := by decide +kernel
theorem dL_law_582 : decode cL_law 582 = .ok (.invokevirtual 87, 3) := by decide +kernel
theorem dL_law_585 : decode cL_law 585 = .ok (.iload 5, 2) := by decide +kernel
theorem dL_law_587 : decode cL_law 587 = .ok (.if_icmp .eq 5, 3) := by decide +kernel
theorem dL_law_590 : decode cL_law 590 = .ok (.iconst 0, 1) := by decide +kernel
theorem dL_law_591 : decode cL_law 591 = .ok (.ireturn, 1) := by decide +kernel
theorem dL_law_592 : decode cL_law 592 = .ok (.iload 5, 2) := by decide +kernel
theorem dL_law_594 : decode cL_law 594 = .ok (.ifCond .ne 15, 3) := by decide +kernel
theorem dL_law_597 : decode cL_law 597 = .ok (.aload_n 3, 1) := by decide +kernel
theorem dL_law_598 : decode cL_law 598 = .ok (.iconst 0, 1) := by decide +kernel
theorem dL_law_599 : decode cL_law 599 = .ok (.laload, 1) := by decide +kernel
theorem dL_law_600 : decode cL_law 600 = .ok (.iload 6, 2) := by decide +kernel
theorem dL_law_602 : decode cL_law 602 = .ok (.i2l, 1) := by decide +kernel
theorem dL_law_603 : decode cL_law 603 = .ok (.lcmp, 1) := by decide +kernel
theorem dL_law_604 : decode cL_law 604 = .ok (.ifCond .eq 5, 3) := by decide +kernel
theorem dL_law_607 : decode cL_law 607 = .ok (.iconst 0, 1) := by decide +kernel
theorem dL_law_608 : decode cL_law 608 = .ok (.ireturn, 1) := by decide +kernel
theorem dL_law_609 : decode cL_law 609 = .ok (.goto 838, 3) := by decide +kernel
theorem dL_law_612 : decode cL_law 612 = .ok (.aload_n 1, 1) := by decide +kernel
theorem dL_law_613 : decode cL_law 613 = .ok (.aload_n 0, 1) := by decide +kernel
theorem dL_law_614 : decode cL_law 614 = .ok (.iload 4, 2) := by decide +kernel
theorem dL_law_616 : decode cL_law 616 = .ok (.iconst 1, 1) := by decide +kernel
theorem dL_law_617 : decode cL_law 617 = .ok (.iadd, 1) := by decide +kernel
theorem dL_law_618 : decode cL_law 618 = .ok (.iaload, 1) := by decide +kernel
theorem dL_law_619 : decode cL_law 619 = .ok (.aload_n 3, 1) := by decide +kernel
theorem dL_law_620 : decode cL_law 620 = .ok (.invokestatic 110, 3) := by decide +kernel
theorem dL_law_623 : decode cL_law 623 = .ok (.istore 5, 2) := by decide +kernel
theorem dL_law_625 : decode cL_law 625 = .ok (.aload_n 2, 1) := by decide +kernel
theorem dL_law_626 : decode cL_law 626 = .ok (.aload_n 0, 1) := by decide +kernel
theorem dL_law_627 : decode cL_law 627 = .ok (.iload 4, 2) := by decide +kernel
theorem dL_law_629 : decode cL_law 629 = .ok (.iconst 1, 1) := by decide +kernel
theorem dL_law_630 : decode cL_law 630 = .ok (.iadd, 1) := by decide +kernel
theorem dL_law_631 : decode cL_law 631 = .ok (.iaload, 1) := by decide +kernel
theorem dL_law_632 : decode cL_law 632 = .ok (.invokevirtual 113, 3) := by decide +kernel
theorem dL_law_635 : decode cL_law 635 = .ok (.istore 6, 2) := by decide +kernel
theorem dL_law_637 : decode cL_law 637 = .ok (.aload_n 2, 1) := by decide +kernel
theorem dL_law_638 : decode cL_law 638 = .ok (.invokevirtual 87, 3) := by decide +kernel
theorem dL_law_641 : decode cL_law 641 = .ok (.iload 5, 2) := by decide +kernel
theorem dL_law_643 : decode cL_law 643 = .ok (.if_icmp .eq 5, 3) := by decide +kernel
theorem dL_law_646 : decode cL_law 646 = .ok (.iconst 0, 1) := by decide +kernel
theorem dL_law_647 : decode cL_law 647 = .ok (.ireturn, 1) := by decide +kernel
theorem dL_law_648 : decode cL_law 648 = .ok (.iload 5, 2) := by decide +kernel
theorem dL_law_650 : decode cL_law 650 = .ok (.ifCond .ne 15, 3) := by decide +kernel
theorem dL_law_653 : decode cL_law 653 = .ok (.aload_n 3, 1) := by decide +kernel
theorem dL_law_654 : decode cL_law 654 = .ok (.iconst 0, 1) := by decide +kernel
theorem dL_law_655 : decode cL_law 655 = .ok (.laload, 1) := by decide +kernel
theorem dL_law_656 : decode cL_law 656 = .ok (.iload 6, 2) := by decide +kernel
theorem dL_law_658 : decode cL_law 658 = .ok (.i2l, 1) := by decide +kernel
theorem dL_law_659 : decode cL_law 659 = .ok (.lcmp, 1) := by decide +kernel
theorem dL_law_660 : decode cL_law 660 = .ok (.ifCond .eq 5, 3) := by decide +kernel
theorem dL_law_663 : decode cL_law 663 = .ok (.iconst 0, 1) := by decide +kernel
theorem dL_law_664 : decode cL_law 664 = .ok (.ireturn, 1) := by decide +kernel
theorem dL_law_665 : decode cL_law 665 = .ok (.goto 782, 3) := by decide +kernel
theorem dL_law_668 : decode cL_law 668 = .ok (.aload_n 1, 1) := by decide +kernel
theorem dL_law_669 : decode cL_law 669 = .ok (.aload_n 0, 1) := by decide +kernel
theorem dL_law_670 : decode cL_law 670 = .ok (.iload 4, 2) := by decide +kernel
theorem dL_law_672 : decode cL_law 672 = .ok (.iconst 1, 1) := by decide +kernel
theorem dL_law_673 : decode cL_law 673 = .ok (.iadd, 1) := by decide +kernel
theorem dL_law_674 : decode cL_law 674 = .ok (.iaload, 1) := by decide +kernel
theorem dL_law_675 : decode cL_law 675 = .ok (.aload_n 0, 1) := by decide +kernel
theorem dL_law_676 : decode cL_law 676 = .ok (.iload 4, 2) := by decide +kernel
theorem dL_law_678 : decode cL_law 678 = .ok (.iconst 2, 1) := by decide +kernel
theorem dL_law_679 : decode cL_law 679 = .ok (.iadd, 1) := by decide +kernel
theorem dL_law_680 : decode cL_law 680 = .ok (.iaload, 1) := by decide +kernel
theorem dL_law_681 : decode cL_law 681 = .ok (.aload_n 0, 1) := by decide +kernel
theorem dL_law_682 : decode cL_law 682 = .ok (.iload 4, 2) := by decide +kernel
theorem dL_law_684 : decode cL_law 684 = .ok (.iconst 3, 1) := by decide +kernel
theorem dL_law_685 : decode cL_law 685 = .ok (.iadd, 1) := by decide +kernel
theorem dL_law_686 : decode cL_law 686 = .ok (.iaload, 1) := by decide +kernel
theorem dL_law_687 : decode cL_law 687 = .ok (.aload_n 3, 1) := by decide +kernel
theorem dL_law_688 : decode cL_law 688 = .ok (.invokestatic 114, 3) := by decide +kernel
theorem dL_law_691 : decode cL_law 691 = .ok (.istore 5, 2) := by decide +kernel
theorem dL_law_693 : decode cL_law 693 = .ok (.aload_n 2, 1) := by decide +kernel
theorem dL_law_694 : decode cL_law 694 = .ok (.aload_n 0, 1) := by decide +kernel
theorem dL_law_695 : decode cL_law 695 = .ok (.iload 4, 2) := by decide +kernel
theorem dL_law_697 : decode cL_law 697 = .ok (.iconst 1, 1) := by decide +kernel
theorem dL_law_698 : decode cL_law 698 = .ok (.iadd, 1) := by decide +kernel
theorem dL_law_699 : decode cL_law 699 = .ok (.iaload, 1) := by decide +kernel
theorem dL_law_700 : decode cL_law 700 = .ok (.aload_n 0, 1) := by decide +kernel
theorem dL_law_701 : decode cL_law 701 = .ok (.iload 4, 2) := by decide +kernel
theorem dL_law_703 : decode cL_law 703 = .ok (.iconst 2, 1) := by decide +kernel
theorem dL_law_704 : decode cL_law 704 = .ok (.iadd, 1) := by decide +kernel
theorem dL_law_705 : decode cL_law 705 = .ok (.iaload, 1) := by decide +kernel
theorem dL_law_706 : decode cL_law 706 = .ok (.aload_n 0, 1) := by decide +kernel
theorem dL_law_707 : decode cL_law 707 = .ok (.iload 4, 2) := by decide +kernel
theorem dL_law_709 : decode cL_law 709 = .ok (.iconst 3, 1) := by decide +kernel
theorem dL_law_710 : decode cL_law 710 = .ok (.iadd, 1) := by decide +kernel
theorem dL_law_711 : decode cL_law 711 = .ok (.iaload, 1) := by decide +kernel
theorem dL_law_712 : decode cL_law 712 = .ok (.invokevirtual 117, 3) := by decide +kernel
theorem dL_law_715 : decode cL_law 715 = .ok (.istore 6, 2) := by decide +kernel
theorem dL_law_717 : decode cL_law 717 = .ok (.aload_n 2, 1) := by decide +kernel
theorem dL_law_718 : decode cL_law 718 = .ok (.invokevirtual 87, 3) := by decide +kernel
theorem dL_law_721 : decode cL_law 721 = .ok (.iload 5, 2) := by decide +kernel
theorem dL_law_723 : decode cL_law 723 = .ok (.if_icmp .eq 5, 3) := by decide +kernel
theorem dL_law_726 : decode cL_law 726 = .ok (.iconst 0, 1) := by decide +kernel
theorem dL_law_727 : decode cL_law 727 = .ok (.ireturn, 1) := by decide +kernel
theorem dL_law_728 : decode cL_law 728 = .ok (.iload 5, 2) := by decide +kernel
theorem dL_law_730 : decode cL_law 730 = .ok (.ifCond .ne 15, 3) := by decide +kernel
theorem dL_law_733 : decode cL_law 733 = .ok (.aload_n 3, 1) := by decide +kernel
theorem dL_law_734 : decode cL_law 734 = .ok (.iconst 0, 1) := by decide +kernel
theorem dL_law_735 : decode cL_law 735 = .ok (.laload, 1) := by decide +kernel
theorem dL_law_736 : decode cL_law 736 = .ok (.iload 6, 2) := by decide +kernel
theorem dL_law_738 : decode cL_law 738 = .ok (.i2l, 1) := by decide +kernel
theorem dL_law_739 : decode cL_law 739 = .ok (.lcmp, 1) := by decide +kernel
theorem dL_law_740 : decode cL_law 740 = .ok (.ifCond .eq 5, 3) := by decide +kernel
theorem dL_law_743 : decode cL_law 743 = .ok (.iconst 0, 1) := by decide +kernel
theorem dL_law_744 : decode cL_law 744 = .ok (.ireturn, 1) := by decide +kernel
theorem dL_law_745 : decode cL_law 745 = .ok (.goto 702, 3) := by decide +kernel
theorem dL_law_748 : decode cL_law 748 = .ok (.aload_n 1, 1) := by decide +kernel
theorem dL_law_749 : decode cL_law 749 = .ok (.aload_n 0, 1) := by decide +kernel
theorem dL_law_750 : decode cL_law 750 = .ok (.iload 4, 2) := by decide +kernel
theorem dL_law_752 : decode cL_law 752 = .ok (.iconst 1, 1) := by decide +kernel
theorem dL_law_753 : decode cL_law 753 = .ok (.iadd, 1) := by decide +kernel
theorem dL_law_754 : decode cL_law 754 = .ok (.iaload, 1) := by decide +kernel
theorem dL_law_755 : decode cL_law 755 = .ok (.aload_n 0, 1) := by decide +kernel
theorem dL_law_756 : decode cL_law 756 = .ok (.iload 4, 2) := by decide +kernel
theorem dL_law_758 : decode cL_law 758 = .ok (.iconst 2, 1) := by decide +kernel
theorem dL_law_759 : decode cL_law 759 = .ok (.iadd, 1) := by decide +kernel
theorem dL_law_760 : decode cL_law 760 = .ok (.iaload, 1) := by decide +kernel
theorem dL_law_761 : decode cL_law 761 = .ok (.aload_n 3, 1) := by decide +kernel
theorem dL_law_762 : decode cL_law 762 = .ok (.invokestatic 118, 3) := by decide +kernel
theorem dL_law_765 : decode cL_law 765 = .ok (.istore 5, 2) := by decide +kernel
theorem dL_law_767 : decode cL_law 767 = .ok (.aload_n 2, 1) := by decide +kernel
theorem dL_law_768 : decode cL_law 768 = .ok (.aload_n 0, 1) := by decide +kernel
theorem dL_law_769 : decode cL_law 769 = .ok (.iload 4, 2) := by decide +kernel
theorem dL_law_771 : decode cL_law 771 = .ok (.iconst 1, 1) := by decide +kernel
theorem dL_law_772 : decode cL_law 772 = .ok (.iadd, 1) := by decide +kernel
theorem dL_law_773 : decode cL_law 773 = .ok (.iaload, 1) := by decide +kernel
theorem dL_law_774 : decode cL_law 774 = .ok (.aload_n 0, 1) := by decide +kernel
theorem dL_law_775 : decode cL_law 775 = .ok (.iload 4, 2) := by decide +kernel
theorem dL_law_777 : decode cL_law 777 = .ok (.iconst 2, 1) := by decide +kernel
theorem dL_law_778 : decode cL_law 778 = .ok (.iadd, 1) := by decide +kernel
theorem dL_law_779 : decode cL_law 779 = .ok (.iaload, 1) := by decide +kernel
theorem dL_law_780 : decode cL_law 780 = .ok (.invokevirtual 120, 3) := by decide +kernel
theorem dL_law_783 : decode cL_law 783 = .ok (.istore 6, 2) := by decide +kernel
theorem dL_law_785 : decode cL_law 785 = .ok (.aload_n 2, 1) := by decide +kernel
theorem dL_law_786 : decode cL_law 786 = .ok (.invokevirtual 87, 3) := by decide +kernel
theorem dL_law_789 : decode cL_law 789 = .ok (.iload 5, 2) := by decide +kernel
theorem dL_law_791 : decode cL_law 791 = .ok (.if_icmp .eq 5, 3) := by decide +kernel
theorem dL_law_794 : decode cL_law 794 = .ok (.iconst 0, 1) := by decide +kernel
theorem dL_law_795 : decode cL_law 795 = .ok (.ireturn, 1) := by decide +kernel
theorem dL_law_796 : decode cL_law 796 = .ok (.iload 5, 2) := by decide +kernel
theorem dL_law_798 : decode cL_law 798 = .ok (.ifCond .ne 15, 3) := by decide +kernel
theorem dL_law_801 : decode cL_law 801 = .ok (.aload_n 3, 1) := by decide +kernel
theorem dL_law_802 : decode cL_law 802 = .ok (.iconst 0, 1) := by decide +kernel
theorem dL_law_803 : decode cL_law 803 = .ok (.laload, 1) := by decide +kernel
theorem dL_law_804 : decode cL_law 804 = .ok (.iload 6, 2) := by decide +kernel
theorem dL_law_806 : decode cL_law 806 = .ok (.i2l, 1) := by decide +kernel
theorem dL_law_807 : decode cL_law 807 = .ok (.lcmp, 1) := by decide +kernel
theorem dL_law_808 : decode cL_law 808 = .ok (.ifCond .eq 5, 3) := by decide +kernel
theorem dL_law_811 : decode cL_law 811 = .ok (.iconst 0, 1) := by decide +kernel
theorem dL_law_812 : decode cL_law 812 = .ok (.ireturn, 1) := by decide +kernel
theorem dL_law_813 : decode cL_law 813 = .ok (.goto 634, 3) := by decide +kernel
theorem dL_law_816 : decode cL_law 816 = .ok (.aload_n 1, 1) := by decide +kernel
theorem dL_law_817 : decode cL_law 817 = .ok (.aload_n 0, 1) := by decide +kernel
theorem dL_law_818 : decode cL_law 818 = .ok (.iload 4, 2) := by decide +kernel
theorem dL_law_820 : decode cL_law 820 = .ok (.iconst 1, 1) := by decide +kernel
theorem dL_law_821 : decode cL_law 821 = .ok (.iadd, 1) := by decide +kernel
theorem dL_law_822 : decode cL_law 822 = .ok (.iaload, 1) := by decide +kernel
theorem dL_law_823 : decode cL_law 823 = .ok (.aload_n 0, 1) := by decide +kernel
theorem dL_law_824 : decode cL_law 824 = .ok (.iload 4, 2) := by decide +kernel
theorem dL_law_826 : decode cL_law 826 = .ok (.iconst 2, 1) := by decide +kernel
theorem dL_law_827 : decode cL_law 827 = .ok (.iadd, 1) := by decide +kernel
theorem dL_law_828 : decode cL_law 828 = .ok (.iaload, 1) := by decide +kernel
theorem dL_law_829 : decode cL_law 829 = .ok (.aload_n 3, 1) := by decide +kernel
theorem dL_law_830 : decode cL_law 830 = .ok (.invokestatic 121, 3) := by decide +kernel
theorem dL_law_833 : decode cL_law 833 = .ok (.istore 5, 2) := by decide +kernel
theorem dL_law_835 : decode cL_law 835 = .ok (.aload_n 2, 1) := by decide +kernel
theorem dL_law_836 : decode cL_law 836 = .ok (.aload_n 0, 1) := by decide +kernel
theorem dL_law_837 : decode cL_law 837 = .ok (.iload 4, 2) := by decide +kernel
theorem dL_law_839 : decode cL_law 839 = .ok (.iconst 1, 1) := by decide +kernel
theorem dL_law_840 : decode cL_law 840 = .ok (.iadd, 1) := by decide +kernel
theorem dL_law_841 : decode cL_law 841 = .ok (.iaload, 1) := by decide +kernel
theorem dL_law_842 : decode cL_law 842 = .ok (.aload_n 0, 1) := by decide +kernel
theorem dL_law_843 : decode cL_law 843 = .ok (.iload 4, 2) := by decide +kernel
theorem dL_law_845 : decode cL_law 845 = .ok (.iconst 2, 1) := by decide +kernel
theorem dL_law_846 : decode cL_law 846 = .ok (.iadd, 1) := by decide +kernel
theorem dL_law_847 : decode cL_law 847 = .ok (.iaload, 1) := by decide +kernel
theorem dL_law_848 : decode cL_law 848 = .ok (.invokevirtual 123, 3) := by decide +kernel
theorem dL_law_851 : decode cL_law 851 = .ok (.istore 6, 2) := by decide +kernel
theorem dL_law_853 : decode cL_law 853 = .ok (.aload_n 2, 1) := by decide +kernel
theorem dL_law_854 : decode cL_law 854 = .ok (.invokevirtual 87, 3) := by decide +kernel
theorem dL_law_857 : decode cL_law 857 = .ok (.iload 5, 2) := by decide +kernel
theorem dL_law_859 : decode cL_law 859 = .ok (.if_icmp .eq 5, 3) := by decide +kernel
theorem dL_law_862 : decode cL_law 862 = .ok (.iconst 0, 1) := by decide +kernel
theorem dL_law_863 : decode cL_law 863 = .ok (.ireturn, 1) := by decide +kernel
theorem dL_law_864 : decode cL_law 864 = .ok (.iload 5, 2) := by decide +kernel
theorem dL_law_866 : decode cL_law 866 = .ok (.ifCond .ne 15, 3) := by decide +kernel
theorem dL_law_869 : decode cL_law 869 = .ok (.aload_n 3, 1) := by decide +kernel
theorem dL_law_870 : decode cL_law 870 = .ok (.iconst 0, 1) := by decide +kernel
theorem dL_law_871 : decode cL_law 871 = .ok (.laload, 1) := by decide +kernel
theorem dL_law_872 : decode cL_law 872 = .ok (.iload 6, 2) := by decide +kernel
theorem dL_law_874 : decode cL_law 874 = .ok (.i2l, 1) := by decide +kernel
theorem dL_law_875 : decode cL_law 875 = .ok (.lcmp, 1) := by decide +kernel
theorem dL_law_876 : decode cL_law 876 = .ok (.ifCond .eq 5, 3) := by decide +kernel
theorem dL_law_879 : decode cL_law 879 = .ok (.iconst 0, 1) := by decide +kernel
theorem dL_law_880 : decode cL_law 880 = .ok (.ireturn, 1) := by decide +kernel
theorem dL_law_881 : decode cL_law 881 = .ok (.goto 566, 3) := by decide +kernel
theorem dL_law_884 : decode cL_law 884 = .ok (.aload_n 1, 1) := by decide +kernel
theorem dL_law_885 : decode cL_law 885 = .ok (.aload_n 0, 1) := by decide +kernel
theorem dL_law_886 : decode cL_law 886 = .ok (.iload 4, 2) := by decide +kernel
theorem dL_law_888 : decode cL_law 888 = .ok (.iconst 1, 1) := by decide +kernel
theorem dL_law_889 : decode cL_law 889 = .ok (.iadd, 1) := by decide +kernel
theorem dL_law_890 : decode cL_law 890 = .ok (.iaload, 1) := by decide +kernel
theorem dL_law_891 : decode cL_law 891 = .ok (.aload_n 0, 1) := by decide +kernel
theorem dL_law_892 : decode cL_law 892 = .ok (.iload 4, 2) := by decide +kernel
theorem dL_law_894 : decode cL_law 894 = .ok (.iconst 2, 1) := by decide +kernel
theorem dL_law_895 : decode cL_law 895 = .ok (.iadd, 1) := by decide +kernel
theorem dL_law_896 : decode cL_law 896 = .ok (.iaload, 1) := by decide +kernel
theorem dL_law_897 : decode cL_law 897 = .ok (.aload_n 3, 1) := by decide +kernel
theorem dL_law_898 : decode cL_law 898 = .ok (.invokestatic 124, 3) := by decide +kernel
theorem dL_law_901 : decode cL_law 901 = .ok (.istore 5, 2) := by decide +kernel
theorem dL_law_903 : decode cL_law 903 = .ok (.aload_n 2, 1) := by decide +kernel
theorem dL_law_904 : decode cL_law 904 = .ok (.aload_n 0, 1) := by decide +kernel
theorem dL_law_905 : decode cL_law 905 = .ok (.iload 4, 2) := by decide +kernel
theorem dL_law_907 : decode cL_law 907 = .ok (.iconst 1, 1) := by decide +kernel
theorem dL_law_908 : decode cL_law 908 = .ok (.iadd, 1) := by decide +kernel
theorem dL_law_909 : decode cL_law 909 = .ok (.iaload, 1) := by decide +kernel
theorem dL_law_910 : decode cL_law 910 = .ok (.aload_n 0, 1) := by decide +kernel
theorem dL_law_911 : decode cL_law 911 = .ok (.iload 4, 2) := by decide +kernel
theorem dL_law_913 : decode cL_law 913 = .ok (.iconst 2, 1) := by decide +kernel
theorem dL_law_914 : decode cL_law 914 = .ok (.iadd, 1) := by decide +kernel
theorem dL_law_915 : decode cL_law 915 = .ok (.iaload, 1) := by decide +kernel
theorem dL_law_916 : decode cL_law 916 = .ok (.invokevirtual 126, 3) := by decide +kernel
theorem dL_law_919 : decode cL_law 919 = .ok (.istore 6, 2) := by decide +kernel
theorem dL_law_921 : decode cL_law 921 = .ok (.aload_n 2, 1) := by decide +kernel
theorem dL_law_922 : decode cL_law 922 = .ok (.invokevirtual 87, 3) := by decide +kernel
theorem dL_law_925 : decode cL_law 925 = .ok (.iload 5, 2) := by decide +kernel
theorem dL_law_927 : decode cL_law 927 = .ok (.if_icmp .eq 5, 3) := by decide +kernel
theorem dL_law_930 : decode cL_law 930 = .ok (.iconst 0, 1) := by decide +kernel
theorem dL_law_931 : decode cL_law 931 = .ok (.ireturn, 1) := by decide +kernel
theorem dL_law_932 : decode cL_law 932 = .ok (.iload 5, 2) := by decide +kernel
theorem dL_law_934 : decode cL_law 934 = .ok (.ifCond .ne 15, 3) := by decide +kernel
theorem dL_law_937 : decode cL_law 937 = .ok (.aload_n 3, 1) := by decide +kernel
theorem dL_law_938 : decode cL_law 938 = .ok (.iconst 0, 1) := by decide +kernel
theorem dL_law_939 : decode cL_law 939 = .ok (.laload, 1) := by decide +kernel
theorem dL_law_940 : decode cL_law 940 = .ok (.iload 6, 2) := by decide +kernel
theorem dL_law_942 : decode cL_law 942 = .ok (.i2l, 1) := by decide +kernel
theorem dL_law_943 : decode cL_law 943 = .ok (.lcmp, 1) := by decide +kernel
theorem dL_law_944 : decode cL_law 944 = .ok (.ifCond .eq 5, 3) := by decide +kernel
theorem dL_law_947 : decode cL_law 947 = .ok (.iconst 0, 1) := by decide +kernel
theorem dL_law_948 : decode cL_law 948 = .ok (.ireturn, 1) := by decide +kernel
theorem dL_law_949 : decode cL_law 949 = .ok (.goto 498, 3) := by decide +kernel
theorem dL_law_952 : decode cL_law 952 = .ok (.aload_n 1, 1) := by decide +kernel
theorem dL_law_953 : decode cL_law 953 = .ok (.aload_n 0, 1) := by decide +kernel
theorem dL_law_954 : decode cL_law 954 = .ok (.iload 4, 2) := by decide +kernel
theorem dL_law_956 : decode cL_law 956 = .ok (.iconst 1, 1) := by decide +kernel
theorem dL_law_957 : decode cL_law 957 = .ok (.iadd, 1) := by decide +kernel
theorem dL_law_958 : decode cL_law 958 = .ok (.iaload, 1) := by decide +kernel
theorem dL_law_959 : decode cL_law 959 = .ok (.aload_n 0, 1) := by decide +kernel
theorem dL_law_960 : decode cL_law 960 = .ok (.iload 4, 2) := by decide +kernel
theorem dL_law_962 : decode cL_law 962 = .ok (.iconst 2, 1) := by decide +kernel
theorem dL_law_963 : decode cL_law 963 = .ok (.iadd, 1) := by decide +kernel
theorem dL_law_964 : decode cL_law 964 = .ok (.iaload, 1) := by decide +kernel
theorem dL_law_965 : decode cL_law 965 = .ok (.aload_n 3, 1) := by decide +kernel
theorem dL_law_966 : decode cL_law 966 = .ok (.invokestatic 127, 3) := by decide +kernel
theorem dL_law_969 : decode cL_law 969 = .ok (.istore 5, 2) := by decide +kernel
theorem dL_law_971 : decode cL_law 971 = .ok (.aload_n 2, 1) := by decide +kernel
theorem dL_law_972 : decode cL_law 972 = .ok (.aload_n 0, 1) := by decide +kernel
theorem dL_law_973 : decode cL_law 973 = .ok (.iload 4, 2) := by decide +kernel
theorem dL_law_975 : decode cL_law 975 = .ok (.iconst 1, 1) := by decide +kernel
theorem dL_law_976 : decode cL_law 976 = .ok (.iadd, 1) := by decide +kernel
theorem dL_law_977 : decode cL_law 977 = .ok (.iaload, 1) := by decide +kernel
theorem dL_law_978 : decode cL_law 978 = .ok (.aload_n 0, 1) := by decide +kernel
theorem dL_law_979 : decode cL_law 979 = .ok (.iload 4, 2) := by decide +kernel
theorem dL_law_981 : decode cL_law 981 = .ok (.iconst 2, 1) := by decide +kernel
theorem dL_law_982 : decode cL_law 982 = .ok (.iadd, 1) := by decide +kernel
theorem dL_law_983 : decode cL_law 983 = .ok (.iaload, 1) := by decide +kernel
theorem dL_law_984 : decode cL_law 984 = .ok (.invokevirtual 129, 3) := by decide +kernel
theorem dL_law_987 : decode cL_law 987 = .ok (.istore 6, 2) := by decide +kernel
theorem dL_law_989 : decode cL_law 989 = .ok (.aload_n 2, 1) := by decide +kernel
theorem dL_law_990 : decode cL_law 990 = .ok (.invokevirtual 87, 3) := by decide +kernel
theorem dL_law_993 : decode cL_law 993 = .ok (.iload 5, 2) := by decide +kernel
theorem dL_law_995 : decode cL_law 995 = .ok (.if_icmp .eq 5, 3) := by decide +kernel
theorem dL_law_998 : decode cL_law 998 = .ok (.iconst 0, 1) := by decide +kernel
theorem dL_law_999 : decode cL_law 999 = .ok (.ireturn, 1) := by decide +kernel
theorem dL_law_1000 : decode cL_law 1000 = .ok (.iload 5, 2) := by decide +kernel
theorem dL_law_1002 : decode cL_law 1002 = .ok (.ifCond .ne 15, 3) := by decide +kernel
theorem dL_law_1005 : decode cL_law 1005 = .ok (.aload_n 3, 1) := by decide +kernel
theorem dL_law_1006 : decode cL_law 1006 = .ok (.iconst 0, 1) := by decide +kernel
theorem dL_law_1007 : decode cL_law 1007 = .ok (.laload, 1) := by decide +kernel
theorem dL_law_1008 : decode cL_law 1008 = .ok (.iload 6, 2) := by decide +kernel
theorem dL_law_1010 : decode cL_law 1010 = .ok (.i2l, 1) := by decide +kernel
theorem dL_law_1011 : decode cL_law 1011 = .ok (.lcmp, 1) := by decide +kernel
theorem dL_law_1012 : decode cL_law 1012 = .ok (.ifCond .eq 5, 3) := by decide +kernel
theorem dL_law_1015 : decode cL_law 1015 = .ok (.iconst 0, 1) := by decide +kernel
theorem dL_law_1016 : decode cL_law 1016 = .ok (.ireturn, 1) := by decide +kernel
theorem dL_law_1017 : decode cL_law 1017 = .ok (.goto 430, 3) := by decide +kernel
theorem dL_law_1020 : decode cL_law 1020 = .ok (.aload_n 1, 1) := by decide +kernel
theorem dL_law_1021 : decode cL_law 1021 = .ok (.aload_n 0, 1) := by decide +kernel
theorem dL_law_1022 : decode cL_law 1022 = .ok (.iload 4, 2) := by decide +kernel
theorem dL_law_1024 : decode cL_law 1024 = .ok (.iconst 1, 1) := by decide +kernel
theorem dL_law_1025 : decode cL_law 1025 = .ok (.iadd, 1) := by decide +kernel
theorem dL_law_1026 : decode cL_law 1026 = .ok (.iaload, 1) := by decide +kernel
theorem dL_law_1027 : decode cL_law 1027 = .ok (.aload_n 0, 1) := by decide +kernel
theorem dL_law_1028 : decode cL_law 1028 = .ok (.iload 4, 2) := by decide +kernel
theorem dL_law_1030 : decode cL_law 1030 = .ok (.iconst 2, 1) := by decide +kernel
theorem dL_law_1031 : decode cL_law 1031 = .ok (.iadd, 1) := by decide +kernel
theorem dL_law_1032 : decode cL_law 1032 = .ok (.iaload, 1) := by decide +kernel
theorem dL_law_1033 : decode cL_law 1033 = .ok (.aload_n 3, 1) := by decide +kernel
theorem dL_law_1034 : decode cL_law 1034 = .ok (.invokestatic 130, 3) := by decide +kernel
theorem dL_law_1037 : decode cL_law 1037 = .ok (.istore 5, 2) := by decide +kernel
theorem dL_law_1039 : decode cL_law 1039 = .ok (.aload_n 2, 1) := by decide +kernel
theorem dL_law_1040 : decode cL_law 1040 = .ok (.aload_n 0, 1) := by decide +kernel
theorem dL_law_1041 : decode cL_law 1041 = .ok (.iload 4, 2) := by decide +kernel
theorem dL_law_1043 : decode cL_law 1043 = .ok (.iconst 1, 1) := by decide +kernel
theorem dL_law_1044 : decode cL_law 1044 = .ok (.iadd, 1) := by decide +kernel
theorem dL_law_1045 : decode cL_law 1045 = .ok (.iaload, 1) := by decide +kernel
theorem dL_law_1046 : decode cL_law 1046 = .ok (.aload_n 0, 1) := by decide +kernel
theorem dL_law_1047 : decode cL_law 1047 = .ok (.iload 4, 2) := by decide +kernel
theorem dL_law_1049 : decode cL_law 1049 = .ok (.iconst 2, 1) := by decide +kernel
theorem dL_law_1050 : decode cL_law 1050 = .ok (.iadd, 1) := by decide +kernel
theorem dL_law_1051 : decode cL_law 1051 = .ok (.iaload, 1) := by decide +kernel
theorem dL_law_1052 : decode cL_law 1052 = .ok (.invokevirtual 132, 3) := by decide +kernel
theorem dL_law_1055 : decode cL_law 1055 = .ok (.istore 6, 2) := by decide +kernel
theorem dL_law_1057 : decode cL_law 1057 = .ok (.aload_n 2, 1) := by decide +kernel
theorem dL_law_1058 : decode cL_law 1058 = .ok (.invokevirtual 87, 3) := by decide +kernel
theorem dL_law_1061 : decode cL_law 1061 = .ok (.iload 5, 2) := by decide +kernel
theorem dL_law_1063 : decode cL_law 1063 = .ok (.if_icmp .eq 5, 3) := by decide +kernel
theorem dL_law_1066 : decode cL_law 1066 = .ok (.iconst 0, 1) := by decide +kernel
theorem dL_law_1067 : decode cL_law 1067 = .ok (.ireturn, 1) := by decide +kernel
theorem dL_law_1068 : decode cL_law 1068 = .ok (.iload 5, 2) := by decide +kernel
theorem dL_law_1070 : decode cL_law 1070 = .ok (.ifCond .ne 15, 3) := by decide +kernel
theorem dL_law_1073 : decode cL_law 1073 = .ok (.aload_n 3, 1) := by decide +kernel
theorem dL_law_1074 : decode cL_law 1074 = .ok (.iconst 0, 1) := by decide +kernel
theorem dL_law_1075 : decode cL_law 1075 = .ok (.laload, 1) := by decide +kernel
theorem dL_law_1076 : decode cL_law 1076 = .ok (.iload 6, 2) := by decide +kernel
theorem dL_law_1078 : decode cL_law 1078 = .ok (.i2l, 1) := by decide +kernel
theorem dL_law_1079 : decode cL_law 1079 = .ok (.lcmp, 1) := by decide +kernel
theorem dL_law_1080 : decode cL_law 1080 = .ok (.ifCond .eq 5, 3) := by decide +kernel
theorem dL_law_1083 : decode cL_law 1083 = .ok (.iconst 0, 1) := by decide +kernel
theorem dL_law_1084 : decode cL_law 1084 = .ok (.ireturn, 1) := by decide +kernel
theorem dL_law_1085 : decode cL_law 1085 = .ok (.goto 362, 3) := by decide +kernel
theorem dL_law_1088 : decode cL_law 1088 = .ok (.aload_n 1, 1) := by decide +kernel
theorem dL_law_1089 : decode cL_law 1089 = .ok (.aload_n 0, 1) := by decide +kernel
theorem dL_law_1090 : decode cL_law 1090 = .ok (.iload 4, 2) := by decide +kernel
theorem dL_law_1092 : decode cL_law 1092 = .ok (.iconst 1, 1) := by decide +kernel
theorem dL_law_1093 : decode cL_law 1093 = .ok (.iadd, 1) := by decide +kernel
theorem dL_law_1094 : decode cL_law 1094 = .ok (.iaload, 1) := by decide +kernel
theorem dL_law_1095 : decode cL_law 1095 = .ok (.aload_n 3, 1) := by decide +kernel
theorem dL_law_1096 : decode cL_law 1096 = .ok (.invokestatic 133, 3) := by decide +kernel
theorem dL_law_1099 : decode cL_law 1099 = .ok (.istore 5, 2) := by decide +kernel
theorem dL_law_1101 : decode cL_law 1101 = .ok (.aload_n 2, 1) := by decide +kernel
theorem dL_law_1102 : decode cL_law 1102 = .ok (.aload_n 0, 1) := by decide +kernel
theorem dL_law_1103 : decode cL_law 1103 = .ok (.iload 4, 2) := by decide +kernel
theorem dL_law_1105 : decode cL_law 1105 = .ok (.iconst 1, 1) := by decide +kernel
theorem dL_law_1106 : decode cL_law 1106 = .ok (.iadd, 1) := by decide +kernel
theorem dL_law_1107 : decode cL_law 1107 = .ok (.iaload, 1) := by decide +kernel
theorem dL_law_1108 : decode cL_law 1108 = .ok (.invokevirtual 135, 3) := by decide +kernel
theorem dL_law_1111 : decode cL_law 1111 = .ok (.istore 6, 2) := by decide +kernel
theorem dL_law_1113 : decode cL_law 1113 = .ok (.aload_n 2, 1) := by decide +kernel
theorem dL_law_1114 : decode cL_law 1114 = .ok (.invokevirtual 87, 3) := by decide +kernel
theorem dL_law_1117 : decode cL_law 1117 = .ok (.iload 5, 2) := by decide +kernel
theorem dL_law_1119 : decode cL_law 1119 = .ok (.if_icmp .eq 5, 3) := by decide +kernel
theorem dL_law_1122 : decode cL_law 1122 = .ok (.iconst 0, 1) := by decide +kernel
theorem dL_law_1123 : decode cL_law 1123 = .ok (.ireturn, 1) := by decide +kernel
theorem dL_law_1124 : decode cL_law 1124 = .ok (.iload 5, 2) := by decide +kernel
theorem dL_law_1126 : decode cL_law 1126 = .ok (.ifCond .ne 15, 3) := by decide +kernel
theorem dL_law_1129 : decode cL_law 1129 = .ok (.aload_n 3, 1) := by decide +kernel
theorem dL_law_1130 : decode cL_law 1130 = .ok (.iconst 0, 1) := by decide +kernel
theorem dL_law_1131 : decode cL_law 1131 = .ok (.laload, 1) := by decide +kernel
theorem dL_law_1132 : decode cL_law 1132 = .ok (.iload 6, 2) := by decide +kernel
theorem dL_law_1134 : decode cL_law 1134 = .ok (.i2l, 1) := by decide +kernel
theorem dL_law_1135 : decode cL_law 1135 = .ok (.lcmp, 1) := by decide +kernel
theorem dL_law_1136 : decode cL_law 1136 = .ok (.ifCond .eq 5, 3) := by decide +kernel
theorem dL_law_1139 : decode cL_law 1139 = .ok (.iconst 0, 1) := by decide +kernel
theorem dL_law_1140 : decode cL_law 1140 = .ok (.ireturn, 1) := by decide +kernel
theorem dL_law_1141 : decode cL_law 1141 = .ok (.goto 306, 3) := by decide +kernel
theorem dL_law_1144 : decode cL_law 1144 = .ok (.aload_n 1, 1) := by decide +kernel
theorem dL_law_1145 : decode cL_law 1145 = .ok (.aload_n 0, 1) := by decide +kernel
theorem dL_law_1146 : decode cL_law 1146 = .ok (.iload 4, 2) := by decide +kernel
theorem dL_law_1148 : decode cL_law 1148 = .ok (.iconst 1, 1) := by decide +kernel
theorem dL_law_1149 : decode cL_law 1149 = .ok (.iadd, 1) := by decide +kernel
theorem dL_law_1150 : decode cL_law 1150 = .ok (.iaload, 1) := by decide +kernel
theorem dL_law_1151 : decode cL_law 1151 = .ok (.aload_n 3, 1) := by decide +kernel
theorem dL_law_1152 : decode cL_law 1152 = .ok (.invokestatic 136, 3) := by decide +kernel
theorem dL_law_1155 : decode cL_law 1155 = .ok (.istore 5, 2) := by decide +kernel
theorem dL_law_1157 : decode cL_law 1157 = .ok (.aload_n 2, 1) := by decide +kernel
theorem dL_law_1158 : decode cL_law 1158 = .ok (.aload_n 0, 1) := by decide +kernel
theorem dL_law_1159 : decode cL_law 1159 = .ok (.iload 4, 2) := by decide +kernel
theorem dL_law_1161 : decode cL_law 1161 = .ok (.iconst 1, 1) := by decide +kernel
theorem dL_law_1162 : decode cL_law 1162 = .ok (.iadd, 1) := by decide +kernel
theorem dL_law_1163 : decode cL_law 1163 = .ok (.iaload, 1) := by decide +kernel
theorem dL_law_1164 : decode cL_law 1164 = .ok (.invokevirtual 138, 3) := by decide +kernel
theorem dL_law_1167 : decode cL_law 1167 = .ok (.istore 6, 2) := by decide +kernel
theorem dL_law_1169 : decode cL_law 1169 = .ok (.aload_n 2, 1) := by decide +kernel
theorem dL_law_1170 : decode cL_law 1170 = .ok (.invokevirtual 87, 3) := by decide +kernel
theorem dL_law_1173 : decode cL_law 1173 = .ok (.iload 5, 2) := by decide +kernel
theorem dL_law_1175 : decode cL_law 1175 = .ok (.if_icmp .eq 5, 3) := by decide +kernel
theorem dL_law_1178 : decode cL_law 1178 = .ok (.iconst 0, 1) := by decide +kernel
theorem dL_law_1179 : decode cL_law 1179 = .ok (.ireturn, 1) := by decide +kernel
theorem dL_law_1180 : decode cL_law 1180 = .ok (.iload 5, 2) := by decide +kernel
theorem dL_law_1182 : decode cL_law 1182 = .ok (.ifCond .ne 15, 3) := by decide +kernel
theorem dL_law_1185 : decode cL_law 1185 = .ok (.aload_n 3, 1) := by decide +kernel
theorem dL_law_1186 : decode cL_law 1186 = .ok (.iconst 0, 1) := by decide +kernel
theorem dL_law_1187 : decode cL_law 1187 = .ok (.laload, 1) := by decide +kernel
theorem dL_law_1188 : decode cL_law 1188 = .ok (.iload 6, 2) := by decide +kernel
theorem dL_law_1190 : decode cL_law 1190 = .ok (.i2l, 1) := by decide +kernel
theorem dL_law_1191 : decode cL_law 1191 = .ok (.lcmp, 1) := by decide +kernel
theorem dL_law_1192 : decode cL_law 1192 = .ok (.ifCond .eq 5, 3) := by decide +kernel
theorem dL_law_1195 : decode cL_law 1195 = .ok (.iconst 0, 1) := by decide +kernel
theorem dL_law_1196 : decode cL_law 1196 = .ok (.ireturn, 1) := by decide +kernel
theorem dL_law_1197 : decode cL_law 1197 = .ok (.goto 250, 3) := by decide +kernel
theorem dL_law_1200 : decode cL_law 1200 = .ok (.aload_n 1, 1) := by decide +kernel
theorem dL_law_1201 : decode cL_law 1201 = .ok (.aload_n 0, 1) := by decide +kernel
theorem dL_law_1202 : decode cL_law 1202 = .ok (.iload 4, 2) := by decide +kernel
theorem dL_law_1204 : decode cL_law 1204 = .ok (.iconst 1, 1) := by decide +kernel
theorem dL_law_1205 : decode cL_law 1205 = .ok (.iadd, 1) := by decide +kernel
theorem dL_law_1206 : decode cL_law 1206 = .ok (.iaload, 1) := by decide +kernel
theorem dL_law_1207 : decode cL_law 1207 = .ok (.aload_n 0, 1) := by decide +kernel
theorem dL_law_1208 : decode cL_law 1208 = .ok (.iload 4, 2) := by decide +kernel
theorem dL_law_1210 : decode cL_law 1210 = .ok (.iconst 2, 1) := by decide +kernel
theorem dL_law_1211 : decode cL_law 1211 = .ok (.iadd, 1) := by decide +kernel
theorem dL_law_1212 : decode cL_law 1212 = .ok (.iaload, 1) := by decide +kernel
theorem dL_law_1213 : decode cL_law 1213 = .ok (.aload_n 3, 1) := by decide +kernel
theorem dL_law_1214 : decode cL_law 1214 = .ok (.invokestatic 139, 3) := by decide +kernel
theorem dL_law_1217 : decode cL_law 1217 = .ok (.istore 5, 2) := by decide +kernel
theorem dL_law_1219 : decode cL_law 1219 = .ok (.aload_n 2, 1) := by decide +kernel
theorem dL_law_1220 : decode cL_law 1220 = .ok (.aload_n 0, 1) := by decide +kernel
theorem dL_law_1221 : decode cL_law 1221 = .ok (.iload 4, 2) := by decide +kernel
theorem dL_law_1223 : decode cL_law 1223 = .ok (.iconst 1, 1) := by decide +kernel
theorem dL_law_1224 : decode cL_law 1224 = .ok (.iadd, 1) := by decide +kernel
theorem dL_law_1225 : decode cL_law 1225 = .ok (.iaload, 1) := by decide +kernel
theorem dL_law_1226 : decode cL_law 1226 = .ok (.aload_n 0, 1) := by decide +kernel
theorem dL_law_1227 : decode cL_law 1227 = .ok (.iload 4, 2) := by decide +kernel
theorem dL_law_1229 : decode cL_law 1229 = .ok (.iconst 2, 1) := by decide +kernel
theorem dL_law_1230 : decode cL_law 1230 = .ok (.iadd, 1) := by decide +kernel
theorem dL_law_1231 : decode cL_law 1231 = .ok (.iaload, 1) := by decide +kernel
theorem dL_law_1232 : decode cL_law 1232 = .ok (.invokevirtual 141, 3) := by decide +kernel
theorem dL_law_1235 : decode cL_law 1235 = .ok (.istore 6, 2) := by decide +kernel
theorem dL_law_1237 : decode cL_law 1237 = .ok (.aload_n 2, 1) := by decide +kernel
theorem dL_law_1238 : decode cL_law 1238 = .ok (.invokevirtual 87, 3) := by decide +kernel
theorem dL_law_1241 : decode cL_law 1241 = .ok (.iload 5, 2) := by decide +kernel
theorem dL_law_1243 : decode cL_law 1243 = .ok (.if_icmp .eq 5, 3) := by decide +kernel
theorem dL_law_1246 : decode cL_law 1246 = .ok (.iconst 0, 1) := by decide +kernel
theorem dL_law_1247 : decode cL_law 1247 = .ok (.ireturn, 1) := by decide +kernel
theorem dL_law_1248 : decode cL_law 1248 = .ok (.iload 5, 2) := by decide +kernel
theorem dL_law_1250 : decode cL_law 1250 = .ok (.ifCond .ne 15, 3) := by decide +kernel
theorem dL_law_1253 : decode cL_law 1253 = .ok (.aload_n 3, 1) := by decide +kernel
theorem dL_law_1254 : decode cL_law 1254 = .ok (.iconst 0, 1) := by decide +kernel
theorem dL_law_1255 : decode cL_law 1255 = .ok (.laload, 1) := by decide +kernel
theorem dL_law_1256 : decode cL_law 1256 = .ok (.iload 6, 2) := by decide +kernel
theorem dL_law_1258 : decode cL_law 1258 = .ok (.i2l, 1) := by decide +kernel
theorem dL_law_1259 : decode cL_law 1259 = .ok (.lcmp, 1) := by decide +kernel
theorem dL_law_1260 : decode cL_law 1260 = .ok (.ifCond .eq 5, 3) := by decide +kernel
theorem dL_law_1263 : decode cL_law 1263 = .ok (.iconst 0, 1) := by decide +kernel
theorem dL_law_1264 : decode cL_law 1264 = .ok (.ireturn, 1) := by decide +kernel
theorem dL_law_1265 : decode cL_law 1265 = .ok (.goto 182, 3) := by decide +kernel
theorem dL_law_1268 : decode cL_law 1268 = .ok (.aload_n 1, 1) := by decide +kernel
theorem dL_law_1269 : decode cL_law 1269 = .ok (.aload_n 0, 1) := by decide +kernel
theorem dL_law_1270 : decode cL_law 1270 = .ok (.iload 4, 2) := by decide +kernel
theorem dL_law_1272 : decode cL_law 1272 = .ok (.iconst 1, 1) := by decide +kernel
theorem dL_law_1273 : decode cL_law 1273 = .ok (.iadd, 1) := by decide +kernel
theorem dL_law_1274 : decode cL_law 1274 = .ok (.iaload, 1) := by decide +kernel
theorem dL_law_1275 : decode cL_law 1275 = .ok (.aload_n 0, 1) := by decide +kernel
theorem dL_law_1276 : decode cL_law 1276 = .ok (.iload 4, 2) := by decide +kernel
theorem dL_law_1278 : decode cL_law 1278 = .ok (.iconst 2, 1) := by decide +kernel
theorem dL_law_1279 : decode cL_law 1279 = .ok (.iadd, 1) := by decide +kernel
theorem dL_law_1280 : decode cL_law 1280 = .ok (.iaload, 1) := by decide +kernel
theorem dL_law_1281 : decode cL_law 1281 = .ok (.aload_n 3, 1) := by decide +kernel
theorem dL_law_1282 : decode cL_law 1282 = .ok (.invokestatic 142, 3) := by decide +kernel
theorem dL_law_1285 : decode cL_law 1285 = .ok (.istore 5, 2) := by decide +kernel
theorem dL_law_1287 : decode cL_law 1287 = .ok (.aload_n 2, 1) := by decide +kernel
theorem dL_law_1288 : decode cL_law 1288 = .ok (.aload_n 0, 1) := by decide +kernel
theorem dL_law_1289 : decode cL_law 1289 = .ok (.iload 4, 2) := by decide +kernel
theorem dL_law_1291 : decode cL_law 1291 = .ok (.iconst 1, 1) := by decide +kernel
theorem dL_law_1292 : decode cL_law 1292 = .ok (.iadd, 1) := by decide +kernel
theorem dL_law_1293 : decode cL_law 1293 = .ok (.iaload, 1) := by decide +kernel
theorem dL_law_1294 : decode cL_law 1294 = .ok (.aload_n 0, 1) := by decide +kernel
theorem dL_law_1295 : decode cL_law 1295 = .ok (.iload 4, 2) := by decide +kernel
theorem dL_law_1297 : decode cL_law 1297 = .ok (.iconst 2, 1) := by decide +kernel
theorem dL_law_1298 : decode cL_law 1298 = .ok (.iadd, 1) := by decide +kernel
theorem dL_law_1299 : decode cL_law 1299 = .ok (.iaload, 1) := by decide +kernel
theorem dL_law_1300 : decode cL_law 1300 = .ok (.invokevirtual 144, 3) := by decide +kernel
theorem dL_law_1303 : decode cL_law 1303 = .ok (.istore 6, 2) := by decide +kernel
theorem dL_law_1305 : decode cL_law 1305 = .ok (.aload_n 2, 1) := by decide +kernel
theorem dL_law_1306 : decode cL_law 1306 = .ok (.invokevirtual 87, 3) := by decide +kernel
theorem dL_law_1309 : decode cL_law 1309 = .ok (.iload 5, 2) := by decide +kernel
theorem dL_law_1311 : decode cL_law 1311 = .ok (.if_icmp .eq 5, 3) := by decide +kernel
theorem dL_law_1314 : decode cL_law 1314 = .ok (.iconst 0, 1) := by decide +kernel
theorem dL_law_1315 : decode cL_law 1315 = .ok (.ireturn, 1) := by decide +kernel
theorem dL_law_1316 : decode cL_law 1316 = .ok (.iload 5, 2) := by decide +kernel
theorem dL_law_1318 : decode cL_law 1318 = .ok (.ifCond .ne 15, 3) := by decide +kernel
theorem dL_law_1321 : decode cL_law 1321 = .ok (.aload_n 3, 1) := by decide +kernel
theorem dL_law_1322 : decode cL_law 1322 = .ok (.iconst 0, 1) := by decide +kernel
theorem dL_law_1323 : decode cL_law 1323 = .ok (.laload, 1) := by decide +kernel
theorem dL_law_1324 : decode cL_law 1324 = .ok (.iload 6, 2) := by decide +kernel
theorem dL_law_1326 : decode cL_law 1326 = .ok (.i2l, 1) := by decide +kernel
theorem dL_law_1327 : decode cL_law 1327 = .ok (.lcmp, 1) := by decide +kernel
theorem dL_law_1328 : decode cL_law 1328 = .ok (.ifCond .eq 5, 3) := by decide +kernel
theorem dL_law_1331 : decode cL_law 1331 = .ok (.iconst 0, 1) := by decide +kernel
theorem dL_law_1332 : decode cL_law 1332 = .ok (.ireturn, 1) := by decide +kernel
theorem dL_law_1333 : decode cL_law 1333 = .ok (.goto 114, 3) := by decide +kernel
theorem dL_law_1336 : decode cL_law 1336 = .ok (.aload_n 1, 1) := by decide +kernel
theorem dL_law_1337 : decode cL_law 1337 = .ok (.aload_n 0, 1) := by decide +kernel
theorem dL_law_1338 : decode cL_law 1338 = .ok (.iload 4, 2) := by decide +kernel
theorem dL_law_1340 : decode cL_law 1340 = .ok (.iconst 1, 1) := by decide +kernel
theorem dL_law_1341 : decode cL_law 1341 = .ok (.iadd, 1) := by decide +kernel
theorem dL_law_1342 : decode cL_law 1342 = .ok (.iaload, 1) := by decide +kernel
theorem dL_law_1343 : decode cL_law 1343 = .ok (.aload_n 3, 1) := by decide +kernel
theorem dL_law_1344 : decode cL_law 1344 = .ok (.invokestatic 145, 3) := by decide +kernel
theorem dL_law_1347 : decode cL_law 1347 = .ok (.istore 5, 2) := by decide +kernel
theorem dL_law_1349 : decode cL_law 1349 = .ok (.aload_n 2, 1) := by decide +kernel
theorem dL_law_1350 : decode cL_law 1350 = .ok (.aload_n 0, 1) := by decide +kernel
theorem dL_law_1351 : decode cL_law 1351 = .ok (.iload 4, 2) := by decide +kernel
theorem dL_law_1353 : decode cL_law 1353 = .ok (.iconst 1, 1) := by decide +kernel
theorem dL_law_1354 : decode cL_law 1354 = .ok (.iadd, 1) := by decide +kernel
theorem dL_law_1355 : decode cL_law 1355 = .ok (.iaload, 1) := by decide +kernel
theorem dL_law_1356 : decode cL_law 1356 = .ok (.invokevirtual 147, 3) := by decide +kernel
theorem dL_law_1359 : decode cL_law 1359 = .ok (.istore 6, 2) := by decide +kernel
theorem dL_law_1361 : decode cL_law 1361 = .ok (.aload_n 2, 1) := by decide +kernel
theorem dL_law_1362 : decode cL_law 1362 = .ok (.invokevirtual 87, 3) := by decide +kernel
theorem dL_law_1365 : decode cL_law 1365 = .ok (.iload 5, 2) := by decide +kernel
theorem dL_law_1367 : decode cL_law 1367 = .ok (.if_icmp .eq 5, 3) := by decide +kernel
theorem dL_law_1370 : decode cL_law 1370 = .ok (.iconst 0, 1) := by decide +kernel
theorem dL_law_1371 : decode cL_law 1371 = .ok (.ireturn, 1) := by decide +kernel
theorem dL_law_1372 : decode cL_law 1372 = .ok (.iload 5, 2) := by decide +kernel
theorem dL_law_1374 : decode cL_law 1374 = .ok (.ifCond .ne 15, 3) := by decide +kernel
theorem dL_law_1377 : decode cL_law 1377 = .ok (.aload_n 3, 1) := by decide +kernel
theorem dL_law_1378 : decode cL_law 1378 = .ok (.iconst 0, 1) := by decide +kernel
theorem dL_law_1379 : decode cL_law 1379 = .ok (.laload, 1) := by decide +kernel
theorem dL_law_1380 : decode cL_law 1380 = .ok (.iload 6, 2) := by decide +kernel
theorem dL_law_1382 : decode cL_law 1382 = .ok (.i2l, 1) := by decide +kernel
theorem dL_law_1383 : decode cL_law 1383 = .ok (.lcmp, 1) := by decide +kernel
theorem dL_law_1384 : decode cL_law 1384 = .ok (.ifCond .eq 5, 3) := by decide +kernel
theorem dL_law_1387 : decode cL_law 1387 = .ok (.iconst 0, 1) := by decide +kernel
theorem dL_law_1388 : decode cL_law 1388 = .ok (.ireturn, 1) := by decide +kernel
theorem dL_law_1389 : decode cL_law 1389 = .ok (.goto 58, 3) := by decide +kernel
theorem dL_law_1392 : decode cL_law 1392 = .ok (.aload_n 1, 1) := by decide +kernel
theorem dL_law_1393 : decode cL_law 1393 = .ok (.invokevirtual 148, 3) := by decide +kernel
theorem dL_law_1396 : decode cL_law 1396 = .ok (.dstore 5, 2) := by decide +kernel
theorem dL_law_1398 : decode cL_law 1398 = .ok (.aload_n 2, 1) := by decide +kernel
theorem dL_law_1399 : decode cL_law 1399 = .ok (.invokevirtual 152, 3) := by decide +kernel
theorem dL_law_1402 : decode cL_law 1402 = .ok (.dstore 7, 2) := by decide +kernel
theorem dL_law_1404 : decode cL_law 1404 = .ok (.dload 5, 2) := by decide +kernel
theorem dL_law_1406 : decode cL_law 1406 = .ok (.dload 7, 2) := by decide +kernel
theorem dL_law_1408 : decode cL_law 1408 = .ok (.dcmp .l, 1) := by decide +kernel
theorem dL_law_1409 : decode cL_law 1409 = .ok (.ifCond .eq 21, 3) := by decide +kernel
theorem dL_law_1412 : decode cL_law 1412 = .ok (.dload 5, 2) := by decide +kernel
theorem dL_law_1414 : decode cL_law 1414 = .ok (.dload 5, 2) := by decide +kernel
theorem dL_law_1416 : decode cL_law 1416 = .ok (.dcmp .l, 1) := by decide +kernel
theorem dL_law_1417 : decode cL_law 1417 = .ok (.ifCond .eq 11, 3) := by decide +kernel
theorem dL_law_1420 : decode cL_law 1420 = .ok (.dload 7, 2) := by decide +kernel
theorem dL_law_1422 : decode cL_law 1422 = .ok (.dload 7, 2) := by decide +kernel
theorem dL_law_1424 : decode cL_law 1424 = .ok (.dcmp .l, 1) := by decide +kernel
theorem dL_law_1425 : decode cL_law 1425 = .ok (.ifCond .ne 5, 3) := by decide +kernel
theorem dL_law_1428 : decode cL_law 1428 = .ok (.iconst 0, 1) := by decide +kernel
theorem dL_law_1429 : decode cL_law 1429 = .ok (.ireturn, 1) := by decide +kernel
theorem dL_law_1430 : decode cL_law 1430 = .ok (.goto 17, 3) := by decide +kernel
theorem dL_law_1433 : decode cL_law 1433 = .ok (.aload_n 1, 1) := by decide +kernel
theorem dL_law_1434 : decode cL_law 1434 = .ok (.invokevirtual 153, 3) := by decide +kernel
theorem dL_law_1437 : decode cL_law 1437 = .ok (.aload_n 2, 1) := by decide +kernel
theorem dL_law_1438 : decode cL_law 1438 = .ok (.invokevirtual 157, 3) := by decide +kernel
theorem dL_law_1441 : decode cL_law 1441 = .ok (.lcmp, 1) := by decide +kernel
theorem dL_law_1442 : decode cL_law 1442 = .ok (.ifCond .eq 5, 3) := by decide +kernel
theorem dL_law_1445 : decode cL_law 1445 = .ok (.iconst 0, 1) := by decide +kernel
theorem dL_law_1446 : decode cL_law 1446 = .ok (.ireturn, 1) := by decide +kernel
theorem dL_law_1447 : decode cL_law 1447 = .ok (.iinc 4 5, 3) := by decide +kernel
theorem dL_law_1450 : decode cL_law 1450 = .ok (.goto (-1427), 3) := by decide +kernel
theorem dL_law_1453 : decode cL_law 1453 = .ok (.iconst 1, 1) := by decide +kernel
theorem dL_law_1454 : decode cL_law 1454 = .ok (.ireturn, 1) := by decide +kernel
end
section
theorem dJ6_bitCount_0f7a4_0 : decode cJ6_bitCount_0f7a4 0 = .ok (.iload_n 0, 1) := by decide +kernel
theorem dJ6_bitCount_0f7a4_1 : decode cJ6_bitCount_0f7a4 1 = .ok (.iload_n 0, 1) := by decide +kernel
theorem dJ6_bitCount_0f7a4_2 : decode cJ6_bitCount_0f7a4 2 = .ok (.iconst 1, 1) := by decide +kernel
theorem dJ6_bitCount_0f7a4_3 : decode cJ6_bitCount_0f7a4 3 = .ok (.iushr, 1) := by decide +kernel
theorem dJ6_bitCount_0f7a4_4 : decode cJ6_bitCount_0f7a4 4 = .ok (.ldc_w 265, 3) := by decide +kernel
theorem dJ6_bitCount_0f7a4_7 : decode cJ6_bitCount_0f7a4 7 = .ok (.iand, 1) := by decide +kernel
theorem dJ6_bitCount_0f7a4_8 : decode cJ6_bitCount_0f7a4 8 = .ok (.isub, 1) := by decide +kernel
theorem dJ6_bitCount_0f7a4_9 : decode cJ6_bitCount_0f7a4 9 = .ok (.istore_n 0, 1) := by decide +kernel
theorem dJ6_bitCount_0f7a4_10 : decode cJ6_bitCount_0f7a4 10 = .ok (.iload_n 0, 1) := by decide +kernel
theorem dJ6_bitCount_0f7a4_11 : decode cJ6_bitCount_0f7a4 11 = .ok (.ldc_w 266, 3) := by decide +kernel
theorem dJ6_bitCount_0f7a4_14 : decode cJ6_bitCount_0f7a4 14 = .ok (.iand, 1) := by decide +kernel
theorem dJ6_bitCount_0f7a4_15 : decode cJ6_bitCount_0f7a4 15 = .ok (.iload_n 0, 1) := by decide +kernel
theorem dJ6_bitCount_0f7a4_16 : decode cJ6_bitCount_0f7a4 16 = .ok (.iconst 2, 1) := by decide +kernel
theorem dJ6_bitCount_0f7a4_17 : decode cJ6_bitCount_0f7a4 17 = .ok (.iushr, 1) := by decide +kernel
theorem dJ6_bitCount_0f7a4_18 : decode cJ6_bitCount_0f7a4 18 = .ok (.ldc_w 266, 3) := by decide +kernel
theorem dJ6_bitCount_0f7a4_21 : decode cJ6_bitCount_0f7a4 21 = .ok (.iand, 1) := by decide +kernel
theorem dJ6_bitCount_0f7a4_22 : decode cJ6_bitCount_0f7a4 22 = .ok (.iadd, 1) := by decide +kernel
theorem dJ6_bitCount_0f7a4_23 : decode cJ6_bitCount_0f7a4 23 = .ok (.istore_n 0, 1) := by decide +kernel
theorem dJ6_bitCount_0f7a4_24 : decode cJ6_bitCount_0f7a4 24 = .ok (.iload_n 0, 1) := by decide +kernel
theorem dJ6_bitCount_0f7a4_25 : decode cJ6_bitCount_0f7a4 25 = .ok (.iload_n 0, 1) := by decide +kernel
theorem dJ6_bitCount_0f7a4_26 : decode cJ6_bitCount_0f7a4 26 = .ok (.iconst 4, 1) := by decide +kernel
theorem dJ6_bitCount_0f7a4_27 : decode cJ6_bitCount_0f7a4 27 = .ok (.iushr, 1) := by decide +kernel
theorem dJ6_bitCount_0f7a4_28 : decode cJ6_bitCount_0f7a4 28 = .ok (.iadd, 1) := by decide +kernel
theorem dJ6_bitCount_0f7a4_29 : decode cJ6_bitCount_0f7a4 29 = .ok (.ldc_w 267, 3) := by decide +kernel
theorem dJ6_bitCount_0f7a4_32 : decode cJ6_bitCount_0f7a4 32 = .ok (.iand, 1) := by decide +kernel
theorem dJ6_bitCount_0f7a4_33 : decode cJ6_bitCount_0f7a4 33 = .ok (.istore_n 0, 1) := by decide +kernel
theorem dJ6_bitCount_0f7a4_34 : decode cJ6_bitCount_0f7a4 34 = .ok (.iload_n 0, 1) := by decide +kernel
theorem dJ6_bitCount_0f7a4_35 : decode cJ6_bitCount_0f7a4 35 = .ok (.iload_n 0, 1) := by decide +kernel
theorem dJ6_bitCount_0f7a4_36 : decode cJ6_bitCount_0f7a4 36 = .ok (.bipush 8, 2) := by decide +kernel
theorem dJ6_bitCount_0f7a4_38 : decode cJ6_bitCount_0f7a4 38 = .ok (.iushr, 1) := by decide +kernel
theorem dJ6_bitCount_0f7a4_39 : decode cJ6_bitCount_0f7a4 39 = .ok (.iadd, 1) := by decide +kernel
theorem dJ6_bitCount_0f7a4_40 : decode cJ6_bitCount_0f7a4 40 = .ok (.istore_n 0, 1) := by decide +kernel
theorem dJ6_bitCount_0f7a4_41 : decode cJ6_bitCount_0f7a4 41 = .ok (.iload_n 0, 1) := by decide +kernel
theorem dJ6_bitCount_0f7a4_42 : decode cJ6_bitCount_0f7a4 42 = .ok (.iload_n 0, 1) := by decide +kernel
theorem dJ6_bitCount_0f7a4_43 : decode cJ6_bitCount_0f7a4 43 = .ok (.bipush 16, 2) := by decide +kernel
theorem dJ6_bitCount_0f7a4_45 : decode cJ6_bitCount_0f7a4 45 = .ok (.iushr, 1) := by decide +kernel
theorem dJ6_bitCount_0f7a4_46 : decode cJ6_bitCount_0f7a4 46 = .ok (.iadd, 1) := by decide +kernel
theorem dJ6_bitCount_0f7a4_47 : decode cJ6_bitCount_0f7a4 47 = .ok (.istore_n 0, 1) := by decide +kernel
theorem dJ6_bitCount_0f7a4_48 : decode cJ6_bitCount_0f7a4 48 = .ok (.iload_n 0, 1) := by decide +kernel
theorem dJ6_bitCount_0f7a4_49 : decode cJ6_bitCount_0f7a4 49 = .ok (.bipush 63, 2) := by decide +kernel
theorem dJ6_bitCount_0f7a4_51 : decode cJ6_bitCount_0f7a4 51 = .ok (.iand, 1) := by decide +kernel
theorem dJ6_bitCount_0f7a4_52 : decode cJ6_bitCount_0f7a4 52 = .ok (.ireturn, 1) := by decide +kernel
theorem dJ9_floorMod_7cf53_0 : decode cJ9_floorMod_7cf53 0 = .ok (.iload_n 0, 1) := by decide +kernel
theorem dJ9_floorMod_7cf53_1 : decode cJ9_floorMod_7cf53 1 = .ok (.iload_n 1, 1) := by decide +kernel
theorem dJ9_floorMod_7cf53_2 : decode cJ9_floorMod_7cf53 2 = .ok (.irem, 1) := by decide +kernel
theorem dJ9_floorMod_7cf53_3 : decode cJ9_floorMod_7cf53 3 = .ok (.istore_n 2, 1) := by decide +kernel
theorem dJ9_floorMod_7cf53_4 : decode cJ9_floorMod_7cf53 4 = .ok (.iload_n 0, 1) := by decide +kernel
theorem dJ9_floorMod_7cf53_5 : decode cJ9_floorMod_7cf53 5 = .ok (.iload_n 1, 1) := by decide +kernel
theorem dJ9_floorMod_7cf53_6 : decode cJ9_floorMod_7cf53 6 = .ok (.ixor, 1) := by decide +kernel
theorem dJ9_floorMod_7cf53_7 : decode cJ9_floorMod_7cf53 7 = .ok (.ifCond .ge 11, 3) := by decide +kernel
theorem dJ9_floorMod_7cf53_10 : decode cJ9_floorMod_7cf53 10 = .ok (.iload_n 2, 1) := by decide +kernel
theorem dJ9_floorMod_7cf53_11 : decode cJ9_floorMod_7cf53 11 = .ok (.ifCond .eq 7, 3) := by decide +kernel
theorem dJ9_floorMod_7cf53_14 : decode cJ9_floorMod_7cf53 14 = .ok (.iload_n 2, 1) := by decide +kernel
theorem dJ9_floorMod_7cf53_15 : decode cJ9_floorMod_7cf53 15 = .ok (.iload_n 1, 1) := by decide +kernel
theorem dJ9_floorMod_7cf53_16 : decode cJ9_floorMod_7cf53 16 = .ok (.iadd, 1) := by decide +kernel
theorem dJ9_floorMod_7cf53_17 : decode cJ9_floorMod_7cf53 17 = .ok (.ireturn, 1) := by decide +kernel
theorem dJ9_floorMod_7cf53_18 : decode cJ9_floorMod_7cf53 18 = .ok (.iload_n 2, 1) := by decide +kernel
theorem dJ9_floorMod_7cf53_19 : decode cJ9_floorMod_7cf53 19 = .ok (.ireturn, 1) := by decide +kernel
theorem dJ9_max_7cf53_0 : decode cJ9_max_7cf53 0 = .ok (.iload_n 0, 1) := by decide +kernel
theorem dJ9_max_7cf53_1 : decode cJ9_max_7cf53 1 = .ok (.iload_n 1, 1) := by decide +kernel
theorem dJ9_max_7cf53_2 : decode cJ9_max_7cf53 2 = .ok (.if_icmp .lt 7, 3) := by decide +kernel
theorem dJ9_max_7cf53_5 : decode cJ9_max_7cf53 5 = .ok (.iload_n 0, 1) := by decide +kernel
theorem dJ9_max_7cf53_6 : decode cJ9_max_7cf53 6 = .ok (.goto 4, 3) := by decide +kernel
theorem dJ9_max_7cf53_9 : decode cJ9_max_7cf53 9 = .ok (.iload_n 1, 1) := by decide +kernel
theorem dJ9_max_7cf53_10 : decode cJ9_max_7cf53 10 = .ok (.ireturn, 1) := by decide +kernel
theorem dJ9_min_7cf53_0 : decode cJ9_min_7cf53 0 = .ok (.iload_n 0, 1) := by decide +kernel
theorem dJ9_min_7cf53_1 : decode cJ9_min_7cf53 1 = .ok (.iload_n 1, 1) := by decide +kernel
theorem dJ9_min_7cf53_2 : decode cJ9_min_7cf53 2 = .ok (.if_icmp .gt 7, 3) := by decide +kernel
theorem dJ9_min_7cf53_5 : decode cJ9_min_7cf53 5 = .ok (.iload_n 0, 1) := by decide +kernel
theorem dJ9_min_7cf53_6 : decode cJ9_min_7cf53 6 = .ok (.goto 4, 3) := by decide +kernel
theorem dJ9_min_7cf53_9 : decode cJ9_min_7cf53 9 = .ok (.iload_n 1, 1) := by decide +kernel
theorem dJ9_min_7cf53_10 : decode cJ9_min_7cf53 10 = .ok (.ireturn, 1) := by decide +kernel
theorem dJxa1e45_init_da8c8_0 : decode cJxa1e45_init_da8c8 0 = .ok (.aload_n 0, 1) := by decide +kernel
theorem dJxa1e45_init_da8c8_1 : decode cJxa1e45_init_da8c8 1 = .ok (.invokespecial 1, 3) := by decide +kernel
theorem dJxa1e45_init_da8c8_4 : decode cJxa1e45_init_da8c8 4 = .ok (.return_, 1) := by decide +kernel
theorem dJxc12de_init_da8c8_0 : decode cJxc12de_init_da8c8 0 = .ok (.aload_n 0, 1) := by decide +kernel
theorem dJxc12de_init_da8c8_1 : decode cJxc12de_init_da8c8 1 = .ok (.invokespecial 1, 3) := by decide +kernel
theorem dJxc12de_init_da8c8_4 : decode cJxc12de_init_da8c8 4 = .ok (.aload_n 0, 1) := by decide +kernel
theorem dJxc12de_init_da8c8_5 : decode cJxc12de_init_da8c8 5 = .ok (.iconst 0, 1) := by decide +kernel
theorem dJxc12de_init_da8c8_6 : decode cJxc12de_init_da8c8 6 = .ok (.putfield 7, 3) := by decide +kernel
theorem dJxc12de_init_da8c8_9 : decode cJxc12de_init_da8c8 9 = .ok (.return_, 1) := by decide +kernel
theorem dJx4a65c_init_da8c8_0 : decode cJx4a65c_init_da8c8 0 = .ok (.aload_n 0, 1) := by decide +kernel
theorem dJx4a65c_init_da8c8_1 : decode cJx4a65c_init_da8c8 1 = .ok (.invokespecial 1, 3) := by decide +kernel
theorem dJx4a65c_init_da8c8_4 : decode cJx4a65c_init_da8c8 4 = .ok (.aload_n 0, 1) := by decide +kernel
theorem dJx4a65c_init_da8c8_5 : decode cJx4a65c_init_da8c8 5 = .ok (.getstatic 39, 3) := by decide +kernel
theorem dJx4a65c_init_da8c8_8 : decode cJx4a65c_init_da8c8 8 = .ok (.putfield 9, 3) := by decide +kernel
theorem dJx4a65c_init_da8c8_11 : decode cJx4a65c_init_da8c8 11 = .ok (.return_, 1) := by decide +kernel
theorem dJx4a65c_grow_92f84_0 : decode cJx4a65c_grow_92f84 0 = .ok (.aload_n 0, 1) := by decide +kernel
theorem dJx4a65c_grow_92f84_1 : decode cJx4a65c_grow_92f84 1 = .ok (.getfield 9, 3) := by decide +kernel
theorem dJx4a65c_grow_92f84_4 : decode cJx4a65c_grow_92f84 4 = .ok (.arraylength, 1) := by decide +kernel
theorem dJx4a65c_grow_92f84_5 : decode cJx4a65c_grow_92f84 5 = .ok (.istore_n 2, 1) := by decide +kernel
theorem dJx4a65c_grow_92f84_6 : decode cJx4a65c_grow_92f84 6 = .ok (.iload_n 2, 1) := by decide +kernel
theorem dJx4a65c_grow_92f84_7 : decode cJx4a65c_grow_92f84 7 = .ok (.ifCond .gt 13, 3) := by decide +kernel
theorem dJx4a65c_grow_92f84_10 : decode cJx4a65c_grow_92f84 10 = .ok (.aload_n 0, 1) := by decide +kernel
theorem dJx4a65c_grow_92f84_11 : decode cJx4a65c_grow_92f84 11 = .ok (.getfield 9, 3) := by decide +kernel
theorem dJx4a65c_grow_92f84_14 : decode cJx4a65c_grow_92f84 14 = .ok (.getstatic 39, 3) := by decide +kernel
theorem dJx4a65c_grow_92f84_17 : decode cJx4a65c_grow_92f84 17 = .ok (.if_acmp .eq 28, 3) := by decide +kernel
theorem dJx4a65c_grow_92f84_20 : decode cJx4a65c_grow_92f84 20 = .ok (.iload_n 2, 1) := by decide +kernel
theorem dJx4a65c_grow_92f84_21 : decode cJx4a65c_grow_92f84 21 = .ok (.iload_n 1, 1) := by decide +kernel
theorem dJx4a65c_grow_92f84_22 : decode cJx4a65c_grow_92f84 22 = .ok (.iload_n 2, 1) := by decide +kernel
theorem dJx4a65c_grow_92f84_23 : decode cJx4a65c_grow_92f84 23 = .ok (.isub, 1) := by decide +kernel
theorem dJx4a65c_grow_92f84_24 : decode cJx4a65c_grow_92f84 24 = .ok (.iload_n 2, 1) := by decide +kernel
theorem dJx4a65c_grow_92f84_25 : decode cJx4a65c_grow_92f84 25 = .ok (.iconst 1, 1) := by decide +kernel
theorem dJx4a65c_grow_92f84_26 : decode cJx4a65c_grow_92f84 26 = .ok (.ishr, 1) := by decide +kernel
theorem dJx4a65c_grow_92f84_27 : decode cJx4a65c_grow_92f84 27 = .ok (.invokestatic 73, 3) := by decide +kernel
theorem dJx4a65c_grow_92f84_30 : decode cJx4a65c_grow_92f84 30 = .ok (.istore_n 3, 1) := by decide +kernel
theorem dJx4a65c_grow_92f84_31 : decode cJx4a65c_grow_92f84 31 = .ok (.aload_n 0, 1) := by decide +kernel
theorem dJx4a65c_grow_92f84_32 : decode cJx4a65c_grow_92f84 32 = .ok (.aload_n 0, 1) := by decide +kernel
theorem dJx4a65c_grow_92f84_33 : decode cJx4a65c_grow_92f84 33 = .ok (.getfield 9, 3) := by decide +kernel
theorem dJx4a65c_grow_92f84_36 : decode cJx4a65c_grow_92f84 36 = .ok (.iload_n 3, 1) := by decide +kernel
theorem dJx4a65c_grow_92f84_37 : decode cJx4a65c_grow_92f84 37 = .ok (.invokestatic 66, 3) := by decide +kernel
theorem dJx4a65c_grow_92f84_40 : decode cJx4a65c_grow_92f84 40 = .ok (.dup_x1, 1) := by decide +kernel
theorem dJx4a65c_grow_92f84_41 : decode cJx4a65c_grow_92f84 41 = .ok (.putfield 9, 3) := by decide +kernel
theorem dJx4a65c_grow_92f84_44 : decode cJx4a65c_grow_92f84 44 = .ok (.areturn, 1) := by decide +kernel
theorem dJx4a65c_grow_92f84_45 : decode cJx4a65c_grow_92f84 45 = .ok (.aload_n 0, 1) := by decide +kernel
theorem dJx4a65c_grow_92f84_46 : decode cJx4a65c_grow_92f84 46 = .ok (.bipush 10, 2) := by decide +kernel
theorem dJx4a65c_grow_92f84_48 : decode cJx4a65c_grow_92f84 48 = .ok (.iload_n 1, 1) := by decide +kernel
theorem dJx4a65c_grow_92f84_49 : decode cJx4a65c_grow_92f84 49 = .ok (.invokestatic 79, 3) := by decide +kernel
theorem dJx4a65c_grow_92f84_52 : decode cJx4a65c_grow_92f84 52 = .ok (.anewarray 7, 3) := by decide +kernel
theorem dJx4a65c_grow_92f84_55 : decode cJx4a65c_grow_92f84 55 = .ok (.dup_x1, 1) := by decide +kernel
theorem dJx4a65c_grow_92f84_56 : decode cJx4a65c_grow_92f84 56 = .ok (.putfield 9, 3) := by decide +kernel
theorem dJx4a65c_grow_92f84_59 : decode cJx4a65c_grow_92f84 59 = .ok (.areturn, 1) := by decide +kernel
theorem dJx4a65c_grow_d5877_0 : decode cJx4a65c_grow_d5877 0 = .ok (.aload_n 0, 1) := by decide +kernel
theorem dJx4a65c_grow_d5877_1 : decode cJx4a65c_grow_d5877 1 = .ok (.aload_n 0, 1) := by decide +kernel
theorem dJx4a65c_grow_d5877_2 : decode cJx4a65c_grow_d5877 2 = .ok (.getfield 48, 3) := by decide +kernel
theorem dJx4a65c_grow_d5877_5 : decode cJx4a65c_grow_d5877 5 = .ok (.iconst 1, 1) := by decide +kernel
theorem dJx4a65c_grow_d5877_6 : decode cJx4a65c_grow_d5877 6 = .ok (.iadd, 1) := by decide +kernel
theorem dJx4a65c_grow_d5877_7 : decode cJx4a65c_grow_d5877 7 = .ok (.invokevirtual 69, 3) := by decide +kernel
theorem dJx4a65c_grow_d5877_10 : decode cJx4a65c_grow_d5877 10 = .ok (.areturn, 1) := by decide +kernel
theorem dJx4a65c_size_8abf5_0 : decode cJx4a65c_size_8abf5 0 = .ok (.aload_n 0, 1) := by decide +kernel
theorem dJx4a65c_size_8abf5_1 : decode cJx4a65c_size_8abf5 1 = .ok (.getfield 48, 3) := by decide +kernel
theorem dJx4a65c_size_8abf5_4 : decode cJx4a65c_size_8abf5 4 = .ok (.ireturn, 1) := by decide +kernel
theorem dJx4a65c_elementData_915e3_0 : decode cJx4a65c_elementData_915e3 0 = .ok (.aload_n 0, 1) := by decide +kernel
theorem dJx4a65c_elementData_915e3_1 : decode cJx4a65c_elementData_915e3 1 = .ok (.getfield 9, 3) := by decide +kernel
theorem dJx4a65c_elementData_915e3_4 : decode cJx4a65c_elementData_915e3 4 = .ok (.iload_n 1, 1) := by decide +kernel
theorem dJx4a65c_elementData_915e3_5 : decode cJx4a65c_elementData_915e3 5 = .ok (.aaload, 1) := by decide +kernel
theorem dJx4a65c_elementData_915e3_6 : decode cJx4a65c_elementData_915e3 6 = .ok (.areturn, 1) := by decide +kernel
theorem dJx4a65c_get_915e3_0 : decode cJx4a65c_get_915e3 0 = .ok (.iload_n 1, 1) := by decide +kernel
theorem dJx4a65c_get_915e3_1 : decode cJx4a65c_get_915e3 1 = .ok (.aload_n 0, 1) := by decide +kernel
theorem dJx4a65c_get_915e3_2 : decode cJx4a65c_get_915e3 2 = .ok (.getfield 48, 3) := by decide +kernel
theorem dJx4a65c_get_915e3_5 : decode cJx4a65c_get_915e3 5 = .ok (.invokestatic 118, 3) := by decide +kernel
theorem dJx4a65c_get_915e3_8 : decode cJx4a65c_get_915e3 8 = .ok (.pop, 1) := by decide +kernel
theorem dJx4a65c_get_915e3_9 : decode cJx4a65c_get_915e3 9 = .ok (.aload_n 0, 1) := by decide +kernel
theorem dJx4a65c_get_915e3_10 : decode cJx4a65c_get_915e3 10 = .ok (.iload_n 1, 1) := by decide +kernel
theorem dJx4a65c_get_915e3_11 : decode cJx4a65c_get_915e3 11 = .ok (.invokevirtual 123, 3) := by decide +kernel
theorem dJx4a65c_get_915e3_14 : decode cJx4a65c_get_915e3 14 = .ok (.areturn, 1) := by decide +kernel
theorem dJx4a65c_add_72be8_0 : decode cJx4a65c_add_72be8 0 = .ok (.iload_n 3, 1) := by decide +kernel
theorem dJx4a65c_add_72be8_1 : decode cJx4a65c_add_72be8 1 = .ok (.aload_n 2, 1) := by decide +kernel
theorem dJx4a65c_add_72be8_2 : decode cJx4a65c_add_72be8 2 = .ok (.arraylength, 1) := by decide +kernel
theorem dJx4a65c_add_72be8_3 : decode cJx4a65c_add_72be8 3 = .ok (.if_icmp .ne 8, 3) := by decide +kernel
theorem dJx4a65c_add_72be8_6 : decode cJx4a65c_add_72be8 6 = .ok (.aload_n 0, 1) := by decide +kernel
theorem dJx4a65c_add_72be8_7 : decode cJx4a65c_add_72be8 7 = .ok (.invokevirtual 129, 3) := by decide +kernel
theorem dJx4a65c_add_72be8_10 : decode cJx4a65c_add_72be8 10 = .ok (.astore_n 2, 1) := by decide +kernel
theorem dJx4a65c_add_72be8_11 : decode cJx4a65c_add_72be8 11 = .ok (.aload_n 2, 1) := by decide +kernel
theorem dJx4a65c_add_72be8_12 : decode cJx4a65c_add_72be8 12 = .ok (.iload_n 3, 1) := by decide +kernel
theorem dJx4a65c_add_72be8_13 : decode cJx4a65c_add_72be8 13 = .ok (.aload_n 1, 1) := by decide +kernel
theorem dJx4a65c_add_72be8_14 : decode cJx4a65c_add_72be8 14 = .ok (.aastore, 1) := by decide +kernel
theorem dJx4a65c_add_72be8_15 : decode cJx4a65c_add_72be8 15 = .ok (.aload_n 0, 1) := by decide +kernel
theorem dJx4a65c_add_72be8_16 : decode cJx4a65c_add_72be8 16 = .ok (.iload_n 3, 1) := by decide +kernel
theorem dJx4a65c_add_72be8_17 : decode cJx4a65c_add_72be8 17 = .ok (.iconst 1, 1) := by decide +kernel
theorem dJx4a65c_add_72be8_18 : decode cJx4a65c_add_72be8 18 = .ok (.iadd, 1) := by decide +kernel
theorem dJx4a65c_add_72be8_19 : decode cJx4a65c_add_72be8 19 = .ok (.putfield 48, 3) := by decide +kernel
theorem dJx4a65c_add_72be8_22 : decode cJx4a65c_add_72be8 22 = .ok (.return_, 1) := by decide +kernel
theorem dJx4a65c_add_9ea2d_0 : decode cJx4a65c_add_9ea2d 0 = .ok (.aload_n 0, 1) := by decide +kernel
theorem dJx4a65c_add_9ea2d_1 : decode cJx4a65c_add_9ea2d 1 = .ok (.dup, 1) := by decide +kernel
theorem dJx4a65c_add_9ea2d_2 : decode cJx4a65c_add_9ea2d 2 = .ok (.getfield 63, 3) := by decide +kernel
theorem dJx4a65c_add_9ea2d_5 : decode cJx4a65c_add_9ea2d 5 = .ok (.iconst 1, 1) := by decide +kernel
theorem dJx4a65c_add_9ea2d_6 : decode cJx4a65c_add_9ea2d 6 = .ok (.iadd, 1) := by decide +kernel
theorem dJx4a65c_add_9ea2d_7 : decode cJx4a65c_add_9ea2d 7 = .ok (.putfield 63, 3) := by decide +kernel
theorem dJx4a65c_add_9ea2d_10 : decode cJx4a65c_add_9ea2d 10 = .ok (.aload_n 0, 1) := by decide +kernel
theorem dJx4a65c_add_9ea2d_11 : decode cJx4a65c_add_9ea2d 11 = .ok (.aload_n 1, 1) := by decide +kernel
theorem dJx4a65c_add_9ea2d_12 : decode cJx4a65c_add_9ea2d 12 = .ok (.aload_n 0, 1) := by decide +kernel
theorem dJx4a65c_add_9ea2d_13 : decode cJx4a65c_add_9ea2d 13 = .ok (.getfield 9, 3) := by decide +kernel
theorem dJx4a65c_add_9ea2d_16 : decode cJx4a65c_add_9ea2d 16 = .ok (.aload_n 0, 1) := by decide +kernel
theorem dJx4a65c_add_9ea2d_17 : decode cJx4a65c_add_9ea2d 17 = .ok (.getfield 48, 3) := by decide +kernel
theorem dJx4a65c_add_9ea2d_20 : decode cJx4a65c_add_9ea2d 20 = .ok (.invokevirtual 131, 3) := by decide +kernel
theorem dJx4a65c_add_9ea2d_23 : decode cJx4a65c_add_9ea2d 23 = .ok (.iconst 1, 1) := by decide +kernel
theorem dJx4a65c_add_9ea2d_24 : decode cJx4a65c_add_9ea2d 24 = .ok (.ireturn, 1) := by decide +kernel
theorem dJ7_copyOf_1904c_0 : decode cJ7_copyOf_1904c 0 = .ok (.aload_n 0, 1) := by decide +kernel
theorem dJ7_copyOf_1904c_1 : decode cJ7_copyOf_1904c 1 = .ok (.iload_n 1, 1) := by decide +kernel
theorem dJ7_copyOf_1904c_2 : decode cJ7_copyOf_1904c 2 = .ok (.aload_n 0, 1) := by decide +kernel
theorem dJ7_copyOf_1904c_3 : decode cJ7_copyOf_1904c 3 = .ok (.invokevirtual 86, 3) := by decide +kernel
theorem dJ7_copyOf_1904c_6 : decode cJ7_copyOf_1904c 6 = .ok (.invokestatic 300, 3) := by decide +kernel
theorem dJ7_copyOf_1904c_9 : decode cJ7_copyOf_1904c 9 = .ok (.areturn, 1) := by decide +kernel
theorem dJ7_copyOf_6403c_0 : decode cJ7_copyOf_6403c 0 = .ok (.aload_n 2, 1) := by decide +kernel
theorem dJ7_copyOf_6403c_1 : decode cJ7_copyOf_6403c 1 = .ok (.ldc 110, 2) := by decide +kernel
theorem dJ7_copyOf_6403c_3 : decode cJ7_copyOf_6403c 3 = .ok (.if_acmp .ne 10, 3) := by decide +kernel
theorem dJ7_copyOf_6403c_6 : decode cJ7_copyOf_6403c 6 = .ok (.iload_n 1, 1) := by decide +kernel
theorem dJ7_copyOf_6403c_7 : decode cJ7_copyOf_6403c 7 = .ok (.anewarray 2, 3) := by decide +kernel
theorem dJ7_copyOf_6403c_10 : decode cJ7_copyOf_6403c 10 = .ok (.goto 14, 3) := by decide +kernel
theorem dJ7_copyOf_6403c_13 : decode cJ7_copyOf_6403c 13 = .ok (.aload_n 2, 1) := by decide +kernel
theorem dJ7_copyOf_6403c_14 : decode cJ7_copyOf_6403c 14 = .ok (.invokevirtual 90, 3) := by decide +kernel
theorem dJ7_copyOf_6403c_17 : decode cJ7_copyOf_6403c 17 = .ok (.iload_n 1, 1) := by decide +kernel
theorem dJ7_copyOf_6403c_18 : decode cJ7_copyOf_6403c 18 = .ok (.invokestatic 95, 3) := by decide +kernel
theorem dJ7_copyOf_6403c_21 : decode cJ7_copyOf_6403c 21 = .ok (.checkcast 110, 3) := by decide +kernel
theorem dJ7_copyOf_6403c_24 : decode cJ7_copyOf_6403c 24 = .ok (.astore_n 3, 1) := by decide +kernel
theorem dJ7_copyOf_6403c_25 : decode cJ7_copyOf_6403c 25 = .ok (.aload_n 0, 1) := by decide +kernel
theorem dJ7_copyOf_6403c_26 : decode cJ7_copyOf_6403c 26 = .ok (.iconst 0, 1) := by decide +kernel
theorem dJ7_copyOf_6403c_27 : decode cJ7_copyOf_6403c 27 = .ok (.aload_n 3, 1) := by decide +kernel
theorem dJ7_copyOf_6403c_28 : decode cJ7_copyOf_6403c 28 = .ok (.iconst 0, 1) := by decide +kernel
theorem dJ7_copyOf_6403c_29 : decode cJ7_copyOf_6403c 29 = .ok (.aload_n 0, 1) := by decide +kernel
theorem dJ7_copyOf_6403c_30 : decode cJ7_copyOf_6403c 30 = .ok (.arraylength, 1) := by decide +kernel
theorem dJ7_copyOf_6403c_31 : decode cJ7_copyOf_6403c 31 = .ok (.iload_n 1, 1) := by decide +kernel
theorem dJ7_copyOf_6403c_32 : decode cJ7_copyOf_6403c 32 = .ok (.invokestatic 304, 3) := by decide +kernel
theorem dJ7_copyOf_6403c_35 : decode cJ7_copyOf_6403c 35 = .ok (.invokestatic 150, 3) := by decide +kernel
theorem dJ7_copyOf_6403c_38 : decode cJ7_copyOf_6403c 38 = .ok (.aload_n 3, 1) := by decide +kernel
theorem dJ7_copyOf_6403c_39 : decode cJ7_copyOf_6403c 39 = .ok (.areturn, 1) := by decide +kernel
theorem dJ15_checkIndex_7cf53_0 : decode cJ15_checkIndex_7cf53 0 = .ok (.iload_n 0, 1) := by decide +kernel
theorem dJ15_checkIndex_7cf53_1 : decode cJ15_checkIndex_7cf53 1 = .ok (.iload_n 1, 1) := by decide +kernel
theorem dJ15_checkIndex_7cf53_2 : decode cJ15_checkIndex_7cf53 2 = .ok (.aconst_null, 1) := by decide +kernel
theorem dJ15_checkIndex_7cf53_3 : decode cJ15_checkIndex_7cf53 3 = .ok (.invokestatic 105, 3) := by decide +kernel
theorem dJ15_checkIndex_7cf53_6 : decode cJ15_checkIndex_7cf53 6 = .ok (.ireturn, 1) := by decide +kernel
theorem dJ8_newLength_cabcc_0 : decode cJ8_newLength_cabcc 0 = .ok (.iload_n 0, 1) := by decide +kernel
theorem dJ8_newLength_cabcc_1 : decode cJ8_newLength_cabcc 1 = .ok (.iload_n 1, 1) := by decide +kernel
theorem dJ8_newLength_cabcc_2 : decode cJ8_newLength_cabcc 2 = .ok (.iload_n 2, 1) := by decide +kernel
theorem dJ8_newLength_cabcc_3 : decode cJ8_newLength_cabcc 3 = .ok (.invokestatic 194, 3) := by decide +kernel
theorem dJ8_newLength_cabcc_6 : decode cJ8_newLength_cabcc 6 = .ok (.iadd, 1) := by decide +kernel
theorem dJ8_newLength_cabcc_7 : decode cJ8_newLength_cabcc 7 = .ok (.istore_n 3, 1) := by decide +kernel
theorem dJ8_newLength_cabcc_8 : decode cJ8_newLength_cabcc 8 = .ok (.iconst 0, 1) := by decide +kernel
theorem dJ8_newLength_cabcc_9 : decode cJ8_newLength_cabcc 9 = .ok (.iload_n 3, 1) := by decide +kernel
theorem dJ8_newLength_cabcc_10 : decode cJ8_newLength_cabcc 10 = .ok (.if_icmp .ge 11, 3) := by decide +kernel
theorem dJ8_newLength_cabcc_13 : decode cJ8_newLength_cabcc 13 = .ok (.iload_n 3, 1) := by decide +kernel
theorem dJ8_newLength_cabcc_14 : decode cJ8_newLength_cabcc 14 = .ok (.ldc 200, 2) := by decide +kernel
theorem dJ8_newLength_cabcc_16 : decode cJ8_newLength_cabcc 16 = .ok (.if_icmp .gt 5, 3) := by decide +kernel
theorem dJ8_newLength_cabcc_19 : decode cJ8_newLength_cabcc 19 = .ok (.iload_n 3, 1) := by decide +kernel
theorem dJ8_newLength_cabcc_20 : decode cJ8_newLength_cabcc 20 = .ok (.ireturn, 1) := by decide +kernel
theorem dJ8_newLength_cabcc_21 : decode cJ8_newLength_cabcc 21 = .ok (.iload_n 0, 1) := by decide +kernel
theorem dJ8_newLength_cabcc_22 : decode cJ8_newLength_cabcc 22 = .ok (.iload_n 1, 1) := by decide +kernel
theorem dJ8_newLength_cabcc_23 : decode cJ8_newLength_cabcc 23 = .ok (.invokestatic 201, 3) := by decide +kernel
theorem dJ8_newLength_cabcc_26 : decode cJ8_newLength_cabcc 26 = .ok (.ireturn, 1) := by decide +kernel
theorem dJ8_hugeLength_7cf53_0 : decode cJ8_hugeLength_7cf53 0 = .ok (.iload_n 0, 1) := by decide +kernel
theorem dJ8_hugeLength_7cf53_1 : decode cJ8_hugeLength_7cf53 1 = .ok (.iload_n 1, 1) := by decide +kernel
theorem dJ8_hugeLength_7cf53_2 : decode cJ8_hugeLength_7cf53 2 = .ok (.iadd, 1) := by decide +kernel
theorem dJ8_hugeLength_7cf53_3 : decode cJ8_hugeLength_7cf53 3 = .ok (.istore_n 2, 1) := by decide +kernel
theorem dJ8_hugeLength_7cf53_4 : decode cJ8_hugeLength_7cf53 4 = .ok (.iload_n 2, 1) := by decide +kernel
theorem dJ8_hugeLength_7cf53_5 : decode cJ8_hugeLength_7cf53 5 = .ok (.ifCond .ge 44, 3) := by decide +kernel
theorem dJ8_hugeLength_7cf53_8 : decode cJ8_hugeLength_7cf53 8 = .ok (.new 204, 3) := by decide +kernel
theorem dJ8_hugeLength_7cf53_11 : decode cJ8_hugeLength_7cf53 11 = .ok (.dup, 1) := by decide +kernel
theorem dJ8_hugeLength_7cf53_12 : decode cJ8_hugeLength_7cf53 12 = .ok (.new 89, 3) := by decide +kernel
theorem dJ8_hugeLength_7cf53_15 : decode cJ8_hugeLength_7cf53 15 = .ok (.dup, 1) := by decide +kernel
theorem dJ8_hugeLength_7cf53_16 : decode cJ8_hugeLength_7cf53 16 = .ok (.invokespecial 91, 3) := by decide +kernel
theorem dJ8_hugeLength_7cf53_19 : decode cJ8_hugeLength_7cf53 19 = .ok (.ldc 206, 2) := by decide +kernel
theorem dJ8_hugeLength_7cf53_21 : decode cJ8_hugeLength_7cf53 21 = .ok (.invokevirtual 94, 3) := by decide +kernel
theorem dJ8_hugeLength_7cf53_24 : decode cJ8_hugeLength_7cf53 24 = .ok (.iload_n 0, 1) := by decide +kernel
theorem dJ8_hugeLength_7cf53_25 : decode cJ8_hugeLength_7cf53 25 = .ok (.invokevirtual 98, 3) := by decide +kernel
theorem dJ8_hugeLength_7cf53_28 : decode cJ8_hugeLength_7cf53 28 = .ok (.ldc 208, 2) := by decide +kernel
theorem dJ8_hugeLength_7cf53_30 : decode cJ8_hugeLength_7cf53 30 = .ok (.invokevirtual 94, 3) := by decide +kernel
theorem dJ8_hugeLength_7cf53_33 : decode cJ8_hugeLength_7cf53 33 = .ok (.iload_n 1, 1) := by decide +kernel
theorem dJ8_hugeLength_7cf53_34 : decode cJ8_hugeLength_7cf53 34 = .ok (.invokevirtual 98, 3) := by decide +kernel
theorem dJ8_hugeLength_7cf53_37 : decode cJ8_hugeLength_7cf53 37 = .ok (.ldc 210, 2) := by decide +kernel
theorem dJ8_hugeLength_7cf53_39 : decode cJ8_hugeLength_7cf53 39 = .ok (.invokevirtual 94, 3) := by decide +kernel
theorem dJ8_hugeLength_7cf53_42 : decode cJ8_hugeLength_7cf53 42 = .ok (.invokevirtual 101, 3) := by decide +kernel
theorem dJ8_hugeLength_7cf53_45 : decode cJ8_hugeLength_7cf53 45 = .ok (.invokespecial 212, 3) := by decide +kernel
theorem dJ8_hugeLength_7cf53_48 : decode cJ8_hugeLength_7cf53 48 = .ok (.athrow, 1) := by decide +kernel
theorem dJ8_hugeLength_7cf53_49 : decode cJ8_hugeLength_7cf53 49 = .ok (.iload_n 2, 1) := by decide +kernel
theorem dJ8_hugeLength_7cf53_50 : decode cJ8_hugeLength_7cf53 50 = .ok (.ldc 200, 2) := by decide +kernel
theorem dJ8_hugeLength_7cf53_52 : decode cJ8_hugeLength_7cf53 52 = .ok (.if_icmp .gt 6, 3) := by decide +kernel
theorem dJ8_hugeLength_7cf53_55 : decode cJ8_hugeLength_7cf53 55 = .ok (.ldc 200, 2) := by decide +kernel
theorem dJ8_hugeLength_7cf53_57 : decode cJ8_hugeLength_7cf53 57 = .ok (.ireturn, 1) := by decide +kernel
theorem dJ8_hugeLength_7cf53_58 : decode cJ8_hugeLength_7cf53 58 = .ok (.iload_n 2, 1) := by decide +kernel
theorem dJ8_hugeLength_7cf53_59 : decode cJ8_hugeLength_7cf53 59 = .ok (.ireturn, 1) := by decide +kernel
theorem dJ3_checkIndex_8e157_0 : decode cJ3_checkIndex_8e157 0 = .ok (.iload_n 0, 1) := by decide +kernel
theorem dJ3_checkIndex_8e157_1 : decode cJ3_checkIndex_8e157 1 = .ok (.ifCond .lt 8, 3) := by decide +kernel
theorem dJ3_checkIndex_8e157_4 : decode cJ3_checkIndex_8e157 4 = .ok (.iload_n 0, 1) := by decide +kernel
theorem dJ3_checkIndex_8e157_5 : decode cJ3_checkIndex_8e157 5 = .ok (.iload_n 1, 1) := by decide +kernel
theorem dJ3_checkIndex_8e157_6 : decode cJ3_checkIndex_8e157 6 = .ok (.if_icmp .lt 10, 3) := by decide +kernel
theorem dJ3_checkIndex_8e157_9 : decode cJ3_checkIndex_8e157 9 = .ok (.aload_n 2, 1) := by decide +kernel
theorem dJ3_checkIndex_8e157_10 : decode cJ3_checkIndex_8e157 10 = .ok (.iload_n 0, 1) := by decide +kernel
theorem dJ3_checkIndex_8e157_11 : decode cJ3_checkIndex_8e157 11 = .ok (.iload_n 1, 1) := by decide +kernel
theorem dJ3_checkIndex_8e157_12 : decode cJ3_checkIndex_8e157 12 = .ok (.invokestatic 95, 3) := by decide +kernel
theorem dJ3_checkIndex_8e157_15 : decode cJ3_checkIndex_8e157 15 = .ok (.athrow, 1) := by decide +kernel
theorem dJ3_checkIndex_8e157_16 : decode cJ3_checkIndex_8e157 16 = .ok (.iload_n 0, 1) := by decide +kernel
theorem dJ3_checkIndex_8e157_17 : decode cJ3_checkIndex_8e157 17 = .ok (.ireturn, 1) := by decide +kernel
end
section
/-! THE WORLD of this proof: all cells by a key (kind, world, number); what they hold: numbers of one store V -/
abbrev VS : Type := Nat → Nat → Nat → Nat → Nat → Int32
abbrev KY : Type := Nat × Nat × Nat
abbrev AD : Type := Nat → Nat → Nat → Nat
abbrev GG : Type := va_G × ClassId × ClassId × ClassId × Nat
/-- the store with another number at one place -/
def vup (V : VS) (k w i f j : Nat) (x : Int32) : VS := fun k' w' i' f' j' => if k' = k ∧ w' = w ∧ i' = i ∧ f' = f ∧ j' = j then x else V k' w' i' f' j'
/-- how many places a list of n elements has -/
def capOf (n : Nat) : Nat := if n = 0 then 0 else if n ≤ 10 then 10 else if n ≤ 15 then 15 else if n ≤ 22 then 22 else 33
abbrev lsz (V : VS) (w K : Nat) : Nat := (V 2 w K 2 0).toNatClampNeg
def ary (G : GG) (n : Nat) (X : Nat → Nat → Int32) : va_E := .inl (G.2.1, n, .inl (X 0))
def cG (G : GG) (ad : AD) (k w i : Nat) (X : Nat → Nat → Int32) (n : Nat) : va_E := match k with
  | 0 => .inr (9, [.ref (ad 1 0 0), .ref (ad 1 1 0)])
  | 1 => .inr (8, [.ref (ad 2 w 0), .ref (ad 2 w 1), .ref (ad 2 w 2), .ref (ad 2 w 3), .ref (ad 10 w 0), .ref (ad 12 w 0), .ref (ad 14 w 0), .int (X 7 0), .int (X 8 0)])
  | 2 => .inr (0, [.int (X 2 0), .ref (if X 2 0 = 0 then G.2.2.2.2 else ad 3 w i), .int (X 2 0)])
  | 3 => .inl (G.2.2.1, capOf n, .inr (.inr (.inr (.inr (fun j => if j < n then some (ad (4 + i) w j) else none)))))
  | 4 => .inr (2, [.int (X 0 0), .int (X 1 0)])
  | 5 => .inr (3, [.int (X 0 0), .int (X 1 0), .int (X 2 0), .int (X 3 0), .int (X 4 0)])
  | 6 => .inr (1, [.int (X 0 0), .int (X 1 0), .ref (ad 8 w i), .int (X 3 0), .int (X 4 0), .int (X 5 0)])
  | 7 => .inr (5, [.int (X 0 0), .int (X 1 0), .int (X 2 0), .int (X 3 0), .int (X 4 0), .int (X 5 0), .int (X 6 0), .int (X 7 0)])
  | 8 => .inr (4, [.ref (ad 9 w i), .int (X 1 0)])
  | 9 => ary G 10 X
  | 10 => .inr (7, [.ref (ad 11 w 0)])
  | 11 => ary G 64 X
  | 12 => .inr (6, [.ref (ad 13 w 0), .int (X 1 0), .int (X 2 0)])
  | 13 => ary G 8 X
  | 14 => ary G 7 X
  | 15 => .inr (11, [.int (X 0 0), .int (X 1 0), .int (X 2 0), .ref (ad 17 0 0), .ref (ad 18 0 0), .int (X 5 0), .int (X 6 0), .ref (ad 19 0 0), .int (X 8 0), .ref (ad 20 0 0), .ref (ad 21 0 0), .ref (ad 16 0 0), .ref (ad 16 1 0)])
  | 16 => .inr (10, [.int (X 0 0), .int (X 1 0), .int (X 2 0), .ref (ad 22 w 0), .ref (ad 23 w 0), .int (X 5 0), .ref (ad 24 w 0), .ref (ad 25 w 0), .ref (ad 26 w 0), .ref (ad 27 w 0), .ref (ad 28 w 0), .ref (ad 29 w 0), .ref (ad 30 w 0), .ref (ad 31 w 0), .ref (ad 32 w 0), .ref (ad 33 w 0), .ref (ad 15 0 0)])
  | 17 => ary G 64 X
  | 18 => ary G 7 X
  | 19 => ary G 24 X
  | 20 => ary G 30 X
  | 21 => ary G 64 X
  | 22 => ary G 16 X
  | 23 => ary G 8 X
  | 24 => ary G 8 X
  | 25 => ary G 8 X
  | 26 => ary G 24 X
  | 27 => ary G 24 X
  | 28 => ary G 24 X
  | 29 => ary G 240 X
  | 30 => ary G 24 X
  | 31 => ary G 10 X
  | 32 => ary G 10 X
  | 33 => ary G 10 X
  | _ => .inl (G.2.2.2.1, 1, .inr (.inl (fun _ => (X 0 0).toInt64)))
def aLen (k : Nat) : Nat := match k with
  | 9 => 10 | 11 => 64 | 13 => 8 | 14 => 7 | 17 => 64 | 18 => 7 | 19 => 24 | 20 => 30 | 21 => 64 | 22 => 16 | 23 => 8 | 24 => 8 | 25 => 8
  | 26 => 24 | 27 => 24 | 28 => 24 | 29 => 240 | 30 => 24 | 31 => 10 | 32 => 10 | 33 => 10 | _ => 0
def cE (G : GG) (ad : AD) (V : VS) (k w i : Nat) : va_E := cG G ad k w i (V k w i) (lsz V w i)
theorem ce_ary {G : GG} {ad : AD} {V : VS} {k w i : Nat} (h : 0 < aLen k) : cE G ad V k w i = .inl (G.2.1, aLen k, .inl (V k w i 0)) := by
  unfold aLen at h ⊢
  split at h <;> first | rfl | exact absurd h (Nat.lt_irrefl 0)
def pic (G : GG) (ks : List KY) (ad : AD) (V : VS) : va_W := ks.map (fun k => (ad k.1 k.2.1 k.2.2, cE G ad V k.1 k.2.1 k.2.2))
abbrev tysG (G : GG) : List (ClassId × FieldType) := [(G.2.1, .int), (G.2.2.1, .object "java/lang/Object"), (G.2.2.2.1, .long)]
def isNest : Cond → Bool
  | .fieldLinkNest _ _ _ _ _ _ => true
  | .methodLinkNest _ _ _ _ => true
  | _ => false
def gK (G : GG) (U : State) : Prop := va_K G.1 vwCl (tysG G) U ∧ ∀ w ∈ lw_tbl, isNest w = true → va_Nw w U
theorem gK.warm {G : GG} {s U : State} (hW : s.WarmedH U.vm) (h : gK G s) : gK G U := by
  refine ⟨va_K.moved hW.alike h.1, fun w hw hn => ?_⟩
  have h2 := h.2 w hw hn
  unfold isNest at hn
  split at hn
  · exact va_Nw.warmF hW h2
  · exact va_Nw.warmM hW h2
  · exact absurd hn (by decide)
theorem gK.calling {G : GG} {U : State} {g : JFrame} {mk : MethodId} {a : Array Value} (h : gK G U) : gK G (U.calling g mk a) := by
  refine ⟨va_K.moved (u := U) (U := U.calling g mk a) (Vm.Alike.refl U.vm) h.1, fun w hw hn => ?_⟩
  have h2 := h.2 w hw hn
  unfold isNest at hn
  split at hn
  · exact va_Nw.same (u := U) (U := U.calling g mk a) rfl rfl h2
  · exact va_Nw.same (u := U) (U := U.calling g mk a) rfl rfl h2
  · exact absurd hn (by decide)
/-- the cells are apart, and lie in A -/
def Dj (A : Nat → Prop) (ks : List KY) (ad : AD) : Prop := (∀ (i j : Nat) (x y : KY), ks[i]? = some x → ks[j]? = some y → ad x.1 x.2.1 x.2.2 = ad y.1 y.2.1 y.2.2 → i = j) ∧ ∀ x ∈ ks, A (ad x.1 x.2.1 x.2.2)
def mA (ks : List KY) (ad : AD) (sz : Nat) : Nat → Prop := fun q => (∃ x ∈ ks, ad x.1 x.2.1 x.2.2 = q) ∨ sz ≤ q
theorem pic_at {G : GG} {ks : List KY} {ad : AD} {V : VS} {i : Nat} {q : Nat × va_E} (h : (pic G ks ad V)[i]? = some q) : ∃ x, ks[i]? = some x ∧ q = (ad x.1 x.2.1 x.2.2, cE G ad V x.1 x.2.1 x.2.2) := by
  unfold pic at h
  rw [List.getElem?_map] at h
  cases hx : ks[i]? with
  | none => rw [hx] at h; cases h
  | some x => rw [hx] at h; exact ⟨x, rfl, (Option.some.inj h).symm⟩
theorem at_pic {G : GG} {ks : List KY} {ad : AD} {V : VS} {i : Nat} {x : KY} (h : ks[i]? = some x) : (pic G ks ad V)[i]? = some (ad x.1 x.2.1 x.2.2, cE G ad V x.1 x.2.1 x.2.2) := by
  unfold pic
  rw [List.getElem?_map, h]
  rfl
theorem Dj.D {A : Nat → Prop} {G : GG} {ks : List KY} {ad : AD} {V : VS} (h : Dj A ks ad) : va_D A (pic G ks ad V) := by
  refine ⟨fun i j p q hp hq e => ?_, fun k q hk => ?_⟩
  · obtain ⟨x, h1, rfl⟩ := pic_at hp
    obtain ⟨y, h2, rfl⟩ := pic_at hq
    exact h.1 i j x y h1 h2 e
  · obtain ⟨x, h1, rfl⟩ := pic_at hk
    exact h.2 x (List.mem_of_getElem? h1)
theorem Dj.mA {A : Nat → Prop} {ks : List KY} {ad : AD} {sz : Nat} (h : Dj A ks ad) : Dj (mA ks ad sz) ks ad := ⟨h.1, fun x hx => Or.inl ⟨x, hx, rfl⟩⟩
theorem Dj.all {A : Nat → Prop} {ks : List KY} {ad : AD} (h : Dj A ks ad) : Dj (fun _ => True) ks ad := ⟨h.1, fun _ _ => trivial⟩
/-- the machine's side of a frame: fixed through a method -/
def CX (p : Program) (s : State) (m : MethodId) (args : Array Value) (c : Code) (cc : ByteArray) (nL : Nat) (own : String) (G : GG) : Prop :=
  p.tables.exec = Jvm.exec ∧ c.code = cc ∧ c.maxLocals = nL ∧ s.vm.findClass own = some m.cls ∧ (∀ w ∈ lw_all, w.before args s = true) ∧ gK G s
/-- the heap's side: the picture, what is kept, the cells apart, new cells allowed -/
def ST (G : GG) (ks : List KY) (ad : AD) (V : VS) (A : Nat → Prop) (H0 H : Heap) (locs : List Loc) : Prop :=
  va_P G.1 vwCl (pic G ks ad V) H ∧ va_S A H0 H locs ∧ Dj A ks ad ∧ ∀ q, H0.size ≤ q → A q
theorem vup_ne {V : VS} {k w i f j : Nat} {x : Int32} {k' w' i' : Nat} (h : ¬ (k' = k ∧ w' = w ∧ i' = i)) : vup V k w i f j x k' w' i' = V k' w' i' := by
  funext f' j'
  unfold vup
  rw [if_neg (fun z => h ⟨z.1, z.2.1, z.2.2.1⟩)]
theorem vup_eq {V : VS} {k w i f j : Nat} {x : Int32} : vup V k w i f j x k w i f j = x := by unfold vup; rw [if_pos ⟨rfl, rfl, rfl, rfl, rfl⟩]
theorem vup_row {V : VS} {k w i j : Nat} {x : Int32} : vup V k w i 0 j x k w i 0 = upd (V k w i 0) j x := by
  funext j'
  unfold vup upd
  by_cases h : j' = j
  · rw [if_pos ⟨rfl, rfl, rfl, rfl, h⟩, if_pos h]
  · rw [if_neg (fun z => h z.2.2.2.2), if_neg h]
theorem vup_fld {V : VS} {k w i f f' j' : Nat} {x : Int32} (h : f' ≠ f) : vup V k w i f 0 x k w i f' j' = V k w i f' j' := by
  unfold vup
  rw [if_neg (fun z => h z.2.2.2.1)]
theorem ce_other {G : GG} {ad : AD} {V : VS} {k w i f j : Nat} {x : Int32} (hk2 : k ≠ 2) {k' w' i' : Nat} (h : ¬ (k' = k ∧ w' = w ∧ i' = i)) : cE G ad (vup V k w i f j x) k' w' i' = cE G ad V k' w' i' := by
  unfold cE lsz
  rw [vup_ne h, vup_ne (V := V) (k := k) (w := w) (i := i) (f := f) (j := j) (x := x) (k' := 2) (w' := w') (i' := i') (fun z => hk2 z.1.symm)]
/-- one cell anew -/
theorem pic_set {A : Nat → Prop} {G : GG} {ks : List KY} {ad : AD} {V V' : VS} {k w i q0 : Nat} {e : va_E} (hD : Dj A ks ad) (hq : ks[q0]? = some (k, w, i)) (he : cE G ad V' k w i = e) (ho : ∀ k' w' i', ¬ (k' = k ∧ w' = w ∧ i' = i) → cE G ad V' k' w' i' = cE G ad V k' w' i') : (pic G ks ad V).set q0 (ad k w i, e) = pic G ks ad V' := by
  apply List.ext_getElem?
  intro j
  by_cases hj : j = q0
  · subst hj
    have hl : j < (pic G ks ad V).length := (List.getElem?_eq_some_iff.mp (at_pic (G := G) (ad := ad) (V := V) hq)).1
    rw [List.getElem?_set_self hl, at_pic hq, ← he]
  · rw [List.getElem?_set_ne (Ne.symm hj)]
    cases hx : ks[j]? with
    | none =>
      have h1 : ks.length ≤ j := List.getElem?_eq_none_iff.mp hx
      rw [List.getElem?_eq_none (by unfold pic; rw [List.length_map]; exact h1), List.getElem?_eq_none (by unfold pic; rw [List.length_map]; exact h1)]
    | some x =>
      rw [at_pic hx, at_pic hx]
      have hne : ¬ (x.1 = k ∧ x.2.1 = w ∧ x.2.2 = i) := fun z => hj (hD.1 j q0 x (k, w, i) hx hq (by rw [z.1, z.2.1, z.2.2]))
      rw [ho _ _ _ hne]
section GROWS
variable {p : Program} {l : Launch} {e : Env} {R : Room} {s : State} {m : MethodId} {args : Array Value} {below : List Frame} {meth : Method} {c : Code} {H : Heap} {locs : List Loc} {cells slots : Nat} {Q : State → Prop}
variable {cc : ByteArray} {pc nL : Nat} {own : String} {ls : Array Slot} {rest : List Value} {G : GG} {ks : List KY} {ad : AD} {V : VS} {A : Nat → Prop} {H0 : Heap}
theorem g_get (hC : CX p s m args c cc nL own G) (hS : ST G ks ad V A H0 H locs) {k w i ci N idx : Nat} {C : String} {T : u_T} {fs : List Value} {v : Value} (hk : (k, w, i) ∈ ks) (hc : cE G ad V k w i = .inr (ci, fs)) (hcl : vwCl[ci]? = some (C, T, N)) (hin : ∀ w ∈ u_ws C T N, w ∈ lw_all)
    (j : Nat) (hj : j < N) (hv : fs[j]? = some v) (hlink : Cond.fieldLink own idx (T j).1 (T j).2.1 (T j).2.2.1 ∈ lw_all) (hd : decode cc pc = .ok (.getfield idx, 3))
    (kk : W p l e R s m args below meth c H locs cells slots Q (F0 m (pc + 3) ls (v :: rest))) : W p l e R s m args below meth c H locs cells slots Q (F0 m pc ls (.ref (ad k w i) :: rest)) := by
  obtain ⟨hx, hb, -, hown, hts, hK⟩ := hC
  obtain ⟨q0, hq⟩ := List.getElem?_of_mem hk
  have he := at_pic (G := G) (ad := ad) (V := V) hq
  rw [hc] at he
  exact va_get hx hb hts hin hown hK.1 hS.1 q0 he hcl j hj (hts _ hlink) (fun _ h => h) hv hd kk
theorem g_getN (hC : CX p s m args c cc nL own G) (hS : ST G ks ad V A H0 H locs) {k w i ci N idx : Nat} {C host : String} {T : u_T} {fs : List Value} {v : Value} (hk : (k, w, i) ∈ ks) (hc : cE G ad V k w i = .inr (ci, fs)) (hcl : vwCl[ci]? = some (C, T, N)) (hin : ∀ w ∈ u_ws C T N, w ∈ lw_all)
    (j : Nat) (hj : j < N) (hv : fs[j]? = some v) (hlink : Cond.fieldLinkNest own idx (T j).1 (T j).2.1 (T j).2.2.1 host ∈ lw_tbl) (hd : decode cc pc = .ok (.getfield idx, 3))
    (kk : W p l e R s m args below meth c H locs cells slots Q (F0 m (pc + 3) ls (v :: rest))) : W p l e R s m args below meth c H locs cells slots Q (F0 m pc ls (.ref (ad k w i) :: rest)) := by
  obtain ⟨hx, hb, -, hown, hts, hK⟩ := hC
  obtain ⟨q0, hq⟩ := List.getElem?_of_mem hk
  have he := at_pic (G := G) (ad := ad) (V := V) hq
  rw [hc] at he
  exact va_getN hx hb hts hin hown hK.1 hS.1 q0 he hcl j hj (va_Nw.use rfl (hK.2 _ hlink rfl)) (fun _ h => h) hv hd kk
theorem g_put (hC : CX p s m args c cc nL own G) (hS : ST G ks ad V A H0 H locs) {k w i ci N idx : Nat} {C : String} {T : u_T} {fs : List Value} {x : Int32} (hk : (k, w, i) ∈ ks) (hc : cE G ad V k w i = .inr (ci, fs)) (hcl : vwCl[ci]? = some (C, T, N)) (hin : ∀ w ∈ u_ws C T N, w ∈ lw_all)
    (ty0 : Nat → FieldType) (hty : ∀ k, k < N → parseFieldDescriptor (T k).2.2.1 = some (ty0 k)) (hnm : ∀ a, a < N → ∀ b, b < N → a ≠ b → (T a).2.1 ≠ (T b).2.1)
    (j : Nat) (hj : j < N) (hjl : j < fs.length) (hfin : (T j).2.2.2 = false) (hint : ty0 j = .int) (hlink : Cond.fieldLink own idx (T j).1 (T j).2.1 (T j).2.2.1 ∈ lw_all) (hd : decode cc pc = .ok (.putfield idx, 3))
    (hk2 : k ≠ 2) (hV : cE G ad (vup V k w i j 0 x) k w i = .inr (ci, fs.set j (.int x)))
    (kk : ∀ (H1 : Heap) (locs1 : List Loc), ST G ks ad (vup V k w i j 0 x) A H0 H1 locs1 → W p l e R s m args below meth c H1 locs1 cells slots Q (F0 m (pc + 3) ls rest)) : W p l e R s m args below meth c H locs cells slots Q (F0 m pc ls (.int x :: .ref (ad k w i) :: rest)) := by
  obtain ⟨hx, hb, -, hown, hts, hK⟩ := hC
  obtain ⟨hP, hS1, hD, hA⟩ := hS
  obtain ⟨q0, hq⟩ := List.getElem?_of_mem hk
  have he := at_pic (G := G) (ad := ad) (V := V) hq
  rw [hc] at he
  refine va_put hx hb hts hin ty0 hty hnm hown hK.1 hP hD.D hS1 q0 he hcl j hj (hts _ hlink) (fun _ h => h) hfin (by rw [hty j hj, hint]) rfl rfl hjl hd (fun H1 locs1 hP1 _ hS2 => ?_)
  rw [pic_set hD hq hV (fun k' w' i' h => ce_other hk2 h)] at hP1
  exact kk H1 locs1 ⟨hP1, hS2, hD, hA⟩
theorem g_putN (hC : CX p s m args c cc nL own G) (hS : ST G ks ad V A H0 H locs) {k w i ci N idx : Nat} {C host : String} {T : u_T} {fs : List Value} {x : Int32} (hk : (k, w, i) ∈ ks) (hc : cE G ad V k w i = .inr (ci, fs)) (hcl : vwCl[ci]? = some (C, T, N)) (hin : ∀ w ∈ u_ws C T N, w ∈ lw_all)
    (ty0 : Nat → FieldType) (hty : ∀ k, k < N → parseFieldDescriptor (T k).2.2.1 = some (ty0 k)) (hnm : ∀ a, a < N → ∀ b, b < N → a ≠ b → (T a).2.1 ≠ (T b).2.1)
    (j : Nat) (hj : j < N) (hjl : j < fs.length) (hfin : (T j).2.2.2 = false) (hint : ty0 j = .int) (hlink : Cond.fieldLinkNest own idx (T j).1 (T j).2.1 (T j).2.2.1 host ∈ lw_tbl) (hd : decode cc pc = .ok (.putfield idx, 3))
    (hk2 : k ≠ 2) (hV : cE G ad (vup V k w i j 0 x) k w i = .inr (ci, fs.set j (.int x)))
    (kk : ∀ (H1 : Heap) (locs1 : List Loc), ST G ks ad (vup V k w i j 0 x) A H0 H1 locs1 → W p l e R s m args below meth c H1 locs1 cells slots Q (F0 m (pc + 3) ls rest)) : W p l e R s m args below meth c H locs cells slots Q (F0 m pc ls (.int x :: .ref (ad k w i) :: rest)) := by
  obtain ⟨hx, hb, -, hown, hts, hK⟩ := hC
  obtain ⟨hP, hS1, hD, hA⟩ := hS
  obtain ⟨q0, hq⟩ := List.getElem?_of_mem hk
  have he := at_pic (G := G) (ad := ad) (V := V) hq
  rw [hc] at he
  refine va_putN hx hb hts hin ty0 hty hnm hown hK.1 hP hD.D hS1 q0 he hcl j hj (va_Nw.use rfl (hK.2 _ hlink rfl)) (fun _ h => h) hfin (by rw [hty j hj, hint]) rfl rfl hjl hd (fun H1 locs1 hP1 _ hS2 => ?_)
  rw [pic_set hD hq hV (fun k' w' i' h => ce_other hk2 h)] at hP1
  exact kk H1 locs1 ⟨hP1, hS2, hD, hA⟩
theorem g_iald (hC : CX p s m args c cc nL own G) (hS : ST G ks ad V A H0 H locs) {k w i : Nat} {x : Int32} (hk : (k, w, i) ∈ ks) (ha : 0 < aLen k) (hx9 : vp_in x (aLen k)) (hd : decode cc pc = .ok (.iaload, 1))
    (kk : W p l e R s m args below meth c H locs cells slots Q (F0 m (pc + 1) ls (.int (V k w i 0 x.toNatClampNeg) :: rest))) : W p l e R s m args below meth c H locs cells slots Q (F0 m pc ls (.int x :: .ref (ad k w i) :: rest)) := by
  obtain ⟨hx, hb, -, hown, hts, hK⟩ := hC
  obtain ⟨q0, hq⟩ := List.getElem?_of_mem hk
  have he := at_pic (G := G) (ad := ad) (V := V) hq
  rw [ce_ary ha] at he
  exact va_iald hx hb hK.1 hS.1 q0 0 he rfl hx9 hd kk
theorem g_alen (hC : CX p s m args c cc nL own G) (hS : ST G ks ad V A H0 H locs) {k w i : Nat} (hk : (k, w, i) ∈ ks) (ha : 0 < aLen k) (hd : decode cc pc = .ok (.arraylength, 1))
    (kk : W p l e R s m args below meth c H locs cells slots Q (F0 m (pc + 1) ls (.int (nI (aLen k)) :: rest))) : W p l e R s m args below meth c H locs cells slots Q (F0 m pc ls (.ref (ad k w i) :: rest)) := by
  obtain ⟨hx, hb, -, hown, hts, hK⟩ := hC
  obtain ⟨q0, hq⟩ := List.getElem?_of_mem hk
  have he := at_pic (G := G) (ad := ad) (V := V) hq
  rw [ce_ary ha] at he
  exact va_alen hx hb hK.1 hS.1 q0 0 he rfl rfl hd kk
theorem g_iast (hC : CX p s m args c cc nL own G) (hS : ST G ks ad V A H0 H locs) {k w i : Nat} {x y : Int32} (hk : (k, w, i) ∈ ks) (ha : 0 < aLen k) (hx9 : vp_in x (aLen k)) (hd : decode cc pc = .ok (.iastore, 1))
    (kk : ∀ (H1 : Heap) (locs1 : List Loc), ST G ks ad (vup V k w i 0 x.toNatClampNeg y) A H0 H1 locs1 → W p l e R s m args below meth c H1 locs1 cells slots Q (F0 m (pc + 1) ls rest)) : W p l e R s m args below meth c H locs cells slots Q (F0 m pc ls (.int y :: .int x :: .ref (ad k w i) :: rest)) := by
  obtain ⟨hx, hb, -, hown, hts, hK⟩ := hC
  obtain ⟨hP, hS1, hD, hA⟩ := hS
  obtain ⟨q0, hq⟩ := List.getElem?_of_mem hk
  have he := at_pic (G := G) (ad := ad) (V := V) hq
  rw [ce_ary ha] at he
  have hk2 : k ≠ 2 := fun z => by subst z; exact absurd ha (by decide)
  refine va_iast hx hb hK.1 hP hD.D hS1 q0 0 he rfl hx9 hd (fun H1 locs1 hP1 _ hS2 => ?_)
  rw [pic_set hD hq (by rw [ce_ary ha, vup_row]) (fun k' w' i' h => ce_other hk2 h)] at hP1
  exact kk H1 locs1 ⟨hP1, hS2, hD, hA⟩
theorem g_recv (hC : CX p s m args c cc nL own G) (hS : ST G ks ad V A H0 H locs) {k w i ci N : Nat} {C : String} {T : u_T} {fs : List Value} (hk : (k, w, i) ∈ ks) (hc : cE G ad V k w i = .inr (ci, fs)) (hcl : vwCl[ci]? = some (C, T, N)) : ∃ cell : Cell, H[ad k w i]? = some cell ∧ cell.vm.isStatics = false ∧ s.vm.findClass C = some cell.cls := by
  obtain ⟨q0, hq⟩ := List.getElem?_of_mem hk
  have he := at_pic (G := G) (ad := ad) (V := V) hq
  rw [hc] at he
  exact va_recv hC.2.2.2.2.2.1 hS.1 hcl he
theorem g_cast (hC : CX p s m args c cc nL own G) (hS : ST G ks ad V A H0 H locs) {k w i ci N idx : Nat} {C : String} {T : u_T} {fs : List Value} (hk : (k, w, i) ∈ ks) (hc : cE G ad V k w i = .inr (ci, fs)) (hcl : vwCl[ci]? = some (C, T, N)) (hlink : Cond.classLink own idx C ∈ lw_all) (hd : decode cc pc = .ok (.checkcast idx, 3))
    (kk : W p l e R s m args below meth c H locs cells slots Q (F0 m (pc + 3) ls (.ref (ad k w i) :: rest))) : W p l e R s m args below meth c H locs cells slots Q (F0 m pc ls (.ref (ad k w i) :: rest)) :=
  va_castE hC.1 hC.2.1 hC.2.2.2.1 (hC.2.2.2.2.1 _ hlink) (g_recv hC hS hk hc hcl) hd kk
end GROWS
/-- a method's start: its arguments, the heap's size, the world -/
def mPc (av : List Value) (G : GG) (ks : List KY) (ad : AD) (V : VS) (sz : Nat) : Array Value → State → Prop := va_Pc av (fun U => U.heap.size = sz ∧ va_P G.1 vwCl (pic G ks ad V) U.heap ∧ gK G U ∧ Dj (fun _ => True) ks ad)
abbrev mB (G : GG) (ks : List KY) (ad : AD) : VS → State → Prop := fun V t => va_P G.1 vwCl (pic G ks ad V) t.heap
def mQi (post : Int32 → VS → Prop) (G : GG) (ks : List KY) (ad : AD) (sz : Nat) : Array Value → State → Outcome → State → Prop := va_Qi post (mB G ks ad) (mA ks ad sz)
def mQl (post : Int64 → VS → Prop) (G : GG) (ks : List KY) (ad : AD) (sz : Nat) : Array Value → State → Outcome → State → Prop := va_Ql post (mB G ks ad) (mA ks ad sz)
def mQv (post : VS → Prop) (G : GG) (ks : List KY) (ad : AD) (sz : Nat) : Array Value → State → Outcome → State → Prop := va_Qv post (mB G ks ad) (mA ks ad sz)
def mQe (f : Nat → Nat) (post : Option Nat → VS → Prop) (G : GG) (ks : List KY) (ad : AD) (sz : Nat) : Array Value → State → Outcome → State → Prop := va_Qe f post (mB G ks ad) (mA ks ad sz)
theorem mPc_blind {av : List Value} {G : GG} {ks : List KY} {ad : AD} {V : VS} {sz : Nat} : FrameBlind (mPc av G ks ad V sz) := fun _ _ _ _ h => ⟨h.1, h.2.1, h.2.2.1, h.2.2.2.1.calling, h.2.2.2.2⟩
/-- a method from its entry -/
theorem g_met {l : Launch} {y : MethodName} {own : String} {cc : ByteArray} {maxL : Nat} {ret : Option FieldType} {rm : Room} {av : List Value} {G : GG} {ks : List KY} {ad : AD} {V : VS} {sz mc ms : Nat} {Qc : Array Value → State → Outcome → State → Prop}
    (hy : plainName y.cls = true) (hyo : y.cls = own) (hav : (lg_sl av).length ≤ maxL)
    (body : ∀ (p : Program) (e : Env) (s : State) (m : MethodId) (args : Array Value) (below : List Frame) (meth : Method) (c : Code) (ls : Array Slot), CX p s m args c cc maxL own G → s.heap.size = sz → meth.sig.returnType = ret → meth.locks = false → meth.name = y.name → ST G ks ad V (mA ks ad sz) s.heap s.heap [] → args = av.toArray → lv_has ls maxL (lv_args 0 av) →
      W p l e rm s m args below meth c s.heap [] 0 0 (MQ below Qc args s mc ms (mA ks ad sz)) (F0 m 0 ls [])) : Met l y (ws_ y cc maxL ret) rm (mPc av G ks ad V sz) Qc mc ms (mA ks ad sz) := by
  refine Met.ofW (cc := cc) (maxL := maxL) (ret := ret) hy rfl ?_
  intro p e s m args below meth c s₁ B hml hv
  obtain ⟨rfl, hsz, hP, hK, hD0⟩ := hv
  have hts := atoms_spec (ws := ws_ y cc maxL ret) B.pre
  have hown : s.vm.findClass own = some m.cls := by rw [← hyo]; exact findClass_of_methodNamed B.named
  have hin : meth.name = y.name := (name_of_methodNamed B.named B.method).1
  have hl := lv_entry av (n := maxL) hav
  rw [lg_entry_eq]
  generalize (lg_sl av ++ List.replicate (maxL - (lg_sl av).length) Slot.unset).toArray = ls at hl ⊢
  refine body p e s m _ below meth c ls ⟨B.exec, B.bytes, hml, hown, fun w hw => hts w (List.mem_cons_of_mem _ hw), hK⟩ hsz B.returns B.notSynchronized hin ⟨hP, va_S.rf, hD0.mA, fun q hq => Or.inr (by rw [← hsz]; exact hq)⟩ rfl hl
section GENDS
variable {p : Program} {l : Launch} {e : Env} {R : Room} {s : State} {m : MethodId} {args : Array Value} {below : List Frame} {meth : Method} {c : Code} {H : Heap} {locs : List Loc} {cells slots : Nat}
variable {cc : ByteArray} {pc nL sz : Nat} {own : String} {ls : Array Slot} {rest : List Value} {G : GG} {ks : List KY} {ad : AD} {V : VS}
theorem g_iret {post : Int32 → VS → Prop} {v : Int32} (hC : CX p s m args c cc nL own G) (hr : meth.sig.returnType = some .int) (hlk : meth.locks = false) (hS : ST G ks ad V (mA ks ad sz) s.heap H locs) (hp : post v V) (hd : decode cc pc = .ok (.ireturn, 1)) :
    W p l e R s m args below meth c H locs cells slots (MQ below (mQi post G ks ad sz) args s cells slots (mA ks ad sz)) (F0 m pc ls [.int v]) :=
  W.iret hC.1 hC.2.1 hr (fun t ht _ => ⟨⟨v, V, rfl, hp, by show va_P G.1 vwCl (pic G ks ad V) t.heap; rw [ht]; exact hS.1⟩, hS.2.1.F ht⟩) hS.2.1.2.2 hd hlk
theorem g_zret {post : Int32 → VS → Prop} {v : Int32} (hC : CX p s m args c cc nL own G) (hr : meth.sig.returnType = some .boolean) (hlk : meth.locks = false) (hS : ST G ks ad V (mA ks ad sz) s.heap H locs) (h01 : v = 0 ∨ v = 1) (hp : post v V) (hd : decode cc pc = .ok (.ireturn, 1)) :
    W p l e R s m args below meth c H locs cells slots (MQ below (mQi post G ks ad sz) args s cells slots (mA ks ad sz)) (F0 m pc ls [.int v]) :=
  W.zret hC.1 hC.2.1 hr (by rcases h01 with rfl | rfl <;> rfl) (fun t ht _ => ⟨⟨v, V, rfl, hp, by show va_P G.1 vwCl (pic G ks ad V) t.heap; rw [ht]; exact hS.1⟩, hS.2.1.F ht⟩) hS.2.1.2.2 hd hlk
theorem g_lret {post : Int64 → VS → Prop} {v : Int64} (hC : CX p s m args c cc nL own G) (hr : meth.sig.returnType = some .long) (hlk : meth.locks = false) (hS : ST G ks ad V (mA ks ad sz) s.heap H locs) (hp : post v V) (hd : decode cc pc = .ok (.lreturn, 1)) :
    W p l e R s m args below meth c H locs cells slots (MQ below (mQl post G ks ad sz) args s cells slots (mA ks ad sz)) (F0 m pc ls [.long v]) :=
  W.lret hC.1 hC.2.1 hr (fun t ht _ => ⟨⟨v, V, rfl, hp, by show va_P G.1 vwCl (pic G ks ad V) t.heap; rw [ht]; exact hS.1⟩, hS.2.1.F ht⟩) hS.2.1.2.2 hd hlk
theorem g_vret {post : VS → Prop} (hC : CX p s m args c cc nL own G) (hr : meth.sig.returnType = none) (hlk : meth.locks = false) (hS : ST G ks ad V (mA ks ad sz) s.heap H locs) (hp : post V) (hd : decode cc pc = .ok (.return_, 1)) :
    W p l e R s m args below meth c H locs cells slots (MQ below (mQv post G ks ad sz) args s cells slots (mA ks ad sz)) (F0 m pc ls []) :=
  W.vret hC.1 hC.2.1 hr (fun t ht _ => ⟨⟨V, rfl, hp, by show va_P G.1 vwCl (pic G ks ad V) t.heap; rw [ht]; exact hS.1⟩, hS.2.1.F ht⟩) hS.2.1.2.2 hd hlk
theorem g_aret {f : Nat → Nat} {post : Option Nat → VS → Prop} {r : Option Nat} {rt : FieldType} (hC : CX p s m args c cc nL own G) (hr : meth.sig.returnType = some rt) (hrt : (∃ n, rt = .object n) ∨ ∃ t, rt = .array t) (hlk : meth.locks = false) (hS : ST G ks ad V (mA ks ad sz) s.heap H locs) (hp : post r V) (hd : decode cc pc = .ok (.areturn, 1)) :
    W p l e R s m args below meth c H locs cells slots (MQ below (mQe f post G ks ad sz) args s cells slots (mA ks ad sz)) (F0 m pc ls [va_re f r]) :=
  W.aret hC.1 hC.2.1 hr hrt (by cases r with | none => exact Or.inl rfl | some a => exact Or.inr ⟨_, rfl⟩) (fun t ht _ => ⟨⟨r, V, rfl, hp, by show va_P G.1 vwCl (pic G ks ad V) t.heap; rw [ht]; exact hS.1⟩, hS.2.1.F ht⟩) hS.2.1.2.2 hd hlk
end GENDS
section GCALL
variable {p : Program} {l : Launch} {e : Env} {R : Room} {s : State} {m : MethodId} {args : Array Value} {below : List Frame} {meth : Method} {c : Code} {H : Heap} {locs : List Loc} {cells slots : Nat} {Q : State → Prop}
variable {cc : ByteArray} {pc nL : Nat} {own : String} {ls : Array Slot} {rest st0 : List Value} {G : GG} {ks : List KY} {ad : AD} {V : VS} {A : Nat → Prop} {H0 : Heap}
theorem gI {own : String} {idx : Nat} {C : String} {y : MethodName} {cy : ByteArray} {n : Nat} {r : Option FieldType} (h1 : Cond.methodLink own idx y ∈ lw_all) (h2 : Cond.instanceMethod y ∈ lw_all) (h3 : Cond.selects C y y ∈ lw_all) (h4 : Cond.initialized C ∈ lw_all) (h5 : Cond.code y cy n r ∈ lw_all) : GoodIn lw_all (wsV own idx C y (ws_ y cy n r)) := by
  intro w hw
  simp only [wsV, List.cons_append, List.nil_append, List.mem_cons] at hw
  rcases hw with rfl | rfl | rfl | rfl | rfl | hw
  · exact lw_good _ h1
  · exact lw_good _ h2
  · exact lw_good _ h3
  · exact lw_good _ h4
  · exact lw_good _ h5
  · exact lw_good _ hw
theorem gIS {own : String} {idx : Nat} {y : MethodName} {cy : ByteArray} {n : Nat} {r : Option FieldType} (h1 : Cond.methodLink own idx y ∈ lw_all) (h2 : Cond.static y ∈ lw_all) (h4 : Cond.initialized y.cls ∈ lw_all) (h5 : Cond.code y cy n r ∈ lw_all) : GoodIn lw_all (va_wsS own idx y (ws_ y cy n r)) := by
  intro w hw
  simp only [va_wsS, List.cons_append, List.nil_append, List.mem_cons] at hw
  rcases hw with rfl | rfl | rfl | rfl | hw
  · exact lw_good _ h1
  · exact lw_good _ h2
  · exact lw_good _ h4
  · exact lw_good _ h5
  · exact lw_good _ hw
theorem ST.callA {ks : List KY} {ad : AD} (hS : ST G ks ad V A H0 H locs) : ∀ q, mA ks ad H.size q → A q := by
  intro q h
  rcases h with ⟨x, hx, rfl⟩ | h
  · exact hS.2.2.1.2 x hx
  · exact hS.2.2.2 q (Nat.le_trans hS.2.1.1 h)
theorem g_pre (hC : CX p s m args c cc nL own G) (hS : ST G ks ad V A H0 H locs) {av : List Value} : ∀ U : State, U.heap = H → s.WarmedH U.vm → mPc av G ks ad V H.size av.toArray U :=
  fun U hU hW => ⟨rfl, by rw [hU], by rw [hU]; exact hS.1, hC.2.2.2.2.2.warm hW, hS.2.2.1.all⟩
/-- what a callee's name, bytes, room and number of arguments must be -/
abbrev mY (R : Room) (y : MethodName) (maxL n : Nat) (rm : Room) (mc ms : Nat) : Prop := (y.cls ≠ "java/lang/invoke/MethodHandle" ∧ y.cls ≠ "java/lang/invoke/VarHandle" ∧ (parseMethodDescriptor y.desc).map (fun d => d.parameters.length) = some n) ∧ rm.cells = mc ∧ rm.slots = ms ∧ rm.frames + 1 ≤ R.frames ∧ 8 + (maxL + 11) + rm.locals ≤ R.locals
theorem g_runV (hC : CX p s m args c cc nL own G) (hS : ST G ks ad V A H0 H locs) {y : MethodName} {cy : ByteArray} {idx maxL n mc ms k w i ci N : Nat} {ret : Option FieldType} {rm : Room} {C : String} {T : u_T} {fs As : List Value} {Qc : Array Value → State → Outcome → State → Prop} {lv : List (Nat × Value)}
    (hk : (k, w, i) ∈ ks) (hc : cE G ad V k w i = .inr (ci, fs)) (hcl : vwCl[ci]? = some (C, T, N))
    (hM : Met l y (ws_ y cy maxL ret) rm (mPc (.ref (ad k w i) :: As) G ks ad V H.size) Qc mc ms (mA ks ad H.size))
    (hG : GoodIn lw_all (wsV own idx C y (ws_ y cy maxL ret))) (hyC : y.cls = C) (hY : mY R y maxL n rm mc ms) (hn : As.length = n) (hl : lv_has ls nL lv) (hst : st0 = As.reverse ++ .ref (ad k w i) :: rest) (hrest : (rest.map fun v => v.category).sum ≤ 8)
    (hd : decode cc pc = .ok (.invokevirtual idx, 3)) (hf : cells + mc ≤ R.cells ∧ slots + ms ≤ R.slots) :
    va_Run p l e R s m args below meth c H locs cells slots mc ms (F0 m pc ls st0) rest (Qc (Value.ref (ad k w i) :: As).toArray) (mA ks ad H.size) :=
  va_runV (C := C) ⟨hC.1, hC.2.1, hC.2.2.1, hC.2.2.2.1, hC.2.2.2.2.1⟩ hM (cwV n hC.2.2.2.2.1 hG rfl hY.2.1 hY.2.2.1 ⟨hyC, hY.1⟩ hY.2.2.2) ⟨mPc_blind, g_recv hC hS hk hc hcl, g_pre hC hS⟩ rfl hn hl.1 hst (lv_room hrest) hd hf
theorem g_runS (hC : CX p s m args c cc nL own G) (hS : ST G ks ad V A H0 H locs) {y : MethodName} {cy : ByteArray} {idx maxL n mc ms : Nat} {ret : Option FieldType} {rm : Room} {As : List Value} {Qc : Array Value → State → Outcome → State → Prop} {lv : List (Nat × Value)}
    (hM : Met l y (ws_ y cy maxL ret) rm (mPc As G ks ad V H.size) Qc mc ms (mA ks ad H.size))
    (hG : GoodIn lw_all (va_wsS own idx y (ws_ y cy maxL ret))) (hY : mY R y maxL n rm mc ms) (hn : As.length = n) (hl : lv_has ls nL lv) (hst : st0 = As.reverse ++ rest) (hrest : (rest.map fun v => v.category).sum ≤ 8)
    (hd : decode cc pc = .ok (.invokestatic idx, 3)) (hf : cells + mc ≤ R.cells ∧ slots + ms ≤ R.slots) :
    va_Run p l e R s m args below meth c H locs cells slots mc ms (F0 m pc ls st0) rest (Qc As.toArray) (mA ks ad H.size) :=
  va_runS ⟨hC.1, hC.2.1, hC.2.2.1, hC.2.2.2.1, hC.2.2.2.2.1⟩ hM (va_cwS n hC.2.2.2.2.1 hG rfl hY.2.1 hY.2.2.1 hY.1 hY.2.2.2) ⟨mPc_blind, g_pre hC hS⟩ rfl hn hl.1 hst (lv_room hrest) hd hf
theorem g_runSN (hC : CX p s m args c cc nL own G) (hS : ST G ks ad V A H0 H locs) {y : MethodName} {cy : ByteArray} {idx maxL n mc ms : Nat} {ret : Option FieldType} {rm : Room} {host : String} {As : List Value} {Qc : Array Value → State → Outcome → State → Prop} {lv : List (Nat × Value)}
    (hM : Met l y (ws_ y cy maxL ret) rm (mPc As G ks ad V H.size) Qc mc ms (mA ks ad H.size))
    (hlk : Cond.methodLinkNest own idx y host ∈ lw_tbl) (hst9 : Cond.static y ∈ lw_all) (hini : Cond.initialized y.cls ∈ lw_all) (hcd : Cond.code y cy maxL ret ∈ lw_all) (hY : mY R y maxL n rm mc ms) (hn : As.length = n) (hl : lv_has ls nL lv) (hst : st0 = As.reverse ++ rest) (hrest : (rest.map fun v => v.category).sum ≤ 8)
    (hd : decode cc pc = .ok (.invokestatic idx, 3)) (hf : cells + mc ≤ R.cells ∧ slots + ms ≤ R.slots) :
    va_Run p l e R s m args below meth c H locs cells slots mc ms (F0 m pc ls st0) rest (Qc As.toArray) (mA ks ad H.size) :=
  va_runSN ⟨hC.1, hC.2.1, hC.2.2.1, hC.2.2.2.1, hC.2.2.2.2.1⟩ hM ⟨va_cnB n hC.2.2.2.2.1 (lw_good_ws hcd) rfl hY.2.1 hY.2.2.1 (hC.2.2.2.2.2.2 _ hlk rfl) (hC.2.2.2.2.1 _ hini) hY.1 hY.2.2.2, hC.2.2.2.2.1 _ hst9, trivial⟩ ⟨mPc_blind, g_pre hC hS⟩ rfl hn hl.1 hst (lv_room hrest) hd hf
variable {mc ms : Nat} {a : Array Value}
theorem g_calli {post : Int32 → VS → Prop} (hS : ST G ks ad V A H0 H locs) (hr : va_Run p l e R s m args below meth c H locs cells slots mc ms (F0 m pc ls st0) rest (mQi post G ks ad H.size a) (mA ks ad H.size))
    (kk : ∀ (r : Int32) (V1 : VS) (H1 : Heap) (locs1 : List Loc), post r V1 → ST G ks ad V1 A H0 H1 locs1 → W p l e R s m args below meth c H1 locs1 (cells + mc) (slots + ms) Q (F0 m (pc + 3) ls (.int r :: rest))) : W p l e R s m args below meth c H locs cells slots Q (F0 m pc ls st0) :=
  va_calli hr hS.2.1 (fun q _ h => hS.callA q h) hS.callA (fun r u t H1 locs1 ht _ hp hB _ _ hS1 => kk r u H1 locs1 hp ⟨by rw [← ht]; exact hB, hS1, hS.2.2.1, hS.2.2.2⟩)
theorem g_calll {post : Int64 → VS → Prop} (hS : ST G ks ad V A H0 H locs) (hr : va_Run p l e R s m args below meth c H locs cells slots mc ms (F0 m pc ls st0) rest (mQl post G ks ad H.size a) (mA ks ad H.size))
    (kk : ∀ (r : Int64) (V1 : VS) (H1 : Heap) (locs1 : List Loc), post r V1 → ST G ks ad V1 A H0 H1 locs1 → W p l e R s m args below meth c H1 locs1 (cells + mc) (slots + ms) Q (F0 m (pc + 3) ls (.long r :: rest))) : W p l e R s m args below meth c H locs cells slots Q (F0 m pc ls st0) :=
  va_calll hr hS.2.1 (fun q _ h => hS.callA q h) hS.callA (fun r u t H1 locs1 ht _ hp hB _ _ hS1 => kk r u H1 locs1 hp ⟨by rw [← ht]; exact hB, hS1, hS.2.2.1, hS.2.2.2⟩)
theorem g_callv {post : VS → Prop} (hS : ST G ks ad V A H0 H locs) (hr : va_Run p l e R s m args below meth c H locs cells slots mc ms (F0 m pc ls st0) rest (mQv post G ks ad H.size a) (mA ks ad H.size))
    (kk : ∀ (V1 : VS) (H1 : Heap) (locs1 : List Loc), post V1 → ST G ks ad V1 A H0 H1 locs1 → W p l e R s m args below meth c H1 locs1 (cells + mc) (slots + ms) Q (F0 m (pc + 3) ls rest)) : W p l e R s m args below meth c H locs cells slots Q (F0 m pc ls st0) :=
  va_callv hr hS.2.1 (fun q _ h => hS.callA q h) hS.callA (fun u t H1 locs1 ht _ hp hB _ _ hS1 => kk u H1 locs1 hp ⟨by rw [← ht]; exact hB, hS1, hS.2.2.1, hS.2.2.2⟩)
theorem g_calle {f : Nat → Nat} {post : Option Nat → VS → Prop} (hS : ST G ks ad V A H0 H locs) (hr : va_Run p l e R s m args below meth c H locs cells slots mc ms (F0 m pc ls st0) rest (mQe f post G ks ad H.size a) (mA ks ad H.size))
    (kk : ∀ (r : Option Nat) (V1 : VS) (H1 : Heap) (locs1 : List Loc), post r V1 → ST G ks ad V1 A H0 H1 locs1 → W p l e R s m args below meth c H1 locs1 (cells + mc) (slots + ms) Q (F0 m (pc + 3) ls (va_re f r :: rest))) : W p l e R s m args below meth c H locs cells slots Q (F0 m pc ls st0) :=
  va_calle hr hS.2.1 (fun q _ h => hS.callA q h) hS.callA (fun r u t H1 locs1 ht _ hp hB _ _ hS1 => kk r u H1 locs1 hp ⟨by rw [← ht]; exact hB, hS1, hS.2.2.1, hS.2.2.2⟩)
end GCALL
end
