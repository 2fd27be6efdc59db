/-! the start: the classes, the constants, the statics -/
theorem arr_of {s : State} {ty : FieldType} {c : ClassId} {k : Class} {comp : ClassId} (h2 : s.vm.classes[c]? = some k) (h3 : k.kind = .array comp ty) : ArrOfT s c ty := fun N z => ⟨(fun q h => by cases h), k, h2, comp, h3⟩
theorem start_K {s : State} {args : Array Value} (hts : ∀ w ∈ lw_tbl, w.before args s = true) (hgv : (Jvm.Cond.and given_1 narrow_1).before args s = true) : ∃ G : GG, gK G s ∧ gZ G (fun q : Nat => s.heap.size ≤ q) s s.heap := by
  have hts9 : ∀ w ∈ lw_all, w.before args s = true := fun w hw => hts w (List.mem_filter.mp hw).1
  have hf := flat_of_before _ hgv
  obtain ⟨c0, i0, h0⟩ := u_known hts9 ina_Jx4a65c (hts9 _ wq_81)
  obtain ⟨c1, i1, h1⟩ := u_known hts9 ina_X0 (hts9 _ wq_660)
  obtain ⟨c2, i2, h2⟩ := u_known hts9 ina_X1 (hts9 _ wq_408)
  obtain ⟨c3, i3, h3⟩ := u_known hts9 ina_X2 (hts9 _ wq_539)
  obtain ⟨c4, i4, h4⟩ := u_known hts9 ina_X3 (hts9 _ wq_666)
  obtain ⟨c5, i5, h5⟩ := u_known hts9 ina_X4 (hts9 _ wq_715)
  obtain ⟨c6, i6, h6⟩ := u_known hts9 ina_X5 (hts9 _ wq_118)
  obtain ⟨c7, i7, h7⟩ := u_known hts9 ina_X6 (hts9 _ wq_107)
  obtain ⟨c8, i8, h8⟩ := u_known hts9 ina_X7 (hts9 _ wq_75)
  obtain ⟨c9, i9, h9⟩ := u_known hts9 ina_X8 (hts9 _ wq_67)
  obtain ⟨c10, i10, h10⟩ := u_known hts9 ina_X9 (hts9 _ wq_971)
  obtain ⟨c11, i11, h11⟩ := u_known hts9 ina_X10 (hts9 _ wq_965)
  obtain ⟨aI, kI, mI, f1, f2, f3⟩ := Cond.arrayClass_spec (hts9 _ wq_116)
  obtain ⟨aL, kL, mL, g1, g2, g3⟩ := Cond.arrayClass_spec (hts9 _ wq_1298)
  have hO := hts _ wq_474
  obtain ⟨mO, aO, kO, o1, o2, o3, o4, o5⟩ := Cond.arrayOver_spec hO
  have hA : ∀ a : Nat, a < s.heap.size → ¬ (fun q : Nat => s.heap.size ≤ q) a := fun a h => Nat.not_le.mpr h
  have hlen := hf (.eq (.length (.static "java/util/ArrayList" "DEFAULTCAPACITY_EMPTY_ELEMENTDATA" "[Ljava/lang/Object;")) (.int (0 : Int32))) (by decide +kernel)
  have harr := hf (.arrayOf (.static "java/util/ArrayList" "DEFAULTCAPACITY_EMPTY_ELEMENTDATA" "[Ljava/lang/Object;") (.object "java/lang/Object")) (by decide +kernel)
  have hlen2 : (Term.length (.static "java/util/ArrayList" "DEFAULTCAPACITY_EMPTY_ELEMENTDATA" "[Ljava/lang/Object;")).eval args s none [] s = some (.int (Int32.ofNat 0)) := by
    obtain ⟨y, h1, h2⟩ := Cond.eq_one hlen
    have h2 : some (Value.int 0) = some y := h2
    rw [h1, ← h2]
    rfl
  obtain ⟨d', hd', hT⟩ := va_Tof (A := fun q : Nat => s.heap.size ≤ q) (f := fun _ => .null) (by decide) harr hlen2 (fun j hj => absurd hj (Nat.not_lt_zero j)) hA
  refine ⟨((fun c => match c with | 0 => c0 | 1 => c1 | 2 => c2 | 3 => c3 | 4 => c4 | 5 => c5 | 6 => c6 | 7 => c7 | 8 => c8 | 9 => c9 | 10 => c10 | _ => c11, fun c => match c with | 0 => i0 | 1 => i1 | 2 => i2 | 3 => i3 | 4 => i4 | 5 => i5 | 6 => i6 | 7 => i7 | 8 => i8 | 9 => i9 | 10 => i10 | _ => i11), aI, aO, aL, d'), ⟨⟨fun c q hq => ?_, fun k q hq => ?_⟩, fun w hw hn => ?_, fun own tx k hw => ?_, va_AO.of hO, va_Dc.of (hts _ (List.mem_of_getElem? (i := 1319) (by decide +kernel))), va_Mi.of (hf (.isRef (.mirror "[Ljava/lang/Object;")) (by decide +kernel)), va_Nc.of (hf (.not (.castable "java/lang/IllegalArgumentException" "java/lang/IndexOutOfBoundsException")) (by decide +kernel)), va_Nc.of (hf (.not (.castable "java/lang/IllegalStateException" "java/lang/IndexOutOfBoundsException")) (by decide +kernel)), va_Nc.of (hf (.not (.castable "java/lang/IllegalStateException" "java/lang/IllegalArgumentException")) (by decide +kernel)), va_Nc.of (hf (.not (.castable "java/lang/IndexOutOfBoundsException" "java/lang/IllegalArgumentException")) (by decide +kernel))⟩, vx_Zqof (hts _ wq_366) (hts9 _ wq_48) (hf (.isRef (.static Bundle.tN "UNASSIGNED_STACK" Bundle.steD)) (by decide +kernel)) hA, vx_Zqof (hts _ wq_368) (hts9 _ wq_48) (hf (.isRef (.static Bundle.tN "SUPPRESSED_SENTINEL" Bundle.listD)) (by decide +kernel)) hA, va_Zof (hts _ wq_93) (hts9 _ wq_43) hd' hA, hT⟩
  · match c, hq with
    | 0, hq => cases hq; exact h0
    | 1, hq => cases hq; exact h1
    | 2, hq => cases hq; exact h2
    | 3, hq => cases hq; exact h3
    | 4, hq => cases hq; exact h4
    | 5, hq => cases hq; exact h5
    | 6, hq => cases hq; exact h6
    | 7, hq => cases hq; exact h7
    | 8, hq => cases hq; exact h8
    | 9, hq => cases hq; exact h9
    | 10, hq => cases hq; exact h10
    | 11, hq => cases hq; exact h11
    | c + 12, hq => cases hq
  · match k, hq with
    | 0, hq => cases hq; exact ⟨arr_of f2 f3, f1⟩
    | 1, hq => cases hq; exact ⟨arr_of o3 o4, kO, mO, o3, o4, o1, o5⟩
    | 2, hq => cases hq; exact ⟨arr_of g2 g3, g1⟩
    | k + 3, hq => cases hq
  · refine va_Nw.of ?_ (hts w hw)
    unfold isNest at hn
    split at hn
    · rfl
    · rfl
    · rfl
    · rfl
    · exact absurd hn (by decide)
  · have h1 := hts _ hw
    cases hc : s.vm.findClass own with
    | none =>
      simp [Cond.before, Cond.holds, Cond.value, hc] at h1
    | some cur =>
      obtain ⟨k9, cf, i, a, -, -, -, -, -, h2⟩ := Cond.stringRef_spec hc h1
      exact ⟨a, vk_R.of (A := args) h1 h2⟩
