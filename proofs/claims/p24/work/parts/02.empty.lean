/-! the file has a handler: 159 to 181, at 184 -/
theorem q24_with : ClassFile.Facts.File.hasCodeWith classFile x code maxLocals ret [(159, 181, 184, 47)] = true := by decide +kernel
theorem q24_gen {f : ClassFile.Facts.File} {o : Option ClassFile.Facts.File} {y : MethodName} {cc : ByteArray} {n : Nat} {r : Option FieldType} (ho : o = some f) (h : (o.any fun f => f.hasCode y cc n r) = true) : f.hasCode y cc n r = true := by
  subst ho
  exact h
theorem q24_head {y : MethodName} {cc : ByteArray} {n : Nat} {r : Option FieldType} {ts : List Cond} {room : Room} : (y, cc, n, r) ∈ (Jvm.D.headSpec (Cond.code y cc n r :: ts) room).pre.codes ++ (Jvm.D.headSpec (Cond.code y cc n r :: ts) room).post.codes :=
  List.mem_append_left _ (List.mem_append_left _ List.mem_cons_self)
/-- no launch at all meets the premise: the file of the law's class is given, and its law has a handler -/
theorem q24_lists (l : Launch) : ¬ Jvm.D.Lists l classFile x code maxLocals ret tables_1 room_1 := by
  intro h
  obtain ⟨-, hf, hF, -⟩ := h
  have h2 := q24_gen hf (hF.1 _ q24_head)
  rw [q24_pinned] at h2
  cases h2
theorem q24_launch : ¬ ListsClaimed_1 := q24_lists launch0
theorem q24_witness : ¬ WitnessClaimed_1 := by
  intro h
  obtain ⟨p, e, s, m, args, below, h⟩ := h
  exact q24_lists launch0 h.1
