/-! THE CLAIM OUT OF ONE WALK OF THE LAW'S BODY. Your part is whole_start (and what it stands on); all else here is the same for every law, but numbers. -/
def R_law : String := "WallReadingsLaw"
def lw_P (b : Addr) (xs : List Int32) (args : Array Value) (s : State) : Prop := args = #[.ref b] ∧ s.IntsAt b xs ∧ xs.length ≤ 320 ∧ (Jvm.Cond.and given_1 narrow_1).before args s = true
def lw_Q (_ : Array Value) (s : State) (o : Outcome) (t : State) : Prop := o = .returned (some (.int 1)) ∧ Framed s o t [] 58 1571
def lw_Z (below : List Frame) (a : Array Value) (s : State) : State → Prop := fun t => ∃ o, t.status = .running ∧ Ended t below o ∧ lw_Q a s o t
/-- the law's own end, with 1 on the stack, nothing written that was there before, its room as the claim has it -/
theorem lw_ret {p : Program} {l : Launch} {e : Env} {s : State} {m : MethodId} {below : List Frame} {meth : Method} {c : Code} {b : Nat} (hx : p.tables.exec = Jvm.exec) (hb : c.code = code) (hr : meth.sig.returnType = ret) (hlocks : meth.locks = false) {pc : Nat} {H : Heap} {ls : Array Slot} (hdg : decode code pc = .ok (.ireturn, 1)) : W p l e room_1 s m #[Value.ref b] below meth c H [] 58 1571 (lw_Z below #[Value.ref b] s) (F0 m pc ls [.int 1]) := by
  intro T hT X
  obtain ⟨fs, hret, hrun, hended, hW, hframe⟩ := X.leave (v := some (.int 1)) (hlocks := hlocks) (fun h => by rw [hr] at h; cases h)
  have hmeth' : T.vm.method? m = some meth := X.method'
  refine ⟨T.setFrames fs, ?_, .returned (some (.int 1)), hrun, hended, rfl, ⟨_, rfl⟩, hW, hframe⟩
  jvm_step X.here [X.here.top, hx, hb, hdg, hmeth', hr, ret, narrow_b1]
  (try refine ⟨rfl, ?_⟩); (try refine ⟨rfl, ?_⟩)
  first | (intro acts; rw [hret _ acts rfl rfl rfl]) | rw [hret _ _ rfl rfl rfl]
  exact Steps.refl _
/-- what holds at the law's entry: the machine, the code, the tables' words (any of lw_tbl by 'hts w (by decide +kernel)'), the script of L ints xs at the cell b, what the Statement gives of the start (any of its parts by flat_of_before) -/
def lw_At (p : Program) (s : State) (m : MethodId) (meth : Method) (c : Code) (b L : Nat) (xs : Nat → Int32) : Prop :=
  p.tables.exec = Jvm.exec ∧ c.code = code ∧ meth.sig.returnType = ret ∧ c.maxLocals = 4 ∧ s.vm.findClass R_law = some m.cls ∧ (∀ w ∈ lw_tbl, w.before #[Value.ref b] s = true) ∧ va_X b L xs s s.heap ∧ b < s.heap.size ∧ meth.locks = false ∧ (Jvm.Cond.and given_1 narrow_1).before #[Value.ref b] s = true
theorem lw_t1 {w : Cond} (h : w ∈ tables_1_1) : w ∈ lw_tbl := List.mem_append_right _ (List.mem_append_left _ h)
theorem lw_t2 {w : Cond} (h : w ∈ tables_1_2) : w ∈ lw_tbl := List.mem_append_right _ (List.mem_append_right _ (List.mem_append_left _ h))
theorem lw_t3 {w : Cond} (h : w ∈ tables_1_3) : w ∈ lw_tbl := List.mem_append_right _ (List.mem_append_right _ (List.mem_append_right _ (List.mem_append_left _ h)))
theorem lw_arrK {s : State} {args : Array Value} {ty : FieldType} (h : (Cond.arrayClass ty).before args s = true) (h2 : (∀ C, ty ≠ .object C) ∧ ∀ k, ty ≠ .array k) : ∃ cA, ArrOfT s cA ty ∧ va_RA s cA ty := by
  obtain ⟨cA, kA, comp, e1, e2, e3⟩ := Cond.arrayClass_spec h
  refine ⟨cA, fun n z => ⟨fun k h => (by cases h), kA, e2, comp, e3⟩, ?_⟩
  cases ty <;> first | exact e1 | exact absurd rfl (h2.1 _) | exact absurd rfl (h2.2 _)
theorem lw_strX : Cond.exactly (Term.string RX4 58) "java/lang/String" ∈ flatC (Jvm.Cond.and given_1 narrow_1) := List.mem_of_getElem? (i := 9) rfl
theorem lw_strC : Cond.eq (.field (Term.string RX4 58) "java/lang/String" "coder" "B") (.int 0) ∈ flatC (Jvm.Cond.and given_1 narrow_1) := List.mem_of_getElem? (i := 10) rfl
theorem lw_strA : Cond.arrayOf (.field (Term.string RX4 58) "java/lang/String" "value" "[B") .byte ∈ flatC (Jvm.Cond.and given_1 narrow_1) := List.mem_of_getElem? (i := 11) rfl
theorem lw_strL : Cond.eq (.length (.field (Term.string RX4 58) "java/lang/String" "value" "[B")) (.int 121) ∈ flatC (Jvm.Cond.and given_1 narrow_1) := List.mem_of_getElem? (i := 12) rfl
theorem lw_strZ : Cond.eq (Term.static "java/lang/String" "COMPACT_STRINGS" "Z") (.int 1) ∈ flatC (Jvm.Cond.and given_1 narrow_1) := List.mem_of_getElem? (i := 4) rfl
theorem lw_strF : Cond.isRef (Term.static "jdk/internal/util/Preconditions" "SIOOBE_FORMATTER" "Ljava/util/function/BiFunction;") ∈ flatC (Jvm.Cond.and given_1 narrow_1) := List.mem_of_getElem? (i := 5) rfl
abbrev lw_el (j : Nat) (v : Int32) : Cond := Cond.eq (.elem (.field (Term.string RX4 58) "java/lang/String" "value" "[B") (.int (Int32.ofNat j))) (.int v)
abbrev lw_fl : List Cond := flatC (Jvm.Cond.and given_1 narrow_1)
theorem lw_e0 : lw_el 0 (f_byt.getD 0 0) ∈ lw_fl := List.mem_of_getElem? (i := 13) rfl
theorem lw_e1 : lw_el 1 (f_byt.getD 1 0) ∈ lw_fl := List.mem_of_getElem? (i := 14) rfl
theorem lw_e2 : lw_el 2 (f_byt.getD 2 0) ∈ lw_fl := List.mem_of_getElem? (i := 15) rfl
theorem lw_e3 : lw_el 3 (f_byt.getD 3 0) ∈ lw_fl := List.mem_of_getElem? (i := 16) rfl
theorem lw_e4 : lw_el 4 (f_byt.getD 4 0) ∈ lw_fl := List.mem_of_getElem? (i := 17) rfl
theorem lw_e5 : lw_el 5 (f_byt.getD 5 0) ∈ lw_fl := List.mem_of_getElem? (i := 18) rfl
theorem lw_e6 : lw_el 6 (f_byt.getD 6 0) ∈ lw_fl := List.mem_of_getElem? (i := 19) rfl
theorem lw_e7 : lw_el 7 (f_byt.getD 7 0) ∈ lw_fl := List.mem_of_getElem? (i := 20) rfl
theorem lw_e8 : lw_el 8 (f_byt.getD 8 0) ∈ lw_fl := List.mem_of_getElem? (i := 21) rfl
theorem lw_e9 : lw_el 9 (f_byt.getD 9 0) ∈ lw_fl := List.mem_of_getElem? (i := 22) rfl
theorem lw_e10 : lw_el 10 (f_byt.getD 10 0) ∈ lw_fl := List.mem_of_getElem? (i := 23) rfl
theorem lw_e11 : lw_el 11 (f_byt.getD 11 0) ∈ lw_fl := List.mem_of_getElem? (i := 24) rfl
theorem lw_e12 : lw_el 12 (f_byt.getD 12 0) ∈ lw_fl := List.mem_of_getElem? (i := 25) rfl
theorem lw_e13 : lw_el 13 (f_byt.getD 13 0) ∈ lw_fl := List.mem_of_getElem? (i := 26) rfl
theorem lw_e14 : lw_el 14 (f_byt.getD 14 0) ∈ lw_fl := List.mem_of_getElem? (i := 27) rfl
theorem lw_e15 : lw_el 15 (f_byt.getD 15 0) ∈ lw_fl := List.mem_of_getElem? (i := 28) rfl
theorem lw_e16 : lw_el 16 (f_byt.getD 16 0) ∈ lw_fl := List.mem_of_getElem? (i := 29) rfl
theorem lw_e17 : lw_el 17 (f_byt.getD 17 0) ∈ lw_fl := List.mem_of_getElem? (i := 30) rfl
theorem lw_e18 : lw_el 18 (f_byt.getD 18 0) ∈ lw_fl := List.mem_of_getElem? (i := 31) rfl
theorem lw_e19 : lw_el 19 (f_byt.getD 19 0) ∈ lw_fl := List.mem_of_getElem? (i := 32) rfl
theorem lw_e20 : lw_el 20 (f_byt.getD 20 0) ∈ lw_fl := List.mem_of_getElem? (i := 33) rfl
theorem lw_e21 : lw_el 21 (f_byt.getD 21 0) ∈ lw_fl := List.mem_of_getElem? (i := 34) rfl
theorem lw_e22 : lw_el 22 (f_byt.getD 22 0) ∈ lw_fl := List.mem_of_getElem? (i := 35) rfl
theorem lw_e23 : lw_el 23 (f_byt.getD 23 0) ∈ lw_fl := List.mem_of_getElem? (i := 36) rfl
theorem lw_e24 : lw_el 24 (f_byt.getD 24 0) ∈ lw_fl := List.mem_of_getElem? (i := 37) rfl
theorem lw_e25 : lw_el 25 (f_byt.getD 25 0) ∈ lw_fl := List.mem_of_getElem? (i := 38) rfl
theorem lw_e26 : lw_el 26 (f_byt.getD 26 0) ∈ lw_fl := List.mem_of_getElem? (i := 39) rfl
theorem lw_e27 : lw_el 27 (f_byt.getD 27 0) ∈ lw_fl := List.mem_of_getElem? (i := 40) rfl
theorem lw_e28 : lw_el 28 (f_byt.getD 28 0) ∈ lw_fl := List.mem_of_getElem? (i := 41) rfl
theorem lw_e29 : lw_el 29 (f_byt.getD 29 0) ∈ lw_fl := List.mem_of_getElem? (i := 42) rfl
theorem lw_e30 : lw_el 30 (f_byt.getD 30 0) ∈ lw_fl := List.mem_of_getElem? (i := 43) rfl
theorem lw_e31 : lw_el 31 (f_byt.getD 31 0) ∈ lw_fl := List.mem_of_getElem? (i := 44) rfl
theorem lw_e32 : lw_el 32 (f_byt.getD 32 0) ∈ lw_fl := List.mem_of_getElem? (i := 45) rfl
theorem lw_e33 : lw_el 33 (f_byt.getD 33 0) ∈ lw_fl := List.mem_of_getElem? (i := 46) rfl
theorem lw_e34 : lw_el 34 (f_byt.getD 34 0) ∈ lw_fl := List.mem_of_getElem? (i := 47) rfl
theorem lw_e35 : lw_el 35 (f_byt.getD 35 0) ∈ lw_fl := List.mem_of_getElem? (i := 48) rfl
theorem lw_e36 : lw_el 36 (f_byt.getD 36 0) ∈ lw_fl := List.mem_of_getElem? (i := 49) rfl
theorem lw_e37 : lw_el 37 (f_byt.getD 37 0) ∈ lw_fl := List.mem_of_getElem? (i := 50) rfl
theorem lw_e38 : lw_el 38 (f_byt.getD 38 0) ∈ lw_fl := List.mem_of_getElem? (i := 51) rfl
theorem lw_e39 : lw_el 39 (f_byt.getD 39 0) ∈ lw_fl := List.mem_of_getElem? (i := 52) rfl
theorem lw_e40 : lw_el 40 (f_byt.getD 40 0) ∈ lw_fl := List.mem_of_getElem? (i := 53) rfl
theorem lw_e41 : lw_el 41 (f_byt.getD 41 0) ∈ lw_fl := List.mem_of_getElem? (i := 54) rfl
theorem lw_e42 : lw_el 42 (f_byt.getD 42 0) ∈ lw_fl := List.mem_of_getElem? (i := 55) rfl
theorem lw_e43 : lw_el 43 (f_byt.getD 43 0) ∈ lw_fl := List.mem_of_getElem? (i := 56) rfl
theorem lw_e44 : lw_el 44 (f_byt.getD 44 0) ∈ lw_fl := List.mem_of_getElem? (i := 57) rfl
theorem lw_e45 : lw_el 45 (f_byt.getD 45 0) ∈ lw_fl := List.mem_of_getElem? (i := 58) rfl
theorem lw_e46 : lw_el 46 (f_byt.getD 46 0) ∈ lw_fl := List.mem_of_getElem? (i := 59) rfl
theorem lw_e47 : lw_el 47 (f_byt.getD 47 0) ∈ lw_fl := List.mem_of_getElem? (i := 60) rfl
theorem lw_e48 : lw_el 48 (f_byt.getD 48 0) ∈ lw_fl := List.mem_of_getElem? (i := 61) rfl
theorem lw_e49 : lw_el 49 (f_byt.getD 49 0) ∈ lw_fl := List.mem_of_getElem? (i := 62) rfl
theorem lw_e50 : lw_el 50 (f_byt.getD 50 0) ∈ lw_fl := List.mem_of_getElem? (i := 63) rfl
theorem lw_e51 : lw_el 51 (f_byt.getD 51 0) ∈ lw_fl := List.mem_of_getElem? (i := 64) rfl
theorem lw_e52 : lw_el 52 (f_byt.getD 52 0) ∈ lw_fl := List.mem_of_getElem? (i := 65) rfl
theorem lw_e53 : lw_el 53 (f_byt.getD 53 0) ∈ lw_fl := List.mem_of_getElem? (i := 66) rfl
theorem lw_e54 : lw_el 54 (f_byt.getD 54 0) ∈ lw_fl := List.mem_of_getElem? (i := 67) rfl
theorem lw_e55 : lw_el 55 (f_byt.getD 55 0) ∈ lw_fl := List.mem_of_getElem? (i := 68) rfl
theorem lw_e56 : lw_el 56 (f_byt.getD 56 0) ∈ lw_fl := List.mem_of_getElem? (i := 69) rfl
theorem lw_e57 : lw_el 57 (f_byt.getD 57 0) ∈ lw_fl := List.mem_of_getElem? (i := 70) rfl
theorem lw_e58 : lw_el 58 (f_byt.getD 58 0) ∈ lw_fl := List.mem_of_getElem? (i := 71) rfl
theorem lw_e59 : lw_el 59 (f_byt.getD 59 0) ∈ lw_fl := List.mem_of_getElem? (i := 72) rfl
theorem lw_e60 : lw_el 60 (f_byt.getD 60 0) ∈ lw_fl := List.mem_of_getElem? (i := 73) rfl
theorem lw_e61 : lw_el 61 (f_byt.getD 61 0) ∈ lw_fl := List.mem_of_getElem? (i := 74) rfl
theorem lw_e62 : lw_el 62 (f_byt.getD 62 0) ∈ lw_fl := List.mem_of_getElem? (i := 75) rfl
theorem lw_e63 : lw_el 63 (f_byt.getD 63 0) ∈ lw_fl := List.mem_of_getElem? (i := 76) rfl
theorem lw_e64 : lw_el 64 (f_byt.getD 64 0) ∈ lw_fl := List.mem_of_getElem? (i := 77) rfl
theorem lw_e65 : lw_el 65 (f_byt.getD 65 0) ∈ lw_fl := List.mem_of_getElem? (i := 78) rfl
theorem lw_e66 : lw_el 66 (f_byt.getD 66 0) ∈ lw_fl := List.mem_of_getElem? (i := 79) rfl
theorem lw_e67 : lw_el 67 (f_byt.getD 67 0) ∈ lw_fl := List.mem_of_getElem? (i := 80) rfl
theorem lw_e68 : lw_el 68 (f_byt.getD 68 0) ∈ lw_fl := List.mem_of_getElem? (i := 81) rfl
theorem lw_e69 : lw_el 69 (f_byt.getD 69 0) ∈ lw_fl := List.mem_of_getElem? (i := 82) rfl
theorem lw_e70 : lw_el 70 (f_byt.getD 70 0) ∈ lw_fl := List.mem_of_getElem? (i := 83) rfl
theorem lw_e71 : lw_el 71 (f_byt.getD 71 0) ∈ lw_fl := List.mem_of_getElem? (i := 84) rfl
theorem lw_e72 : lw_el 72 (f_byt.getD 72 0) ∈ lw_fl := List.mem_of_getElem? (i := 85) rfl
theorem lw_e73 : lw_el 73 (f_byt.getD 73 0) ∈ lw_fl := List.mem_of_getElem? (i := 86) rfl
theorem lw_e74 : lw_el 74 (f_byt.getD 74 0) ∈ lw_fl := List.mem_of_getElem? (i := 87) rfl
theorem lw_e75 : lw_el 75 (f_byt.getD 75 0) ∈ lw_fl := List.mem_of_getElem? (i := 88) rfl
theorem lw_e76 : lw_el 76 (f_byt.getD 76 0) ∈ lw_fl := List.mem_of_getElem? (i := 89) rfl
theorem lw_e77 : lw_el 77 (f_byt.getD 77 0) ∈ lw_fl := List.mem_of_getElem? (i := 90) rfl
theorem lw_e78 : lw_el 78 (f_byt.getD 78 0) ∈ lw_fl := List.mem_of_getElem? (i := 91) rfl
theorem lw_e79 : lw_el 79 (f_byt.getD 79 0) ∈ lw_fl := List.mem_of_getElem? (i := 92) rfl
theorem lw_e80 : lw_el 80 (f_byt.getD 80 0) ∈ lw_fl := List.mem_of_getElem? (i := 93) rfl
theorem lw_e81 : lw_el 81 (f_byt.getD 81 0) ∈ lw_fl := List.mem_of_getElem? (i := 94) rfl
theorem lw_e82 : lw_el 82 (f_byt.getD 82 0) ∈ lw_fl := List.mem_of_getElem? (i := 95) rfl
theorem lw_e83 : lw_el 83 (f_byt.getD 83 0) ∈ lw_fl := List.mem_of_getElem? (i := 96) rfl
theorem lw_e84 : lw_el 84 (f_byt.getD 84 0) ∈ lw_fl := List.mem_of_getElem? (i := 97) rfl
theorem lw_e85 : lw_el 85 (f_byt.getD 85 0) ∈ lw_fl := List.mem_of_getElem? (i := 98) rfl
theorem lw_e86 : lw_el 86 (f_byt.getD 86 0) ∈ lw_fl := List.mem_of_getElem? (i := 99) rfl
theorem lw_e87 : lw_el 87 (f_byt.getD 87 0) ∈ lw_fl := List.mem_of_getElem? (i := 100) rfl
theorem lw_e88 : lw_el 88 (f_byt.getD 88 0) ∈ lw_fl := List.mem_of_getElem? (i := 101) rfl
theorem lw_e89 : lw_el 89 (f_byt.getD 89 0) ∈ lw_fl := List.mem_of_getElem? (i := 102) rfl
theorem lw_e90 : lw_el 90 (f_byt.getD 90 0) ∈ lw_fl := List.mem_of_getElem? (i := 103) rfl
theorem lw_e91 : lw_el 91 (f_byt.getD 91 0) ∈ lw_fl := List.mem_of_getElem? (i := 104) rfl
theorem lw_e92 : lw_el 92 (f_byt.getD 92 0) ∈ lw_fl := List.mem_of_getElem? (i := 105) rfl
theorem lw_e93 : lw_el 93 (f_byt.getD 93 0) ∈ lw_fl := List.mem_of_getElem? (i := 106) rfl
theorem lw_e94 : lw_el 94 (f_byt.getD 94 0) ∈ lw_fl := List.mem_of_getElem? (i := 107) rfl
theorem lw_e95 : lw_el 95 (f_byt.getD 95 0) ∈ lw_fl := List.mem_of_getElem? (i := 108) rfl
theorem lw_e96 : lw_el 96 (f_byt.getD 96 0) ∈ lw_fl := List.mem_of_getElem? (i := 109) rfl
theorem lw_e97 : lw_el 97 (f_byt.getD 97 0) ∈ lw_fl := List.mem_of_getElem? (i := 110) rfl
theorem lw_e98 : lw_el 98 (f_byt.getD 98 0) ∈ lw_fl := List.mem_of_getElem? (i := 111) rfl
theorem lw_e99 : lw_el 99 (f_byt.getD 99 0) ∈ lw_fl := List.mem_of_getElem? (i := 112) rfl
theorem lw_e100 : lw_el 100 (f_byt.getD 100 0) ∈ lw_fl := List.mem_of_getElem? (i := 113) rfl
theorem lw_e101 : lw_el 101 (f_byt.getD 101 0) ∈ lw_fl := List.mem_of_getElem? (i := 114) rfl
theorem lw_e102 : lw_el 102 (f_byt.getD 102 0) ∈ lw_fl := List.mem_of_getElem? (i := 115) rfl
theorem lw_e103 : lw_el 103 (f_byt.getD 103 0) ∈ lw_fl := List.mem_of_getElem? (i := 116) rfl
theorem lw_e104 : lw_el 104 (f_byt.getD 104 0) ∈ lw_fl := List.mem_of_getElem? (i := 117) rfl
theorem lw_e105 : lw_el 105 (f_byt.getD 105 0) ∈ lw_fl := List.mem_of_getElem? (i := 118) rfl
theorem lw_e106 : lw_el 106 (f_byt.getD 106 0) ∈ lw_fl := List.mem_of_getElem? (i := 119) rfl
theorem lw_e107 : lw_el 107 (f_byt.getD 107 0) ∈ lw_fl := List.mem_of_getElem? (i := 120) rfl
theorem lw_e108 : lw_el 108 (f_byt.getD 108 0) ∈ lw_fl := List.mem_of_getElem? (i := 121) rfl
theorem lw_e109 : lw_el 109 (f_byt.getD 109 0) ∈ lw_fl := List.mem_of_getElem? (i := 122) rfl
theorem lw_e110 : lw_el 110 (f_byt.getD 110 0) ∈ lw_fl := List.mem_of_getElem? (i := 123) rfl
theorem lw_e111 : lw_el 111 (f_byt.getD 111 0) ∈ lw_fl := List.mem_of_getElem? (i := 124) rfl
theorem lw_e112 : lw_el 112 (f_byt.getD 112 0) ∈ lw_fl := List.mem_of_getElem? (i := 125) rfl
theorem lw_e113 : lw_el 113 (f_byt.getD 113 0) ∈ lw_fl := List.mem_of_getElem? (i := 126) rfl
theorem lw_e114 : lw_el 114 (f_byt.getD 114 0) ∈ lw_fl := List.mem_of_getElem? (i := 127) rfl
theorem lw_e115 : lw_el 115 (f_byt.getD 115 0) ∈ lw_fl := List.mem_of_getElem? (i := 128) rfl
theorem lw_e116 : lw_el 116 (f_byt.getD 116 0) ∈ lw_fl := List.mem_of_getElem? (i := 129) rfl
theorem lw_e117 : lw_el 117 (f_byt.getD 117 0) ∈ lw_fl := List.mem_of_getElem? (i := 130) rfl
theorem lw_e118 : lw_el 118 (f_byt.getD 118 0) ∈ lw_fl := List.mem_of_getElem? (i := 131) rfl
theorem lw_e119 : lw_el 119 (f_byt.getD 119 0) ∈ lw_fl := List.mem_of_getElem? (i := 132) rfl
theorem lw_e120 : lw_el 120 (f_byt.getD 120 0) ∈ lw_fl := List.mem_of_getElem? (i := 133) rfl
theorem lw_ch {P : Nat → Prop} {n : Nat} (h : ∀ j, j < n → P j) (k : P n) : ∀ j, j < n + 1 → P j := fun j hj => by
  by_cases e : j = n
  · rw [e]; exact k
  · exact h j (by omega)
theorem lw_g0 : ∀ j, j < 0 → lw_el j (f_byt.getD j 0) ∈ lw_fl := fun j h => absurd h (Nat.not_lt_zero j)
theorem lw_g11 : ∀ j, j < 11 → lw_el j (f_byt.getD j 0) ∈ lw_fl := lw_ch (n := 10) (lw_ch (n := 9) (lw_ch (n := 8) (lw_ch (n := 7) (lw_ch (n := 6) (lw_ch (n := 5) (lw_ch (n := 4) (lw_ch (n := 3) (lw_ch (n := 2) (lw_ch (n := 1) (lw_ch (n := 0) (lw_g0) lw_e0) lw_e1) lw_e2) lw_e3) lw_e4) lw_e5) lw_e6) lw_e7) lw_e8) lw_e9) lw_e10
theorem lw_g22 : ∀ j, j < 22 → lw_el j (f_byt.getD j 0) ∈ lw_fl := lw_ch (n := 21) (lw_ch (n := 20) (lw_ch (n := 19) (lw_ch (n := 18) (lw_ch (n := 17) (lw_ch (n := 16) (lw_ch (n := 15) (lw_ch (n := 14) (lw_ch (n := 13) (lw_ch (n := 12) (lw_ch (n := 11) (lw_g11) lw_e11) lw_e12) lw_e13) lw_e14) lw_e15) lw_e16) lw_e17) lw_e18) lw_e19) lw_e20) lw_e21
theorem lw_g33 : ∀ j, j < 33 → lw_el j (f_byt.getD j 0) ∈ lw_fl := lw_ch (n := 32) (lw_ch (n := 31) (lw_ch (n := 30) (lw_ch (n := 29) (lw_ch (n := 28) (lw_ch (n := 27) (lw_ch (n := 26) (lw_ch (n := 25) (lw_ch (n := 24) (lw_ch (n := 23) (lw_ch (n := 22) (lw_g22) lw_e22) lw_e23) lw_e24) lw_e25) lw_e26) lw_e27) lw_e28) lw_e29) lw_e30) lw_e31) lw_e32
theorem lw_g44 : ∀ j, j < 44 → lw_el j (f_byt.getD j 0) ∈ lw_fl := lw_ch (n := 43) (lw_ch (n := 42) (lw_ch (n := 41) (lw_ch (n := 40) (lw_ch (n := 39) (lw_ch (n := 38) (lw_ch (n := 37) (lw_ch (n := 36) (lw_ch (n := 35) (lw_ch (n := 34) (lw_ch (n := 33) (lw_g33) lw_e33) lw_e34) lw_e35) lw_e36) lw_e37) lw_e38) lw_e39) lw_e40) lw_e41) lw_e42) lw_e43
theorem lw_g55 : ∀ j, j < 55 → lw_el j (f_byt.getD j 0) ∈ lw_fl := lw_ch (n := 54) (lw_ch (n := 53) (lw_ch (n := 52) (lw_ch (n := 51) (lw_ch (n := 50) (lw_ch (n := 49) (lw_ch (n := 48) (lw_ch (n := 47) (lw_ch (n := 46) (lw_ch (n := 45) (lw_ch (n := 44) (lw_g44) lw_e44) lw_e45) lw_e46) lw_e47) lw_e48) lw_e49) lw_e50) lw_e51) lw_e52) lw_e53) lw_e54
theorem lw_g66 : ∀ j, j < 66 → lw_el j (f_byt.getD j 0) ∈ lw_fl := lw_ch (n := 65) (lw_ch (n := 64) (lw_ch (n := 63) (lw_ch (n := 62) (lw_ch (n := 61) (lw_ch (n := 60) (lw_ch (n := 59) (lw_ch (n := 58) (lw_ch (n := 57) (lw_ch (n := 56) (lw_ch (n := 55) (lw_g55) lw_e55) lw_e56) lw_e57) lw_e58) lw_e59) lw_e60) lw_e61) lw_e62) lw_e63) lw_e64) lw_e65
theorem lw_g77 : ∀ j, j < 77 → lw_el j (f_byt.getD j 0) ∈ lw_fl := lw_ch (n := 76) (lw_ch (n := 75) (lw_ch (n := 74) (lw_ch (n := 73) (lw_ch (n := 72) (lw_ch (n := 71) (lw_ch (n := 70) (lw_ch (n := 69) (lw_ch (n := 68) (lw_ch (n := 67) (lw_ch (n := 66) (lw_g66) lw_e66) lw_e67) lw_e68) lw_e69) lw_e70) lw_e71) lw_e72) lw_e73) lw_e74) lw_e75) lw_e76
theorem lw_g88 : ∀ j, j < 88 → lw_el j (f_byt.getD j 0) ∈ lw_fl := lw_ch (n := 87) (lw_ch (n := 86) (lw_ch (n := 85) (lw_ch (n := 84) (lw_ch (n := 83) (lw_ch (n := 82) (lw_ch (n := 81) (lw_ch (n := 80) (lw_ch (n := 79) (lw_ch (n := 78) (lw_ch (n := 77) (lw_g77) lw_e77) lw_e78) lw_e79) lw_e80) lw_e81) lw_e82) lw_e83) lw_e84) lw_e85) lw_e86) lw_e87
theorem lw_g99 : ∀ j, j < 99 → lw_el j (f_byt.getD j 0) ∈ lw_fl := lw_ch (n := 98) (lw_ch (n := 97) (lw_ch (n := 96) (lw_ch (n := 95) (lw_ch (n := 94) (lw_ch (n := 93) (lw_ch (n := 92) (lw_ch (n := 91) (lw_ch (n := 90) (lw_ch (n := 89) (lw_ch (n := 88) (lw_g88) lw_e88) lw_e89) lw_e90) lw_e91) lw_e92) lw_e93) lw_e94) lw_e95) lw_e96) lw_e97) lw_e98
theorem lw_g110 : ∀ j, j < 110 → lw_el j (f_byt.getD j 0) ∈ lw_fl := lw_ch (n := 109) (lw_ch (n := 108) (lw_ch (n := 107) (lw_ch (n := 106) (lw_ch (n := 105) (lw_ch (n := 104) (lw_ch (n := 103) (lw_ch (n := 102) (lw_ch (n := 101) (lw_ch (n := 100) (lw_ch (n := 99) (lw_g99) lw_e99) lw_e100) lw_e101) lw_e102) lw_e103) lw_e104) lw_e105) lw_e106) lw_e107) lw_e108) lw_e109
theorem lw_g121 : ∀ j, j < 121 → lw_el j (f_byt.getD j 0) ∈ lw_fl := lw_ch (n := 120) (lw_ch (n := 119) (lw_ch (n := 118) (lw_ch (n := 117) (lw_ch (n := 116) (lw_ch (n := 115) (lw_ch (n := 114) (lw_ch (n := 113) (lw_ch (n := 112) (lw_ch (n := 111) (lw_ch (n := 110) (lw_g110) lw_e110) lw_e111) lw_e112) lw_e113) lw_e114) lw_e115) lw_e116) lw_e117) lw_e118) lw_e119) lw_e120
