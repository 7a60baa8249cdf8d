/-! the class: the constructors of its parts -/
theorem wA_int : Cond.arrayClass (newarray.typeOf .int) ∈ av_T := av_t1 (List.mem_of_getElem? (i := 36) rfl) rfl
theorem wA_char : Cond.arrayClass (newarray.typeOf .char) ∈ av_T := av_t1 (List.mem_of_getElem? (i := 54) rfl) rfl
theorem wI_obj : Cond.instanceMethod objectInit ∈ av_T := av_t1 (List.mem_of_getElem? (i := 20) rfl) rfl
theorem wC_obj : Cond.code objectInit ⟨#[0xb1]⟩ 1 none ∈ av_T := av_t1 (List.mem_of_getElem? (i := 21) rfl) rfl
theorem wO_X0 : Cond.methodLink RX0 5 objectInit ∈ av_T := av_t1 (List.mem_of_getElem? (i := 128) rfl) rfl
theorem wO_X1 : Cond.methodLink RX1 3 objectInit ∈ av_T := av_t1 (List.mem_of_getElem? (i := 27) rfl) rfl
theorem wO_X2 : Cond.methodLink RX2 3 objectInit ∈ av_T := av_t1 (List.mem_of_getElem? (i := 42) rfl) rfl
theorem wO_X3 : Cond.methodLink RX3 3 objectInit ∈ av_T := av_t1 (List.mem_of_getElem? (i := 60) rfl) rfl
theorem wO_X4 : Cond.methodLink RX4 1 objectInit ∈ av_T := av_t1 (List.mem_of_getElem? (i := 19) rfl) rfl
theorem wO_X5 : Cond.methodLink RX5 1 objectInit ∈ av_T := av_t3 (List.mem_of_getElem? (i := 138) rfl) rfl
def w1_X1 (cI cC : ClassId) (q : Nat) (qs : List Nat) : va_W := match qs with
  | [a1] => [(q, .inr (1, [.ref a1, .int 0])), gz a1 cI 40]
  | _ => []
set_option maxHeartbeats 4000000 in
set_option maxRecDepth 100000 in
theorem c_X1_init (l : Launch) (D : va_G) (cI cC : ClassId) (q sz : Nat) : gC l D cI cC mX1_init 1 40 q 1 [.null, .int 0] [] (w1_X1 cI cC q) (fun qs => ∃ a1, qs = [a1]) sz := by
  refine Met.ofW (cc := cX1_init) (maxL := 1) (ret := none) (by decide) rfl ?_
  intro p e s m args below meth c s₁ B hml hv
  obtain ⟨rfl, hsz, hP, hK⟩ := hv
  have hts := atoms_spec (ws := av_ws mX1_init) B.pre
  have hown : s.vm.findClass mX1_init.1.cls = some m.cls := findClass_of_methodNamed B.named
  have GB : gB mX1_init p s m _ c := ⟨B.exec, B.bytes, hml, fun w hw => hts w (List.mem_cons_of_mem _ hw), hown⟩
  have hlocks := B.notSynchronized
  have hin : meth.name = "<init>" := (name_of_methodNamed B.named B.method).1
  subst hsz
  have hD0 : va_D (fun _ => True) [(q, .inr (1, [.null, .int 0]))] := ⟨fun i j a b ha hb _ => by
    have h1 := (List.getElem?_eq_some_iff.mp ha).1
    have h2 := (List.getElem?_eq_some_iff.mp hb).1
    simp at h1 h2
    omega, fun _ _ _ => trivial⟩
  have hD := hD0.self (sz := s.heap.size)
  generalize hAe : va_A [(q, .inr (1, [.null, .int 0]))] s.heap.size = A at hD ⊢
  have hA : ∀ z : Nat, s.heap.size ≤ z → A z := fun z h => by rw [← hAe]; exact Or.inr h
  have hG : gH D A s.heap [(q, .inr (1, [.null, .int 0]))] s.heap [] := ⟨hP, hD, va_S.rf⟩
  have hl := lv_entry ([.ref q]) (n := 1) (Nat.le_of_ble_eq_true rfl)
  rw [lg_entry_eq]
  generalize (lg_sl ([.ref q]) ++ List.replicate (1 - (lg_sl ([.ref q])).length) Slot.unset).toArray = ls at hl ⊢
  have hl : lv_has ls 1 [(0, .ref q)] := hl
  have h0l : ls[0]? = some (.val (.ref q)) := lv_at hl 0 rfl
  refine lv_aload_n GB.1 GB.2.1 dX1_init_0 rfl h0l ?_
  refine W.objInit GB.1 GB.2.1 GB.2.2.2.2 (GB.2.2.2.1 _ wO_X1) (GB.2.2.2.1 _ wI_obj) (GB.2.2.2.1 _ wC_obj) rfl (by rw [hml]; exact hl.1) rfl dX1_init_1 (Nat.le_of_ble_eq_true rfl) (Nat.le_of_ble_eq_true rfl) ?_
  refine W.eq (g2 := F0 m 4 ls []) rfl ?_
  refine g_arr (b := 2) (n := 40) (k := 0) (ty := .int) (cA := cI) (na := 40) GB hin iuX1 tyX1 tyX1_ok nmX1 hK rfl (by decide) wF_X1_9 rfl rfl (fun _ => rfl) (fun _ => rfl) (by simp) wA_int rfl 0 rfl hA rfl (by decide) (by decide) (by decide) (Nat.le_of_ble_eq_true rfl) (Nat.le_of_ble_eq_true rfl) hG h0l dX1_init_4 (fun st k => lv_bipush GB.1 GB.2.1 dX1_init_5 rfl k) dX1_init_7 dX1_init_9 (fun a1 H1 l1 hG1 => ?_)
  have hG1 : gH D A _ [(q, .inr (1, [.ref a1, .int 0])), gz a1 cI 40] H1 l1 := hG1
  exact W.vret GB.1 GB.2.1 B.returns (fun t ht hW => ⟨⟨[a1], rfl, ⟨a1, rfl⟩, by rw [ht]; exact hG1.1, hG1.2.1⟩, hG1.2.2.F ht⟩) hG1.2.2.2.2 dX1_init_12
def w1_X2 (cI cC : ClassId) (q : Nat) (qs : List Nat) : va_W := match qs with
  | [a1] => [(q, .inr (2, [.ref a1, .int 0, .int 0])), gz a1 cC 200]
  | _ => []
set_option maxHeartbeats 4000000 in
set_option maxRecDepth 100000 in
theorem c_X2_init (l : Launch) (D : va_G) (cI cC : ClassId) (q sz : Nat) : gC l D cI cC mX2_init 1 200 q 2 [.null, .int 0, .int 0] [] (w1_X2 cI cC q) (fun qs => ∃ a1, qs = [a1]) sz := by
  refine Met.ofW (cc := cX2_init) (maxL := 1) (ret := none) (by decide) rfl ?_
  intro p e s m args below meth c s₁ B hml hv
  obtain ⟨rfl, hsz, hP, hK⟩ := hv
  have hts := atoms_spec (ws := av_ws mX2_init) B.pre
  have hown : s.vm.findClass mX2_init.1.cls = some m.cls := findClass_of_methodNamed B.named
  have GB : gB mX2_init p s m _ c := ⟨B.exec, B.bytes, hml, fun w hw => hts w (List.mem_cons_of_mem _ hw), hown⟩
  have hlocks := B.notSynchronized
  have hin : meth.name = "<init>" := (name_of_methodNamed B.named B.method).1
  subst hsz
  have hD0 : va_D (fun _ => True) [(q, .inr (2, [.null, .int 0, .int 0]))] := ⟨fun i j a b ha hb _ => by
    have h1 := (List.getElem?_eq_some_iff.mp ha).1
    have h2 := (List.getElem?_eq_some_iff.mp hb).1
    simp at h1 h2
    omega, fun _ _ _ => trivial⟩
  have hD := hD0.self (sz := s.heap.size)
  generalize hAe : va_A [(q, .inr (2, [.null, .int 0, .int 0]))] s.heap.size = A at hD ⊢
  have hA : ∀ z : Nat, s.heap.size ≤ z → A z := fun z h => by rw [← hAe]; exact Or.inr h
  have hG : gH D A s.heap [(q, .inr (2, [.null, .int 0, .int 0]))] s.heap [] := ⟨hP, hD, va_S.rf⟩
  have hl := lv_entry ([.ref q]) (n := 1) (Nat.le_of_ble_eq_true rfl)
  rw [lg_entry_eq]
  generalize (lg_sl ([.ref q]) ++ List.replicate (1 - (lg_sl ([.ref q])).length) Slot.unset).toArray = ls at hl ⊢
  have hl : lv_has ls 1 [(0, .ref q)] := hl
  have h0l : ls[0]? = some (.val (.ref q)) := lv_at hl 0 rfl
  refine lv_aload_n GB.1 GB.2.1 dX2_init_0 rfl h0l ?_
  refine W.objInit GB.1 GB.2.1 GB.2.2.2.2 (GB.2.2.2.1 _ wO_X2) (GB.2.2.2.1 _ wI_obj) (GB.2.2.2.1 _ wC_obj) rfl (by rw [hml]; exact hl.1) rfl dX2_init_1 (Nat.le_of_ble_eq_true rfl) (Nat.le_of_ble_eq_true rfl) ?_
  refine W.eq (g2 := F0 m 4 ls []) rfl ?_
  refine g_arr (b := 3) (n := 200) (k := 0) (ty := .char) (cA := cC) (na := 200) GB hin iuX2 tyX2 tyX2_ok nmX2 hK rfl (by decide) wF_X2_9 rfl rfl (fun _ => rfl) (fun _ => rfl) (by simp) wA_char rfl 1 rfl hA rfl (by decide) (by decide) (by decide) (Nat.le_of_ble_eq_true rfl) (Nat.le_of_ble_eq_true rfl) hG h0l dX2_init_4 (fun st k => lv_sipush GB.1 GB.2.1 dX2_init_5 rfl k) dX2_init_8 dX2_init_10 (fun a1 H1 l1 hG1 => ?_)
  have hG1 : gH D A _ [(q, .inr (2, [.ref a1, .int 0, .int 0])), gz a1 cC 200] H1 l1 := hG1
  exact W.vret GB.1 GB.2.1 B.returns (fun t ht hW => ⟨⟨[a1], rfl, ⟨a1, rfl⟩, by rw [ht]; exact hG1.1, hG1.2.1⟩, hG1.2.2.F ht⟩) hG1.2.2.2.2 dX2_init_13
def w1_X3 (cI cC : ClassId) (q : Nat) (qs : List Nat) : va_W := match qs with
  | [a1, a2, a3, a4, a5, a6, a7, a8] => [(q, .inr (3, [.ref a1, .ref a2, .ref a3, .ref a4, .ref a5, .ref a6, .ref a7, .ref a8, .int 0, .int 0, .int 0, .int 0, .int 0, .int 0, .int 0])), gz a1 cI 8, gz a2 cI 8, gz a3 cI 8, gz a4 cI 8, gz a5 cI 5, gz a6 cI 5, gz a7 cI 5, gz a8 cI 216]
  | _ => []
set_option maxHeartbeats 4000000 in
set_option maxRecDepth 100000 in
theorem c_X3_init (l : Launch) (D : va_G) (cI cC : ClassId) (q sz : Nat) : gC l D cI cC mX3_init 8 263 q 3 [.null, .null, .null, .null, .null, .null, .null, .null, .int 0, .int 0, .int 0, .int 0, .int 0, .int 0, .int 0] [] (w1_X3 cI cC q) (fun qs => ∃ a1 a2 a3 a4 a5 a6 a7 a8, qs = [a1, a2, a3, a4, a5, a6, a7, a8]) sz := by
  refine Met.ofW (cc := cX3_init) (maxL := 1) (ret := none) (by decide) rfl ?_
  intro p e s m args below meth c s₁ B hml hv
  obtain ⟨rfl, hsz, hP, hK⟩ := hv
  have hts := atoms_spec (ws := av_ws mX3_init) B.pre
  have hown : s.vm.findClass mX3_init.1.cls = some m.cls := findClass_of_methodNamed B.named
  have GB : gB mX3_init p s m _ c := ⟨B.exec, B.bytes, hml, fun w hw => hts w (List.mem_cons_of_mem _ hw), hown⟩
  have hlocks := B.notSynchronized
  have hin : meth.name = "<init>" := (name_of_methodNamed B.named B.method).1
  subst hsz
  have hD0 : va_D (fun _ => True) [(q, .inr (3, [.null, .null, .null, .null, .null, .null, .null, .null, .int 0, .int 0, .int 0, .int 0, .int 0, .int 0, .int 0]))] := ⟨fun i j a b ha hb _ => by
    have h1 := (List.getElem?_eq_some_iff.mp ha).1
    have h2 := (List.getElem?_eq_some_iff.mp hb).1
    simp at h1 h2
    omega, fun _ _ _ => trivial⟩
  have hD := hD0.self (sz := s.heap.size)
  generalize hAe : va_A [(q, .inr (3, [.null, .null, .null, .null, .null, .null, .null, .null, .int 0, .int 0, .int 0, .int 0, .int 0, .int 0, .int 0]))] s.heap.size = A at hD ⊢
  have hA : ∀ z : Nat, s.heap.size ≤ z → A z := fun z h => by rw [← hAe]; exact Or.inr h
  have hG : gH D A s.heap [(q, .inr (3, [.null, .null, .null, .null, .null, .null, .null, .null, .int 0, .int 0, .int 0, .int 0, .int 0, .int 0, .int 0]))] s.heap [] := ⟨hP, hD, va_S.rf⟩
  have hl := lv_entry ([.ref q]) (n := 1) (Nat.le_of_ble_eq_true rfl)
  rw [lg_entry_eq]
  generalize (lg_sl ([.ref q]) ++ List.replicate (1 - (lg_sl ([.ref q])).length) Slot.unset).toArray = ls at hl ⊢
  have hl : lv_has ls 1 [(0, .ref q)] := hl
  have h0l : ls[0]? = some (.val (.ref q)) := lv_at hl 0 rfl
  refine lv_aload_n GB.1 GB.2.1 dX3_init_0 rfl h0l ?_
  refine W.objInit GB.1 GB.2.1 GB.2.2.2.2 (GB.2.2.2.1 _ wO_X3) (GB.2.2.2.1 _ wI_obj) (GB.2.2.2.1 _ wC_obj) rfl (by rw [hml]; exact hl.1) rfl dX3_init_1 (Nat.le_of_ble_eq_true rfl) (Nat.le_of_ble_eq_true rfl) ?_
  refine W.eq (g2 := F0 m 4 ls []) rfl ?_
  refine g_arr (b := 2) (n := 8) (k := 0) (ty := .int) (cA := cI) (na := 8) GB hin iuX3 tyX3 tyX3_ok nmX3 hK rfl (by decide) wF_X3_9 rfl rfl (fun _ => rfl) (fun _ => rfl) (by simp) wA_int rfl 0 rfl hA rfl (by decide) (by decide) (by decide) (Nat.le_of_ble_eq_true rfl) (Nat.le_of_ble_eq_true rfl) hG h0l dX3_init_4 (fun st k => lv_bipush GB.1 GB.2.1 dX3_init_5 rfl k) dX3_init_7 dX3_init_9 (fun a1 H1 l1 hG1 => ?_)
  have hG1 : gH D A _ [(q, .inr (3, [.ref a1, .null, .null, .null, .null, .null, .null, .null, .int 0, .int 0, .int 0, .int 0, .int 0, .int 0, .int 0])), gz a1 cI 8] H1 l1 := hG1
  refine g_arr (b := 2) (n := 8) (k := 1) (ty := .int) (cA := cI) (na := 8) GB hin iuX3 tyX3 tyX3_ok nmX3 hK rfl (by decide) wF_X3_15 rfl rfl (fun _ => rfl) (fun _ => rfl) (by simp) wA_int rfl 0 rfl hA rfl (by decide) (by decide) (by decide) (Nat.le_of_ble_eq_true rfl) (Nat.le_of_ble_eq_true rfl) hG1 h0l dX3_init_12 (fun st k => lv_bipush GB.1 GB.2.1 dX3_init_13 rfl k) dX3_init_15 dX3_init_17 (fun a2 H2 l2 hG2 => ?_)
  have hG2 : gH D A _ [(q, .inr (3, [.ref a1, .ref a2, .null, .null, .null, .null, .null, .null, .int 0, .int 0, .int 0, .int 0, .int 0, .int 0, .int 0])), gz a1 cI 8, gz a2 cI 8] H2 l2 := hG2
  refine g_arr (b := 2) (n := 8) (k := 2) (ty := .int) (cA := cI) (na := 8) GB hin iuX3 tyX3 tyX3_ok nmX3 hK rfl (by decide) wF_X3_18 rfl rfl (fun _ => rfl) (fun _ => rfl) (by simp) wA_int rfl 0 rfl hA rfl (by decide) (by decide) (by decide) (Nat.le_of_ble_eq_true rfl) (Nat.le_of_ble_eq_true rfl) hG2 h0l dX3_init_20 (fun st k => lv_bipush GB.1 GB.2.1 dX3_init_21 rfl k) dX3_init_23 dX3_init_25 (fun a3 H3 l3 hG3 => ?_)
  have hG3 : gH D A _ [(q, .inr (3, [.ref a1, .ref a2, .ref a3, .null, .null, .null, .null, .null, .int 0, .int 0, .int 0, .int 0, .int 0, .int 0, .int 0])), gz a1 cI 8, gz a2 cI 8, gz a3 cI 8] H3 l3 := hG3
  refine g_arr (b := 2) (n := 8) (k := 3) (ty := .int) (cA := cI) (na := 8) GB hin iuX3 tyX3 tyX3_ok nmX3 hK rfl (by decide) wF_X3_21 rfl rfl (fun _ => rfl) (fun _ => rfl) (by simp) wA_int rfl 0 rfl hA rfl (by decide) (by decide) (by decide) (Nat.le_of_ble_eq_true rfl) (Nat.le_of_ble_eq_true rfl) hG3 h0l dX3_init_28 (fun st k => lv_bipush GB.1 GB.2.1 dX3_init_29 rfl k) dX3_init_31 dX3_init_33 (fun a4 H4 l4 hG4 => ?_)
  have hG4 : gH D A _ [(q, .inr (3, [.ref a1, .ref a2, .ref a3, .ref a4, .null, .null, .null, .null, .int 0, .int 0, .int 0, .int 0, .int 0, .int 0, .int 0])), gz a1 cI 8, gz a2 cI 8, gz a3 cI 8, gz a4 cI 8] H4 l4 := hG4
  refine g_arr (b := 1) (n := 5) (k := 4) (ty := .int) (cA := cI) (na := 5) GB hin iuX3 tyX3 tyX3_ok nmX3 hK rfl (by decide) wF_X3_24 rfl rfl (fun _ => rfl) (fun _ => rfl) (by simp) wA_int rfl 0 rfl hA rfl (by decide) (by decide) (by decide) (Nat.le_of_ble_eq_true rfl) (Nat.le_of_ble_eq_true rfl) hG4 h0l dX3_init_36 (fun st k => lv_iconst GB.1 GB.2.1 dX3_init_37 rfl k) dX3_init_38 dX3_init_40 (fun a5 H5 l5 hG5 => ?_)
  have hG5 : gH D A _ [(q, .inr (3, [.ref a1, .ref a2, .ref a3, .ref a4, .ref a5, .null, .null, .null, .int 0, .int 0, .int 0, .int 0, .int 0, .int 0, .int 0])), gz a1 cI 8, gz a2 cI 8, gz a3 cI 8, gz a4 cI 8, gz a5 cI 5] H5 l5 := hG5
  refine g_arr (b := 1) (n := 5) (k := 5) (ty := .int) (cA := cI) (na := 5) GB hin iuX3 tyX3 tyX3_ok nmX3 hK rfl (by decide) wF_X3_27 rfl rfl (fun _ => rfl) (fun _ => rfl) (by simp) wA_int rfl 0 rfl hA rfl (by decide) (by decide) (by decide) (Nat.le_of_ble_eq_true rfl) (Nat.le_of_ble_eq_true rfl) hG5 h0l dX3_init_43 (fun st k => lv_iconst GB.1 GB.2.1 dX3_init_44 rfl k) dX3_init_45 dX3_init_47 (fun a6 H6 l6 hG6 => ?_)
  have hG6 : gH D A _ [(q, .inr (3, [.ref a1, .ref a2, .ref a3, .ref a4, .ref a5, .ref a6, .null, .null, .int 0, .int 0, .int 0, .int 0, .int 0, .int 0, .int 0])), gz a1 cI 8, gz a2 cI 8, gz a3 cI 8, gz a4 cI 8, gz a5 cI 5, gz a6 cI 5] H6 l6 := hG6
  refine g_arr (b := 1) (n := 5) (k := 6) (ty := .int) (cA := cI) (na := 5) GB hin iuX3 tyX3 tyX3_ok nmX3 hK rfl (by decide) wF_X3_30 rfl rfl (fun _ => rfl) (fun _ => rfl) (by simp) wA_int rfl 0 rfl hA rfl (by decide) (by decide) (by decide) (Nat.le_of_ble_eq_true rfl) (Nat.le_of_ble_eq_true rfl) hG6 h0l dX3_init_50 (fun st k => lv_iconst GB.1 GB.2.1 dX3_init_51 rfl k) dX3_init_52 dX3_init_54 (fun a7 H7 l7 hG7 => ?_)
  have hG7 : gH D A _ [(q, .inr (3, [.ref a1, .ref a2, .ref a3, .ref a4, .ref a5, .ref a6, .ref a7, .null, .int 0, .int 0, .int 0, .int 0, .int 0, .int 0, .int 0])), gz a1 cI 8, gz a2 cI 8, gz a3 cI 8, gz a4 cI 8, gz a5 cI 5, gz a6 cI 5, gz a7 cI 5] H7 l7 := hG7
  refine g_arr (b := 3) (n := 216) (k := 7) (ty := .int) (cA := cI) (na := 216) GB hin iuX3 tyX3 tyX3_ok nmX3 hK rfl (by decide) wF_X3_33 rfl rfl (fun _ => rfl) (fun _ => rfl) (by simp) wA_int rfl 0 rfl hA rfl (by decide) (by decide) (by decide) (Nat.le_of_ble_eq_true rfl) (Nat.le_of_ble_eq_true rfl) hG7 h0l dX3_init_57 (fun st k => lv_sipush GB.1 GB.2.1 dX3_init_58 rfl k) dX3_init_61 dX3_init_63 (fun a8 H8 l8 hG8 => ?_)
  have hG8 : gH D A _ [(q, .inr (3, [.ref a1, .ref a2, .ref a3, .ref a4, .ref a5, .ref a6, .ref a7, .ref a8, .int 0, .int 0, .int 0, .int 0, .int 0, .int 0, .int 0])), gz a1 cI 8, gz a2 cI 8, gz a3 cI 8, gz a4 cI 8, gz a5 cI 5, gz a6 cI 5, gz a7 cI 5, gz a8 cI 216] H8 l8 := hG8
  exact W.vret GB.1 GB.2.1 B.returns (fun t ht hW => ⟨⟨[a1, a2, a3, a4, a5, a6, a7, a8], rfl, ⟨a1, a2, a3, a4, a5, a6, a7, a8, rfl⟩, by rw [ht]; exact hG8.1, hG8.2.1⟩, hG8.2.2.F ht⟩) hG8.2.2.2.2 dX3_init_66
def w1_X0 (cI cC : ClassId) (q : Nat) (wl : Nat) (qs : List Nat) : va_W := match qs with
  | [a1, a2, a3, a4, a5] => [(q, .inr (0, [.ref wl, .ref a1, .ref a2, .ref a3, .ref a4, .int 0, .int 0, .int 0, .ref a5, .int 0, .int 0, .int 0])), gz a1 cI 9, gz a2 cI 27, gz a3 cI 30, gz a4 cI 30, gz a5 cI 9]
  | _ => []
set_option maxHeartbeats 4000000 in
set_option maxRecDepth 100000 in
theorem c_X0_init (l : Launch) (D : va_G) (cI cC : ClassId) (q wl sz : Nat) : gC l D cI cC mX0_init 5 105 q 0 [.null, .null, .null, .null, .null, .int 0, .int 0, .int 0, .null, .int 0, .int 0, .int 0] [.ref wl] (w1_X0 cI cC q wl) (fun qs => ∃ a1 a2 a3 a4 a5, qs = [a1, a2, a3, a4, a5]) sz := by
  refine Met.ofW (cc := cX0_init) (maxL := 2) (ret := none) (by decide) rfl ?_
  intro p e s m args below meth c s₁ B hml hv
  obtain ⟨rfl, hsz, hP, hK⟩ := hv
  have hts := atoms_spec (ws := av_ws mX0_init) B.pre
  have hown : s.vm.findClass mX0_init.1.cls = some m.cls := findClass_of_methodNamed B.named
  have GB : gB mX0_init p s m _ c := ⟨B.exec, B.bytes, hml, fun w hw => hts w (List.mem_cons_of_mem _ hw), hown⟩
  have hlocks := B.notSynchronized
  have hin : meth.name = "<init>" := (name_of_methodNamed B.named B.method).1
  subst hsz
  have hD0 : va_D (fun _ => True) [(q, .inr (0, [.null, .null, .null, .null, .null, .int 0, .int 0, .int 0, .null, .int 0, .int 0, .int 0]))] := ⟨fun i j a b ha hb _ => by
    have h1 := (List.getElem?_eq_some_iff.mp ha).1
    have h2 := (List.getElem?_eq_some_iff.mp hb).1
    simp at h1 h2
    omega, fun _ _ _ => trivial⟩
  have hD := hD0.self (sz := s.heap.size)
  generalize hAe : va_A [(q, .inr (0, [.null, .null, .null, .null, .null, .int 0, .int 0, .int 0, .null, .int 0, .int 0, .int 0]))] s.heap.size = A at hD ⊢
  have hA : ∀ z : Nat, s.heap.size ≤ z → A z := fun z h => by rw [← hAe]; exact Or.inr h
  have hG : gH D A s.heap [(q, .inr (0, [.null, .null, .null, .null, .null, .int 0, .int 0, .int 0, .null, .int 0, .int 0, .int 0]))] s.heap [] := ⟨hP, hD, va_S.rf⟩
  have hl := lv_entry ([.ref q, .ref wl]) (n := 2) (Nat.le_of_ble_eq_true rfl)
  rw [lg_entry_eq]
  generalize (lg_sl ([.ref q, .ref wl]) ++ List.replicate (2 - (lg_sl ([.ref q, .ref wl])).length) Slot.unset).toArray = ls at hl ⊢
  have hl : lv_has ls 2 [(0, .ref q), (1, .ref wl)] := hl
  have h0l : ls[0]? = some (.val (.ref q)) := lv_at hl 0 rfl
  have h1l : ls[1]? = some (.val (.ref wl)) := lv_at hl 1 rfl
  refine lv_aload_n GB.1 GB.2.1 dX0_init_0 rfl h0l ?_
  refine W.objInit GB.1 GB.2.1 GB.2.2.2.2 (GB.2.2.2.1 _ wO_X0) (GB.2.2.2.1 _ wI_obj) (GB.2.2.2.1 _ wC_obj) rfl (by rw [hml]; exact hl.1) rfl dX0_init_1 (Nat.le_of_ble_eq_true rfl) (Nat.le_of_ble_eq_true rfl) ?_
  refine W.eq (g2 := F0 m 4 ls []) rfl ?_
  refine g_arr (b := 2) (n := 9) (k := 1) (ty := .int) (cA := cI) (na := 9) GB hin iuX0 tyX0 tyX0_ok nmX0 hK rfl (by decide) wF_X0_11 rfl rfl (fun _ => rfl) (fun _ => rfl) (by simp) wA_int rfl 0 rfl hA rfl (by decide) (by decide) (by decide) (Nat.le_of_ble_eq_true rfl) (Nat.le_of_ble_eq_true rfl) hG h0l dX0_init_4 (fun st k => lv_bipush GB.1 GB.2.1 dX0_init_5 rfl k) dX0_init_7 dX0_init_9 (fun a1 H1 l1 hG1 => ?_)
  have hG1 : gH D A _ [(q, .inr (0, [.null, .ref a1, .null, .null, .null, .int 0, .int 0, .int 0, .null, .int 0, .int 0, .int 0])), gz a1 cI 9] H1 l1 := hG1
  refine g_arr (b := 2) (n := 27) (k := 2) (ty := .int) (cA := cI) (na := 27) GB hin iuX0 tyX0 tyX0_ok nmX0 hK rfl (by decide) wF_X0_15 rfl rfl (fun _ => rfl) (fun _ => rfl) (by simp) wA_int rfl 0 rfl hA rfl (by decide) (by decide) (by decide) (Nat.le_of_ble_eq_true rfl) (Nat.le_of_ble_eq_true rfl) hG1 h0l dX0_init_12 (fun st k => lv_bipush GB.1 GB.2.1 dX0_init_13 rfl k) dX0_init_15 dX0_init_17 (fun a2 H2 l2 hG2 => ?_)
  have hG2 : gH D A _ [(q, .inr (0, [.null, .ref a1, .ref a2, .null, .null, .int 0, .int 0, .int 0, .null, .int 0, .int 0, .int 0])), gz a1 cI 9, gz a2 cI 27] H2 l2 := hG2
  refine g_arr (b := 2) (n := 30) (k := 3) (ty := .int) (cA := cI) (na := 30) GB hin iuX0 tyX0 tyX0_ok nmX0 hK rfl (by decide) wF_X0_18 rfl rfl (fun _ => rfl) (fun _ => rfl) (by simp) wA_int rfl 0 rfl hA rfl (by decide) (by decide) (by decide) (Nat.le_of_ble_eq_true rfl) (Nat.le_of_ble_eq_true rfl) hG2 h0l dX0_init_20 (fun st k => lv_bipush GB.1 GB.2.1 dX0_init_21 rfl k) dX0_init_23 dX0_init_25 (fun a3 H3 l3 hG3 => ?_)
  have hG3 : gH D A _ [(q, .inr (0, [.null, .ref a1, .ref a2, .ref a3, .null, .int 0, .int 0, .int 0, .null, .int 0, .int 0, .int 0])), gz a1 cI 9, gz a2 cI 27, gz a3 cI 30] H3 l3 := hG3
  refine g_arr (b := 2) (n := 30) (k := 4) (ty := .int) (cA := cI) (na := 30) GB hin iuX0 tyX0 tyX0_ok nmX0 hK rfl (by decide) wF_X0_21 rfl rfl (fun _ => rfl) (fun _ => rfl) (by simp) wA_int rfl 0 rfl hA rfl (by decide) (by decide) (by decide) (Nat.le_of_ble_eq_true rfl) (Nat.le_of_ble_eq_true rfl) hG3 h0l dX0_init_28 (fun st k => lv_bipush GB.1 GB.2.1 dX0_init_29 rfl k) dX0_init_31 dX0_init_33 (fun a4 H4 l4 hG4 => ?_)
  have hG4 : gH D A _ [(q, .inr (0, [.null, .ref a1, .ref a2, .ref a3, .ref a4, .int 0, .int 0, .int 0, .null, .int 0, .int 0, .int 0])), gz a1 cI 9, gz a2 cI 27, gz a3 cI 30, gz a4 cI 30] H4 l4 := hG4
  refine g_arr (b := 2) (n := 9) (k := 8) (ty := .int) (cA := cI) (na := 9) GB hin iuX0 tyX0 tyX0_ok nmX0 hK rfl (by decide) wF_X0_24 rfl rfl (fun _ => rfl) (fun _ => rfl) (by simp) wA_int rfl 0 rfl hA rfl (by decide) (by decide) (by decide) (Nat.le_of_ble_eq_true rfl) (Nat.le_of_ble_eq_true rfl) hG4 h0l dX0_init_36 (fun st k => lv_bipush GB.1 GB.2.1 dX0_init_37 rfl k) dX0_init_39 dX0_init_41 (fun a5 H5 l5 hG5 => ?_)
  have hG5 : gH D A _ [(q, .inr (0, [.null, .ref a1, .ref a2, .ref a3, .ref a4, .int 0, .int 0, .int 0, .ref a5, .int 0, .int 0, .int 0])), gz a1 cI 9, gz a2 cI 27, gz a3 cI 30, gz a4 cI 30, gz a5 cI 9] H5 l5 := hG5
  refine lv_aload_n GB.1 GB.2.1 dX0_init_44 rfl h0l ?_
  refine lv_aload_n GB.1 GB.2.1 dX0_init_45 rfl h1l ?_
  refine g_putF (k := 0) GB hin iuX0 tyX0 tyX0_ok nmX0 hK rfl (by decide) wF_X0_27 rfl rfl rfl rfl (by simp) hG5 dX0_init_46 (fun H9 l9 hG9 => ?_)
  have hG9 : gH D A _ [(q, .inr (0, [.ref wl, .ref a1, .ref a2, .ref a3, .ref a4, .int 0, .int 0, .int 0, .ref a5, .int 0, .int 0, .int 0])), gz a1 cI 9, gz a2 cI 27, gz a3 cI 30, gz a4 cI 30, gz a5 cI 9] H9 l9 := hG9
  exact W.vret GB.1 GB.2.1 B.returns (fun t ht hW => ⟨⟨[a1, a2, a3, a4, a5], rfl, ⟨a1, a2, a3, a4, a5, rfl⟩, by rw [ht]; exact hG9.1, hG9.2.1⟩, hG9.2.2.F ht⟩) hG9.2.2.2.2 dX0_init_49
