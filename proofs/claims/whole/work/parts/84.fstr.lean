/-! the first text is a string: its length and its letters -/
theorem wN_J1 : Cond.initialized RJ1 ∈ av_T := av_t1 (List.mem_of_getElem? (i := 7) rfl) rfl
theorem wN_J3 : Cond.initialized RJ3 ∈ av_T := av_t1 (List.mem_of_getElem? (i := 8) rfl) rfl
abbrev mf_co : av_Y := (yJ0_coder_7d493, cJ0_coder_7d493, 1, some .byte, 0, 0)
theorem mbf_co : av_mb mf_co 0 := ⟨by decide, by decide, by decide +kernel, wN_J0, av_t1 (List.mem_of_getElem? (i := 178) rfl) rfl⟩
abbrev mf_le : av_Y := (yJ0_length_8abf5, cJ0_length_8abf5, 1, some .int, 1, 20)
theorem mbf_le : av_mb mf_le 0 := ⟨by decide, by decide, by decide +kernel, wN_J0, av_t1 (List.mem_of_getElem? (i := 174) rfl) rfl⟩
abbrev mf_la : av_Y := (yJ0_isLatin1_aae02, cJ0_isLatin1_aae02, 1, some .boolean, 0, 0)
theorem mbf_la : av_mb mf_la 0 := ⟨by decide, by decide, by decide +kernel, wN_J0, av_t1 (List.mem_of_getElem? (i := 188) rfl) rfl⟩
abbrev mf_ch : av_Y := (yJ0_charAt_5068e, cJ0_charAt_5068e, 2, some .char, 3, 64)
theorem mbf_ch : av_mb mf_ch 1 := ⟨by decide, by decide, by decide +kernel, wN_J0, av_t1 (List.mem_of_getElem? (i := 184) rfl) rfl⟩
abbrev mf_c1 : av_Y := (yJ1_charAt_3b067, cJ1_charAt_3b067, 2, some .char, 2, 43)
theorem mbf_c1 : av_mb mf_c1 2 := ⟨by decide, by decide, by decide +kernel, wN_J1, av_t1 (List.mem_of_getElem? (i := 191) rfl) rfl⟩
abbrev mf_ck : av_Y := (yJ0_checkIndex_df160, cJ0_checkIndex_df160, 2, none, 1, 22)
theorem mbf_ck : av_mb mf_ck 2 := ⟨by decide, by decide, by decide +kernel, wN_J0, av_t1 (List.mem_of_getElem? (i := 194) rfl) rfl⟩
abbrev mf_cp : av_Y := (yJ3_checkIndex_8e157, cJ3_checkIndex_8e157, 3, some .int, 0, 0)
theorem mbf_cp : av_mb mf_cp 3 := ⟨by decide, by decide, by decide +kernel, wN_J3, av_t1 (List.mem_of_getElem? (i := 199) rfl) rfl⟩
theorem wIf_co : Cond.instanceMethod mf_co.1 ∈ av_T := av_t1 (List.mem_of_getElem? (i := 176) rfl) rfl
theorem wSf_co : Cond.selects RJ0 mf_co.1 mf_co.1 ∈ av_T := av_t1 (List.mem_of_getElem? (i := 177) rfl) rfl
theorem wIf_le : Cond.instanceMethod mf_le.1 ∈ av_T := av_t1 (List.mem_of_getElem? (i := 172) rfl) rfl
theorem wSf_le : Cond.selects RJ0 mf_le.1 mf_le.1 ∈ av_T := av_t1 (List.mem_of_getElem? (i := 173) rfl) rfl
theorem wIf_la : Cond.instanceMethod mf_la.1 ∈ av_T := av_t1 (List.mem_of_getElem? (i := 186) rfl) rfl
theorem wSf_la : Cond.selects RJ0 mf_la.1 mf_la.1 ∈ av_T := av_t1 (List.mem_of_getElem? (i := 187) rfl) rfl
theorem wIf_ch : Cond.instanceMethod mf_ch.1 ∈ av_T := av_t1 (List.mem_of_getElem? (i := 182) rfl) rfl
theorem wSf_ch : Cond.selects RJ0 mf_ch.1 mf_ch.1 ∈ av_T := av_t1 (List.mem_of_getElem? (i := 183) rfl) rfl
theorem wTf_c1 : Cond.static mf_c1.1 ∈ av_T := av_t1 (List.mem_of_getElem? (i := 190) rfl) rfl
theorem wTf_ck : Cond.static mf_ck.1 ∈ av_T := av_t1 (List.mem_of_getElem? (i := 193) rfl) rfl
theorem wTf_cp : Cond.static mf_cp.1 ∈ av_T := av_t1 (List.mem_of_getElem? (i := 198) rfl) rfl
theorem wMf_le4 : Cond.methodLink RX4 60 mf_le.1 ∈ av_T := av_t1 (List.mem_of_getElem? (i := 171) rfl) rfl
theorem wMf_ch4 : Cond.methodLink RX4 66 mf_ch.1 ∈ av_T := av_t1 (List.mem_of_getElem? (i := 181) rfl) rfl
theorem wMf_co0 : Cond.methodLink RJ0 335 mf_co.1 ∈ av_T := av_t1 (List.mem_of_getElem? (i := 175) rfl) rfl
theorem wMf_la0 : Cond.methodLink RJ0 492 mf_la.1 ∈ av_T := av_t1 (List.mem_of_getElem? (i := 185) rfl) rfl
theorem wMf_c10 : Cond.methodLink RJ0 495 mf_c1.1 ∈ av_T := av_t1 (List.mem_of_getElem? (i := 189) rfl) rfl
theorem wMf_ck1 : Cond.methodLink RJ1 9 mf_ck.1 ∈ av_T := av_t1 (List.mem_of_getElem? (i := 192) rfl) rfl
theorem wMf_cp0 : Cond.methodLink RJ0 1059 mf_cp.1 ∈ av_T := av_t1 (List.mem_of_getElem? (i := 197) rfl) rfl
theorem wFf_cs : Cond.fieldLink RJ0 38 "java/lang/String" "COMPACT_STRINGS" "Z" ∈ av_T := av_t1 (List.mem_of_getElem? (i := 179) rfl) rfl
theorem wFf_fm : Cond.fieldLink RJ0 1053 "jdk/internal/util/Preconditions" "SIOOBE_FORMATTER" "Ljava/util/function/BiFunction;" ∈ av_T := av_t1 (List.mem_of_getElem? (i := 195) rfl) rfl
theorem wFf_va : Cond.fieldLink RJ0 9 "java/lang/String" "value" "[B" ∈ av_T := av_t5 (List.mem_of_getElem? (i := 59) rfl) rfl
theorem wFf_cd : Cond.fieldLink RJ0 15 "java/lang/String" "coder" "B" ∈ av_T := av_t5 (List.mem_of_getElem? (i := 60) rfl) rfl
def f_byt : List Int32 := f_cs.map nI
def fP (aK aV : Nat → Nat) (A : Nat → Prop) (U : State) (H : Heap) : Prop := vk_S 1 [121] [f_byt] aK aV A U H ∧ va_Z "java/lang/String" "COMPACT_STRINGS" "Z" (.int 1) A U H ∧ va_Zq "jdk/internal/util/Preconditions" "SIOOBE_FORMATTER" "Ljava/util/function/BiFunction;" A U H
theorem fP.kept {aK aV : Nat → Nat} {A : Nat → Prop} {U : State} {H H1 : Heap} (h : fP aK aV A U H) (hq : ∀ a : Nat, a < H.size → ¬ A a → H1[a]? = H[a]?) : fP aK aV A U H1 := ⟨h.1.kept hq, h.2.1.kept hq, h.2.2.kept hq⟩
theorem fP.moved {aK aV : Nat → Nat} {A : Nat → Prop} {u U : State} {H : Heap} (hvm : u.vm.Alike U.vm) (h : fP aK aV A u H) : fP aK aV A U H := ⟨h.1.moved hvm, h.2.1.moved hvm, h.2.2.moved hvm⟩
theorem fP.narrow {aK aV : Nat → Nat} {A B : Nat → Prop} {U : State} {H : Heap} (h : fP aK aV A U H) (hAB : ∀ q, B q → A q) : fP aK aV B U H := ⟨h.1.narrow hAB, by
  obtain ⟨cf, kf, fi, f, a, cell, h1, h2, h3, h4, h5, h6, h7, h8⟩ := h.2.1
  exact ⟨cf, kf, fi, f, a, cell, h1, h2, h3, h4, h5, h6, h7, fun q => h8 (hAB a q)⟩, h.2.2.narrow hAB⟩
abbrev nA : Nat → Prop := fun _ => False
/-- a call of one of the string's methods: its answer is r, and nothing is written -/
def fI (l : Launch) (aK aV : Nat → Nat) (M : av_Y) (as : List Value) (r : Int32) : Prop := Met l M.1 (av_ws M) (av_rm M) (va_Pc as (fun U => fP aK aV nA U U.heap)) (va_Qi (S := Unit) (fun x _ => x = r) (fun _ _ => True) nA) 0 0 nA
def fV (l : Launch) (aK aV : Nat → Nat) (M : av_Y) (as : List Value) : Prop := Met l M.1 (av_ws M) (av_rm M) (va_Pc as (fun U => fP aK aV nA U U.heap)) (va_Qv (S := Unit) (fun _ => True) (fun _ _ => True) nA) 0 0 nA
theorem f_blind {aK aV : Nat → Nat} {as : List Value} : FrameBlind (va_Pc as (fun U => fP aK aV nA U U.heap)) := fun _ U g mk h => ⟨h.1, fP.moved (u := U) (U := U.calling g mk _) (Vm.Alike.refl U.vm) h.2⟩
section FC
variable {p : Program} {l : Launch} {e : Env} {R : Room} {s : State} {m : MethodId} {args : Array Value} {below : List Frame} {meth : Method} {c : Code} {H : Heap} {locs : List Loc} {cells slots : Nat} {Q : State → Prop}
variable {M : av_Y} {pc : Nat} {ls : Array Slot} {rest : List Value} {A : Nat → Prop} {H0 : Heap} {aK aV : Nat → Nat}
theorem f_callS {M' : av_Y} {idx n : Nat} {as : List Value} {r : Int32} (B : gB M p s m args c) (hM : fI l aK aV M' as r) (hF : fP aK aV nA s H) (hb : av_mb M' n) (hn : as.length = n) (hst : Cond.static M'.1 ∈ av_T) (hl : Cond.methodLink M.1.cls idx M'.1 ∈ av_T) (hRm : M'.2.2.2.2.1 + 1 ≤ R.frames ∧ 8 + (M'.2.2.1 + 11) + M'.2.2.2.2.2 ≤ R.locals) (hroom : (rest.map fun v => v.category).sum ≤ 8) (hls : ls.size = M.2.2.1) (hcs : cells ≤ R.cells ∧ slots ≤ R.slots) (hS : va_S A H0 H locs) (hd : decode M.2.1 pc = .ok (.invokestatic idx, 3))
    (kk : ∀ (H1 : Heap) (locs1 : List Loc), (∀ z, z < H.size → H1[z]? = H[z]?) → H.size ≤ H1.size → va_S A H0 H1 locs1 → W p l e R s m args below meth c H1 locs1 cells slots Q (F0 m (pc + 3) ls (.int r :: rest))) : W p l e R s m args below meth c H locs cells slots Q (F0 m pc ls (as.reverse ++ rest)) := by
  refine va_calli (va_runS (nL := M.2.2.1) (own := M.1.cls) (Ts := av_T) ⟨B.1, B.2.1, B.2.2.1, B.2.2.2.2, B.2.2.2.1⟩ hM ⟨callB_of n B.2.2.2.1 (av_goodM hb) rfl rfl rfl (B.2.2.2.1 _ hb.2.2.2.1) (B.2.2.2.1 _ hl) ⟨hb.1, hb.2.1, hb.2.2.1⟩ hRm, B.2.2.2.1 _ hst⟩ ⟨f_blind, fun U hU hW => ⟨rfl, by show fP aK aV nA U U.heap; rw [hU]; exact hF.moved hW.alike⟩⟩ rfl hn hls rfl (by show 2 * 0 + _ ≤ 8; omega) hd ⟨hcs.1, hcs.2⟩) hS (fun _ _ h => h.elim) (fun _ h => h.elim) (fun x u t H1 locs1 ht hvm hp hB hz hk hS1 => ?_)
  subst hp
  exact kk H1 locs1 (fun z hz => hk z hz (fun h => h)) hz hS1
theorem f_callSv {M' : av_Y} {idx n : Nat} {as : List Value} (B : gB M p s m args c) (hM : fV l aK aV M' as) (hF : fP aK aV nA s H) (hb : av_mb M' n) (hn : as.length = n) (hst : Cond.static M'.1 ∈ av_T) (hl : Cond.methodLink M.1.cls idx M'.1 ∈ av_T) (hRm : M'.2.2.2.2.1 + 1 ≤ R.frames ∧ 8 + (M'.2.2.1 + 11) + M'.2.2.2.2.2 ≤ R.locals) (hroom : (rest.map fun v => v.category).sum ≤ 8) (hls : ls.size = M.2.2.1) (hcs : cells ≤ R.cells ∧ slots ≤ R.slots) (hS : va_S A H0 H locs) (hd : decode M.2.1 pc = .ok (.invokestatic idx, 3))
    (kk : ∀ (H1 : Heap) (locs1 : List Loc), (∀ z, z < H.size → H1[z]? = H[z]?) → H.size ≤ H1.size → va_S A H0 H1 locs1 → W p l e R s m args below meth c H1 locs1 cells slots Q (F0 m (pc + 3) ls rest)) : W p l e R s m args below meth c H locs cells slots Q (F0 m pc ls (as.reverse ++ rest)) := by
  refine va_callv (va_runS (nL := M.2.2.1) (own := M.1.cls) (Ts := av_T) ⟨B.1, B.2.1, B.2.2.1, B.2.2.2.2, B.2.2.2.1⟩ hM ⟨callB_of n B.2.2.2.1 (av_goodM hb) rfl rfl rfl (B.2.2.2.1 _ hb.2.2.2.1) (B.2.2.2.1 _ hl) ⟨hb.1, hb.2.1, hb.2.2.1⟩ hRm, B.2.2.2.1 _ hst⟩ ⟨f_blind, fun U hU hW => ⟨rfl, by show fP aK aV nA U U.heap; rw [hU]; exact hF.moved hW.alike⟩⟩ rfl hn hls rfl (by show 2 * 0 + _ ≤ 8; omega) hd ⟨hcs.1, hcs.2⟩) hS (fun _ _ h => h.elim) (fun _ h => h.elim) (fun u t H1 locs1 ht hvm hp hB hz hk hS1 => ?_)
  exact kk H1 locs1 (fun z hz => hk z hz (fun h => h)) hz hS1
theorem f_callV {M' : av_Y} {idx n : Nat} {as : List Value} {r : Int32} (B : gB M p s m args c) (hM : fI l aK aV M' (.ref (aK 0) :: as) r) (hF : fP aK aV nA s H) (hb : av_mb M' n) (hn : as.length = n) (hin : Cond.instanceMethod M'.1 ∈ av_T) (hse : Cond.selects RJ0 M'.1 M'.1 ∈ av_T) (hl : Cond.methodLink M.1.cls idx M'.1 ∈ av_T) (hRm : M'.2.2.2.2.1 + 1 ≤ R.frames ∧ 8 + (M'.2.2.1 + 11) + M'.2.2.2.2.2 ≤ R.locals) (hroom : (rest.map fun v => v.category).sum ≤ 8) (hls : ls.size = M.2.2.1) (hcs : cells ≤ R.cells ∧ slots ≤ R.slots) (hS : va_S A H0 H locs) (hd : decode M.2.1 pc = .ok (.invokevirtual idx, 3))
    (kk : ∀ (H1 : Heap) (locs1 : List Loc), (∀ z, z < H.size → H1[z]? = H[z]?) → H.size ≤ H1.size → va_S A H0 H1 locs1 → W p l e R s m args below meth c H1 locs1 cells slots Q (F0 m (pc + 3) ls (.int r :: rest))) : W p l e R s m args below meth c H locs cells slots Q (F0 m pc ls (as.reverse ++ .ref (aK 0) :: rest)) := by
  obtain ⟨cell, k1, k2, k3, -⟩ := (hF.1.1 0 (by decide)).1
  refine va_calli (va_runV (C := RJ0) (b := aK 0) (As := as) (nL := M.2.2.1) (own := M.1.cls) (Ts := av_T) ⟨B.1, B.2.1, B.2.2.1, B.2.2.2.2, B.2.2.2.1⟩ hM ⟨callB_of n B.2.2.2.1 (av_goodM hb) rfl rfl rfl (B.2.2.2.1 _ hb.2.2.2.1) (B.2.2.2.1 _ hl) ⟨hb.1, hb.2.1, hb.2.2.1⟩ hRm, B.2.2.2.1 _ hin, B.2.2.2.1 _ hse⟩ ⟨f_blind, ⟨cell, k1, k2, k3⟩, fun U hU hW => ⟨rfl, by show fP aK aV nA U U.heap; rw [hU]; exact hF.moved hW.alike⟩⟩ rfl hn hls rfl (by show 2 * 0 + _ ≤ 8; omega) hd ⟨hcs.1, hcs.2⟩) hS (fun _ _ h => h.elim) (fun _ h => h.elim) (fun x u t H1 locs1 ht hvm hp hB hz hk hS1 => ?_)
  subst hp
  exact kk H1 locs1 (fun z hz => hk z hz (fun h => h)) hz hS1
end FC
theorem c_coder (l : Launch) (aK aV : Nat → Nat) : fI l aK aV mf_co [.ref (aK 0)] 0 := by
  refine Met.ofW (cc := cJ0_coder_7d493) (maxL := 1) (ret := some .byte) (by decide) rfl ?_
  intro p e s m args below meth c s₁ B hml hv
  obtain ⟨rfl, hF⟩ := hv
  have hts := atoms_spec (ws := av_ws mf_co) B.pre
  have hown : s.vm.findClass mf_co.1.cls = some m.cls := findClass_of_methodNamed B.named
  have GB : gB mf_co p s m _ c := ⟨B.exec, B.bytes, hml, fun w hw => hts w (List.mem_cons_of_mem _ hw), hown⟩
  have hx := B.exec
  have hb := B.bytes
  have ht := GB.2.2.2.1
  have hlocks := B.notSynchronized
  have hS : va_S nA s.heap s.heap [] := va_S.rf
  have hl := lv_entry ([.ref (aK 0)]) (n := 1) (Nat.le_of_ble_eq_true rfl)
  rw [lg_entry_eq]
  generalize (lg_sl ([.ref (aK 0)]) ++ List.replicate (1 - (lg_sl ([.ref (aK 0)])).length) Slot.unset).toArray = ls at hl ⊢
  have hl : lv_has ls 1 [(0, .ref (aK 0))] := hl
  refine va_gets (ref := "java/lang/String") hx hb hF.2.1 hS hown (ht _ wFf_cs) (fun _ h9 => h9) dJ0_coder_7d493_0 ?_
  refine lv_if_eq (tgt := 13) hx hb dJ0_coder_7d493_3 (by decide) (fun q => absurd q (by decide)) (fun _ => ?_)
  refine lv_aload_n hx hb dJ0_coder_7d493_6 rfl (lv_at hl 0 rfl) ?_
  refine vk_getf (ref := "java/lang/String") hx hb (hF.1.1 0 (by decide)).2.1 hS hown (ht _ wFf_cd) (fun _ h9 => h9) dJ0_coder_7d493_7 ?_
  refine lv_goto (tgt := 14) hx hb dJ0_coder_7d493_10 (by decide) ?_
  exact W.zret (v := 0) hx hb B.returns (by first | rfl | decide) (fun t ht hW => ⟨⟨0, (), rfl, rfl, trivial⟩, hS.F ht⟩) hS.2.2 dJ0_coder_7d493_14
theorem c_isLatin1 (l : Launch) (aK aV : Nat → Nat) : fI l aK aV mf_la [.ref (aK 0)] 1 := by
  refine Met.ofW (cc := cJ0_isLatin1_aae02) (maxL := 1) (ret := some .boolean) (by decide) rfl ?_
  intro p e s m args below meth c s₁ B hml hv
  obtain ⟨rfl, hF⟩ := hv
  have hts := atoms_spec (ws := av_ws mf_la) B.pre
  have hown : s.vm.findClass mf_la.1.cls = some m.cls := findClass_of_methodNamed B.named
  have GB : gB mf_la p s m _ c := ⟨B.exec, B.bytes, hml, fun w hw => hts w (List.mem_cons_of_mem _ hw), hown⟩
  have hx := B.exec
  have hb := B.bytes
  have ht := GB.2.2.2.1
  have hlocks := B.notSynchronized
  have hS : va_S nA s.heap s.heap [] := va_S.rf
  have hl := lv_entry ([.ref (aK 0)]) (n := 1) (Nat.le_of_ble_eq_true rfl)
  rw [lg_entry_eq]
  generalize (lg_sl ([.ref (aK 0)]) ++ List.replicate (1 - (lg_sl ([.ref (aK 0)])).length) Slot.unset).toArray = ls at hl ⊢
  have hl : lv_has ls 1 [(0, .ref (aK 0))] := hl
  refine va_gets (ref := "java/lang/String") hx hb hF.2.1 hS hown (ht _ wFf_cs) (fun _ h9 => h9) dJ0_isLatin1_aae02_0 ?_
  refine lv_if_eq (tgt := 17) hx hb dJ0_isLatin1_aae02_3 (by decide) (fun q => absurd q (by decide)) (fun _ => ?_)
  refine lv_aload_n hx hb dJ0_isLatin1_aae02_6 rfl (lv_at hl 0 rfl) ?_
  refine vk_getf (ref := "java/lang/String") hx hb (hF.1.1 0 (by decide)).2.1 hS hown (ht _ wFf_cd) (fun _ h9 => h9) dJ0_isLatin1_aae02_7 ?_
  refine lv_if_ne (tgt := 17) hx hb dJ0_isLatin1_aae02_10 (by decide) (fun q => absurd rfl q) (fun _ => ?_)
  refine lv_iconst (v := 1) hx hb dJ0_isLatin1_aae02_13 (by decide) ?_
  refine lv_goto (tgt := 18) hx hb dJ0_isLatin1_aae02_14 (by decide) ?_
  exact W.zret (v := 1) hx hb B.returns (by first | rfl | decide) (fun t ht hW => ⟨⟨1, (), rfl, rfl, trivial⟩, hS.F ht⟩) hS.2.2 dJ0_isLatin1_aae02_18
theorem c_length (l : Launch) (aK aV : Nat → Nat) : fI l aK aV mf_le [.ref (aK 0)] (nI 121) := by
  refine Met.ofW (cc := cJ0_length_8abf5) (maxL := 1) (ret := some .int) (by decide) rfl ?_
  intro p e s m args below meth c s₁ B hml hv
  obtain ⟨rfl, hF⟩ := hv
  have hts := atoms_spec (ws := av_ws mf_le) B.pre
  have hown : s.vm.findClass mf_le.1.cls = some m.cls := findClass_of_methodNamed B.named
  have GB : gB mf_le p s m _ c := ⟨B.exec, B.bytes, hml, fun w hw => hts w (List.mem_cons_of_mem _ hw), hown⟩
  have hx := B.exec
  have hb := B.bytes
  have ht := GB.2.2.2.1
  have hlocks := B.notSynchronized
  have hS : va_S nA s.heap s.heap [] := va_S.rf
  have hl := lv_entry ([.ref (aK 0)]) (n := 1) (Nat.le_of_ble_eq_true rfl)
  rw [lg_entry_eq]
  generalize (lg_sl ([.ref (aK 0)]) ++ List.replicate (1 - (lg_sl ([.ref (aK 0)])).length) Slot.unset).toArray = ls at hl ⊢
  have hl : lv_has ls 1 [(0, .ref (aK 0))] := hl
  refine lv_aload_n hx hb dJ0_length_8abf5_0 rfl (lv_at hl 0 rfl) ?_
  refine vk_getf (ref := "java/lang/String") hx hb (hF.1.1 0 (by decide)).2.2.1 hS hown (ht _ wFf_va) (fun _ h9 => h9) dJ0_length_8abf5_1 ?_
  refine va_tlen (v := nI 121) hx hb (hF.1.1 0 (by decide)).2.2.2 hS rfl dJ0_length_8abf5_4 ?_
  refine lv_aload_n hx hb dJ0_length_8abf5_5 rfl (lv_at hl 0 rfl) ?_
  refine f_callV (M := mf_le) (M' := mf_co) (as := []) (rest := [.int (nI 121)]) GB (c_coder l aK aV) hF mbf_co rfl wIf_co wSf_co wMf_co0 ⟨Nat.le_of_ble_eq_true rfl, Nat.le_of_ble_eq_true rfl⟩ (by decide) hl.1 ⟨Nat.le_of_ble_eq_true rfl, Nat.le_of_ble_eq_true rfl⟩ hS dJ0_length_8abf5_6 (fun H1 l1 K1 _ hS1 => ?_)
  refine lv_ishr hx hb dJ0_length_8abf5_9 ?_
  have e9 : nI 121 >>> ((0 : Int32) &&& 31) = nI 121 := by decide
  rw [e9]
  exact W.iret (v := nI 121) hx hb B.returns (fun t ht hW => ⟨⟨nI 121, (), rfl, rfl, trivial⟩, hS1.F ht⟩) hS1.2.2 dJ0_length_8abf5_10
theorem c_check3n (l : Launch) (aK aV : Nat → Nat) (k : Nat) (hk : k < 121) : fI l aK aV mf_cp [.int (nI k), .int (nI 121), .null] (nI k) := by
  refine Met.ofW (cc := cJ3_checkIndex_8e157) (maxL := 3) (ret := some .int) (by decide) rfl ?_
  intro p e s m args below meth c s₁ B hml hv
  obtain ⟨rfl, hF⟩ := hv
  have hts := atoms_spec (ws := av_ws mf_cp) B.pre
  have hown : s.vm.findClass mf_cp.1.cls = some m.cls := findClass_of_methodNamed B.named
  have GB : gB mf_cp p s m _ c := ⟨B.exec, B.bytes, hml, fun w hw => hts w (List.mem_cons_of_mem _ hw), hown⟩
  have hx := B.exec
  have hb := B.bytes
  have ht := GB.2.2.2.1
  have hlocks := B.notSynchronized
  have hS : va_S nA s.heap s.heap [] := va_S.rf
  have hl := lv_entry ([.int (nI k), .int (nI 121), .null]) (n := 3) (Nat.le_of_ble_eq_true rfl)
  rw [lg_entry_eq]
  generalize (lg_sl ([.int (nI k), .int (nI 121), .null]) ++ List.replicate (3 - (lg_sl ([.int (nI k), .int (nI 121), .null])).length) Slot.unset).toArray = ls at hl ⊢
  have hl : lv_has ls 3 [(0, .int (nI k)), (1, .int (nI 121)), (2, .null)] := hl
  refine lv_iload_n hx hb dJ3_checkIndex_8e157_0 rfl (lv_at hl 0 rfl) ?_
  refine lv_if_lt (tgt := 9) hx hb dJ3_checkIndex_8e157_1 (by decide) (fun q => absurd q (nI_pos (by omega))) (fun _ => ?_)
  refine lv_iload_n hx hb dJ3_checkIndex_8e157_4 rfl (lv_at hl 0 rfl) ?_
  refine lv_iload_n hx hb dJ3_checkIndex_8e157_5 rfl (lv_at hl 1 rfl) ?_
  refine lv_icmp_lt (tgt := 16) hx hb dJ3_checkIndex_8e157_6 (by decide) (fun _ => ?_) (fun q => absurd (nI_lt hk (by omega)) q)
  refine lv_iload_n hx hb dJ3_checkIndex_8e157_16 rfl (lv_at hl 0 rfl) ?_
  exact W.iret (v := nI k) hx hb B.returns (fun t ht hW => ⟨⟨nI k, (), rfl, rfl, trivial⟩, hS.F ht⟩) hS.2.2 dJ3_checkIndex_8e157_17
theorem c_check3r (l : Launch) (aK aV : Nat → Nat) (k : Nat) (hk : k < 121) (t : Nat) : fI l aK aV mf_cp [.int (nI k), .int (nI 121), .ref t] (nI k) := by
  refine Met.ofW (cc := cJ3_checkIndex_8e157) (maxL := 3) (ret := some .int) (by decide) rfl ?_
  intro p e s m args below meth c s₁ B hml hv
  obtain ⟨rfl, hF⟩ := hv
  have hts := atoms_spec (ws := av_ws mf_cp) B.pre
  have hown : s.vm.findClass mf_cp.1.cls = some m.cls := findClass_of_methodNamed B.named
  have GB : gB mf_cp p s m _ c := ⟨B.exec, B.bytes, hml, fun w hw => hts w (List.mem_cons_of_mem _ hw), hown⟩
  have hx := B.exec
  have hb := B.bytes
  have ht := GB.2.2.2.1
  have hlocks := B.notSynchronized
  have hS : va_S nA s.heap s.heap [] := va_S.rf
  have hl := lv_entry ([.int (nI k), .int (nI 121), .ref t]) (n := 3) (Nat.le_of_ble_eq_true rfl)
  rw [lg_entry_eq]
  generalize (lg_sl ([.int (nI k), .int (nI 121), .ref t]) ++ List.replicate (3 - (lg_sl ([.int (nI k), .int (nI 121), .ref t])).length) Slot.unset).toArray = ls at hl ⊢
  have hl : lv_has ls 3 [(0, .int (nI k)), (1, .int (nI 121)), (2, .ref t)] := hl
  refine lv_iload_n hx hb dJ3_checkIndex_8e157_0 rfl (lv_at hl 0 rfl) ?_
  refine lv_if_lt (tgt := 9) hx hb dJ3_checkIndex_8e157_1 (by decide) (fun q => absurd q (nI_pos (by omega))) (fun _ => ?_)
  refine lv_iload_n hx hb dJ3_checkIndex_8e157_4 rfl (lv_at hl 0 rfl) ?_
  refine lv_iload_n hx hb dJ3_checkIndex_8e157_5 rfl (lv_at hl 1 rfl) ?_
  refine lv_icmp_lt (tgt := 16) hx hb dJ3_checkIndex_8e157_6 (by decide) (fun _ => ?_) (fun q => absurd (nI_lt hk (by omega)) q)
  refine lv_iload_n hx hb dJ3_checkIndex_8e157_16 rfl (lv_at hl 0 rfl) ?_
  exact W.iret (v := nI k) hx hb B.returns (fun t ht hW => ⟨⟨nI k, (), rfl, rfl, trivial⟩, hS.F ht⟩) hS.2.2 dJ3_checkIndex_8e157_17
theorem c_check2 (l : Launch) (aK aV : Nat → Nat) (k : Nat) (hk : k < 121) : fV l aK aV mf_ck [.int (nI k), .int (nI 121)] := by
  refine Met.ofW (cc := cJ0_checkIndex_df160) (maxL := 2) (ret := none) (by decide) rfl ?_
  intro p e s m args below meth c s₁ B hml hv
  obtain ⟨rfl, hF⟩ := hv
  have hts := atoms_spec (ws := av_ws mf_ck) B.pre
  have hown : s.vm.findClass mf_ck.1.cls = some m.cls := findClass_of_methodNamed B.named
  have GB : gB mf_ck p s m _ c := ⟨B.exec, B.bytes, hml, fun w hw => hts w (List.mem_cons_of_mem _ hw), hown⟩
  have hx := B.exec
  have hb := B.bytes
  have ht := GB.2.2.2.1
  have hlocks := B.notSynchronized
  have hS : va_S nA s.heap s.heap [] := va_S.rf
  have hl := lv_entry ([.int (nI k), .int (nI 121)]) (n := 2) (Nat.le_of_ble_eq_true rfl)
  rw [lg_entry_eq]
  generalize (lg_sl ([.int (nI k), .int (nI 121)]) ++ List.replicate (2 - (lg_sl ([.int (nI k), .int (nI 121)])).length) Slot.unset).toArray = ls at hl ⊢
  have hl : lv_has ls 2 [(0, .int (nI k)), (1, .int (nI 121))] := hl
  refine lv_iload_n hx hb dJ0_checkIndex_df160_0 rfl (lv_at hl 0 rfl) ?_
  refine lv_iload_n hx hb dJ0_checkIndex_df160_1 rfl (lv_at hl 1 rfl) ?_
  rcases hF.2.2 with hZ | ⟨t, hZ⟩
  · skip
    refine va_gets (ref := "jdk/internal/util/Preconditions") hx hb hZ hS hown (ht _ wFf_fm) (fun _ h9 => h9) dJ0_checkIndex_df160_2 ?_
    refine f_callS (M := mf_ck) (M' := mf_cp) (as := [.int (nI k), .int (nI 121), .null]) (rest := []) GB (c_check3n l aK aV k hk) hF mbf_cp rfl wTf_cp wMf_cp0 ⟨Nat.le_of_ble_eq_true rfl, Nat.le_of_ble_eq_true rfl⟩ (by decide) hl.1 ⟨Nat.le_of_ble_eq_true rfl, Nat.le_of_ble_eq_true rfl⟩ hS dJ0_checkIndex_df160_5 (fun H1 l1 K1 _ hS1 => ?_)
    refine lv_pop hx hb dJ0_checkIndex_df160_8 rfl ?_
    exact W.vret hx hb B.returns (fun t ht hW => ⟨⟨(), rfl, trivial, trivial⟩, hS1.F ht⟩) hS1.2.2 dJ0_checkIndex_df160_9
  · skip
    refine va_gets (ref := "jdk/internal/util/Preconditions") hx hb hZ hS hown (ht _ wFf_fm) (fun _ h9 => h9) dJ0_checkIndex_df160_2 ?_
    refine f_callS (M := mf_ck) (M' := mf_cp) (as := [.int (nI k), .int (nI 121), .ref t]) (rest := []) GB (c_check3r l aK aV k hk t) hF mbf_cp rfl wTf_cp wMf_cp0 ⟨Nat.le_of_ble_eq_true rfl, Nat.le_of_ble_eq_true rfl⟩ (by decide) hl.1 ⟨Nat.le_of_ble_eq_true rfl, Nat.le_of_ble_eq_true rfl⟩ hS dJ0_checkIndex_df160_5 (fun H1 l1 K1 _ hS1 => ?_)
    refine lv_pop hx hb dJ0_checkIndex_df160_8 rfl ?_
    exact W.vret hx hb B.returns (fun t ht hW => ⟨⟨(), rfl, trivial, trivial⟩, hS1.F ht⟩) hS1.2.2 dJ0_checkIndex_df160_9
def f_ch (k : Nat) : Int32 := nI (pc f_cs k)
theorem f_ch_ok : ∀ k : Fin 121, ((((f_byt.getD (k : Nat) 0) &&& 255).toUInt32 % 65536).toInt32 = f_ch (k : Nat)) ∧ narrow .char (.int (f_ch (k : Nat))) = .int (f_ch (k : Nat)) := by decide +kernel
theorem c_charAt1 (l : Launch) (aK aV : Nat → Nat) (k : Nat) (hk : k < 121) : fI l aK aV mf_c1 [.ref (aV 0), .int (nI k)] (f_ch k) := by
  refine Met.ofW (cc := cJ1_charAt_3b067) (maxL := 2) (ret := some .char) (by decide) rfl ?_
  intro p e s m args below meth c s₁ B hml hv
  obtain ⟨rfl, hF⟩ := hv
  have hts := atoms_spec (ws := av_ws mf_c1) B.pre
  have hown : s.vm.findClass mf_c1.1.cls = some m.cls := findClass_of_methodNamed B.named
  have GB : gB mf_c1 p s m _ c := ⟨B.exec, B.bytes, hml, fun w hw => hts w (List.mem_cons_of_mem _ hw), hown⟩
  have hx := B.exec
  have hb := B.bytes
  have ht := GB.2.2.2.1
  have hlocks := B.notSynchronized
  have hS : va_S nA s.heap s.heap [] := va_S.rf
  have hl := lv_entry ([.ref (aV 0), .int (nI k)]) (n := 2) (Nat.le_of_ble_eq_true rfl)
  rw [lg_entry_eq]
  generalize (lg_sl ([.ref (aV 0), .int (nI k)]) ++ List.replicate (2 - (lg_sl ([.ref (aV 0), .int (nI k)])).length) Slot.unset).toArray = ls at hl ⊢
  have hl : lv_has ls 2 [(0, .ref (aV 0)), (1, .int (nI k))] := hl
  refine lv_iload_n hx hb dJ1_charAt_3b067_0 rfl (lv_at hl 1 rfl) ?_
  refine lv_aload_n hx hb dJ1_charAt_3b067_1 rfl (lv_at hl 0 rfl) ?_
  refine va_tlen (v := nI 121) hx hb (hF.1.1 0 (by decide)).2.2.2 hS rfl dJ1_charAt_3b067_2 ?_
  refine f_callSv (M := mf_c1) (M' := mf_ck) (as := [.int (nI k), .int (nI 121)]) (rest := []) GB (c_check2 l aK aV k hk) hF mbf_ck rfl wTf_ck wMf_ck1 ⟨Nat.le_of_ble_eq_true rfl, Nat.le_of_ble_eq_true rfl⟩ (by decide) hl.1 ⟨Nat.le_of_ble_eq_true rfl, Nat.le_of_ble_eq_true rfl⟩ hS dJ1_charAt_3b067_3 (fun H1 l1 K1 _ hS1 => ?_)
  refine lv_aload_n hx hb dJ1_charAt_3b067_6 rfl (lv_at hl 0 rfl) ?_
  refine lv_iload_n hx hb dJ1_charAt_3b067_7 rfl (lv_at hl 1 rfl) ?_
  have hk2 := f_ch_ok ⟨k, hk⟩
  refine va_tb (v := .int (f_byt.getD k 0)) hx hb (hF.1.1 0 (by decide)).2.2.2 hS1 (vp_in_nI hk (by decide)) (by rw [nI_clamp (by omega)]; rfl) dJ1_charAt_3b067_8 ?_
  refine lv_sipush (v := 255) hx hb dJ1_charAt_3b067_9 (by decide) ?_
  refine lv_iand hx hb dJ1_charAt_3b067_12 ?_
  refine lv_i2c (v := f_ch k) hx hb dJ1_charAt_3b067_13 hk2.1 ?_
  exact W.zret (v := f_ch k) hx hb B.returns hk2.2 (fun t ht hW => ⟨⟨f_ch k, (), rfl, rfl, trivial⟩, hS1.F ht⟩) hS1.2.2 dJ1_charAt_3b067_14
theorem c_charAt (l : Launch) (aK aV : Nat → Nat) (k : Nat) (hk : k < 121) : fI l aK aV mf_ch [.ref (aK 0), .int (nI k)] (f_ch k) := by
  refine Met.ofW (cc := cJ0_charAt_5068e) (maxL := 2) (ret := some .char) (by decide) rfl ?_
  intro p e s m args below meth c s₁ B hml hv
  obtain ⟨rfl, hF⟩ := hv
  have hts := atoms_spec (ws := av_ws mf_ch) B.pre
  have hown : s.vm.findClass mf_ch.1.cls = some m.cls := findClass_of_methodNamed B.named
  have GB : gB mf_ch p s m _ c := ⟨B.exec, B.bytes, hml, fun w hw => hts w (List.mem_cons_of_mem _ hw), hown⟩
  have hx := B.exec
  have hb := B.bytes
  have ht := GB.2.2.2.1
  have hlocks := B.notSynchronized
  have hS : va_S nA s.heap s.heap [] := va_S.rf
  have hl := lv_entry ([.ref (aK 0), .int (nI k)]) (n := 2) (Nat.le_of_ble_eq_true rfl)
  rw [lg_entry_eq]
  generalize (lg_sl ([.ref (aK 0), .int (nI k)]) ++ List.replicate (2 - (lg_sl ([.ref (aK 0), .int (nI k)])).length) Slot.unset).toArray = ls at hl ⊢
  have hl : lv_has ls 2 [(0, .ref (aK 0)), (1, .int (nI k))] := hl
  refine lv_aload_n hx hb dJ0_charAt_5068e_0 rfl (lv_at hl 0 rfl) ?_
  refine f_callV (M := mf_ch) (M' := mf_la) (as := []) (rest := []) GB (c_isLatin1 l aK aV) hF mbf_la rfl wIf_la wSf_la wMf_la0 ⟨Nat.le_of_ble_eq_true rfl, Nat.le_of_ble_eq_true rfl⟩ (by decide) hl.1 ⟨Nat.le_of_ble_eq_true rfl, Nat.le_of_ble_eq_true rfl⟩ hS dJ0_charAt_5068e_1 (fun H1 l1 K1 _ hS1 => ?_)
  refine lv_if_eq (tgt := 16) hx hb dJ0_charAt_5068e_4 (by decide) (fun q => absurd q (by decide)) (fun _ => ?_)
  refine lv_aload_n hx hb dJ0_charAt_5068e_7 rfl (lv_at hl 0 rfl) ?_
  refine vk_getf (ref := "java/lang/String") hx hb (hF.1.1 0 (by decide)).2.2.1 hS1 hown (ht _ wFf_va) (fun _ h9 => h9) dJ0_charAt_5068e_8 ?_
  refine lv_iload_n hx hb dJ0_charAt_5068e_11 rfl (lv_at hl 1 rfl) ?_
  refine f_callS (M := mf_ch) (M' := mf_c1) (as := [.ref (aV 0), .int (nI k)]) (rest := []) GB (c_charAt1 l aK aV k hk) (hF.kept (fun a h1 _ => K1 a h1)) mbf_c1 rfl wTf_c1 wMf_c10 ⟨Nat.le_of_ble_eq_true rfl, Nat.le_of_ble_eq_true rfl⟩ (by decide) hl.1 ⟨Nat.le_of_ble_eq_true rfl, Nat.le_of_ble_eq_true rfl⟩ hS1 dJ0_charAt_5068e_12 (fun H2 l2 K2 _ hS2 => ?_)
  exact W.zret (v := f_ch k) hx hb B.returns (f_ch_ok ⟨k, hk⟩).2 (fun t ht hW => ⟨⟨f_ch k, (), rfl, rfl, trivial⟩, hS2.F ht⟩) hS2.2.2 dJ0_charAt_5068e_15
