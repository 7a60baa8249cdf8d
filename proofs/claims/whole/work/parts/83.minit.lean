/-! a call of a method from outside of its world; the model's constructor -/
theorem av_w_k {E : av_E} {SH : List av_S} {σ : av_M} {k : Nat} {x : Nat × va_E} (h : (av_w E SH σ)[k]? = some x) : k < SH.length ∧ x.1 = E.2.2.1 k := by
  unfold av_w at h
  rw [List.getElem?_mapIdx] at h
  cases hs : SH[k]? with
  | none => rw [hs] at h; cases h
  | some sh =>
    rw [hs] at h
    have e : (E.2.2.1 k, av_e E σ k sh) = x := Option.some.inj h
    exact ⟨(List.getElem?_eq_some_iff.mp hs).1, by rw [← e]⟩
theorem av_own {E : av_E} {SH : List av_S} {σ : av_M} {A : Nat → Prop} (h : va_D A (av_w E SH σ)) : va_D (av_A E SH) (av_w E SH σ) :=
  h.weaken (fun k x hk _ => ⟨k, (av_w_k hk).1, (av_w_k hk).2⟩)
theorem av_sub {E : av_E} {SH : List av_S} {σ : av_M} {A : Nat → Prop} (h : va_D A (av_w E SH σ)) : ∀ z, av_A E SH z → A z := by
  rintro z ⟨i, hi, rfl⟩
  exact h.2 i (E.2.2.1 i, av_e E σ i SH[i]) (av_w_at (List.getElem?_eq_getElem hi))
theorem av_R.kept {E : av_E} {SH : List av_S} {σ : av_M} {H H1 : Heap} (h : av_R E SH H σ) (hk : ∀ z, z < H.size → av_A E SH z → H1[z]? = H[z]?) : av_R E SH H1 σ :=
  ⟨h.1.kept (fun k x hx => hk x.1 (h.1 k x hx).lt ⟨k, (av_w_k hx).1, (av_w_k hx).2⟩), h.2⟩
section AVU
variable {p : Program} {e : Env} {R : Room} {s : State} {m : MethodId} {args : Array Value} {below : List Frame} {meth : Method} {c : Code} {H : Heap} {locs : List Loc} {cells slots : Nat} {Q : State → Prop}
variable {M : av_Y} {pc : Nat} {ls : Array Slot} {rest : List Value} {A : Nat → Prop} {H0 : Heap} {E : av_E} {SH : List av_S} {σ : av_M}
theorem av_useV {idx i ci n N : Nat} {fs : List (Option Nat)} {CN : String} {T : u_T} {as : List av_V} {Q' : Option av_V → av_M → Prop} (M' : av_Y) (B : gB M p s m args c) (hK : av_K E s) (hd : decode M.2.1 pc = .ok (.invokevirtual idx, 3)) (hs : SH[i]? = some (.inr (ci, fs))) (hc : vwCl[ci]? = some (CN, T, N)) (hcn : M'.1.cls = CN) (hb : av_mb M' n) (hn : as.length = n)
    (hi : Cond.instanceMethod M'.1 ∈ av_T) (hse : Cond.selects CN M'.1 M'.1 ∈ av_T) (hl : Cond.methodLink M.1.cls idx M'.1 ∈ av_T) (hRm : M'.2.2.2.2.1 + 1 ≤ R.frames ∧ 8 + (M'.2.2.1 + 11) + M'.2.2.2.2.2 ≤ R.locals) (hroom : (rest.map fun v => v.category).sum ≤ 8) (hls : ls.size = M.2.2.1) (hcs : cells ≤ R.cells ∧ slots ≤ R.slots)
    (hR : av_R E SH H σ) (hsub : ∀ z, av_A E SH z → A z) (hS : va_S A H0 H locs) (hC : av_C E SH M' (.inr (.inr i) :: as) σ Q')
    (kk : ∀ (v : Option av_V) (σ' : av_M) (H1 : Heap) (locs1 : List Loc), Q' v σ' → av_R E SH H1 σ' → (∀ z, z < H.size → ¬ av_A E SH z → H1[z]? = H[z]?) → H.size ≤ H1.size → va_S A H0 H1 locs1 → W p E.1 e R s m args below meth c H1 locs1 cells slots Q (F0 m (pc + 3) ls ((v.map (av_c E.2.2.1)).toList ++ rest))) : W p E.1 e R s m args below meth c H locs cells slots Q (F0 m pc ls ((as.map (av_c E.2.2.1)).reverse ++ .ref (E.2.2.1 i) :: rest)) := by
  have hr := va_runV (H := H) (cells := cells) (slots := slots) (locs := locs) (below := below) (meth := meth) (R := R) (e := e) (C := CN) (b := E.2.2.1 i) (As := as.map (av_c E.2.2.1)) (rest := rest) (g := F0 m pc ls ((as.map (av_c E.2.2.1)).reverse ++ .ref (E.2.2.1 i) :: rest)) (nL := M.2.2.1) (own := M.1.cls) (Ts := av_T)
    ⟨B.1, B.2.1, B.2.2.1, B.2.2.2.2, B.2.2.2.1⟩ hC ⟨callB_of n B.2.2.2.1 (av_goodM hb) rfl rfl rfl (B.2.2.2.1 _ hb.2.2.2.1) (B.2.2.2.1 _ hl) ⟨hb.1, hb.2.1, hb.2.2.1⟩ hRm, B.2.2.2.1 _ hi, B.2.2.2.1 _ hse⟩ ⟨av_blind, va_recv hK.1 hR.1 hc (av_w_at hs), fun U hU hW => ⟨rfl, by rw [hU]; exact hR, hK.warm hW⟩⟩ rfl (by simpa using hn) hls rfl (by show 2 * 0 + _ ≤ 8; omega) hd ⟨hcs.1, hcs.2⟩
  intro T hT X
  obtain ⟨v, st₀, t, T', Lc, h0, X', hLc, e1, e2, ⟨⟨v', σ', hv, hQ', hR'⟩, hz, hk⟩, stp⟩ := hr T hT X
  have hvv : v = v'.map (av_c E.2.2.1) := by injection hv
  subst hvv
  rw [h0] at hz hk
  obtain ⟨t2, a1, b1⟩ := kk v' σ' T'.heap (locs ++ Lc) hQ' (by rw [e1]; exact hR') (fun z h1 h2 => by rw [e1]; exact hk z h1 h2) (by rw [e1]; exact hz) ⟨Nat.le_trans hS.1 (by rw [e1]; exact hz), fun q h1 h2 => by rw [e1, hk q (Nat.lt_of_lt_of_le h1 hS.1) (fun z => h2 (hsub q z))]; exact hS.2.1 q h1 h2, fun q hq => by
      rcases List.mem_append.mp hq with h | h
      · exact hS.2.2 q h
      · exact hsub _ (hLc q h)⟩ T' rfl X'
  exact ⟨t2, stp t2 a1, b1⟩
end AVU
/-- a world in which all is 0 -/
def av_e0 (E : av_E) (sh : av_S) : va_E := match sh with
  | .inl tn => .inl (E.2.2.2 tn.1, tn.2, .inl (fun _ => 0))
  | .inr cf => .inr (cf.1, cf.2.map (fun o => match o with | some r => Value.ref (E.2.2.1 r) | none => Value.int 0))
def av_w0f (E : av_E) : Nat → List av_S → va_W
  | _, [] => []
  | k, sh :: SH => (E.2.2.1 k, av_e0 E sh) :: av_w0f E (k + 1) SH
theorem av_e0_eq (E : av_E) (k : Nat) (sh : av_S) : av_e E (fun _ _ => 0) k sh = av_e0 E sh := by
  cases sh with
  | inl tn => rfl
  | inr cf =>
    simp only [av_e, av_e0]
    congr 2
    apply List.ext_getElem?
    intro j
    rw [List.getElem?_mapIdx, List.getElem?_map]
    cases cf.2[j]? with
    | none => rfl
    | some o => cases o <;> rfl
theorem av_w0f_eq (E : av_E) : ∀ (SH : List av_S) (k j : Nat), (av_w0f E k SH)[j]? = (SH[j]?).map (fun sh => (E.2.2.1 (k + j), av_e0 E sh))
  | [], k, j => by simp [av_w0f]
  | sh :: SH, k, 0 => by simp [av_w0f]
  | sh :: SH, k, j + 1 => by
    rw [av_w0f, List.getElem?_cons_succ, List.getElem?_cons_succ, av_w0f_eq E SH (k + 1) j, show k + 1 + j = k + (j + 1) by omega]
theorem av_w0 (E : av_E) (SH : List av_S) : av_w E SH (fun _ _ => 0) = av_w0f E 0 SH := by
  apply List.ext_getElem?
  intro j
  rw [av_w0f_eq, av_w, List.getElem?_mapIdx]
  cases SH[j]? with
  | none => rfl
  | some sh =>
    show some (E.2.2.1 j, av_e E (fun _ _ => 0) j sh) = some (E.2.2.1 (0 + j), av_e0 E sh)
    rw [av_e0_eq, Nat.zero_add]
abbrev f_ty (cI cC : ClassId) : Nat → ClassId := fun t => if t = 0 then cI else cC
theorem f_K {E : av_E} {cI cC : ClassId} {U : State} (he : E.2.2.2 = f_ty cI cC) (hK : va_K E.2.1 vwCl (gty cI cC) U) (hN : av_N U) : av_K E U := by
  refine ⟨?_, hN⟩
  have e : av_ty E = gty cI cC := by unfold av_ty; rw [he]; rfl
  rw [e]
  exact hK

theorem w_mSH (l : Launch) (D : va_G) (ad : Nat → Nat) (cI cC : ClassId) : av_w0f (l, D, ad, f_ty cI cC) 0 mSH = [(ad 0, .inr (5, [.int 0, .ref (ad 1), .ref (ad 2), .ref (ad 3), .ref (ad 4), .int 0, .ref (ad 5), .ref (ad 6), .ref (ad 7), .int 0, .ref (ad 8), .int 0, .ref (ad 9), .int 0, .ref (ad 10), .ref (ad 11), .int 0, .int 0, .ref (ad 12), .int 0, .ref (ad 13), .ref (ad 14), .ref (ad 15), .ref (ad 16), .int 0, .ref (ad 17), .int 0, .ref (ad 18), .ref (ad 19), .int 0, .ref (ad 20), .int 0, .int 0, .int 0, .ref (ad 21), .ref (ad 22), .int 0, .int 0, .int 0, .int 0])), gz (ad 1) cI 8, gz (ad 2) cI 24, gz (ad 3) cI 8, gz (ad 4) cI 8, gz (ad 5) cI 15, gz (ad 6) cI 3, gz (ad 7) cI 14, gz (ad 8) cI 112, gz (ad 9) cI 28, gz (ad 10) cI 12, gz (ad 11) cI 200, gz (ad 12) cI 3, gz (ad 13) cI 8, gz (ad 14) cI 24, gz (ad 15) cI 8, gz (ad 16) cI 8, gz (ad 17) cI 15, gz (ad 18) cI 9, gz (ad 19) cI 3, gz (ad 20) cI 9, gz (ad 21) cI 9, gz (ad 22) cI 10] := rfl
set_option maxHeartbeats 1000000 in
set_option maxRecDepth 100000 in
theorem c_X5_init (l : Launch) (D : va_G) (cI cC : ClassId) (q sz : Nat) : Met l yX5_init (av_ws mX5_init) (gM mX5_init 22 538) (va_Pc [.ref q] (fun U => U.heap.size = sz ∧ va_P D vwCl [(q, .inr (5, [.int 0, .null, .null, .null, .null, .int 0, .null, .null, .null, .int 0, .null, .int 0, .null, .int 0, .null, .null, .int 0, .int 0, .null, .int 0, .null, .null, .null, .null, .int 0, .null, .int 0, .null, .null, .int 0, .null, .int 0, .int 0, .int 0, .null, .null, .int 0, .int 0, .int 0, .int 0]))] U.heap ∧ va_K D vwCl (gty cI cC) U ∧ av_N U))
    (va_Qv (S := (Nat → Nat) × av_M) (fun u => mRM u.2 (q_lay f_W []) ∧ u.1 0 = q) (fun u t => av_R (l, D, u.1, f_ty cI cC) mSH t.heap u.2 ∧ ∀ z, av_A (l, D, u.1, f_ty cI cC) mSH z → va_A [(q, .inr (5, [.int 0, .null, .null, .null, .null, .int 0, .null, .null, .null, .int 0, .null, .int 0, .null, .int 0, .null, .null, .int 0, .int 0, .null, .int 0, .null, .null, .null, .null, .int 0, .null, .int 0, .null, .null, .int 0, .null, .int 0, .int 0, .int 0, .null, .null, .int 0, .int 0, .int 0, .int 0]))] sz z) (va_A [(q, .inr (5, [.int 0, .null, .null, .null, .null, .int 0, .null, .null, .null, .int 0, .null, .int 0, .null, .int 0, .null, .null, .int 0, .int 0, .null, .int 0, .null, .null, .null, .null, .int 0, .null, .int 0, .null, .null, .int 0, .null, .int 0, .int 0, .int 0, .null, .null, .int 0, .int 0, .int 0, .int 0]))] sz)) 22 538 (va_A [(q, .inr (5, [.int 0, .null, .null, .null, .null, .int 0, .null, .null, .null, .int 0, .null, .int 0, .null, .int 0, .null, .null, .int 0, .int 0, .null, .int 0, .null, .null, .null, .null, .int 0, .null, .int 0, .null, .null, .int 0, .null, .int 0, .int 0, .int 0, .null, .null, .int 0, .int 0, .int 0, .int 0]))] sz) := by
  refine Met.ofW (cc := cX5_init) (maxL := 1) (ret := none) (by decide) rfl ?_
  intro p e s m args below meth c s₁ B hml hv
  obtain ⟨rfl, hsz, hP, hK, hN⟩ := hv
  have hts := atoms_spec (ws := av_ws mX5_init) B.pre
  have hown : s.vm.findClass mX5_init.1.cls = some m.cls := findClass_of_methodNamed B.named
  have GB : gB mX5_init p s m _ c := ⟨B.exec, B.bytes, hml, fun w hw => hts w (List.mem_cons_of_mem _ hw), hown⟩
  have hlocks := B.notSynchronized
  have hin : meth.name = "<init>" := (name_of_methodNamed B.named B.method).1
  subst hsz
  have hD0 : va_D (fun _ => True) [(q, .inr (5, [.int 0, .null, .null, .null, .null, .int 0, .null, .null, .null, .int 0, .null, .int 0, .null, .int 0, .null, .null, .int 0, .int 0, .null, .int 0, .null, .null, .null, .null, .int 0, .null, .int 0, .null, .null, .int 0, .null, .int 0, .int 0, .int 0, .null, .null, .int 0, .int 0, .int 0, .int 0]))] := ⟨fun i j a b ha hb _ => by
    have h1 := (List.getElem?_eq_some_iff.mp ha).1
    have h2 := (List.getElem?_eq_some_iff.mp hb).1
    simp at h1 h2
    omega, fun _ _ _ => trivial⟩
  have hD := hD0.self (sz := s.heap.size)
  generalize hAe : va_A [(q, .inr (5, [.int 0, .null, .null, .null, .null, .int 0, .null, .null, .null, .int 0, .null, .int 0, .null, .int 0, .null, .null, .int 0, .int 0, .null, .int 0, .null, .null, .null, .null, .int 0, .null, .int 0, .null, .null, .int 0, .null, .int 0, .int 0, .int 0, .null, .null, .int 0, .int 0, .int 0, .int 0]))] s.heap.size = A at hD ⊢
  have hA : ∀ z : Nat, s.heap.size ≤ z → A z := fun z h => by rw [← hAe]; exact Or.inr h
  have hG : gH D A s.heap [(q, .inr (5, [.int 0, .null, .null, .null, .null, .int 0, .null, .null, .null, .int 0, .null, .int 0, .null, .int 0, .null, .null, .int 0, .int 0, .null, .int 0, .null, .null, .null, .null, .int 0, .null, .int 0, .null, .null, .int 0, .null, .int 0, .int 0, .int 0, .null, .null, .int 0, .int 0, .int 0, .int 0]))] s.heap [] := ⟨hP, hD, va_S.rf⟩
  have hl := lv_entry ([.ref q]) (n := 1) (Nat.le_of_ble_eq_true rfl)
  rw [lg_entry_eq]
  generalize (lg_sl ([.ref q]) ++ List.replicate (1 - (lg_sl ([.ref q])).length) Slot.unset).toArray = ls at hl ⊢
  have hl : lv_has ls 1 [(0, .ref q)] := hl
  have h0l : ls[0]? = some (.val (.ref q)) := lv_at hl 0 rfl
  refine lv_aload_n GB.1 GB.2.1 dX5_init_0 rfl h0l ?_
  refine W.objInit GB.1 GB.2.1 GB.2.2.2.2 (GB.2.2.2.1 _ wO_X5) (GB.2.2.2.1 _ wI_obj) (GB.2.2.2.1 _ wC_obj) rfl (by rw [hml]; exact hl.1) rfl dX5_init_1 (Nat.le_of_ble_eq_true rfl) (Nat.le_of_ble_eq_true rfl) ?_
  refine W.eq (g2 := F0 m 4 ls []) rfl ?_
  refine g_arr (b := 2) (n := 8) (k := 1) (ty := .int) (cA := cI) (na := 8) GB hin iuX5 tyX5 tyX5_ok nmX5 hK rfl (by decide) wF_X5_7 rfl rfl (fun _ => rfl) (fun _ => rfl) (by simp) wA_int rfl 0 rfl hA rfl (by decide) (by decide) (by decide) (Nat.le_of_ble_eq_true rfl) (Nat.le_of_ble_eq_true rfl) hG h0l dX5_init_4 (fun st k => lv_bipush GB.1 GB.2.1 dX5_init_5 rfl k) dX5_init_7 dX5_init_9 (fun a1 H1 l1 hG1 => ?_)
  have hG1 : gH D A _ [(q, .inr (5, [.int 0, .ref a1, .null, .null, .null, .int 0, .null, .null, .null, .int 0, .null, .int 0, .null, .int 0, .null, .null, .int 0, .int 0, .null, .int 0, .null, .null, .null, .null, .int 0, .null, .int 0, .null, .null, .int 0, .null, .int 0, .int 0, .int 0, .null, .null, .int 0, .int 0, .int 0, .int 0])), gz a1 cI 8] H1 l1 := hG1
  refine g_arr (b := 2) (n := 24) (k := 2) (ty := .int) (cA := cI) (na := 24) GB hin iuX5 tyX5 tyX5_ok nmX5 hK rfl (by decide) wF_X5_13 rfl rfl (fun _ => rfl) (fun _ => rfl) (by simp) wA_int rfl 0 rfl hA rfl (by decide) (by decide) (by decide) (Nat.le_of_ble_eq_true rfl) (Nat.le_of_ble_eq_true rfl) hG1 h0l dX5_init_12 (fun st k => lv_bipush GB.1 GB.2.1 dX5_init_13 rfl k) dX5_init_15 dX5_init_17 (fun a2 H2 l2 hG2 => ?_)
  have hG2 : gH D A _ [(q, .inr (5, [.int 0, .ref a1, .ref a2, .null, .null, .int 0, .null, .null, .null, .int 0, .null, .int 0, .null, .int 0, .null, .null, .int 0, .int 0, .null, .int 0, .null, .null, .null, .null, .int 0, .null, .int 0, .null, .null, .int 0, .null, .int 0, .int 0, .int 0, .null, .null, .int 0, .int 0, .int 0, .int 0])), gz a1 cI 8, gz a2 cI 24] H2 l2 := hG2
  refine g_arr (b := 2) (n := 8) (k := 3) (ty := .int) (cA := cI) (na := 8) GB hin iuX5 tyX5 tyX5_ok nmX5 hK rfl (by decide) wF_X5_16 rfl rfl (fun _ => rfl) (fun _ => rfl) (by simp) wA_int rfl 0 rfl hA rfl (by decide) (by decide) (by decide) (Nat.le_of_ble_eq_true rfl) (Nat.le_of_ble_eq_true rfl) hG2 h0l dX5_init_20 (fun st k => lv_bipush GB.1 GB.2.1 dX5_init_21 rfl k) dX5_init_23 dX5_init_25 (fun a3 H3 l3 hG3 => ?_)
  have hG3 : gH D A _ [(q, .inr (5, [.int 0, .ref a1, .ref a2, .ref a3, .null, .int 0, .null, .null, .null, .int 0, .null, .int 0, .null, .int 0, .null, .null, .int 0, .int 0, .null, .int 0, .null, .null, .null, .null, .int 0, .null, .int 0, .null, .null, .int 0, .null, .int 0, .int 0, .int 0, .null, .null, .int 0, .int 0, .int 0, .int 0])), gz a1 cI 8, gz a2 cI 24, gz a3 cI 8] H3 l3 := hG3
  refine g_arr (b := 2) (n := 8) (k := 4) (ty := .int) (cA := cI) (na := 8) GB hin iuX5 tyX5 tyX5_ok nmX5 hK rfl (by decide) wF_X5_19 rfl rfl (fun _ => rfl) (fun _ => rfl) (by simp) wA_int rfl 0 rfl hA rfl (by decide) (by decide) (by decide) (Nat.le_of_ble_eq_true rfl) (Nat.le_of_ble_eq_true rfl) hG3 h0l dX5_init_28 (fun st k => lv_bipush GB.1 GB.2.1 dX5_init_29 rfl k) dX5_init_31 dX5_init_33 (fun a4 H4 l4 hG4 => ?_)
  have hG4 : gH D A _ [(q, .inr (5, [.int 0, .ref a1, .ref a2, .ref a3, .ref a4, .int 0, .null, .null, .null, .int 0, .null, .int 0, .null, .int 0, .null, .null, .int 0, .int 0, .null, .int 0, .null, .null, .null, .null, .int 0, .null, .int 0, .null, .null, .int 0, .null, .int 0, .int 0, .int 0, .null, .null, .int 0, .int 0, .int 0, .int 0])), gz a1 cI 8, gz a2 cI 24, gz a3 cI 8, gz a4 cI 8] H4 l4 := hG4
  refine g_arr (b := 2) (n := 15) (k := 6) (ty := .int) (cA := cI) (na := 15) GB hin iuX5 tyX5 tyX5_ok nmX5 hK rfl (by decide) wF_X5_22 rfl rfl (fun _ => rfl) (fun _ => rfl) (by simp) wA_int rfl 0 rfl hA rfl (by decide) (by decide) (by decide) (Nat.le_of_ble_eq_true rfl) (Nat.le_of_ble_eq_true rfl) hG4 h0l dX5_init_36 (fun st k => lv_bipush GB.1 GB.2.1 dX5_init_37 rfl k) dX5_init_39 dX5_init_41 (fun a5 H5 l5 hG5 => ?_)
  have hG5 : gH D A _ [(q, .inr (5, [.int 0, .ref a1, .ref a2, .ref a3, .ref a4, .int 0, .ref a5, .null, .null, .int 0, .null, .int 0, .null, .int 0, .null, .null, .int 0, .int 0, .null, .int 0, .null, .null, .null, .null, .int 0, .null, .int 0, .null, .null, .int 0, .null, .int 0, .int 0, .int 0, .null, .null, .int 0, .int 0, .int 0, .int 0])), gz a1 cI 8, gz a2 cI 24, gz a3 cI 8, gz a4 cI 8, gz a5 cI 15] H5 l5 := hG5
  refine g_arr (b := 1) (n := 3) (k := 7) (ty := .int) (cA := cI) (na := 3) GB hin iuX5 tyX5 tyX5_ok nmX5 hK rfl (by decide) wF_X5_25 rfl rfl (fun _ => rfl) (fun _ => rfl) (by simp) wA_int rfl 0 rfl hA rfl (by decide) (by decide) (by decide) (Nat.le_of_ble_eq_true rfl) (Nat.le_of_ble_eq_true rfl) hG5 h0l dX5_init_44 (fun st k => lv_iconst GB.1 GB.2.1 dX5_init_45 rfl k) dX5_init_46 dX5_init_48 (fun a6 H6 l6 hG6 => ?_)
  have hG6 : gH D A _ [(q, .inr (5, [.int 0, .ref a1, .ref a2, .ref a3, .ref a4, .int 0, .ref a5, .ref a6, .null, .int 0, .null, .int 0, .null, .int 0, .null, .null, .int 0, .int 0, .null, .int 0, .null, .null, .null, .null, .int 0, .null, .int 0, .null, .null, .int 0, .null, .int 0, .int 0, .int 0, .null, .null, .int 0, .int 0, .int 0, .int 0])), gz a1 cI 8, gz a2 cI 24, gz a3 cI 8, gz a4 cI 8, gz a5 cI 15, gz a6 cI 3] H6 l6 := hG6
  refine g_arr (b := 2) (n := 14) (k := 8) (ty := .int) (cA := cI) (na := 14) GB hin iuX5 tyX5 tyX5_ok nmX5 hK rfl (by decide) wF_X5_28 rfl rfl (fun _ => rfl) (fun _ => rfl) (by simp) wA_int rfl 0 rfl hA rfl (by decide) (by decide) (by decide) (Nat.le_of_ble_eq_true rfl) (Nat.le_of_ble_eq_true rfl) hG6 h0l dX5_init_51 (fun st k => lv_bipush GB.1 GB.2.1 dX5_init_52 rfl k) dX5_init_54 dX5_init_56 (fun a7 H7 l7 hG7 => ?_)
  have hG7 : gH D A _ [(q, .inr (5, [.int 0, .ref a1, .ref a2, .ref a3, .ref a4, .int 0, .ref a5, .ref a6, .ref a7, .int 0, .null, .int 0, .null, .int 0, .null, .null, .int 0, .int 0, .null, .int 0, .null, .null, .null, .null, .int 0, .null, .int 0, .null, .null, .int 0, .null, .int 0, .int 0, .int 0, .null, .null, .int 0, .int 0, .int 0, .int 0])), gz a1 cI 8, gz a2 cI 24, gz a3 cI 8, gz a4 cI 8, gz a5 cI 15, gz a6 cI 3, gz a7 cI 14] H7 l7 := hG7
  refine g_arr (b := 2) (n := 112) (k := 10) (ty := .int) (cA := cI) (na := 112) GB hin iuX5 tyX5 tyX5_ok nmX5 hK rfl (by decide) wF_X5_31 rfl rfl (fun _ => rfl) (fun _ => rfl) (by simp) wA_int rfl 0 rfl hA rfl (by decide) (by decide) (by decide) (Nat.le_of_ble_eq_true rfl) (Nat.le_of_ble_eq_true rfl) hG7 h0l dX5_init_59 (fun st k => lv_bipush GB.1 GB.2.1 dX5_init_60 rfl k) dX5_init_62 dX5_init_64 (fun a8 H8 l8 hG8 => ?_)
  have hG8 : gH D A _ [(q, .inr (5, [.int 0, .ref a1, .ref a2, .ref a3, .ref a4, .int 0, .ref a5, .ref a6, .ref a7, .int 0, .ref a8, .int 0, .null, .int 0, .null, .null, .int 0, .int 0, .null, .int 0, .null, .null, .null, .null, .int 0, .null, .int 0, .null, .null, .int 0, .null, .int 0, .int 0, .int 0, .null, .null, .int 0, .int 0, .int 0, .int 0])), gz a1 cI 8, gz a2 cI 24, gz a3 cI 8, gz a4 cI 8, gz a5 cI 15, gz a6 cI 3, gz a7 cI 14, gz a8 cI 112] H8 l8 := hG8
  refine g_arr (b := 2) (n := 28) (k := 12) (ty := .int) (cA := cI) (na := 28) GB hin iuX5 tyX5 tyX5_ok nmX5 hK rfl (by decide) wF_X5_34 rfl rfl (fun _ => rfl) (fun _ => rfl) (by simp) wA_int rfl 0 rfl hA rfl (by decide) (by decide) (by decide) (Nat.le_of_ble_eq_true rfl) (Nat.le_of_ble_eq_true rfl) hG8 h0l dX5_init_67 (fun st k => lv_bipush GB.1 GB.2.1 dX5_init_68 rfl k) dX5_init_70 dX5_init_72 (fun a9 H9 l9 hG9 => ?_)
  have hG9 : gH D A _ [(q, .inr (5, [.int 0, .ref a1, .ref a2, .ref a3, .ref a4, .int 0, .ref a5, .ref a6, .ref a7, .int 0, .ref a8, .int 0, .ref a9, .int 0, .null, .null, .int 0, .int 0, .null, .int 0, .null, .null, .null, .null, .int 0, .null, .int 0, .null, .null, .int 0, .null, .int 0, .int 0, .int 0, .null, .null, .int 0, .int 0, .int 0, .int 0])), gz a1 cI 8, gz a2 cI 24, gz a3 cI 8, gz a4 cI 8, gz a5 cI 15, gz a6 cI 3, gz a7 cI 14, gz a8 cI 112, gz a9 cI 28] H9 l9 := hG9
  refine g_arr (b := 2) (n := 12) (k := 14) (ty := .int) (cA := cI) (na := 12) GB hin iuX5 tyX5 tyX5_ok nmX5 hK rfl (by decide) wF_X5_37 rfl rfl (fun _ => rfl) (fun _ => rfl) (by simp) wA_int rfl 0 rfl hA rfl (by decide) (by decide) (by decide) (Nat.le_of_ble_eq_true rfl) (Nat.le_of_ble_eq_true rfl) hG9 h0l dX5_init_75 (fun st k => lv_bipush GB.1 GB.2.1 dX5_init_76 rfl k) dX5_init_78 dX5_init_80 (fun a10 H10 l10 hG10 => ?_)
  have hG10 : gH D A _ [(q, .inr (5, [.int 0, .ref a1, .ref a2, .ref a3, .ref a4, .int 0, .ref a5, .ref a6, .ref a7, .int 0, .ref a8, .int 0, .ref a9, .int 0, .ref a10, .null, .int 0, .int 0, .null, .int 0, .null, .null, .null, .null, .int 0, .null, .int 0, .null, .null, .int 0, .null, .int 0, .int 0, .int 0, .null, .null, .int 0, .int 0, .int 0, .int 0])), gz a1 cI 8, gz a2 cI 24, gz a3 cI 8, gz a4 cI 8, gz a5 cI 15, gz a6 cI 3, gz a7 cI 14, gz a8 cI 112, gz a9 cI 28, gz a10 cI 12] H10 l10 := hG10
  refine g_arr (b := 3) (n := 200) (k := 15) (ty := .int) (cA := cI) (na := 200) GB hin iuX5 tyX5 tyX5_ok nmX5 hK rfl (by decide) wF_X5_40 rfl rfl (fun _ => rfl) (fun _ => rfl) (by simp) wA_int rfl 0 rfl hA rfl (by decide) (by decide) (by decide) (Nat.le_of_ble_eq_true rfl) (Nat.le_of_ble_eq_true rfl) hG10 h0l dX5_init_83 (fun st k => lv_sipush GB.1 GB.2.1 dX5_init_84 rfl k) dX5_init_87 dX5_init_89 (fun a11 H11 l11 hG11 => ?_)
  have hG11 : gH D A _ [(q, .inr (5, [.int 0, .ref a1, .ref a2, .ref a3, .ref a4, .int 0, .ref a5, .ref a6, .ref a7, .int 0, .ref a8, .int 0, .ref a9, .int 0, .ref a10, .ref a11, .int 0, .int 0, .null, .int 0, .null, .null, .null, .null, .int 0, .null, .int 0, .null, .null, .int 0, .null, .int 0, .int 0, .int 0, .null, .null, .int 0, .int 0, .int 0, .int 0])), gz a1 cI 8, gz a2 cI 24, gz a3 cI 8, gz a4 cI 8, gz a5 cI 15, gz a6 cI 3, gz a7 cI 14, gz a8 cI 112, gz a9 cI 28, gz a10 cI 12, gz a11 cI 200] H11 l11 := hG11
  refine g_arr (b := 1) (n := 3) (k := 18) (ty := .int) (cA := cI) (na := 3) GB hin iuX5 tyX5 tyX5_ok nmX5 hK rfl (by decide) wF_X5_43 rfl rfl (fun _ => rfl) (fun _ => rfl) (by simp) wA_int rfl 0 rfl hA rfl (by decide) (by decide) (by decide) (Nat.le_of_ble_eq_true rfl) (Nat.le_of_ble_eq_true rfl) hG11 h0l dX5_init_92 (fun st k => lv_iconst GB.1 GB.2.1 dX5_init_93 rfl k) dX5_init_94 dX5_init_96 (fun a12 H12 l12 hG12 => ?_)
  have hG12 : gH D A _ [(q, .inr (5, [.int 0, .ref a1, .ref a2, .ref a3, .ref a4, .int 0, .ref a5, .ref a6, .ref a7, .int 0, .ref a8, .int 0, .ref a9, .int 0, .ref a10, .ref a11, .int 0, .int 0, .ref a12, .int 0, .null, .null, .null, .null, .int 0, .null, .int 0, .null, .null, .int 0, .null, .int 0, .int 0, .int 0, .null, .null, .int 0, .int 0, .int 0, .int 0])), gz a1 cI 8, gz a2 cI 24, gz a3 cI 8, gz a4 cI 8, gz a5 cI 15, gz a6 cI 3, gz a7 cI 14, gz a8 cI 112, gz a9 cI 28, gz a10 cI 12, gz a11 cI 200, gz a12 cI 3] H12 l12 := hG12
  refine g_arr (b := 2) (n := 8) (k := 20) (ty := .int) (cA := cI) (na := 8) GB hin iuX5 tyX5 tyX5_ok nmX5 hK rfl (by decide) wF_X5_46 rfl rfl (fun _ => rfl) (fun _ => rfl) (by simp) wA_int rfl 0 rfl hA rfl (by decide) (by decide) (by decide) (Nat.le_of_ble_eq_true rfl) (Nat.le_of_ble_eq_true rfl) hG12 h0l dX5_init_99 (fun st k => lv_bipush GB.1 GB.2.1 dX5_init_100 rfl k) dX5_init_102 dX5_init_104 (fun a13 H13 l13 hG13 => ?_)
  have hG13 : gH D A _ [(q, .inr (5, [.int 0, .ref a1, .ref a2, .ref a3, .ref a4, .int 0, .ref a5, .ref a6, .ref a7, .int 0, .ref a8, .int 0, .ref a9, .int 0, .ref a10, .ref a11, .int 0, .int 0, .ref a12, .int 0, .ref a13, .null, .null, .null, .int 0, .null, .int 0, .null, .null, .int 0, .null, .int 0, .int 0, .int 0, .null, .null, .int 0, .int 0, .int 0, .int 0])), gz a1 cI 8, gz a2 cI 24, gz a3 cI 8, gz a4 cI 8, gz a5 cI 15, gz a6 cI 3, gz a7 cI 14, gz a8 cI 112, gz a9 cI 28, gz a10 cI 12, gz a11 cI 200, gz a12 cI 3, gz a13 cI 8] H13 l13 := hG13
  refine g_arr (b := 2) (n := 24) (k := 21) (ty := .int) (cA := cI) (na := 24) GB hin iuX5 tyX5 tyX5_ok nmX5 hK rfl (by decide) wF_X5_49 rfl rfl (fun _ => rfl) (fun _ => rfl) (by simp) wA_int rfl 0 rfl hA rfl (by decide) (by decide) (by decide) (Nat.le_of_ble_eq_true rfl) (Nat.le_of_ble_eq_true rfl) hG13 h0l dX5_init_107 (fun st k => lv_bipush GB.1 GB.2.1 dX5_init_108 rfl k) dX5_init_110 dX5_init_112 (fun a14 H14 l14 hG14 => ?_)
  have hG14 : gH D A _ [(q, .inr (5, [.int 0, .ref a1, .ref a2, .ref a3, .ref a4, .int 0, .ref a5, .ref a6, .ref a7, .int 0, .ref a8, .int 0, .ref a9, .int 0, .ref a10, .ref a11, .int 0, .int 0, .ref a12, .int 0, .ref a13, .ref a14, .null, .null, .int 0, .null, .int 0, .null, .null, .int 0, .null, .int 0, .int 0, .int 0, .null, .null, .int 0, .int 0, .int 0, .int 0])), gz a1 cI 8, gz a2 cI 24, gz a3 cI 8, gz a4 cI 8, gz a5 cI 15, gz a6 cI 3, gz a7 cI 14, gz a8 cI 112, gz a9 cI 28, gz a10 cI 12, gz a11 cI 200, gz a12 cI 3, gz a13 cI 8, gz a14 cI 24] H14 l14 := hG14
  refine g_arr (b := 2) (n := 8) (k := 22) (ty := .int) (cA := cI) (na := 8) GB hin iuX5 tyX5 tyX5_ok nmX5 hK rfl (by decide) wF_X5_52 rfl rfl (fun _ => rfl) (fun _ => rfl) (by simp) wA_int rfl 0 rfl hA rfl (by decide) (by decide) (by decide) (Nat.le_of_ble_eq_true rfl) (Nat.le_of_ble_eq_true rfl) hG14 h0l dX5_init_115 (fun st k => lv_bipush GB.1 GB.2.1 dX5_init_116 rfl k) dX5_init_118 dX5_init_120 (fun a15 H15 l15 hG15 => ?_)
  have hG15 : gH D A _ [(q, .inr (5, [.int 0, .ref a1, .ref a2, .ref a3, .ref a4, .int 0, .ref a5, .ref a6, .ref a7, .int 0, .ref a8, .int 0, .ref a9, .int 0, .ref a10, .ref a11, .int 0, .int 0, .ref a12, .int 0, .ref a13, .ref a14, .ref a15, .null, .int 0, .null, .int 0, .null, .null, .int 0, .null, .int 0, .int 0, .int 0, .null, .null, .int 0, .int 0, .int 0, .int 0])), gz a1 cI 8, gz a2 cI 24, gz a3 cI 8, gz a4 cI 8, gz a5 cI 15, gz a6 cI 3, gz a7 cI 14, gz a8 cI 112, gz a9 cI 28, gz a10 cI 12, gz a11 cI 200, gz a12 cI 3, gz a13 cI 8, gz a14 cI 24, gz a15 cI 8] H15 l15 := hG15
  refine g_arr (b := 2) (n := 8) (k := 23) (ty := .int) (cA := cI) (na := 8) GB hin iuX5 tyX5 tyX5_ok nmX5 hK rfl (by decide) wF_X5_55 rfl rfl (fun _ => rfl) (fun _ => rfl) (by simp) wA_int rfl 0 rfl hA rfl (by decide) (by decide) (by decide) (Nat.le_of_ble_eq_true rfl) (Nat.le_of_ble_eq_true rfl) hG15 h0l dX5_init_123 (fun st k => lv_bipush GB.1 GB.2.1 dX5_init_124 rfl k) dX5_init_126 dX5_init_128 (fun a16 H16 l16 hG16 => ?_)
  have hG16 : gH D A _ [(q, .inr (5, [.int 0, .ref a1, .ref a2, .ref a3, .ref a4, .int 0, .ref a5, .ref a6, .ref a7, .int 0, .ref a8, .int 0, .ref a9, .int 0, .ref a10, .ref a11, .int 0, .int 0, .ref a12, .int 0, .ref a13, .ref a14, .ref a15, .ref a16, .int 0, .null, .int 0, .null, .null, .int 0, .null, .int 0, .int 0, .int 0, .null, .null, .int 0, .int 0, .int 0, .int 0])), gz a1 cI 8, gz a2 cI 24, gz a3 cI 8, gz a4 cI 8, gz a5 cI 15, gz a6 cI 3, gz a7 cI 14, gz a8 cI 112, gz a9 cI 28, gz a10 cI 12, gz a11 cI 200, gz a12 cI 3, gz a13 cI 8, gz a14 cI 24, gz a15 cI 8, gz a16 cI 8] H16 l16 := hG16
  refine g_arr (b := 2) (n := 15) (k := 25) (ty := .int) (cA := cI) (na := 15) GB hin iuX5 tyX5 tyX5_ok nmX5 hK rfl (by decide) wF_X5_58 rfl rfl (fun _ => rfl) (fun _ => rfl) (by simp) wA_int rfl 0 rfl hA rfl (by decide) (by decide) (by decide) (Nat.le_of_ble_eq_true rfl) (Nat.le_of_ble_eq_true rfl) hG16 h0l dX5_init_131 (fun st k => lv_bipush GB.1 GB.2.1 dX5_init_132 rfl k) dX5_init_134 dX5_init_136 (fun a17 H17 l17 hG17 => ?_)
  have hG17 : gH D A _ [(q, .inr (5, [.int 0, .ref a1, .ref a2, .ref a3, .ref a4, .int 0, .ref a5, .ref a6, .ref a7, .int 0, .ref a8, .int 0, .ref a9, .int 0, .ref a10, .ref a11, .int 0, .int 0, .ref a12, .int 0, .ref a13, .ref a14, .ref a15, .ref a16, .int 0, .ref a17, .int 0, .null, .null, .int 0, .null, .int 0, .int 0, .int 0, .null, .null, .int 0, .int 0, .int 0, .int 0])), gz a1 cI 8, gz a2 cI 24, gz a3 cI 8, gz a4 cI 8, gz a5 cI 15, gz a6 cI 3, gz a7 cI 14, gz a8 cI 112, gz a9 cI 28, gz a10 cI 12, gz a11 cI 200, gz a12 cI 3, gz a13 cI 8, gz a14 cI 24, gz a15 cI 8, gz a16 cI 8, gz a17 cI 15] H17 l17 := hG17
  refine g_arr (b := 2) (n := 9) (k := 27) (ty := .int) (cA := cI) (na := 9) GB hin iuX5 tyX5 tyX5_ok nmX5 hK rfl (by decide) wF_X5_61 rfl rfl (fun _ => rfl) (fun _ => rfl) (by simp) wA_int rfl 0 rfl hA rfl (by decide) (by decide) (by decide) (Nat.le_of_ble_eq_true rfl) (Nat.le_of_ble_eq_true rfl) hG17 h0l dX5_init_139 (fun st k => lv_bipush GB.1 GB.2.1 dX5_init_140 rfl k) dX5_init_142 dX5_init_144 (fun a18 H18 l18 hG18 => ?_)
  have hG18 : gH D A _ [(q, .inr (5, [.int 0, .ref a1, .ref a2, .ref a3, .ref a4, .int 0, .ref a5, .ref a6, .ref a7, .int 0, .ref a8, .int 0, .ref a9, .int 0, .ref a10, .ref a11, .int 0, .int 0, .ref a12, .int 0, .ref a13, .ref a14, .ref a15, .ref a16, .int 0, .ref a17, .int 0, .ref a18, .null, .int 0, .null, .int 0, .int 0, .int 0, .null, .null, .int 0, .int 0, .int 0, .int 0])), gz a1 cI 8, gz a2 cI 24, gz a3 cI 8, gz a4 cI 8, gz a5 cI 15, gz a6 cI 3, gz a7 cI 14, gz a8 cI 112, gz a9 cI 28, gz a10 cI 12, gz a11 cI 200, gz a12 cI 3, gz a13 cI 8, gz a14 cI 24, gz a15 cI 8, gz a16 cI 8, gz a17 cI 15, gz a18 cI 9] H18 l18 := hG18
  refine g_arr (b := 1) (n := 3) (k := 28) (ty := .int) (cA := cI) (na := 3) GB hin iuX5 tyX5 tyX5_ok nmX5 hK rfl (by decide) wF_X5_64 rfl rfl (fun _ => rfl) (fun _ => rfl) (by simp) wA_int rfl 0 rfl hA rfl (by decide) (by decide) (by decide) (Nat.le_of_ble_eq_true rfl) (Nat.le_of_ble_eq_true rfl) hG18 h0l dX5_init_147 (fun st k => lv_iconst GB.1 GB.2.1 dX5_init_148 rfl k) dX5_init_149 dX5_init_151 (fun a19 H19 l19 hG19 => ?_)
  have hG19 : gH D A _ [(q, .inr (5, [.int 0, .ref a1, .ref a2, .ref a3, .ref a4, .int 0, .ref a5, .ref a6, .ref a7, .int 0, .ref a8, .int 0, .ref a9, .int 0, .ref a10, .ref a11, .int 0, .int 0, .ref a12, .int 0, .ref a13, .ref a14, .ref a15, .ref a16, .int 0, .ref a17, .int 0, .ref a18, .ref a19, .int 0, .null, .int 0, .int 0, .int 0, .null, .null, .int 0, .int 0, .int 0, .int 0])), gz a1 cI 8, gz a2 cI 24, gz a3 cI 8, gz a4 cI 8, gz a5 cI 15, gz a6 cI 3, gz a7 cI 14, gz a8 cI 112, gz a9 cI 28, gz a10 cI 12, gz a11 cI 200, gz a12 cI 3, gz a13 cI 8, gz a14 cI 24, gz a15 cI 8, gz a16 cI 8, gz a17 cI 15, gz a18 cI 9, gz a19 cI 3] H19 l19 := hG19
  refine g_arr (b := 2) (n := 9) (k := 30) (ty := .int) (cA := cI) (na := 9) GB hin iuX5 tyX5 tyX5_ok nmX5 hK rfl (by decide) wF_X5_67 rfl rfl (fun _ => rfl) (fun _ => rfl) (by simp) wA_int rfl 0 rfl hA rfl (by decide) (by decide) (by decide) (Nat.le_of_ble_eq_true rfl) (Nat.le_of_ble_eq_true rfl) hG19 h0l dX5_init_154 (fun st k => lv_bipush GB.1 GB.2.1 dX5_init_155 rfl k) dX5_init_157 dX5_init_159 (fun a20 H20 l20 hG20 => ?_)
  have hG20 : gH D A _ [(q, .inr (5, [.int 0, .ref a1, .ref a2, .ref a3, .ref a4, .int 0, .ref a5, .ref a6, .ref a7, .int 0, .ref a8, .int 0, .ref a9, .int 0, .ref a10, .ref a11, .int 0, .int 0, .ref a12, .int 0, .ref a13, .ref a14, .ref a15, .ref a16, .int 0, .ref a17, .int 0, .ref a18, .ref a19, .int 0, .ref a20, .int 0, .int 0, .int 0, .null, .null, .int 0, .int 0, .int 0, .int 0])), gz a1 cI 8, gz a2 cI 24, gz a3 cI 8, gz a4 cI 8, gz a5 cI 15, gz a6 cI 3, gz a7 cI 14, gz a8 cI 112, gz a9 cI 28, gz a10 cI 12, gz a11 cI 200, gz a12 cI 3, gz a13 cI 8, gz a14 cI 24, gz a15 cI 8, gz a16 cI 8, gz a17 cI 15, gz a18 cI 9, gz a19 cI 3, gz a20 cI 9] H20 l20 := hG20
  refine g_arr (b := 2) (n := 9) (k := 34) (ty := .int) (cA := cI) (na := 9) GB hin iuX5 tyX5 tyX5_ok nmX5 hK rfl (by decide) wF_X5_70 rfl rfl (fun _ => rfl) (fun _ => rfl) (by simp) wA_int rfl 0 rfl hA rfl (by decide) (by decide) (by decide) (Nat.le_of_ble_eq_true rfl) (Nat.le_of_ble_eq_true rfl) hG20 h0l dX5_init_162 (fun st k => lv_bipush GB.1 GB.2.1 dX5_init_163 rfl k) dX5_init_165 dX5_init_167 (fun a21 H21 l21 hG21 => ?_)
  have hG21 : gH D A _ [(q, .inr (5, [.int 0, .ref a1, .ref a2, .ref a3, .ref a4, .int 0, .ref a5, .ref a6, .ref a7, .int 0, .ref a8, .int 0, .ref a9, .int 0, .ref a10, .ref a11, .int 0, .int 0, .ref a12, .int 0, .ref a13, .ref a14, .ref a15, .ref a16, .int 0, .ref a17, .int 0, .ref a18, .ref a19, .int 0, .ref a20, .int 0, .int 0, .int 0, .ref a21, .null, .int 0, .int 0, .int 0, .int 0])), gz a1 cI 8, gz a2 cI 24, gz a3 cI 8, gz a4 cI 8, gz a5 cI 15, gz a6 cI 3, gz a7 cI 14, gz a8 cI 112, gz a9 cI 28, gz a10 cI 12, gz a11 cI 200, gz a12 cI 3, gz a13 cI 8, gz a14 cI 24, gz a15 cI 8, gz a16 cI 8, gz a17 cI 15, gz a18 cI 9, gz a19 cI 3, gz a20 cI 9, gz a21 cI 9] H21 l21 := hG21
  refine g_arr (b := 2) (n := 10) (k := 35) (ty := .int) (cA := cI) (na := 10) GB hin iuX5 tyX5 tyX5_ok nmX5 hK rfl (by decide) wF_X5_73 rfl rfl (fun _ => rfl) (fun _ => rfl) (by simp) wA_int rfl 0 rfl hA rfl (by decide) (by decide) (by decide) (Nat.le_of_ble_eq_true rfl) (Nat.le_of_ble_eq_true rfl) hG21 h0l dX5_init_170 (fun st k => lv_bipush GB.1 GB.2.1 dX5_init_171 rfl k) dX5_init_173 dX5_init_175 (fun a22 H22 l22 hG22 => ?_)
  have hG22 : gH D A _ [(q, .inr (5, [.int 0, .ref a1, .ref a2, .ref a3, .ref a4, .int 0, .ref a5, .ref a6, .ref a7, .int 0, .ref a8, .int 0, .ref a9, .int 0, .ref a10, .ref a11, .int 0, .int 0, .ref a12, .int 0, .ref a13, .ref a14, .ref a15, .ref a16, .int 0, .ref a17, .int 0, .ref a18, .ref a19, .int 0, .ref a20, .int 0, .int 0, .int 0, .ref a21, .ref a22, .int 0, .int 0, .int 0, .int 0])), gz a1 cI 8, gz a2 cI 24, gz a3 cI 8, gz a4 cI 8, gz a5 cI 15, gz a6 cI 3, gz a7 cI 14, gz a8 cI 112, gz a9 cI 28, gz a10 cI 12, gz a11 cI 200, gz a12 cI 3, gz a13 cI 8, gz a14 cI 24, gz a15 cI 8, gz a16 cI 8, gz a17 cI 15, gz a18 cI 9, gz a19 cI 3, gz a20 cI 9, gz a21 cI 9, gz a22 cI 10] H22 l22 := hG22
  obtain ⟨ad, had⟩ : ∃ ad : Nat → Nat, ad = fun i => ([q, a1, a2, a3, a4, a5, a6, a7, a8, a9, a10, a11, a12, a13, a14, a15, a16, a17, a18, a19, a20, a21, a22] : List Nat).getD i 0 := ⟨_, rfl⟩
  have hd0 : ad 0 = q := by rw [had]; rfl
  have hd1 : ad 1 = a1 := by rw [had]; rfl
  have hd2 : ad 2 = a2 := by rw [had]; rfl
  have hd3 : ad 3 = a3 := by rw [had]; rfl
  have hd4 : ad 4 = a4 := by rw [had]; rfl
  have hd5 : ad 5 = a5 := by rw [had]; rfl
  have hd6 : ad 6 = a6 := by rw [had]; rfl
  have hd7 : ad 7 = a7 := by rw [had]; rfl
  have hd8 : ad 8 = a8 := by rw [had]; rfl
  have hd9 : ad 9 = a9 := by rw [had]; rfl
  have hd10 : ad 10 = a10 := by rw [had]; rfl
  have hd11 : ad 11 = a11 := by rw [had]; rfl
  have hd12 : ad 12 = a12 := by rw [had]; rfl
  have hd13 : ad 13 = a13 := by rw [had]; rfl
  have hd14 : ad 14 = a14 := by rw [had]; rfl
  have hd15 : ad 15 = a15 := by rw [had]; rfl
  have hd16 : ad 16 = a16 := by rw [had]; rfl
  have hd17 : ad 17 = a17 := by rw [had]; rfl
  have hd18 : ad 18 = a18 := by rw [had]; rfl
  have hd19 : ad 19 = a19 := by rw [had]; rfl
  have hd20 : ad 20 = a20 := by rw [had]; rfl
  have hd21 : ad 21 = a21 := by rw [had]; rfl
  have hd22 : ad 22 = a22 := by rw [had]; rfl
  have hWl : av_w (l, D, ad, f_ty cI cC) mSH (fun _ _ => 0) = [(q, .inr (5, [.int 0, .ref a1, .ref a2, .ref a3, .ref a4, .int 0, .ref a5, .ref a6, .ref a7, .int 0, .ref a8, .int 0, .ref a9, .int 0, .ref a10, .ref a11, .int 0, .int 0, .ref a12, .int 0, .ref a13, .ref a14, .ref a15, .ref a16, .int 0, .ref a17, .int 0, .ref a18, .ref a19, .int 0, .ref a20, .int 0, .int 0, .int 0, .ref a21, .ref a22, .int 0, .int 0, .int 0, .int 0])), gz a1 cI 8, gz a2 cI 24, gz a3 cI 8, gz a4 cI 8, gz a5 cI 15, gz a6 cI 3, gz a7 cI 14, gz a8 cI 112, gz a9 cI 28, gz a10 cI 12, gz a11 cI 200, gz a12 cI 3, gz a13 cI 8, gz a14 cI 24, gz a15 cI 8, gz a16 cI 8, gz a17 cI 15, gz a18 cI 9, gz a19 cI 3, gz a20 cI 9, gz a21 cI 9, gz a22 cI 10] := by
    rw [av_w0, w_mSH]
    simp only [hd0, hd1, hd2, hd3, hd4, hd5, hd6, hd7, hd8, hd9, hd10, hd11, hd12, hd13, hd14, hd15, hd16, hd17, hd18, hd19, hd20, hd21, hd22]
  have hDw : va_D A (av_w (l, D, ad, f_ty cI cC) mSH (fun _ _ => 0)) := by rw [hWl]; exact hG22.2.1
  have hR0 : av_R (l, D, ad, f_ty cI cC) mSH H22 (fun _ _ => 0) := ⟨by rw [hWl]; exact hG22.1, av_own hDw⟩
  have hsub := av_sub hDw
  have had0 : ad 0 = q := hd0
  have hKE : av_K (l, D, ad, f_ty cI cC) s := f_K (cI := cI) (cC := cC) rfl hK hN
  refine lv_aload_n GB.1 GB.2.1 dX5_init_178 rfl h0l ?_
  refine W.eq (g2 := F0 m 179 ls [Value.ref (ad 0)]) (by rw [had0]; try rfl) ?_
  refine av_useV (M := mX5_init) (E := (l, D, ad, f_ty cI cC)) (SH := mSH) (i := 0) (as := []) (rest := []) mX5_clearTold GB hKE dX5_init_179 rfl rfl rfl mbX5_clearTold rfl wI_X5_clearTold wS_X5_clearTold wM_X5_76 ⟨Nat.le_of_ble_eq_true rfl, Nat.le_of_ble_eq_true rfl⟩ (by decide) hl.1 ⟨Nat.le_of_ble_eq_true rfl, Nat.le_of_ble_eq_true rfl⟩ hR0 hsub hG22.2.2 (s_clearTold (Q := fun v σ' => v = none ∧ mSp (fun _ _ => 0) σ' ∧ mW σ' p_W0) (fun σ' S' W' => ⟨rfl, S', W'⟩)) (fun v σ1 K1 j1 hq1 hR1 _ _ hS1 => ?_)
  obtain ⟨rfl, S1, W1⟩ := hq1
  refine lv_aload_n GB.1 GB.2.1 dX5_init_182 rfl h0l ?_
  refine W.eq (g2 := F0 m 183 ls [Value.ref (ad 0)]) (by rw [had0]; try rfl) ?_
  refine av_useV (M := mX5_init) (E := (l, D, ad, f_ty cI cC)) (SH := mSH) (i := 0) (as := []) (rest := []) mX5_tellsAll GB hKE dX5_init_183 rfl rfl rfl mbX5_tellsAll rfl wI_X5_tellsAll wS_X5_tellsAll wM_X5_79 ⟨Nat.le_of_ble_eq_true rfl, Nat.le_of_ble_eq_true rfl⟩ (by decide) hl.1 ⟨Nat.le_of_ble_eq_true rfl, Nat.le_of_ble_eq_true rfl⟩ hR1 hsub hS1 (s_tellsAll (Q := fun v σ' => v = none ∧ mSp σ1 σ' ∧ mW σ' f_W) W1 (fun σ' S' W' => ⟨rfl, S', W'⟩)) (fun v σ2 K2 j2 hq2 hR2 _ _ hS2 => ?_)
  obtain ⟨rfl, S2, W2⟩ := hq2
  have hT2 : mTx σ2 [] := ⟨by rw [S2 0 16 (by omega) (by omega), S1 0 16 (by omega) (by omega)]; rfl, by decide, fun i c hc => by simp at hc, fun c hc => by simp at hc⟩
  refine lv_aload_n GB.1 GB.2.1 dX5_init_186 rfl h0l ?_
  refine W.eq (g2 := F0 m 187 ls [Value.ref (ad 0)]) (by rw [had0]; try rfl) ?_
  refine av_useV (M := mX5_init) (E := (l, D, ad, f_ty cI cC)) (SH := mSH) (i := 0) (as := []) (rest := []) mX5_settles GB hKE dX5_init_187 rfl rfl rfl mbX5_settles rfl wI_X5_settles wS_X5_settles wM_X5_82 ⟨Nat.le_of_ble_eq_true rfl, Nat.le_of_ble_eq_true rfl⟩ (by decide) hl.1 ⟨Nat.le_of_ble_eq_true rfl, Nat.le_of_ble_eq_true rfl⟩ hR2 hsub hS2 (s_settles (Q := fun v σ' => v = none ∧ mRM σ' (q_lay f_W [])) hT2 W2 f_Wv (fun σ' m' => ⟨rfl, m'⟩)) (fun v σ3 K3 j3 hq3 hR3 _ _ hS3 => ?_)
  obtain ⟨rfl, m3⟩ := hq3
  exact W.vret GB.1 GB.2.1 B.returns (fun t ht hW => ⟨⟨(ad, σ3), rfl, ⟨m3, had0⟩, by rw [ht]; exact hR3, hsub⟩, hS3.F ht⟩) hS3.2.2 dX5_init_190
