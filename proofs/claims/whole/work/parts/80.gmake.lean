/-! making: arrays and objects that come to a world -/
abbrev gty (cI cC : ClassId) : List (ClassId × FieldType) := [(cI, .int), (cC, .char)]
def gH (D : va_G) (A : Nat → Prop) (H0 : Heap) (ws : va_W) (H : Heap) (locs : List Loc) : Prop := va_P D vwCl ws H ∧ va_D A ws ∧ va_S A H0 H locs
abbrev gz (q : Nat) (cA : ClassId) (n : Nat) : Nat × va_E := (q, .inl (cA, n, .inl (fun _ => 0)))
/-- what holds in the frame of a constructor -/
def gB (M : av_Y) (p : Program) (s : State) (m : MethodId) (args : Array Value) (c : Code) : Prop :=
  p.tables.exec = Jvm.exec ∧ c.code = M.2.1 ∧ c.maxLocals = M.2.2.1 ∧ (∀ w ∈ av_T, w.before args s = true) ∧ s.vm.findClass M.1.cls = some m.cls
def gM (M : av_Y) (mc ms : Nat) : Room := { frames := M.2.2.2.2.1, cells := mc, slots := ms, locals := M.2.2.2.2.2 }
/-- the call of a constructor: the object alone is there, and its arrays come -/
def gC (l : Launch) (D : va_G) (cI cC : ClassId) (M : av_Y) (mc ms : Nat) (q ci : Nat) (fs : List Value) (As : List Value) (w1 : List Nat → va_W) (post : List Nat → Prop) (sz : Nat) : Prop :=
  Met l M.1 (av_ws M) (gM M mc ms) (va_Pc (.ref q :: As) (fun U => U.heap.size = sz ∧ va_P D vwCl [(q, .inr (ci, fs))] U.heap ∧ va_K D vwCl (gty cI cC) U))
    (va_Qv post (fun qs t => va_P D vwCl (w1 qs) t.heap ∧ va_D (va_A [(q, .inr (ci, fs))] sz) (w1 qs)) (va_A [(q, .inr (ci, fs))] sz)) mc ms (va_A [(q, .inr (ci, fs))] sz)
theorem g_join {ws w1 : va_W} {x : Nat × va_E} {D : va_G} {A0 : Nat → Prop} {H H1 : Heap} (hP : va_P D vwCl (ws ++ [x]) H) (hD : va_D A0 (ws ++ [x])) (hk : ∀ z : Nat, z < H.size → ¬ va_A [x] H.size z → H1[z]? = H[z]?) (hF : ∀ z, va_A [x] H.size z → A0 z) (hP1 : va_P D vwCl w1 H1) (hD1 : va_D (va_A [x] H.size) w1) : va_P D vwCl (ws ++ w1) H1 ∧ va_D A0 (ws ++ w1) := by
  have old : ∀ (k : Nat) (y : Nat × va_E), ws[k]? = some y → (ws ++ [x])[k]? = some y := fun k y h => by rw [List.getElem?_append_left (List.getElem?_eq_some_iff.mp h).1]; exact h
  have last : (ws ++ [x])[ws.length]? = some x := by rw [List.getElem?_append_right (Nat.le_refl _), Nat.sub_self]; rfl
  have apart : ∀ (k : Nat) (y : Nat × va_E), ws[k]? = some y → y.1 < H.size ∧ ¬ va_A [x] H.size y.1 := by
    intro k y h
    have hlt := (hP k y (old k y h)).lt
    refine ⟨hlt, fun hh => ?_⟩
    rcases hh with ⟨k2, e, h2⟩ | h2
    · have hk0 : k2 = 0 := by
        have := (List.getElem?_eq_some_iff.mp h2).1
        simp at this
        exact this
      subst hk0
      have hx : x = (y.1, e) := Option.some.inj h2
      have := hD.1 k ws.length y x (old k y h) last (by rw [hx])
      have h3 := (List.getElem?_eq_some_iff.mp h).1
      omega
    · omega
  refine ⟨va_P.app (fun k y h => ?_) hP1, va_D.app ⟨fun i j a b ha hb hab => hD.1 i j a b (old i a ha) (old j b hb) hab, fun k y h => hD.2 k y (old k y h)⟩ (hD1.weaken (fun k y _ h => hF y.1 h)) (fun i j a b ha hb hab => ?_)⟩
  · obtain ⟨g1, g2⟩ := apart k y h
    exact (hP k y (old k y h)).kept (hk y.1 g1 g2)
  · exact (apart i a ha).2 (by rw [hab]; exact hD1.2 j b hb)
section GC
variable {p : Program} {l : Launch} {e : Env} {R : Room} {s : State} {m : MethodId} {args : Array Value} {below : List Frame} {meth : Method} {c : Code} {H : Heap} {locs : List Loc} {cells slots : Nat} {Q : State → Prop}
variable {M : av_Y} {pc : Nat} {ls : Array Slot} {rest : List Value} {D : va_G} {A : Nat → Prop} {ws : va_W} {H0 : Heap} {cI cC : ClassId}
theorem g_newa {atype : ArrayType} {ty : FieldType} {cA : ClassId} (B : gB M p s m args c) (harr : Cond.arrayClass (newarray.typeOf atype) ∈ av_T) (hty : newarray.typeOf atype = ty) (hK : va_K D vwCl (gty cI cC) s) (t0 : Nat) (ht : (gty cI cC)[t0]? = some (cA, ty)) (hG : gH D A H0 ws H locs) (hA : ∀ q, H0.size ≤ q → A q)
    {n : Int32} {N : Nat} (hdef : defaultValue ty = .int 0) (hn : ¬ n < 0) (hN : n.toNatClampNeg = N) (hbytes : N * componentBytes ty ≤ 536870912) (hcells : cells + 1 ≤ R.cells) (hslots : slots + N ≤ R.slots) (hdg : decode M.2.1 pc = .ok (.newarray atype, 2))
    (kk : ∀ (q : Nat) (H1 : Heap), gH D A H0 (ws ++ [gz q cA N]) H1 locs → W p l e R s m args below meth c H1 locs (cells + 1) (slots + N) Q (F0 m (pc + 2) ls (.ref q :: rest))) : W p l e R s m args below meth c H locs cells slots Q (F0 m pc ls (.int n :: rest)) := by
  refine va_newa (a0 := (N, .inl (fun _ => 0))) B.1 B.2.1 (B.2.2.2.1 _ harr) hty hK hG.1 hG.2.1 hG.2.2 hA (fun cA => ?_) hn hN hbytes hcells hslots hdg (fun q cA' H1 hK1 hP hD hS => ?_)
  · rw [hdef]; rfl
  · have e : cA' = cA := by
      have h1 := (hK1.2 2 (cA', ty) rfl).2
      have h2 := (hK.2 t0 _ ht).2
      cases ty <;> first | exact Option.some.inj (h1.symm.trans h2) | cases hdef
    subst e
    exact kk q H1 ⟨hP, hD, hS⟩
theorem g_putF {ci N k idx h0 q : Nat} {CN : String} {T : u_T} {fs : List Value} (B : gB M p s m args c) (hin2 : meth.name = "<init>") (hin : ∀ w ∈ u_ws CN T N, w ∈ av_T) (ty0 : Nat → FieldType) (hty : ∀ k, k < N → parseFieldDescriptor (T k).2.2.1 = some (ty0 k)) (hnm : ∀ a, a < N → ∀ b, b < N → a ≠ b → (T a).2.1 ≠ (T b).2.1) (hK : va_K D vwCl (gty cI cC) s) (hc : vwCl[ci]? = some (CN, T, N)) (hk : k < N)
    (hlink : Cond.fieldLink M.1.cls idx (T k).1 (T k).2.1 (T k).2.2.1 ∈ av_T) (hfin : (T k).2.2.2 = true) (hdecl : (T k).1 = M.1.cls) (hnar : narrow (ty0 k) (.ref q) = .ref q) (hfit : fits (ty0 k) (.ref q) = true) (hl : k < fs.length) (hG : gH D A H0 ((h0, .inr (ci, fs)) :: ws) H locs) (hdg : decode M.2.1 pc = .ok (.putfield idx, 3))
    (kk : ∀ (H1 : Heap) (locs1 : List Loc), gH D A H0 ((h0, .inr (ci, fs.set k (.ref q))) :: ws) H1 locs1 → W p l e R s m args below meth c H1 locs1 cells slots Q (F0 m (pc + 3) ls rest)) : W p l e R s m args below meth c H locs cells slots Q (F0 m pc ls (.ref q :: .ref h0 :: rest)) :=
  va_putF (ref := (T k).1) (v := .ref q) (ty := ty0 k) B.1 B.2.1 B.2.2.2.1 hin ty0 hty hnm B.2.2.2.2 hK hG.1 hG.2.1 hG.2.2 0 rfl hc k hk (B.2.2.2.1 _ hlink) (fun _ h9 => h9) hfin hin2 hdecl (hty k hk) hnar hfit hl hdg (fun H1 locs1 hP hD hS => kk H1 locs1 ⟨hP, hD, hS⟩)
/-- a field and its array: aload_0, the length, newarray, putfield -/
theorem g_arr {atype : ArrayType} {ty : FieldType} {cA : ClassId} {ci N k idx h0 b na : Nat} {n : Int32} {CN : String} {T : u_T} {fs : List Value} (B : gB M p s m args c) (hin2 : meth.name = "<init>") (hin : ∀ w ∈ u_ws CN T N, w ∈ av_T) (ty0 : Nat → FieldType) (hty0 : ∀ k, k < N → parseFieldDescriptor (T k).2.2.1 = some (ty0 k)) (hnm : ∀ a, a < N → ∀ b, b < N → a ≠ b → (T a).2.1 ≠ (T b).2.1) (hK : va_K D vwCl (gty cI cC) s) (hc : vwCl[ci]? = some (CN, T, N)) (hk : k < N)
    (hlink : Cond.fieldLink M.1.cls idx (T k).1 (T k).2.1 (T k).2.2.1 ∈ av_T) (hfin : (T k).2.2.2 = true) (hdecl : (T k).1 = M.1.cls) (hnar : ∀ q : Nat, narrow (ty0 k) (.ref q) = .ref q) (hfit : ∀ q : Nat, fits (ty0 k) (.ref q) = true) (hl : k < fs.length)
    (harr : Cond.arrayClass (newarray.typeOf atype) ∈ av_T) (hty : newarray.typeOf atype = ty) (t0 : Nat) (ht : (gty cI cC)[t0]? = some (cA, ty)) (hA : ∀ q, H0.size ≤ q → A q) (hdef : defaultValue ty = .int 0) (hn : ¬ n < 0) (hN : n.toNatClampNeg = na) (hbytes : na * componentBytes ty ≤ 536870912) (hcells : cells + 1 ≤ R.cells) (hslots : slots + na ≤ R.slots)
    (hG : gH D A H0 ((h0, .inr (ci, fs)) :: ws) H locs) (h0l : ls[0]? = some (.val (.ref h0))) (d0 : decode M.2.1 pc = .ok (.aload_n 0, 1)) (hpush : ∀ st : List Value, W p l e R s m args below meth c H locs cells slots Q (F0 m (pc + 1 + b) ls (.int n :: st)) → W p l e R s m args below meth c H locs cells slots Q (F0 m (pc + 1) ls st))
    (d2 : decode M.2.1 (pc + 1 + b) = .ok (.newarray atype, 2)) (d3 : decode M.2.1 (pc + 1 + b + 2) = .ok (.putfield idx, 3))
    (kk : ∀ (q : Nat) (H1 : Heap) (locs1 : List Loc), gH D A H0 ((h0, .inr (ci, fs.set k (.ref q))) :: (ws ++ [gz q cA na])) H1 locs1 → W p l e R s m args below meth c H1 locs1 (cells + 1) (slots + na) Q (F0 m (pc + 1 + b + 2 + 3) ls rest)) : W p l e R s m args below meth c H locs cells slots Q (F0 m pc ls rest) := by
  refine lv_aload_n B.1 B.2.1 d0 rfl h0l ?_
  refine hpush _ ?_
  refine g_newa B harr hty hK t0 ht hG hA hdef hn hN hbytes hcells hslots d2 (fun q H1 hG1 => ?_)
  exact g_putF B hin2 hin ty0 hty0 hnm hK hc hk hlink hfin hdecl (hnar q) (hfit q) hl hG1 d3 (fun H2 locs2 hG2 => kk q H2 locs2 hG2)
theorem g_new {ci N idx : Nat} {CN : String} {T : u_T} {fs : List Value} (B : gB M p s m args c) (hin : ∀ w ∈ u_ws CN T N, w ∈ av_T) (ty0 : Nat → FieldType) (hty : ∀ k, k < N → parseFieldDescriptor (T k).2.2.1 = some (ty0 k)) (hcl : Cond.classLink M.1.cls idx CN ∈ av_T) (hinst : Cond.instantiable CN N ∈ av_T) (hini : Cond.initialized CN ∈ av_T) (hK : va_K D vwCl (gty cI cC) s) (hc : vwCl[ci]? = some (CN, T, N)) (hfs : ∀ j, j < N → defaultValue (ty0 j) = vp_V fs j) (hcells : cells + 1 ≤ R.cells) (hslots : slots + N ≤ R.slots)
    (hA : ∀ q, H0.size ≤ q → A q) (hG : gH D A H0 ws H locs) (hdg : decode M.2.1 pc = .ok (.new idx, 3)) (kk : ∀ (q : Nat) (H1 : Heap), gH D A H0 (ws ++ [(q, .inr (ci, fs))]) H1 locs → W p l e R s m args below meth c H1 locs (cells + 1) (slots + N) Q (F0 m (pc + 3) ls (.ref q :: rest))) : W p l e R s m args below meth c H locs cells slots Q (F0 m pc ls rest) :=
  va_new (ci := ci) (fs := fs) B.1 B.2.1 B.2.2.2.1 hin ty0 hty B.2.2.2.2 (B.2.2.2.1 _ hcl) (B.2.2.2.1 _ hinst) (B.2.2.2.1 _ hini) hK hG.1 hG.2.1 hG.2.2 hA hc hfs hcells hslots hdg (fun q H1 hP hD hS => kk q H1 ⟨hP, hD, hS⟩)
theorem g_blind {sz q ci : Nat} {fs : List Value} {vs : List Value} : FrameBlind (va_Pc vs (fun U => U.heap.size = sz ∧ va_P D vwCl [(q, .inr (ci, fs))] U.heap ∧ va_K D vwCl (gty cI cC) U)) :=
  fun _ U g mk h => ⟨h.1, h.2.1, h.2.2.1, va_K.moved (u := U) (U := U.calling g mk _) (Vm.Alike.refl U.vm) h.2.2.2⟩
theorem g_after {Qc : Array Value → State → Outcome → State → Prop} {free : Addr → Prop} {M' : av_Y} {mc ms ci q : Nat} {fs As : List Value} {w1 : List Nat → va_W} {post : List Nat → Prop} {st0 : List Value} {a : Array Value}
    (hr : va_Run p l e R s m args below meth c H locs cells slots mc ms (F0 m pc ls st0) rest (va_Qv post (fun qs t => va_P D vwCl (w1 qs) t.heap ∧ va_D (va_A [(q, .inr (ci, fs))] H.size) (w1 qs)) (va_A [(q, .inr (ci, fs))] H.size) a) (va_A [(q, .inr (ci, fs))] H.size))
    (hA : ∀ q, H0.size ≤ q → A q) (hG : gH D A H0 (ws ++ [(q, .inr (ci, fs))]) H locs)
    (kk : ∀ (qs : List Nat) (H1 : Heap) (locs1 : List Loc), post qs → gH D A H0 (ws ++ w1 qs) H1 locs1 → W p l e R s m args below meth c H1 locs1 (cells + mc) (slots + ms) Q (F0 m (pc + 3) ls rest)) : W p l e R s m args below meth c H locs cells slots Q (F0 m pc ls st0) := by
  have hF : ∀ z, va_A [(q, Sum.inr (ci, fs))] H.size z → A z := by
    intro z hz
    rcases hz with ⟨k, e, h⟩ | h
    · have hk0 : k = 0 := by
        have := (List.getElem?_eq_some_iff.mp h).1
        simp at this
        exact this
      subst hk0
      have hx : (q, (Sum.inr (ci, fs) : va_E)) = (z, e) := Option.some.inj h
      have := hG.2.1.2 ws.length (q, .inr (ci, fs)) (by rw [List.getElem?_append_right (Nat.le_refl _), Nat.sub_self]; rfl)
      rw [hx] at this
      exact this
    · exact hA z (Nat.le_trans hG.2.2.1 h)
  refine va_callv hr hG.2.2 (fun z _ h => hF z h) hF (fun qs t H1 locs1 ht hvm hp hB hz hk hS => ?_)
  rw [ht] at hB
  obtain ⟨j1, j2⟩ := g_join hG.1 hG.2.1 hk hF hB.1 hB.2
  exact kk qs H1 locs1 hp ⟨j1, j2, hS⟩
theorem g_initN {M' : av_Y} {mc ms ci q idx n : Nat} {host : String} {fs As : List Value} {w1 : List Nat → va_W} {post : List Nat → Prop} (B : gB M p s m args c) (hM : gC l D cI cC M' mc ms q ci fs As w1 post H.size) (hb : av_mb M' n) (hret : M'.2.2.2.1 = none) (hname : M'.1.name = "<init>") (hinst : Cond.instanceMethod M'.1 ∈ av_T) (hl : va_Nw (.methodLinkNest M.1.cls idx M'.1 host) s) (hn : As.length = n) (hK : va_K D vwCl (gty cI cC) s)
    (hRm : M'.2.2.2.2.1 + 1 ≤ R.frames ∧ 8 + (M'.2.2.1 + 11) + M'.2.2.2.2.2 ≤ R.locals) (hroom : (rest.map fun v => v.category).sum ≤ 8) (hls : ls.size = M.2.2.1) (hf : cells + mc ≤ R.cells ∧ slots + ms ≤ R.slots) (hA : ∀ q, H0.size ≤ q → A q) (hG : gH D A H0 (ws ++ [(q, .inr (ci, fs))]) H locs) (hdg : decode M.2.1 pc = .ok (.invokespecial idx, 3))
    (kk : ∀ (qs : List Nat) (H1 : Heap) (locs1 : List Loc), post qs → gH D A H0 (ws ++ w1 qs) H1 locs1 → W p l e R s m args below meth c H1 locs1 (cells + mc) (slots + ms) Q (F0 m (pc + 3) ls rest)) : W p l e R s m args below meth c H locs cells slots Q (F0 m pc ls (As.reverse ++ .ref q :: rest)) := by
  have hP1 : va_P D vwCl [(q, .inr (ci, fs))] H := fun k y h => by
    have hk0 : k = 0 := by
      have := (List.getElem?_eq_some_iff.mp h).1
      simp at this
      exact this
    subst hk0
    cases h
    exact hG.1 ws.length _ (by rw [List.getElem?_append_right (Nat.le_refl _), Nat.sub_self]; rfl)
  refine g_after (M' := M') (As := As) (Qc := fun _ _ _ _ => True) (free := fun _ => True) (va_runIN (nL := M.2.2.1) (own := M.1.cls) (Ts := av_T) ⟨B.1, B.2.1, B.2.2.1, B.2.2.2.2, B.2.2.2.1⟩ hM ⟨va_cnB n B.2.2.2.1 (av_goodM hb) (by rw [← hret]; rfl) rfl rfl hl (B.2.2.2.1 _ hb.2.2.2.1) ⟨hb.1, hb.2.1, hb.2.2.1⟩ hRm, hname, B.2.2.2.1 _ hinst⟩ ⟨g_blind, fun U hU hW => ⟨rfl, by rw [hU], by rw [hU]; exact hP1, va_K.moved hW.alike hK⟩⟩ rfl hn hls rfl (by show 2 * 0 + _ ≤ 8; omega) hdg hf) hA hG kk
theorem g_initP {M' : av_Y} {mc ms ci q idx n : Nat} {fs As : List Value} {w1 : List Nat → va_W} {post : List Nat → Prop} (B : gB M p s m args c) (hM : gC l D cI cC M' mc ms q ci fs As w1 post H.size) (hb : av_mb M' n) (hret : M'.2.2.2.1 = none) (hname : M'.1.name = "<init>") (hinst : Cond.instanceMethod M'.1 ∈ av_T) (hl : Cond.methodLink M.1.cls idx M'.1 ∈ av_T) (hn : As.length = n) (hK : va_K D vwCl (gty cI cC) s)
    (hRm : M'.2.2.2.2.1 + 1 ≤ R.frames ∧ 8 + (M'.2.2.1 + 11) + M'.2.2.2.2.2 ≤ R.locals) (hroom : (rest.map fun v => v.category).sum ≤ 8) (hls : ls.size = M.2.2.1) (hf : cells + mc ≤ R.cells ∧ slots + ms ≤ R.slots) (hA : ∀ q, H0.size ≤ q → A q) (hG : gH D A H0 (ws ++ [(q, .inr (ci, fs))]) H locs) (hdg : decode M.2.1 pc = .ok (.invokespecial idx, 3))
    (kk : ∀ (qs : List Nat) (H1 : Heap) (locs1 : List Loc), post qs → gH D A H0 (ws ++ w1 qs) H1 locs1 → W p l e R s m args below meth c H1 locs1 (cells + mc) (slots + ms) Q (F0 m (pc + 3) ls rest)) : W p l e R s m args below meth c H locs cells slots Q (F0 m pc ls (As.reverse ++ .ref q :: rest)) := by
  have hP1 : va_P D vwCl [(q, .inr (ci, fs))] H := fun k y h => by
    have hk0 : k = 0 := by
      have := (List.getElem?_eq_some_iff.mp h).1
      simp at this
      exact this
    subst hk0
    cases h
    exact hG.1 ws.length _ (by rw [List.getElem?_append_right (Nat.le_refl _), Nat.sub_self]; rfl)
  refine g_after (M' := M') (As := As) (Qc := fun _ _ _ _ => True) (free := fun _ => True) (va_runI (nL := M.2.2.1) (own := M.1.cls) (Ts := av_T) ⟨B.1, B.2.1, B.2.2.1, B.2.2.2.2, B.2.2.2.1⟩ hM ⟨callB_of n B.2.2.2.1 (av_goodM hb) (by rw [← hret]; rfl) rfl rfl (B.2.2.2.1 _ hb.2.2.2.1) (B.2.2.2.1 _ hl) ⟨hb.1, hb.2.1, hb.2.2.1⟩ hRm, hname, B.2.2.2.1 _ hinst⟩ ⟨g_blind, fun U hU hW => ⟨rfl, by rw [hU], by rw [hU]; exact hP1, va_K.moved hW.alike hK⟩⟩ rfl hn hls rfl (by show 2 * 0 + _ ≤ 8; omega) hdg hf) hA hG kk
end GC
