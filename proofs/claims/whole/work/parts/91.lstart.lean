/-! the law's start: the class and the model are made -/
theorem lw_apart {ws : va_W} {x : Nat × va_E} {D : va_G} {A0 : Nat → Prop} {H : Heap} (hP : va_P D vwCl (ws ++ [x]) H) (hD : va_D A0 (ws ++ [x])) : ∀ (k : Nat) (y : Nat × va_E), ws[k]? = some y → y.1 < H.size ∧ ¬ va_A [x] H.size y.1 := by
  have old : ∀ (k : Nat) (y : Nat × va_E), ws[k]? = some y → (ws ++ [x])[k]? = some y := fun k y h => by rw [List.getElem?_append_left (List.getElem?_eq_some_iff.mp h).1]; exact h
  have last : (ws ++ [x])[ws.length]? = some x := by rw [List.getElem?_append_right (Nat.le_refl _), Nat.sub_self]; rfl
  intro k y h
  have hlt := (hP k y (old k y h)).lt
  refine ⟨hlt, fun hh => ?_⟩
  rcases hh with ⟨k2, e, h2⟩ | h2
  · have hk0 : k2 = 0 := by
      have := (List.getElem?_eq_some_iff.mp h2).1
      simp at this
      exact this
    subst hk0
    have hx : x = (y.1, e) := Option.some.inj h2
    have := hD.1 k ws.length y x (old k y h) last (by rw [hx])
    have h3 := (List.getElem?_eq_some_iff.mp h).1
    omega
  · omega
theorem lw_in {ws : va_W} {x : Nat × va_E} {D : va_G} {A0 : Nat → Prop} {H : Heap} (hD : va_D A0 (ws ++ [x])) (hA : ∀ z : Nat, H.size ≤ z → A0 z) : ∀ z, va_A [x] H.size z → A0 z := by
  intro z hz
  rcases hz with ⟨k, e, h⟩ | h
  · have hk0 : k = 0 := by
      have := (List.getElem?_eq_some_iff.mp h).1
      simp at this
      exact this
    subst hk0
    have hx : x = (z, e) := Option.some.inj h
    have := hD.2 ws.length x (by rw [List.getElem?_append_right (Nat.le_refl _), Nat.sub_self]; rfl)
    rw [hx] at this
    exact this
  · exact hA z h
theorem lw_one {ws : va_W} {x : Nat × va_E} {D : va_G} {H : Heap} (hP : va_P D vwCl (ws ++ [x]) H) : va_P D vwCl [x] H := fun k y h => by
  have hk0 : k = 0 := by
    have := (List.getElem?_eq_some_iff.mp h).1
    simp at this
    exact this
  subst hk0
  cases h
  exact hP ws.length _ (by rw [List.getElem?_append_right (Nat.le_refl _), Nat.sub_self]; rfl)
theorem lw_avN {s U : State} (hW : s.WarmedH U.vm) (h : av_N s) : av_N U := ⟨va_Nw.warmM hW h.1, va_Nw.warmM hW h.2.1, va_Nw.warmM hW h.2.2.1, va_Nw.warmM hW h.2.2.2⟩
theorem lw_x4N {s U : State} (hW : s.WarmedH U.vm) (h : x4_N s) : x4_N U := ⟨va_Nw.warmM hW h.1, va_Nw.warmM hW h.2.1, va_Nw.warmM hW h.2.2⟩
theorem lw_avN' {s U : State} (hv : s.vm = U.vm) (h : av_N s) : av_N U := ⟨va_Nw.same rfl hv h.1, va_Nw.same rfl hv h.2.1, va_Nw.same rfl hv h.2.2.1, va_Nw.same rfl hv h.2.2.2⟩
theorem lw_x4N' {s U : State} (hv : s.vm = U.vm) (h : x4_N s) : x4_N U := ⟨va_Nw.same rfl hv h.1, va_Nw.same rfl hv h.2.1, va_Nw.same rfl hv h.2.2⟩
abbrev lw_c0 : List Value := [.null, .null, .null, .null, .null, .null, .null, .null, .null, .null, .int 0]
abbrev lw_m0 : List Value := [.int 0, .null, .null, .null, .null, .int 0, .null, .null, .null, .int 0, .null, .int 0, .null, .int 0, .null, .null, .int 0, .int 0, .null, .int 0, .null, .null, .null, .null, .int 0, .null, .int 0, .null, .null, .int 0, .null, .int 0, .int 0, .int 0, .null, .null, .int 0, .int 0, .int 0, .int 0]
section LWS
variable {p : Program} {l : Launch} {e : Env} {s : State} {m : MethodId} {args : Array Value} {below : List Frame} {meth : Method} {c : Code} {H : Heap} {locs : List Loc} {Q : State → Prop} {ls : Array Slot} {rest : List Value} {cells slots : Nat}
variable {D : va_G} {cI cC : ClassId} {ws : va_W} {q : Nat}
theorem lw_ctorC {aK aV : Nat → Nat} (GB : gB mL_law p s m args c) (hK : va_K D vwCl (gty cI cC) s) (hN : av_N s) (hx : x4_N s) (hZ : vk_R RX4 58 f_tx (aK 0) s) (hF : fP aK aV (fun z => s.heap.size ≤ z) s s.heap) (hls : ls.size = 4) (hroom : (rest.map fun v => v.category).sum ≤ 8) (hf : cells + 34 ≤ room_1.cells ∧ slots + 982 ≤ room_1.slots)
    (hG : gH D (fun z => s.heap.size ≤ z) s.heap (ws ++ [(q, .inr (4, lw_c0))]) H locs)
    (kk : ∀ (ad : Nat → Nat) (σ : av_M) (H1 : Heap) (locs1 : List Loc), cRM σ (q_lay f_W []) → ad 0 = q → av_R (l, D, ad, f_ty cI cC) cSH H1 σ → (∀ z, av_A (l, D, ad, f_ty cI cC) cSH z → s.heap.size ≤ z) → va_S (fun z => s.heap.size ≤ z) s.heap H1 locs1 → W p l e room_1 s m args below meth c H1 locs1 (cells + 34) (slots + 982) Q (F0 m 7 ls rest)) : W p l e room_1 s m args below meth c H locs cells slots Q (F0 m 4 ls (.ref q :: rest)) := by
  have hin : ∀ z, va_A [(q, Sum.inr (4, lw_c0))] H.size z → s.heap.size ≤ z := lw_in (D := D) (H := H) hG.2.1 (fun z h => Nat.le_trans hG.2.2.1 h)
  refine va_callv (va_runI (As := []) (b := q) (nL := 4) (own := RL) (Ts := av_T) ⟨GB.1, GB.2.1, GB.2.2.1, GB.2.2.2.2, GB.2.2.2.1⟩ (c_X4_init l D cI cC aK aV q H.size) ⟨callB_of 0 GB.2.2.2.1 (av_goodM mbX4_init) rfl rfl rfl (GB.2.2.2.1 _ mbX4_init.2.2.2.1) (GB.2.2.2.1 _ wM_L_9) ⟨mbX4_init.1, mbX4_init.2.1, mbX4_init.2.2.1⟩ ⟨Nat.le_of_ble_eq_true rfl, Nat.le_of_ble_eq_true rfl⟩, rfl, GB.2.2.2.1 _ wI_X4_init⟩
    ⟨fun _ U g mk h => ⟨h.1, h.2.1, h.2.2.1, va_K.moved (u := U) (U := U.calling g mk _) (Vm.Alike.refl U.vm) h.2.2.2.1, lw_avN' (s := U) (U := U.calling g mk _) rfl h.2.2.2.2.1, lw_x4N' (s := U) (U := U.calling g mk _) rfl h.2.2.2.2.2.1, vk_R.same (u := U) (U := U.calling g mk _) rfl h.2.2.2.2.2.2.1, fP.moved (u := U) (U := U.calling g mk _) (Vm.Alike.refl U.vm) h.2.2.2.2.2.2.2⟩,
      fun U hU hW => ⟨rfl, by rw [hU], by rw [hU]; exact lw_one hG.1, va_K.moved hW.alike hK, lw_avN hW hN, lw_x4N hW hx, vk_R.warm hW hZ, by rw [hU]; exact fP.moved hW.alike ((hF.kept hG.2.2.2.1).narrow hin)⟩⟩ rfl rfl hls rfl (by show 2 * 0 + _ ≤ 8; omega) dL_law_4 hf) hG.2.2 (fun z _ h => hin z h) hin (fun u t H1 locs1 ht hvm hp hB hz hk hS => ?_)
  rw [ht] at hB
  exact kk u.1 u.2 H1 locs1 hp.1 hp.2 hB.1 (fun z h => hin z (hB.2 z h)) hS
theorem lw_ctorM (GB : gB mL_law p s m args c) (hK : va_K D vwCl (gty cI cC) s) (hN : av_N s) (hls : ls.size = 4) (hroom : (rest.map fun v => v.category).sum ≤ 8) (hf : cells + 22 ≤ room_1.cells ∧ slots + 538 ≤ room_1.slots)
    (hG : gH D (fun z => s.heap.size ≤ z) s.heap (ws ++ [(q, .inr (5, lw_m0))]) H locs)
    (kk : ∀ (ad : Nat → Nat) (σ : av_M) (H1 : Heap) (locs1 : List Loc), mRM σ (q_lay f_W []) → ad 0 = q → av_R (l, D, ad, f_ty cI cC) mSH H1 σ → (∀ z, av_A (l, D, ad, f_ty cI cC) mSH z → va_A [(q, .inr (5, lw_m0))] H.size z) → (∀ z, va_A [(q, .inr (5, lw_m0))] H.size z → s.heap.size ≤ z) → (∀ z : Nat, z < H.size → ¬ va_A [(q, .inr (5, lw_m0))] H.size z → H1[z]? = H[z]?) → va_S (fun z => s.heap.size ≤ z) s.heap H1 locs1 → W p l e room_1 s m args below meth c H1 locs1 (cells + 22) (slots + 538) Q (F0 m 15 ls rest)) : W p l e room_1 s m args below meth c H locs cells slots Q (F0 m 12 ls (.ref q :: rest)) := by
  have hin : ∀ z, va_A [(q, Sum.inr (5, lw_m0))] H.size z → s.heap.size ≤ z := lw_in (D := D) (H := H) hG.2.1 (fun z h => Nat.le_trans hG.2.2.1 h)
  refine va_callv (va_runI (As := []) (b := q) (nL := 4) (own := RL) (Ts := av_T) ⟨GB.1, GB.2.1, GB.2.2.1, GB.2.2.2.2, GB.2.2.2.1⟩ (c_X5_init l D cI cC q H.size) ⟨callB_of 0 GB.2.2.2.1 (av_goodM mbX5_init) rfl rfl rfl (GB.2.2.2.1 _ mbX5_init.2.2.2.1) (GB.2.2.2.1 _ wM_L_12) ⟨mbX5_init.1, mbX5_init.2.1, mbX5_init.2.2.1⟩ ⟨Nat.le_of_ble_eq_true rfl, Nat.le_of_ble_eq_true rfl⟩, rfl, GB.2.2.2.1 _ wI_X5_init⟩
    ⟨fun _ U g mk h => ⟨h.1, h.2.1, h.2.2.1, va_K.moved (u := U) (U := U.calling g mk _) (Vm.Alike.refl U.vm) h.2.2.2.1, lw_avN' (s := U) (U := U.calling g mk _) rfl h.2.2.2.2⟩,
      fun U hU hW => ⟨rfl, by rw [hU], by rw [hU]; exact lw_one hG.1, va_K.moved hW.alike hK, lw_avN hW hN⟩⟩ rfl rfl hls rfl (by show 2 * 0 + _ ≤ 8; omega) dL_law_12 hf) hG.2.2 (fun z _ h => hin z h) hin (fun u t H1 locs1 ht hvm hp hB hz hk hS => ?_)
  rw [ht] at hB
  exact kk u.1 u.2 H1 locs1 hp.1 hp.2 hB.1 hB.2 hin hk hS
end LWS
