set_option maxHeartbeats 1000000 in
set_option maxRecDepth 100000 in
theorem whole_start {p : Program} {e : Env} {s : State} {m : MethodId} {below : List Frame} {meth : Method} {c : Code} (l : Launch) (hflags : l.flags = flags0) {b L : Nat} {xs : Nat → Int32} (hL : L ≤ 320) (C0 : lw_At p s m meth c b L xs) : W p l e room_1 s m #[Value.ref b] below meth c s.heap [] 0 0 (lw_Z below #[Value.ref b] s) (entryFrame m ([Value.ref b] : List Value).toArray 4) := by
  obtain ⟨hx, hb, hr, hml, hown, hts, hX, hbl, hlocks, hgv⟩ := id C0
  have GB : gB mL_law p s m #[Value.ref b] c := ⟨hx, hb, hml, fun w hw => hts w (av_T_in hw), hown⟩
  obtain ⟨D, cI, cC, aK, aV, hK, hN, hN4, hZ, hF⟩ := lw_facts hts hgv
  have hA : ∀ z : Nat, s.heap.size ≤ z → (fun z : Nat => s.heap.size ≤ z) z := fun _ h => h
  have hG0 : gH D (fun z : Nat => s.heap.size ≤ z) s.heap [] s.heap [] := ⟨fun k q h => by simp at h, ⟨fun i j p q h => by simp at h, fun k q h => by simp at h⟩, va_S.rf⟩
  have hl := lv_entry ([.ref b]) (n := 4) (Nat.le_of_ble_eq_true rfl)
  rw [lg_entry_eq]
  generalize (lg_sl ([.ref b]) ++ List.replicate (4 - (lg_sl ([.ref b])).length) Slot.unset).toArray = ls at hl ⊢
  have hl : lv_has ls 4 [(0, .ref b)] := hl
  refine g_new (M := mL_law) (ci := 4) (fs := lw_c0) GB iuX4 tyX4 tyX4_ok wL_L_7 wZ_X4 wN_X4 hK rfl tyX4_0 (Nat.le_of_ble_eq_true rfl) (Nat.le_of_ble_eq_true rfl) hA hG0 dL_law_0 (fun q H1 hG1 => ?_)
  refine lv_dup GB.1 GB.2.1 dL_law_3 rfl ?_
  refine lw_ctorC (ws := []) GB hK hN hN4 hZ hF hl.1 (Nat.le_of_ble_eq_true rfl) ⟨Nat.le_of_ble_eq_true rfl, Nat.le_of_ble_eq_true rfl⟩ hG1 (fun adc σc H2 locs2 hc hq hRc hAc hS2 => ?_)
  subst hq
  refine lv_astore_n (lv' := [(1, .ref (adc 0)), (0, .ref b)]) GB.1 GB.2.1 dL_law_7 rfl hl (by decide) rfl (fun ls1 hl1 => ?_)
  have hG2 : gH D (fun z : Nat => s.heap.size ≤ z) s.heap (av_w (l, D, adc, f_ty cI cC) cSH σc) H2 locs2 := ⟨hRc.1, hRc.2.weaken (fun k y _ h => hAc _ h), hS2⟩
  refine g_new (M := mL_law) (ci := 5) (fs := lw_m0) GB iuX5 tyX5 tyX5_ok wL_L_10 wZ_X5 wN_X5 hK rfl tyX5_0 (Nat.le_of_ble_eq_true rfl) (Nat.le_of_ble_eq_true rfl) hA hG2 dL_law_8 (fun q5 H3 hG3 => ?_)
  refine lv_dup GB.1 GB.2.1 dL_law_11 rfl ?_
  have hap := lw_apart hG3.1 hG3.2.1
  have hRc3 : av_R (l, D, adc, f_ty cI cC) cSH H3 σc := ⟨fun k y h => hG3.1 k y (by rw [List.getElem?_append_left (List.getElem?_eq_some_iff.mp h).1]; exact h), hRc.2⟩
  have hap2 : ∀ z, av_A (l, D, adc, f_ty cI cC) cSH z → z < H3.size ∧ ¬ va_A [(q5, .inr (5, lw_m0))] H3.size z := by
    rintro z ⟨i, hi, rfl⟩
    exact hap i (adc i, av_e (l, D, adc, f_ty cI cC) σc i cSH[i]) (av_w_at (List.getElem?_eq_getElem hi))
  refine lw_ctorM (ws := av_w (l, D, adc, f_ty cI cC) cSH σc) GB hK hN hl1.1 (Nat.le_of_ble_eq_true rfl) ⟨Nat.le_of_ble_eq_true rfl, Nat.le_of_ble_eq_true rfl⟩ hG3 (fun adm σm H4 locs4 hm hq hRm hAm hin hk hS4 => ?_)
  subst hq
  have hRc4 : av_R (l, D, adc, f_ty cI cC) cSH H4 σc := hRc3.kept (fun z hz hc => hk z hz (hap2 z hc).2)
  refine lv_astore_n (lv' := [(2, .ref (adm 0)), (1, .ref (adc 0)), (0, .ref b)]) GB.1 GB.2.1 dL_law_15 rfl hl1 (by decide) rfl (fun ls2 hl2 => ?_)
  refine lv_iconst (v := 0) GB.1 GB.2.1 dL_law_16 rfl ?_
  refine lv_istore_n (lv' := lw_lv b adc adm 0) GB.1 GB.2.1 dL_law_17 rfl hl2 (by decide) rfl (fun ls3 hl3 => ?_)
  have hV : q_V (24 * 0) (q_lay f_W []) := q_lay_V f_Wv (by decide +kernel) ⟨fun c h => by simp at h, Nat.le_of_ble_eq_true rfl⟩
  refine lw_loop GB ⟨f_K rfl hK hN, f_K rfl hK hN, hAc, fun z h => hin z (hAm z h), fun z hc hm => (hap2 z hc).2 (hAm z hm)⟩ hX hbl hL (fun H5 locs5 ls5 hS5 => ?_) 65 0 (q_lay f_W []) H4 locs4 ls3 rfl (Nat.le_of_ble_eq_true rfl) hl3 ⟨⟨σc, hRc4, hc⟩, ⟨σm, hRm, hm⟩, hV, hS4⟩
  refine va_forget hS5.2.2 ?_
  refine lv_iconst (v := 1) GB.1 GB.2.1 dL_law_890 rfl ?_
  exact lw_ret hx hb hr hlocks dL_law_891
