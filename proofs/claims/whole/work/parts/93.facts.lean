theorem lw_facts {s : State} {args : Array Value} (hts : ∀ w ∈ lw_tbl, w.before args s = true) (hgv : (Jvm.Cond.and given_1 narrow_1).before args s = true) : ∃ (D : va_G) (cI cC : ClassId) (aK aV : Nat → Nat), va_K D vwCl (gty cI cC) s ∧ av_N s ∧ x4_N s ∧ vk_R RX4 58 f_tx (aK 0) s ∧ fP aK aV (fun z => s.heap.size ≤ z) s s.heap := by
  have htA : ∀ w ∈ av_T, w.before args s = true := fun w hw => hts w (av_T_in hw)
  have hfl := flat_of_before _ hgv
  have hA : ∀ a : Nat, a < s.heap.size → ¬ (fun z : Nat => s.heap.size ≤ z) a := fun a h => Nat.not_le.mpr h
  obtain ⟨d0, i0, k0⟩ := u_known (C := RX0) (T := TX0) (N := 12) (n := 12) htA iuX0 (htA _ wZ_X0)
  obtain ⟨d1, i1, k1⟩ := u_known (C := RX1) (T := TX1) (N := 2) (n := 2) htA iuX1 (htA _ wZ_X1)
  obtain ⟨d2, i2, k2⟩ := u_known (C := RX2) (T := TX2) (N := 3) (n := 3) htA iuX2 (htA _ wZ_X2)
  obtain ⟨d3, i3, k3⟩ := u_known (C := RX3) (T := TX3) (N := 15) (n := 15) htA iuX3 (htA _ wZ_X3)
  obtain ⟨d4, i4, k4⟩ := u_known (C := RX4) (T := TX4) (N := 11) (n := 11) htA iuX4 (htA _ wZ_X4)
  obtain ⟨d5, i5, k5⟩ := u_known (C := RX5) (T := TX5) (N := 40) (n := 40) htA iuX5 (htA _ wZ_X5)
  obtain ⟨cI, aI, rI⟩ := lw_arrK (ty := .int) (htA _ wA_int) ⟨fun C h => (by cases h), fun k h => (by cases h)⟩
  obtain ⟨cC, aC, rC⟩ := lw_arrK (ty := .char) (htA _ wA_char) ⟨fun C h => (by cases h), fun k h => (by cases h)⟩
  obtain ⟨aK, aV, hS, hE⟩ := vk_Sof (args := args) (s := s) (N := 1) (tm := fun _ => Term.string RX4 58) (len := [121]) (byt := [f_byt]) (A := fun z : Nat => s.heap.size ≤ z) (fun i hi => by
    obtain rfl : i = 0 := by omega
    exact Nat.le_of_ble_eq_true rfl) (fun i hi => hfl _ lw_strX) (fun i hi => hfl _ lw_strC) (fun i hi => hfl _ lw_strA) (fun i hi => by
    obtain rfl : i = 0 := by omega
    exact hfl _ lw_strL) (fun i hi j hj => by
    obtain rfl : i = 0 := by omega
    exact hfl _ (lw_g121 j hj)) (fun i j hi hj h => absurd (by omega) h) hA
  refine ⟨(fun k => match k with | 0 => d0 | 1 => d1 | 2 => d2 | 3 => d3 | 4 => d4 | _ => d5, fun k => match k with | 0 => i0 | 1 => i1 | 2 => i2 | 3 => i3 | 4 => i4 | _ => i5), cI, cC, aK, aV, ⟨?_, ?_⟩, ?_, ?_, ?_, hS, ?_, ?_⟩
  · intro k q hq
    match k, hq with
    | 0, hq => cases hq; exact k0
    | 1, hq => cases hq; exact k1
    | 2, hq => cases hq; exact k2
    | 3, hq => cases hq; exact k3
    | 4, hq => cases hq; exact k4
    | 5, hq => cases hq; exact k5
    | k + 6, hq => simp at hq
  · intro k q hq
    match k, hq with
    | 0, hq => cases hq; exact ⟨aI, rI⟩
    | 1, hq => cases hq; exact ⟨aC, rC⟩
    | k + 2, hq => simp at hq
  · exact ⟨va_Nw.of rfl (hts _ (lw_t2 (List.mem_of_getElem? (i := 26) rfl))), va_Nw.of rfl (hts _ (lw_t2 (List.mem_of_getElem? (i := 129) rfl))), va_Nw.of rfl (hts _ (lw_t2 (List.mem_of_getElem? (i := 163) rfl))), va_Nw.of rfl (hts _ (lw_t3 (List.mem_of_getElem? (i := 65) rfl)))⟩
  · exact ⟨va_Nw.of rfl (hts _ (lw_t1 (List.mem_of_getElem? (i := 24) rfl))), va_Nw.of rfl (hts _ (lw_t1 (List.mem_of_getElem? (i := 39) rfl))), va_Nw.of rfl (hts _ (lw_t1 (List.mem_of_getElem? (i := 57) rfl)))⟩
  · exact vk_R.of (A := args) (hts _ (lw_t1 (List.mem_of_getElem? (i := 170) rfl))) (hE 0 (by omega))
  · exact va_Zof (hts _ (lw_t1 (List.mem_of_getElem? (i := 180) rfl))) (htA _ wN_J0) (va_eqt (hfl _ lw_strZ)) hA
  · exact va_Zqof (hts _ (lw_t1 (List.mem_of_getElem? (i := 196) rfl))) (htA _ wN_J3) (hfl _ lw_strF) hA
