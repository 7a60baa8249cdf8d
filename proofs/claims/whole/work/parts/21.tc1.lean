theorem uX3_addReader_3 {E : av_E} {σ : av_M} {Q : Option av_V → av_M → Prop} {a1 a2 a3 : Int} (h : (rg (σ 3 9)) ∧ ((((σ 3 9) < 5) → (0 ≤ (σ 3 9) ∧ (σ 3 9) < 5) ∧ ((0 ≤ (σ 3 9) ∧ (σ 3 9) < 5) ∧ ((0 ≤ (σ 3 9) ∧ (σ 3 9) < 5) ∧ (Q (some (av_i 1)) (av_st (av_st (av_st (av_st σ 8 ((σ 3 9)).toNat a1) 9 ((σ 3 9)).toNat a2) 10 ((σ 3 9)).toNat a3) 3 9 ((σ 3 9) + 1)))))) ∧ ((5 ≤ (σ 3 9)) → Q (some (av_i 0)) σ))) :
    av_C E cSH mX3_addReader [av_r 3, av_i a1, av_i a2, av_i a3] σ Q := by
  refine av_C.ofW (L := [some (av_r 3), some (av_i a1), some (av_i a2), some (av_i a3)]) (by decide) (Nat.le_of_ble_eq_true rfl) rfl ?_
  refine av_aload_n dX3_addReader_0 rfl rfl ?_
  refine av_get (k := 9) (x := (σ 3 9)) dX3_addReader_1 rfl rfl iuX3 (by decide) rfl wF_X3_40 rfl rfl ?_
  refine av_iconst dX3_addReader_4 ?_
  refine av_icmp_lt (tgt := 10) dX3_addReader_5 (by decide) h.1 (by decide) (fun c => ?_) (fun c => ?_)
  · have h := h.2.1 c
    refine av_aload_n dX3_addReader_10 rfl rfl ?_
    refine av_getr (k := 4) dX3_addReader_11 rfl rfl iuX3 (by decide) rfl wF_X3_24 rfl ?_
    refine av_aload_n dX3_addReader_14 rfl rfl ?_
    refine av_get (k := 9) (x := (σ 3 9)) dX3_addReader_15 rfl rfl iuX3 (by decide) rfl wF_X3_40 rfl rfl ?_
    refine av_iload_n dX3_addReader_18 rfl rfl ?_
    refine av_iast dX3_addReader_19 rfl (by decide) h.1 ?_
    refine av_aload_n dX3_addReader_20 rfl rfl ?_
    refine av_getr (k := 5) dX3_addReader_21 rfl rfl iuX3 (by decide) rfl wF_X3_27 rfl ?_
    refine av_aload_n dX3_addReader_24 rfl rfl ?_
    refine av_get (k := 9) (x := (σ 3 9)) dX3_addReader_25 rfl rfl iuX3 (by decide) rfl wF_X3_40 rfl rfl ?_
    refine av_iload_n dX3_addReader_28 rfl rfl ?_
    refine av_iast dX3_addReader_29 rfl (by decide) h.2.1 ?_
    refine av_aload_n dX3_addReader_30 rfl rfl ?_
    refine av_getr (k := 6) dX3_addReader_31 rfl rfl iuX3 (by decide) rfl wF_X3_30 rfl ?_
    refine av_aload_n dX3_addReader_34 rfl rfl ?_
    refine av_get (k := 9) (x := (σ 3 9)) dX3_addReader_35 rfl rfl iuX3 (by decide) rfl wF_X3_40 rfl rfl ?_
    refine av_iload_n dX3_addReader_38 rfl rfl ?_
    refine av_iast dX3_addReader_39 rfl (by decide) h.2.2.1 ?_
    refine av_aload_n dX3_addReader_40 rfl rfl ?_
    refine av_dup dX3_addReader_41 (fun _ h9 => nomatch h9) ?_
    refine av_get (k := 9) (x := (σ 3 9)) dX3_addReader_42 rfl rfl iuX3 (by decide) rfl wF_X3_40 rfl rfl ?_
    refine av_iconst dX3_addReader_45 ?_
    refine av_iadd dX3_addReader_46 ?_
    refine av_put (k := 9) tyX3 dX3_addReader_47 rfl rfl iuX3 tyX3_ok nmX3 (by decide) rfl wF_X3_40 rfl rfl rfl ?_
    refine av_iconst dX3_addReader_50 ?_
    exact av_zreturn dX3_addReader_51 rfl (by decide) h.2.2.2
  · have h := h.2.2 c
    refine av_iconst dX3_addReader_8 ?_
    exact av_zreturn dX3_addReader_9 rfl (by decide) h

theorem uX3_addReader_12 {E : av_E} {σ : av_M} {Q : Option av_V → av_M → Prop} {a1 a2 a3 : Int} (h : (rg (σ 12 9)) ∧ ((((σ 12 9) < 5) → (0 ≤ (σ 12 9) ∧ (σ 12 9) < 5) ∧ ((0 ≤ (σ 12 9) ∧ (σ 12 9) < 5) ∧ ((0 ≤ (σ 12 9) ∧ (σ 12 9) < 5) ∧ (Q (some (av_i 1)) (av_st (av_st (av_st (av_st σ 17 ((σ 12 9)).toNat a1) 18 ((σ 12 9)).toNat a2) 19 ((σ 12 9)).toNat a3) 12 9 ((σ 12 9) + 1)))))) ∧ ((5 ≤ (σ 12 9)) → Q (some (av_i 0)) σ))) :
    av_C E cSH mX3_addReader [av_r 12, av_i a1, av_i a2, av_i a3] σ Q := by
  refine av_C.ofW (L := [some (av_r 12), some (av_i a1), some (av_i a2), some (av_i a3)]) (by decide) (Nat.le_of_ble_eq_true rfl) rfl ?_
  refine av_aload_n dX3_addReader_0 rfl rfl ?_
  refine av_get (k := 9) (x := (σ 12 9)) dX3_addReader_1 rfl rfl iuX3 (by decide) rfl wF_X3_40 rfl rfl ?_
  refine av_iconst dX3_addReader_4 ?_
  refine av_icmp_lt (tgt := 10) dX3_addReader_5 (by decide) h.1 (by decide) (fun c => ?_) (fun c => ?_)
  · have h := h.2.1 c
    refine av_aload_n dX3_addReader_10 rfl rfl ?_
    refine av_getr (k := 4) dX3_addReader_11 rfl rfl iuX3 (by decide) rfl wF_X3_24 rfl ?_
    refine av_aload_n dX3_addReader_14 rfl rfl ?_
    refine av_get (k := 9) (x := (σ 12 9)) dX3_addReader_15 rfl rfl iuX3 (by decide) rfl wF_X3_40 rfl rfl ?_
    refine av_iload_n dX3_addReader_18 rfl rfl ?_
    refine av_iast dX3_addReader_19 rfl (by decide) h.1 ?_
    refine av_aload_n dX3_addReader_20 rfl rfl ?_
    refine av_getr (k := 5) dX3_addReader_21 rfl rfl iuX3 (by decide) rfl wF_X3_27 rfl ?_
    refine av_aload_n dX3_addReader_24 rfl rfl ?_
    refine av_get (k := 9) (x := (σ 12 9)) dX3_addReader_25 rfl rfl iuX3 (by decide) rfl wF_X3_40 rfl rfl ?_
    refine av_iload_n dX3_addReader_28 rfl rfl ?_
    refine av_iast dX3_addReader_29 rfl (by decide) h.2.1 ?_
    refine av_aload_n dX3_addReader_30 rfl rfl ?_
    refine av_getr (k := 6) dX3_addReader_31 rfl rfl iuX3 (by decide) rfl wF_X3_30 rfl ?_
    refine av_aload_n dX3_addReader_34 rfl rfl ?_
    refine av_get (k := 9) (x := (σ 12 9)) dX3_addReader_35 rfl rfl iuX3 (by decide) rfl wF_X3_40 rfl rfl ?_
    refine av_iload_n dX3_addReader_38 rfl rfl ?_
    refine av_iast dX3_addReader_39 rfl (by decide) h.2.2.1 ?_
    refine av_aload_n dX3_addReader_40 rfl rfl ?_
    refine av_dup dX3_addReader_41 (fun _ h9 => nomatch h9) ?_
    refine av_get (k := 9) (x := (σ 12 9)) dX3_addReader_42 rfl rfl iuX3 (by decide) rfl wF_X3_40 rfl rfl ?_
    refine av_iconst dX3_addReader_45 ?_
    refine av_iadd dX3_addReader_46 ?_
    refine av_put (k := 9) tyX3 dX3_addReader_47 rfl rfl iuX3 tyX3_ok nmX3 (by decide) rfl wF_X3_40 rfl rfl rfl ?_
    refine av_iconst dX3_addReader_50 ?_
    exact av_zreturn dX3_addReader_51 rfl (by decide) h.2.2.2
  · have h := h.2.2 c
    refine av_iconst dX3_addReader_8 ?_
    exact av_zreturn dX3_addReader_9 rfl (by decide) h

theorem uX3_setRiver_3 {E : av_E} {σ : av_M} {Q : Option av_V → av_M → Prop} {a1 a2 a3 : Int} (h : Q none (av_st (av_st (av_st σ 3 11 a1) 3 12 a2) 3 13 a3)) :
    av_C E cSH mX3_setRiver [av_r 3, av_i a1, av_i a2, av_i a3] σ Q := by
  refine av_C.ofW (L := [some (av_r 3), some (av_i a1), some (av_i a2), some (av_i a3)]) (by decide) (Nat.le_of_ble_eq_true rfl) rfl ?_
  refine av_aload_n dX3_setRiver_0 rfl rfl ?_
  refine av_iload_n dX3_setRiver_1 rfl rfl ?_
  refine av_put (k := 11) tyX3 dX3_setRiver_2 rfl rfl iuX3 tyX3_ok nmX3 (by decide) rfl wF_X3_57 rfl rfl rfl ?_
  refine av_aload_n dX3_setRiver_5 rfl rfl ?_
  refine av_iload_n dX3_setRiver_6 rfl rfl ?_
  refine av_put (k := 12) tyX3 dX3_setRiver_7 rfl rfl iuX3 tyX3_ok nmX3 (by decide) rfl wF_X3_60 rfl rfl rfl ?_
  refine av_aload_n dX3_setRiver_10 rfl rfl ?_
  refine av_iload_n dX3_setRiver_11 rfl rfl ?_
  refine av_put (k := 13) tyX3 dX3_setRiver_12 rfl rfl iuX3 tyX3_ok nmX3 (by decide) rfl wF_X3_63 rfl rfl rfl ?_
  exact av_return dX3_setRiver_15 rfl h

theorem uX3_setRiver_12 {E : av_E} {σ : av_M} {Q : Option av_V → av_M → Prop} {a1 a2 a3 : Int} (h : Q none (av_st (av_st (av_st σ 12 11 a1) 12 12 a2) 12 13 a3)) :
    av_C E cSH mX3_setRiver [av_r 12, av_i a1, av_i a2, av_i a3] σ Q := by
  refine av_C.ofW (L := [some (av_r 12), some (av_i a1), some (av_i a2), some (av_i a3)]) (by decide) (Nat.le_of_ble_eq_true rfl) rfl ?_
  refine av_aload_n dX3_setRiver_0 rfl rfl ?_
  refine av_iload_n dX3_setRiver_1 rfl rfl ?_
  refine av_put (k := 11) tyX3 dX3_setRiver_2 rfl rfl iuX3 tyX3_ok nmX3 (by decide) rfl wF_X3_57 rfl rfl rfl ?_
  refine av_aload_n dX3_setRiver_5 rfl rfl ?_
  refine av_iload_n dX3_setRiver_6 rfl rfl ?_
  refine av_put (k := 12) tyX3 dX3_setRiver_7 rfl rfl iuX3 tyX3_ok nmX3 (by decide) rfl wF_X3_60 rfl rfl rfl ?_
  refine av_aload_n dX3_setRiver_10 rfl rfl ?_
  refine av_iload_n dX3_setRiver_11 rfl rfl ?_
  refine av_put (k := 13) tyX3 dX3_setRiver_12 rfl rfl iuX3 tyX3_ok nmX3 (by decide) rfl wF_X3_63 rfl rfl rfl ?_
  exact av_return dX3_setRiver_15 rfl h

theorem uX3_wordsSaying {E : av_E} {σ : av_M} {Q : Option av_V → av_M → Prop} {a1 : Int} (h : av_W E cSH mX3_wordsSaying 4 [some (av_r 3), some (av_i a1), some (av_i 0), some (av_i 0)] [] σ Q) :
    av_C E cSH mX3_wordsSaying [av_r 3, av_i a1] σ Q := by
  refine av_C.ofW (L := [some (av_r 3), some (av_i a1), none, none]) (by decide) (Nat.le_of_ble_eq_true rfl) rfl ?_
  refine av_iconst dX3_wordsSaying_0 ?_
  refine av_istore_n (L' := [some (av_r 3), some (av_i a1), some (av_i 0), none]) dX3_wordsSaying_1 rfl (by decide) rfl ?_
  refine av_iconst dX3_wordsSaying_2 ?_
  refine av_istore_n (L' := [some (av_r 3), some (av_i a1), some (av_i 0), some (av_i 0)]) dX3_wordsSaying_3 rfl (by decide) rfl ?_
  exact h

theorem uX3_wordsSaying_4 {E : av_E} {σ : av_M} {Q : Option av_V → av_M → Prop} {x1 x2 x3 : Int} (h : (rg x3) ∧ ((rg (σ 3 8)) ∧ ((((σ 3 8) ≤ x3) → Q (some (av_i x2)) σ) ∧ ((x3 < (σ 3 8)) → (0 ≤ x3 ∧ x3 < 8) ∧ ((rg (σ 7 (x3).toNat)) ∧ ((rg x1) ∧ (((¬ (σ 7 (x3).toNat) = x1) → av_W E cSH mX3_wordsSaying 4 [some (av_r 3), some (av_i x1), some (av_i (i_or x2 0)), some (av_i (x3 + 1))] [] σ Q) ∧ (((σ 7 (x3).toNat) = x1) → av_W E cSH mX3_wordsSaying 4 [some (av_r 3), some (av_i x1), some (av_i (i_or x2 (i_shl 2 (2 * x3)))), some (av_i (x3 + 1))] [] σ Q)))))))) :
    av_W E cSH mX3_wordsSaying 4 [some (av_r 3), some (av_i x1), some (av_i x2), some (av_i x3)] [] σ Q := by
  refine av_iload_n dX3_wordsSaying_4 rfl rfl ?_
  refine av_aload_n dX3_wordsSaying_5 rfl rfl ?_
  refine av_get (k := 8) (x := (σ 3 8)) dX3_wordsSaying_6 rfl rfl iuX3 (by decide) rfl wF_X3_36 rfl rfl ?_
  refine av_icmp_ge (tgt := 40) dX3_wordsSaying_9 (by decide) h.1 h.2.1 (fun c => ?_) (fun c => ?_)
  · have h := h.2.2.1 c
    refine av_iload_n dX3_wordsSaying_40 rfl rfl ?_
    exact av_ireturn dX3_wordsSaying_41 rfl h
  · have h := h.2.2.2 c
    refine av_iload_n dX3_wordsSaying_12 rfl rfl ?_
    refine av_aload_n dX3_wordsSaying_13 rfl rfl ?_
    refine av_getr (k := 3) dX3_wordsSaying_14 rfl rfl iuX3 (by decide) rfl wF_X3_21 rfl ?_
    refine av_iload_n dX3_wordsSaying_17 rfl rfl ?_
    refine av_iald (x := (σ 7 (x3).toNat)) dX3_wordsSaying_18 rfl (by decide) h.1 rfl ?_
    refine av_iload_n dX3_wordsSaying_19 rfl rfl ?_
    refine av_icmp_ne (tgt := 31) dX3_wordsSaying_20 (by decide) h.2.1 h.2.2.1 (fun c => ?_) (fun c => ?_)
    · have h := h.2.2.2.1 c
      refine av_iconst dX3_wordsSaying_31 ?_
      refine av_ior dX3_wordsSaying_32 ?_
      refine av_istore_n (L' := [some (av_r 3), some (av_i x1), some (av_i (i_or x2 0)), some (av_i x3)]) dX3_wordsSaying_33 rfl (by decide) rfl ?_
      refine av_iinc (L' := [some (av_r 3), some (av_i x1), some (av_i (i_or x2 0)), some (av_i (x3 + 1))]) dX3_wordsSaying_34 rfl (by decide) rfl rfl ?_
      refine av_goto (tgt := 4) dX3_wordsSaying_37 (by decide) ?_
      exact h
    · have h := h.2.2.2.2 c
      refine av_iconst dX3_wordsSaying_23 ?_
      refine av_iconst dX3_wordsSaying_24 ?_
      refine av_iload_n dX3_wordsSaying_25 rfl rfl ?_
      refine av_imul dX3_wordsSaying_26 ?_
      refine av_ishl dX3_wordsSaying_27 ?_
      refine av_goto (tgt := 32) dX3_wordsSaying_28 (by decide) ?_
      refine av_ior dX3_wordsSaying_32 ?_
      refine av_istore_n (L' := [some (av_r 3), some (av_i x1), some (av_i (i_or x2 (i_shl 2 (2 * x3)))), some (av_i x3)]) dX3_wordsSaying_33 rfl (by decide) rfl ?_
      refine av_iinc (L' := [some (av_r 3), some (av_i x1), some (av_i (i_or x2 (i_shl 2 (2 * x3)))), some (av_i (x3 + 1))]) dX3_wordsSaying_34 rfl (by decide) rfl rfl ?_
      refine av_goto (tgt := 4) dX3_wordsSaying_37 (by decide) ?_
      exact h

theorem uX3_depthIn {E : av_E} {σ : av_M} {Q : Option av_V → av_M → Prop} {a1 : Int} (h : (rg a1) ∧ ((rg (σ 3 12)) ∧ ((((σ 3 12) < a1) → (rg ((σ 3 11) - ((σ 3 13) * (a1 - (σ 3 12))))) ∧ (Q (some (av_i (max 0 ((σ 3 11) - ((σ 3 13) * (a1 - (σ 3 12))))))) σ)) ∧ ((a1 ≤ (σ 3 12)) → Q (some (av_i (σ 3 11))) σ)))) :
    av_C E cSH mX3_depthIn [av_r 3, av_i a1] σ Q := by
  refine av_C.ofW (L := [some (av_r 3), some (av_i a1)]) (by decide) (Nat.le_of_ble_eq_true rfl) rfl ?_
  refine av_iload_n dX3_depthIn_0 rfl rfl ?_
  refine av_aload_n dX3_depthIn_1 rfl rfl ?_
  refine av_get (k := 12) (x := (σ 3 12)) dX3_depthIn_2 rfl rfl iuX3 (by decide) rfl wF_X3_60 rfl rfl ?_
  refine av_icmp_gt (tgt := 15) dX3_depthIn_5 (by decide) h.1 h.2.1 (fun c => ?_) (fun c => ?_)
  · have h := h.2.2.1 c
    refine av_iconst dX3_depthIn_15 ?_
    refine av_aload_n dX3_depthIn_16 rfl rfl ?_
    refine av_get (k := 11) (x := (σ 3 11)) dX3_depthIn_17 rfl rfl iuX3 (by decide) rfl wF_X3_57 rfl rfl ?_
    refine av_aload_n dX3_depthIn_20 rfl rfl ?_
    refine av_get (k := 13) (x := (σ 3 13)) dX3_depthIn_21 rfl rfl iuX3 (by decide) rfl wF_X3_63 rfl rfl ?_
    refine av_iload_n dX3_depthIn_24 rfl rfl ?_
    refine av_aload_n dX3_depthIn_25 rfl rfl ?_
    refine av_get (k := 12) (x := (σ 3 12)) dX3_depthIn_26 rfl rfl iuX3 (by decide) rfl wF_X3_60 rfl rfl ?_
    refine av_isub dX3_depthIn_29 ?_
    refine av_imul dX3_depthIn_30 ?_
    refine av_isub dX3_depthIn_31 ?_
    refine av_max dX3_depthIn_32 rfl wM_X3_66 wT_J9_max_7cf53 wN_J9 mbJ9_max_7cf53.2.2.2.2 (by decide) (by decide) (Nat.le_of_ble_eq_true rfl) (by decide) h.1 ?_
    exact av_ireturn dX3_depthIn_35 rfl h.2
  · have h := h.2.2.2 c
    refine av_aload_n dX3_depthIn_8 rfl rfl ?_
    refine av_get (k := 11) (x := (σ 3 11)) dX3_depthIn_9 rfl rfl iuX3 (by decide) rfl wF_X3_57 rfl rfl ?_
    refine av_goto (tgt := 35) dX3_depthIn_12 (by decide) ?_
    exact av_ireturn dX3_depthIn_35 rfl h

theorem uX3_fall {E : av_E} {σ : av_M} {Q : Option av_V → av_M → Prop} (h : (rg (σ 3 13)) ∧ (((0 < (σ 3 13)) → (0 ≤ ((((σ 3 11) - 2) + (σ 3 13)) - 1) ∧ ((((σ 3 11) - 2) + (σ 3 13)) - 1) < 2147483648) ∧ ((0 < (σ 3 13) ∧ (σ 3 13) < 2147483648) ∧ (Q (some (av_i ((σ 3 12) + (((((σ 3 11) - 2) + (σ 3 13)) - 1) / (σ 3 13))))) σ))) ∧ (((σ 3 13) ≤ 0) → Q (some (av_i (σ 3 12))) σ))) :
    av_C E cSH mX3_fall [av_r 3] σ Q := by
  refine av_C.ofW (L := [some (av_r 3)]) (by decide) (Nat.le_of_ble_eq_true rfl) rfl ?_
  refine av_aload_n dX3_fall_0 rfl rfl ?_
  refine av_get (k := 13) (x := (σ 3 13)) dX3_fall_1 rfl rfl iuX3 (by decide) rfl wF_X3_63 rfl rfl ?_
  refine av_if_gt (tgt := 12) dX3_fall_4 (by decide) h.1 (fun c => ?_) (fun c => ?_)
  · have h := h.2.1 c
    refine av_aload_n dX3_fall_12 rfl rfl ?_
    refine av_get (k := 12) (x := (σ 3 12)) dX3_fall_13 rfl rfl iuX3 (by decide) rfl wF_X3_60 rfl rfl ?_
    refine av_aload_n dX3_fall_16 rfl rfl ?_
    refine av_get (k := 11) (x := (σ 3 11)) dX3_fall_17 rfl rfl iuX3 (by decide) rfl wF_X3_57 rfl rfl ?_
    refine av_iconst dX3_fall_20 ?_
    refine av_isub dX3_fall_21 ?_
    refine av_aload_n dX3_fall_22 rfl rfl ?_
    refine av_get (k := 13) (x := (σ 3 13)) dX3_fall_23 rfl rfl iuX3 (by decide) rfl wF_X3_63 rfl rfl ?_
    refine av_iadd dX3_fall_26 ?_
    refine av_iconst dX3_fall_27 ?_
    refine av_isub dX3_fall_28 ?_
    refine av_aload_n dX3_fall_29 rfl rfl ?_
    refine av_get (k := 13) (x := (σ 3 13)) dX3_fall_30 rfl rfl iuX3 (by decide) rfl wF_X3_63 rfl rfl ?_
    refine av_idiv dX3_fall_33 h.1 h.2.1 ?_
    refine av_iadd dX3_fall_34 ?_
    exact av_ireturn dX3_fall_35 rfl h.2.2
  · have h := h.2.2 c
    refine av_aload_n dX3_fall_7 rfl rfl ?_
    refine av_get (k := 12) (x := (σ 3 12)) dX3_fall_8 rfl rfl iuX3 (by decide) rfl wF_X3_60 rfl rfl ?_
    exact av_ireturn dX3_fall_11 rfl h

theorem uX3_priceOf {E : av_E} {σ : av_M} {Q : Option av_V → av_M → Prop} {a1 : Int} (h : av_W E cSH mX3_priceOf 4 [some (av_r 3), some (av_i a1), some (av_i 0), some (av_i 0)] [] σ Q) :
    av_C E cSH mX3_priceOf [av_r 3, av_i a1] σ Q := by
  refine av_C.ofW (L := [some (av_r 3), some (av_i a1), none, none]) (by decide) (Nat.le_of_ble_eq_true rfl) rfl ?_
  refine av_iconst dX3_priceOf_0 ?_
  refine av_istore_n (L' := [some (av_r 3), some (av_i a1), some (av_i 0), none]) dX3_priceOf_1 rfl (by decide) rfl ?_
  refine av_iconst dX3_priceOf_2 ?_
  refine av_istore_n (L' := [some (av_r 3), some (av_i a1), some (av_i 0), some (av_i 0)]) dX3_priceOf_3 rfl (by decide) rfl ?_
  exact h

theorem uX3_priceOf_4 {E : av_E} {σ : av_M} {Q : Option av_V → av_M → Prop} {x1 x2 x3 : Int} (h : (rg x3) ∧ ((rg (σ 3 9)) ∧ ((((σ 3 9) ≤ x3) → Q (some (av_i x2)) σ) ∧ ((x3 < (σ 3 9)) → av_C E cSH mX4_holds [av_i x1, av_i x3] σ (fun v s1 => ∃ r1 : Int, v = some (av_i r1) ∧ ((rg r1) ∧ (((r1 = 0) → av_W E cSH mX3_priceOf 4 [some (av_r 3), some (av_i x1), some (av_i (x2 + 0)), some (av_i (x3 + 1))] [] s1 Q) ∧ ((¬ r1 = 0) → (0 ≤ x3 ∧ x3 < 5) ∧ (av_W E cSH mX3_priceOf 4 [some (av_r 3), some (av_i x1), some (av_i (x2 + (s1 10 (x3).toNat))), some (av_i (x3 + 1))] [] s1 Q))))))))) :
    av_W E cSH mX3_priceOf 4 [some (av_r 3), some (av_i x1), some (av_i x2), some (av_i x3)] [] σ Q := by
  refine av_iload_n dX3_priceOf_4 rfl rfl ?_
  refine av_aload_n dX3_priceOf_5 rfl rfl ?_
  refine av_get (k := 9) (x := (σ 3 9)) dX3_priceOf_6 rfl rfl iuX3 (by decide) rfl wF_X3_40 rfl rfl ?_
  refine av_icmp_ge (tgt := 39) dX3_priceOf_9 (by decide) h.1 h.2.1 (fun c => ?_) (fun c => ?_)
  · have h := h.2.2.1 c
    refine av_iload_n dX3_priceOf_39 rfl rfl ?_
    exact av_ireturn dX3_priceOf_40 rfl h
  · have h := h.2.2.2 c
    refine av_iload_n dX3_priceOf_12 rfl rfl ?_
    refine av_iload_n dX3_priceOf_13 rfl rfl ?_
    refine av_iload_n dX3_priceOf_14 rfl rfl ?_
    refine av_callN mX4_holds [av_i x1, av_i x3] [av_i x2] dX3_priceOf_15 mbX4_holds rfl wT_X4_holds rfl wNest_X3_72 ⟨Nat.le_of_ble_eq_true rfl, Nat.le_of_ble_eq_true rfl⟩ rfl (Nat.le_of_ble_eq_true rfl) (av_C.mono (fun v s1 hh => ?_) h)
    obtain ⟨r1, rfl, h⟩ := hh
    change av_W E cSH mX3_priceOf 18 [some (av_r 3), some (av_i x1), some (av_i x2), some (av_i x3)] [av_i r1, av_i x2] s1 Q
    refine av_if_eq (tgt := 30) dX3_priceOf_18 (by decide) h.1 (fun c => ?_) (fun c => ?_)
    · have h := h.2.1 c
      refine av_iconst dX3_priceOf_30 ?_
      refine av_iadd dX3_priceOf_31 ?_
      refine av_istore_n (L' := [some (av_r 3), some (av_i x1), some (av_i (x2 + 0)), some (av_i x3)]) dX3_priceOf_32 rfl (by decide) rfl ?_
      refine av_iinc (L' := [some (av_r 3), some (av_i x1), some (av_i (x2 + 0)), some (av_i (x3 + 1))]) dX3_priceOf_33 rfl (by decide) rfl rfl ?_
      refine av_goto (tgt := 4) dX3_priceOf_36 (by decide) ?_
      exact h
    · have h := h.2.2 c
      refine av_aload_n dX3_priceOf_21 rfl rfl ?_
      refine av_getr (k := 6) dX3_priceOf_22 rfl rfl iuX3 (by decide) rfl wF_X3_30 rfl ?_
      refine av_iload_n dX3_priceOf_25 rfl rfl ?_
      refine av_iald (x := (s1 10 (x3).toNat)) dX3_priceOf_26 rfl (by decide) h.1 rfl ?_
      refine av_goto (tgt := 31) dX3_priceOf_27 (by decide) ?_
      refine av_iadd dX3_priceOf_31 ?_
      refine av_istore_n (L' := [some (av_r 3), some (av_i x1), some (av_i (x2 + (s1 10 (x3).toNat))), some (av_i x3)]) dX3_priceOf_32 rfl (by decide) rfl ?_
      refine av_iinc (L' := [some (av_r 3), some (av_i x1), some (av_i (x2 + (s1 10 (x3).toNat))), some (av_i (x3 + 1))]) dX3_priceOf_33 rfl (by decide) rfl rfl ?_
      refine av_goto (tgt := 4) dX3_priceOf_36 (by decide) ?_
      exact h.2

theorem uX3_hoursOf {E : av_E} {σ : av_M} {Q : Option av_V → av_M → Prop} {a1 : Int} (h : av_W E cSH mX3_hoursOf 4 [some (av_r 3), some (av_i a1), some (av_i 0), some (av_i 0)] [] σ Q) :
    av_C E cSH mX3_hoursOf [av_r 3, av_i a1] σ Q := by
  refine av_C.ofW (L := [some (av_r 3), some (av_i a1), none, none]) (by decide) (Nat.le_of_ble_eq_true rfl) rfl ?_
  refine av_iconst dX3_hoursOf_0 ?_
  refine av_istore_n (L' := [some (av_r 3), some (av_i a1), some (av_i 0), none]) dX3_hoursOf_1 rfl (by decide) rfl ?_
  refine av_iconst dX3_hoursOf_2 ?_
  refine av_istore_n (L' := [some (av_r 3), some (av_i a1), some (av_i 0), some (av_i 0)]) dX3_hoursOf_3 rfl (by decide) rfl ?_
  exact h

theorem uX3_hoursOf_4 {E : av_E} {σ : av_M} {Q : Option av_V → av_M → Prop} {x1 x2 x3 : Int} (h : (rg x3) ∧ ((rg (σ 3 9)) ∧ ((((σ 3 9) ≤ x3) → Q (some (av_i x2)) σ) ∧ ((x3 < (σ 3 9)) → av_C E cSH mX4_holds [av_i x1, av_i x3] σ (fun v s1 => ∃ r1 : Int, v = some (av_i r1) ∧ ((rg r1) ∧ (((r1 = 0) → av_W E cSH mX3_hoursOf 4 [some (av_r 3), some (av_i x1), some (av_i (x2 + 0)), some (av_i (x3 + 1))] [] s1 Q) ∧ ((¬ r1 = 0) → (0 ≤ x3 ∧ x3 < 5) ∧ (av_W E cSH mX3_hoursOf 4 [some (av_r 3), some (av_i x1), some (av_i (x2 + (s1 9 (x3).toNat))), some (av_i (x3 + 1))] [] s1 Q))))))))) :
    av_W E cSH mX3_hoursOf 4 [some (av_r 3), some (av_i x1), some (av_i x2), some (av_i x3)] [] σ Q := by
  refine av_iload_n dX3_hoursOf_4 rfl rfl ?_
  refine av_aload_n dX3_hoursOf_5 rfl rfl ?_
  refine av_get (k := 9) (x := (σ 3 9)) dX3_hoursOf_6 rfl rfl iuX3 (by decide) rfl wF_X3_40 rfl rfl ?_
  refine av_icmp_ge (tgt := 39) dX3_hoursOf_9 (by decide) h.1 h.2.1 (fun c => ?_) (fun c => ?_)
  · have h := h.2.2.1 c
    refine av_iload_n dX3_hoursOf_39 rfl rfl ?_
    exact av_ireturn dX3_hoursOf_40 rfl h
  · have h := h.2.2.2 c
    refine av_iload_n dX3_hoursOf_12 rfl rfl ?_
    refine av_iload_n dX3_hoursOf_13 rfl rfl ?_
    refine av_iload_n dX3_hoursOf_14 rfl rfl ?_
    refine av_callN mX4_holds [av_i x1, av_i x3] [av_i x2] dX3_hoursOf_15 mbX4_holds rfl wT_X4_holds rfl wNest_X3_72 ⟨Nat.le_of_ble_eq_true rfl, Nat.le_of_ble_eq_true rfl⟩ rfl (Nat.le_of_ble_eq_true rfl) (av_C.mono (fun v s1 hh => ?_) h)
    obtain ⟨r1, rfl, h⟩ := hh
    change av_W E cSH mX3_hoursOf 18 [some (av_r 3), some (av_i x1), some (av_i x2), some (av_i x3)] [av_i r1, av_i x2] s1 Q
    refine av_if_eq (tgt := 30) dX3_hoursOf_18 (by decide) h.1 (fun c => ?_) (fun c => ?_)
    · have h := h.2.1 c
      refine av_iconst dX3_hoursOf_30 ?_
      refine av_iadd dX3_hoursOf_31 ?_
      refine av_istore_n (L' := [some (av_r 3), some (av_i x1), some (av_i (x2 + 0)), some (av_i x3)]) dX3_hoursOf_32 rfl (by decide) rfl ?_
      refine av_iinc (L' := [some (av_r 3), some (av_i x1), some (av_i (x2 + 0)), some (av_i (x3 + 1))]) dX3_hoursOf_33 rfl (by decide) rfl rfl ?_
      refine av_goto (tgt := 4) dX3_hoursOf_36 (by decide) ?_
      exact h
    · have h := h.2.2 c
      refine av_aload_n dX3_hoursOf_21 rfl rfl ?_
      refine av_getr (k := 5) dX3_hoursOf_22 rfl rfl iuX3 (by decide) rfl wF_X3_27 rfl ?_
      refine av_iload_n dX3_hoursOf_25 rfl rfl ?_
      refine av_iald (x := (s1 9 (x3).toNat)) dX3_hoursOf_26 rfl (by decide) h.1 rfl ?_
      refine av_goto (tgt := 31) dX3_hoursOf_27 (by decide) ?_
      refine av_iadd dX3_hoursOf_31 ?_
      refine av_istore_n (L' := [some (av_r 3), some (av_i x1), some (av_i (x2 + (s1 9 (x3).toNat))), some (av_i x3)]) dX3_hoursOf_32 rfl (by decide) rfl ?_
      refine av_iinc (L' := [some (av_r 3), some (av_i x1), some (av_i (x2 + (s1 9 (x3).toNat))), some (av_i (x3 + 1))]) dX3_hoursOf_33 rfl (by decide) rfl rfl ?_
      refine av_goto (tgt := 4) dX3_hoursOf_36 (by decide) ?_
      exact h.2

theorem uX4_write {E : av_E} {σ : av_M} {Q : Option av_V → av_M → Prop} {a1 : Int} (h : (rg a1) ∧ (((a1 < 32) → Q (some (av_i (-1))) σ) ∧ ((32 ≤ a1) → (rg a1) ∧ (((a1 ≤ 126) → (0 ≤ a1 ∧ a1 < 65536) ∧ (av_C E cSH mX2_add [av_r 1, av_i a1] σ (fun v s1 => ∃ r1 : Int, v = some (av_i r1) ∧ ((rg r1) ∧ (((r1 = 0) → Q (some (av_i (-3))) s1) ∧ ((¬ r1 = 0) → Q (some (av_i (s1 1 1))) s1)))))) ∧ ((126 < a1) → Q (some (av_i (-1))) σ))))) :
    av_C E cSH mX4_write [av_r 0, av_i a1] σ Q := by
  refine av_C.ofW (L := [some (av_r 0), some (av_i a1)]) (by decide) (Nat.le_of_ble_eq_true rfl) rfl ?_
  refine av_iload_n dX4_write_0 rfl rfl ?_
  refine av_bipush dX4_write_1 rfl ?_
  refine av_icmp_lt (tgt := 12) dX4_write_3 (by decide) h.1 (by decide) (fun c => ?_) (fun c => ?_)
  · have h := h.2.1 c
    refine av_iconst dX4_write_12 ?_
    exact av_ireturn dX4_write_13 rfl h
  · have h := h.2.2 c
    refine av_iload_n dX4_write_6 rfl rfl ?_
    refine av_bipush dX4_write_7 rfl ?_
    refine av_icmp_le (tgt := 14) dX4_write_9 (by decide) h.1 (by decide) (fun c => ?_) (fun c => ?_)
    · have h := h.2.1 c
      refine av_aload_n dX4_write_14 rfl rfl ?_
      refine av_getr (k := 0) dX4_write_15 rfl rfl iuX4 (by decide) rfl wF_X4_35 rfl ?_
      refine av_iload_n dX4_write_18 rfl rfl ?_
      refine av_i2c dX4_write_19 h.1.1 h.1.2 ?_
      refine av_callV mX2_add [av_i a1] [] dX4_write_20 rfl rfl rfl mbX2_add rfl wI_X2_add wS_X2_add rfl wM_X4_70 ⟨Nat.le_of_ble_eq_true rfl, Nat.le_of_ble_eq_true rfl⟩ rfl (Nat.le_of_ble_eq_true rfl) (av_C.mono (fun v s1 hh => ?_) h.2)
      obtain ⟨r1, rfl, h⟩ := hh
      change av_W E cSH mX4_write 23 [some (av_r 0), some (av_i a1)] [av_i r1] s1 Q
      refine av_if_eq (tgt := 36) dX4_write_23 (by decide) h.1 (fun c => ?_) (fun c => ?_)
      · have h := h.2.1 c
        refine av_bipush dX4_write_36 rfl ?_
        exact av_ireturn dX4_write_38 rfl h
      · have h := h.2.2 c
        refine av_aload_n dX4_write_26 rfl rfl ?_
        refine av_getr (k := 0) dX4_write_27 rfl rfl iuX4 (by decide) rfl wF_X4_35 rfl ?_
        refine av_get (k := 1) (x := (s1 1 1)) dX4_write_30 rfl rfl iuX2 (by decide) rfl wF_X4_84 rfl rfl ?_
        refine av_goto (tgt := 38) dX4_write_33 (by decide) ?_
        exact av_ireturn dX4_write_38 rfl h
    · have h := h.2.2 c
      refine av_iconst dX4_write_12 ?_
      exact av_ireturn dX4_write_13 rfl h

theorem uX4_wipe {E : av_E} {σ : av_M} {Q : Option av_V → av_M → Prop} (h : av_C E cSH mX2_clear [av_r 1] σ (fun v s1 => v = none ∧ (Q (some (av_i (σ 1 1))) s1))) :
    av_C E cSH mX4_wipe [av_r 0] σ Q := by
  refine av_C.ofW (L := [some (av_r 0), none]) (by decide) (Nat.le_of_ble_eq_true rfl) rfl ?_
  refine av_aload_n dX4_wipe_0 rfl rfl ?_
  refine av_getr (k := 0) dX4_wipe_1 rfl rfl iuX4 (by decide) rfl wF_X4_35 rfl ?_
  refine av_get (k := 1) (x := (σ 1 1)) dX4_wipe_4 rfl rfl iuX2 (by decide) rfl wF_X4_84 rfl rfl ?_
  refine av_istore_n (L' := [some (av_r 0), some (av_i (σ 1 1))]) dX4_wipe_7 rfl (by decide) rfl ?_
  refine av_aload_n dX4_wipe_8 rfl rfl ?_
  refine av_getr (k := 0) dX4_wipe_9 rfl rfl iuX4 (by decide) rfl wF_X4_35 rfl ?_
  refine av_callV mX2_clear [] [] dX4_wipe_12 rfl rfl rfl mbX2_clear rfl wI_X2_clear wS_X2_clear rfl wM_X4_78 ⟨Nat.le_of_ble_eq_true rfl, Nat.le_of_ble_eq_true rfl⟩ rfl (Nat.le_of_ble_eq_true rfl) (av_C.mono (fun v s1 hh => ?_) h)
  obtain ⟨rfl, h⟩ := hh
  change av_W E cSH mX4_wipe 15 [some (av_r 0), some (av_i (σ 1 1))] [] s1 Q
  refine av_iload_n dX4_wipe_15 rfl rfl ?_
  exact av_ireturn dX4_wipe_16 rfl h

theorem uX4_fault {E : av_E} {σ : av_M} {Q : Option av_V → av_M → Prop} (h : av_C E cSH mX2_firstFault [av_r 1, av_r 12] σ (fun v s1 => ∃ r1 : Int, v = some (av_i r1) ∧ (Q (some (av_i r1)) s1))) :
    av_C E cSH mX4_fault [av_r 0] σ Q := by
  refine av_C.ofW (L := [some (av_r 0)]) (by decide) (Nat.le_of_ble_eq_true rfl) rfl ?_
  refine av_aload_n dX4_fault_0 rfl rfl ?_
  refine av_getr (k := 0) dX4_fault_1 rfl rfl iuX4 (by decide) rfl wF_X4_35 rfl ?_
  refine av_aload_n dX4_fault_4 rfl rfl ?_
  refine av_getr (k := 2) dX4_fault_5 rfl rfl iuX4 (by decide) rfl wF_X4_46 rfl ?_
  refine av_callV mX2_firstFault [av_r 12] [] dX4_fault_8 rfl rfl rfl mbX2_firstFault rfl wI_X2_firstFault wS_X2_firstFault rfl wM_X4_74 ⟨Nat.le_of_ble_eq_true rfl, Nat.le_of_ble_eq_true rfl⟩ rfl (Nat.le_of_ble_eq_true rfl) (av_C.mono (fun v s1 hh => ?_) h)
  obtain ⟨r1, rfl, h⟩ := hh
  change av_W E cSH mX4_fault 11 [some (av_r 0)] [av_i r1] s1 Q
  exact av_ireturn dX4_fault_11 rfl h

theorem uX4_lay {E : av_E} {σ : av_M} {Q : Option av_V → av_M → Prop} (h : av_C E cSH mX2_firstFault [av_r 1, av_r 12] σ (fun v s1 => ∃ r1 : Int, v = some (av_i r1) ∧ ((rg r1) ∧ (((¬ r1 = (-4)) → Q (some (av_i (-2))) s1) ∧ ((r1 = (-4)) → (rg (s1 12 8)) ∧ ((((s1 12 8) = 0) → Q (some (av_i (-2))) s1) ∧ ((¬ (s1 12 8) = 0) → (rg (s1 12 9)) ∧ (((¬ (s1 12 9) = 0) → av_C E cSH mX2_firstFault [av_r 1, av_r 3] s1 (fun v s2 => ∃ r2 : Int, v = some (av_i r2) ∧ (av_C E cSH mX4_begin [av_r 0] s2 (fun v s3 => v = none ∧ (Q (some (av_i (s3 3 8))) s3))))) ∧ (((s1 12 9) = 0) → Q (some (av_i (-2))) s1))))))))) :
    av_C E cSH mX4_lay [av_r 0] σ Q := by
  refine av_C.ofW (L := [some (av_r 0)]) (by decide) (Nat.le_of_ble_eq_true rfl) rfl ?_
  refine av_aload_n dX4_lay_0 rfl rfl ?_
  refine av_getr (k := 0) dX4_lay_1 rfl rfl iuX4 (by decide) rfl wF_X4_35 rfl ?_
  refine av_aload_n dX4_lay_4 rfl rfl ?_
  refine av_getr (k := 2) dX4_lay_5 rfl rfl iuX4 (by decide) rfl wF_X4_46 rfl ?_
  refine av_callV mX2_firstFault [av_r 12] [] dX4_lay_8 rfl rfl rfl mbX2_firstFault rfl wI_X2_firstFault wS_X2_firstFault rfl wM_X4_74 ⟨Nat.le_of_ble_eq_true rfl, Nat.le_of_ble_eq_true rfl⟩ rfl (Nat.le_of_ble_eq_true rfl) (av_C.mono (fun v s1 hh => ?_) h)
  obtain ⟨r1, rfl, h⟩ := hh
  change av_W E cSH mX4_lay 11 [some (av_r 0)] [av_i r1] s1 Q
  refine av_bipush dX4_lay_11 rfl ?_
  refine av_icmp_ne (tgt := 36) dX4_lay_13 (by decide) h.1 (by decide) (fun c => ?_) (fun c => ?_)
  · have h := h.2.1 c
    refine av_bipush dX4_lay_36 rfl ?_
    exact av_ireturn dX4_lay_38 rfl h
  · have h := h.2.2 c
    refine av_aload_n dX4_lay_16 rfl rfl ?_
    refine av_getr (k := 2) dX4_lay_17 rfl rfl iuX4 (by decide) rfl wF_X4_46 rfl ?_
    refine av_get (k := 8) (x := (s1 12 8)) dX4_lay_20 rfl rfl iuX3 (by decide) rfl wF_X4_87 rfl rfl ?_
    refine av_if_eq (tgt := 36) dX4_lay_23 (by decide) h.1 (fun c => ?_) (fun c => ?_)
    · have h := h.2.1 c
      refine av_bipush dX4_lay_36 rfl ?_
      exact av_ireturn dX4_lay_38 rfl h
    · have h := h.2.2 c
      refine av_aload_n dX4_lay_26 rfl rfl ?_
      refine av_getr (k := 2) dX4_lay_27 rfl rfl iuX4 (by decide) rfl wF_X4_46 rfl ?_
      refine av_get (k := 9) (x := (s1 12 9)) dX4_lay_30 rfl rfl iuX3 (by decide) rfl wF_X4_90 rfl rfl ?_
      refine av_if_ne (tgt := 39) dX4_lay_33 (by decide) h.1 (fun c => ?_) (fun c => ?_)
      · have h := h.2.1 c
        refine av_aload_n dX4_lay_39 rfl rfl ?_
        refine av_getr (k := 0) dX4_lay_40 rfl rfl iuX4 (by decide) rfl wF_X4_35 rfl ?_
        refine av_aload_n dX4_lay_43 rfl rfl ?_
        refine av_getr (k := 1) dX4_lay_44 rfl rfl iuX4 (by decide) rfl wF_X4_42 rfl ?_
        refine av_callV mX2_firstFault [av_r 3] [] dX4_lay_47 rfl rfl rfl mbX2_firstFault rfl wI_X2_firstFault wS_X2_firstFault rfl wM_X4_74 ⟨Nat.le_of_ble_eq_true rfl, Nat.le_of_ble_eq_true rfl⟩ rfl (Nat.le_of_ble_eq_true rfl) (av_C.mono (fun v s2 hh => ?_) h)
        obtain ⟨r2, rfl, h⟩ := hh
        change av_W E cSH mX4_lay 50 [some (av_r 0)] [av_i r2] s2 Q
        refine av_pop dX4_lay_50 (fun _ h9 => nomatch h9) ?_
        refine av_aload_n dX4_lay_51 rfl rfl ?_
        refine av_callV mX4_begin [] [] dX4_lay_52 rfl rfl rfl mbX4_begin rfl wI_X4_begin wS_X4_begin rfl wM_X4_81 ⟨Nat.le_of_ble_eq_true rfl, Nat.le_of_ble_eq_true rfl⟩ rfl (Nat.le_of_ble_eq_true rfl) (av_C.mono (fun v s3 hh => ?_) h)
        obtain ⟨rfl, h⟩ := hh
        change av_W E cSH mX4_lay 55 [some (av_r 0)] [] s3 Q
        refine av_aload_n dX4_lay_55 rfl rfl ?_
        refine av_getr (k := 1) dX4_lay_56 rfl rfl iuX4 (by decide) rfl wF_X4_42 rfl ?_
        refine av_get (k := 8) (x := (s3 3 8)) dX4_lay_59 rfl rfl iuX3 (by decide) rfl wF_X4_87 rfl rfl ?_
        exact av_ireturn dX4_lay_62 rfl h
      · have h := h.2.2 c
        refine av_bipush dX4_lay_36 rfl ?_
        exact av_ireturn dX4_lay_38 rfl h

theorem uX4_root {E : av_E} {σ : av_M} {Q : Option av_V → av_M → Prop} {a1 a2 : Int} (h : (rg a1) ∧ (((a1 < 0) → Q (some (av_i (-1))) σ) ∧ ((0 ≤ a1) → (rg a1) ∧ ((rg (σ 3 8)) ∧ ((((σ 3 8) ≤ a1) → Q (some (av_i (-1))) σ) ∧ ((a1 < (σ 3 8)) → (rg a2) ∧ (((a2 < 0) → Q (some (av_i (-1))) σ) ∧ ((0 ≤ a2) → (rg a2) ∧ (((a2 ≤ 2) → (rg a2) ∧ (((¬ a2 = 0) → (rg a2) ∧ (((¬ a2 = 1) → (0 ≤ a1 ∧ a1 < 8) ∧ (Q (some (av_i (σ 7 (a1).toNat))) σ)) ∧ ((a2 = 1) → (0 ≤ a1 ∧ a1 < 8) ∧ (Q (some (av_i (σ 6 (a1).toNat))) σ)))) ∧ ((a2 = 0) → (0 ≤ a1 ∧ a1 < 8) ∧ (Q (some (av_i (σ 4 (a1).toNat))) σ)))) ∧ ((2 < a2) → Q (some (av_i (-1))) σ)))))))))) :
    av_C E cSH mX4_root [av_r 0, av_i a1, av_i a2] σ Q := by
  refine av_C.ofW (L := [some (av_r 0), some (av_i a1), some (av_i a2)]) (by decide) (Nat.le_of_ble_eq_true rfl) rfl ?_
  refine av_iload_n dX4_root_0 rfl rfl ?_
  refine av_if_lt (tgt := 24) dX4_root_1 (by decide) h.1 (fun c => ?_) (fun c => ?_)
  · have h := h.2.1 c
    refine av_iconst dX4_root_24 ?_
    exact av_ireturn dX4_root_25 rfl h
  · have h := h.2.2 c
    refine av_iload_n dX4_root_4 rfl rfl ?_
    refine av_aload_n dX4_root_5 rfl rfl ?_
    refine av_getr (k := 1) dX4_root_6 rfl rfl iuX4 (by decide) rfl wF_X4_42 rfl ?_
    refine av_get (k := 8) (x := (σ 3 8)) dX4_root_9 rfl rfl iuX3 (by decide) rfl wF_X4_87 rfl rfl ?_
    refine av_icmp_ge (tgt := 24) dX4_root_12 (by decide) h.1 h.2.1 (fun c => ?_) (fun c => ?_)
    · have h := h.2.2.1 c
      refine av_iconst dX4_root_24 ?_
      exact av_ireturn dX4_root_25 rfl h
    · have h := h.2.2.2 c
      refine av_iload_n dX4_root_15 rfl rfl ?_
      refine av_if_lt (tgt := 24) dX4_root_16 (by decide) h.1 (fun c => ?_) (fun c => ?_)
      · have h := h.2.1 c
        refine av_iconst dX4_root_24 ?_
        exact av_ireturn dX4_root_25 rfl h
      · have h := h.2.2 c
        refine av_iload_n dX4_root_19 rfl rfl ?_
        refine av_iconst dX4_root_20 ?_
        refine av_icmp_le (tgt := 26) dX4_root_21 (by decide) h.1 (by decide) (fun c => ?_) (fun c => ?_)
        · have h := h.2.1 c
          refine av_iload_n dX4_root_26 rfl rfl ?_
          refine av_if_ne (tgt := 40) dX4_root_27 (by decide) h.1 (fun c => ?_) (fun c => ?_)
          · have h := h.2.1 c
            refine av_iload_n dX4_root_40 rfl rfl ?_
            refine av_iconst dX4_root_41 ?_
            refine av_icmp_ne (tgt := 57) dX4_root_42 (by decide) h.1 (by decide) (fun c => ?_) (fun c => ?_)
            · have h := h.2.1 c
              refine av_aload_n dX4_root_57 rfl rfl ?_
              refine av_getr (k := 1) dX4_root_58 rfl rfl iuX4 (by decide) rfl wF_X4_42 rfl ?_
              refine av_getr (k := 3) dX4_root_61 rfl rfl iuX3 (by decide) rfl wF_X4_99 rfl ?_
              refine av_iload_n dX4_root_64 rfl rfl ?_
              refine av_iald (x := (σ 7 (a1).toNat)) dX4_root_65 rfl (by decide) h.1 rfl ?_
              exact av_ireturn dX4_root_66 rfl h.2
            · have h := h.2.2 c
              refine av_aload_n dX4_root_45 rfl rfl ?_
              refine av_getr (k := 1) dX4_root_46 rfl rfl iuX4 (by decide) rfl wF_X4_42 rfl ?_
              refine av_getr (k := 2) dX4_root_49 rfl rfl iuX3 (by decide) rfl wF_X4_96 rfl ?_
              refine av_iload_n dX4_root_52 rfl rfl ?_
              refine av_iald (x := (σ 6 (a1).toNat)) dX4_root_53 rfl (by decide) h.1 rfl ?_
              refine av_goto (tgt := 66) dX4_root_54 (by decide) ?_
              exact av_ireturn dX4_root_66 rfl h.2
          · have h := h.2.2 c
            refine av_aload_n dX4_root_30 rfl rfl ?_
            refine av_getr (k := 1) dX4_root_31 rfl rfl iuX4 (by decide) rfl wF_X4_42 rfl ?_
            refine av_getr (k := 0) dX4_root_34 rfl rfl iuX3 (by decide) rfl wF_X4_93 rfl ?_
            refine av_iload_n dX4_root_37 rfl rfl ?_
            refine av_iald (x := (σ 4 (a1).toNat)) dX4_root_38 rfl (by decide) h.1 rfl ?_
            exact av_ireturn dX4_root_39 rfl h.2
        · have h := h.2.2 c
          refine av_iconst dX4_root_24 ?_
          exact av_ireturn dX4_root_25 rfl h

theorem uX4_reader {E : av_E} {σ : av_M} {Q : Option av_V → av_M → Prop} {a1 a2 : Int} (h : av_C E cSH mX4_isReader [av_r 0, av_i a1] σ (fun v s1 => ∃ r1 : Int, v = some (av_i r1) ∧ ((rg r1) ∧ (((r1 = 0) → Q (some (av_i (-1))) s1) ∧ ((¬ r1 = 0) → (rg a2) ∧ (((a2 < 0) → Q (some (av_i (-1))) s1) ∧ ((0 ≤ a2) → (rg a2) ∧ (((a2 ≤ 3) → (rg a2) ∧ (((¬ a2 = 3) → (rg a2) ∧ (((¬ a2 = 0) → (rg a2) ∧ (((¬ a2 = 1) → (0 ≤ a1 ∧ a1 < 5) ∧ (Q (some (av_i (s1 10 (a1).toNat))) s1)) ∧ ((a2 = 1) → (0 ≤ a1 ∧ a1 < 5) ∧ (Q (some (av_i (s1 9 (a1).toNat))) s1)))) ∧ ((a2 = 0) → (0 ≤ a1 ∧ a1 < 5) ∧ (Q (some (av_i (s1 8 (a1).toNat))) s1)))) ∧ ((a2 = 3) → av_C E cSH mX4_readingsOf [av_r 0, av_i a1, av_i (s1 27 4)] s1 (fun v s2 => ∃ r2 : Int, v = some (av_i r2) ∧ (Q (some (av_i r2)) s2))))) ∧ ((3 < a2) → Q (some (av_i (-1))) s1))))))))) :
    av_C E cSH mX4_reader [av_r 0, av_i a1, av_i a2] σ Q := by
  refine av_C.ofW (L := [some (av_r 0), some (av_i a1), some (av_i a2)]) (by decide) (Nat.le_of_ble_eq_true rfl) rfl ?_
  refine av_aload_n dX4_reader_0 rfl rfl ?_
  refine av_iload_n dX4_reader_1 rfl rfl ?_
  refine av_callV mX4_isReader [av_i a1] [] dX4_reader_2 rfl rfl rfl mbX4_isReader rfl wI_X4_isReader wS_X4_isReader rfl wM_X4_102 ⟨Nat.le_of_ble_eq_true rfl, Nat.le_of_ble_eq_true rfl⟩ rfl (Nat.le_of_ble_eq_true rfl) (av_C.mono (fun v s1 hh => ?_) h)
  obtain ⟨r1, rfl, h⟩ := hh
  change av_W E cSH mX4_reader 5 [some (av_r 0), some (av_i a1), some (av_i a2)] [av_i r1] s1 Q
  refine av_if_eq (tgt := 17) dX4_reader_5 (by decide) h.1 (fun c => ?_) (fun c => ?_)
  · have h := h.2.1 c
    refine av_iconst dX4_reader_17 ?_
    exact av_ireturn dX4_reader_18 rfl h
  · have h := h.2.2 c
    refine av_iload_n dX4_reader_8 rfl rfl ?_
    refine av_if_lt (tgt := 17) dX4_reader_9 (by decide) h.1 (fun c => ?_) (fun c => ?_)
    · have h := h.2.1 c
      refine av_iconst dX4_reader_17 ?_
      exact av_ireturn dX4_reader_18 rfl h
    · have h := h.2.2 c
      refine av_iload_n dX4_reader_12 rfl rfl ?_
      refine av_iconst dX4_reader_13 ?_
      refine av_icmp_le (tgt := 19) dX4_reader_14 (by decide) h.1 (by decide) (fun c => ?_) (fun c => ?_)
      · have h := h.2.1 c
        refine av_iload_n dX4_reader_19 rfl rfl ?_
        refine av_iconst dX4_reader_20 ?_
        refine av_icmp_ne (tgt := 36) dX4_reader_21 (by decide) h.1 (by decide) (fun c => ?_) (fun c => ?_)
        · have h := h.2.1 c
          refine av_iload_n dX4_reader_36 rfl rfl ?_
          refine av_if_ne (tgt := 50) dX4_reader_37 (by decide) h.1 (fun c => ?_) (fun c => ?_)
          · have h := h.2.1 c
            refine av_iload_n dX4_reader_50 rfl rfl ?_
            refine av_iconst dX4_reader_51 ?_
            refine av_icmp_ne (tgt := 67) dX4_reader_52 (by decide) h.1 (by decide) (fun c => ?_) (fun c => ?_)
            · have h := h.2.1 c
              refine av_aload_n dX4_reader_67 rfl rfl ?_
              refine av_getr (k := 1) dX4_reader_68 rfl rfl iuX4 (by decide) rfl wF_X4_42 rfl ?_
              refine av_getr (k := 6) dX4_reader_71 rfl rfl iuX3 (by decide) rfl wF_X4_116 rfl ?_
              refine av_iload_n dX4_reader_74 rfl rfl ?_
              refine av_iald (x := (s1 10 (a1).toNat)) dX4_reader_75 rfl (by decide) h.1 rfl ?_
              exact av_ireturn dX4_reader_76 rfl h.2
            · have h := h.2.2 c
              refine av_aload_n dX4_reader_55 rfl rfl ?_
              refine av_getr (k := 1) dX4_reader_56 rfl rfl iuX4 (by decide) rfl wF_X4_42 rfl ?_
              refine av_getr (k := 5) dX4_reader_59 rfl rfl iuX3 (by decide) rfl wF_X4_113 rfl ?_
              refine av_iload_n dX4_reader_62 rfl rfl ?_
              refine av_iald (x := (s1 9 (a1).toNat)) dX4_reader_63 rfl (by decide) h.1 rfl ?_
              refine av_goto (tgt := 76) dX4_reader_64 (by decide) ?_
              exact av_ireturn dX4_reader_76 rfl h.2
          · have h := h.2.2 c
            refine av_aload_n dX4_reader_40 rfl rfl ?_
            refine av_getr (k := 1) dX4_reader_41 rfl rfl iuX4 (by decide) rfl wF_X4_42 rfl ?_
            refine av_getr (k := 4) dX4_reader_44 rfl rfl iuX3 (by decide) rfl wF_X4_110 rfl ?_
            refine av_iload_n dX4_reader_47 rfl rfl ?_
            refine av_iald (x := (s1 8 (a1).toNat)) dX4_reader_48 rfl (by decide) h.1 rfl ?_
            exact av_ireturn dX4_reader_49 rfl h.2
        · have h := h.2.2 c
          refine av_aload_n dX4_reader_24 rfl rfl ?_
          refine av_iload_n dX4_reader_25 rfl rfl ?_
          refine av_aload_n dX4_reader_26 rfl rfl ?_
          refine av_getr (k := 4) dX4_reader_27 rfl rfl iuX4 (by decide) rfl wF_X4_9 rfl ?_
          refine av_iconst dX4_reader_30 ?_
          refine av_iald (x := (s1 27 4)) dX4_reader_31 rfl (by decide) (by decide) rfl ?_
          refine av_callV mX4_readingsOf [av_i a1, av_i (s1 27 4)] [] dX4_reader_32 rfl rfl rfl mbX4_readingsOf rfl wI_X4_readingsOf wS_X4_readingsOf rfl wM_X4_106 ⟨Nat.le_of_ble_eq_true rfl, Nat.le_of_ble_eq_true rfl⟩ rfl (Nat.le_of_ble_eq_true rfl) (av_C.mono (fun v s2 hh => ?_) h)
          obtain ⟨r2, rfl, h⟩ := hh
          change av_W E cSH mX4_reader 35 [some (av_r 0), some (av_i a1), some (av_i a2)] [av_i r2] s2 Q
          exact av_ireturn dX4_reader_35 rfl h
      · have h := h.2.2 c
        refine av_iconst dX4_reader_17 ?_
        exact av_ireturn dX4_reader_18 rfl h

theorem uX4_reading {E : av_E} {σ : av_M} {Q : Option av_V → av_M → Prop} {a1 a2 a3 : Int} (h : av_C E cSH mX4_isReader [av_r 0, av_i a1] σ (fun v s1 => ∃ r1 : Int, v = some (av_i r1) ∧ ((rg r1) ∧ (((r1 = 0) → Q (some (av_i (-1))) s1) ∧ ((¬ r1 = 0) → (rg a3) ∧ (((a3 < 0) → Q (some (av_i (-1))) s1) ∧ ((0 ≤ a3) → (rg a3) ∧ (((2 < a3) → Q (some (av_i (-1))) s1) ∧ ((a3 ≤ 2) → av_C E cSH mX4_isReading [av_r 0, av_i a1, av_i a2] s1 (fun v s2 => ∃ r2 : Int, v = some (av_i r2) ∧ ((rg r2) ∧ (((¬ r2 = 0) → av_C E cSH mX0_pick [av_r 21, av_i a2] s2 (fun v s3 => v = none ∧ ((rg a3) ∧ (((¬ a3 = 0) → (rg a3) ∧ (((¬ a3 = 1) → Q (some (av_i (s3 21 11))) s3) ∧ ((a3 = 1) → Q (some (av_i (s3 21 10))) s3))) ∧ ((a3 = 0) → Q (some (av_i (s3 21 9))) s3))))) ∧ ((r2 = 0) → Q (some (av_i (-1))) s2))))))))))))) :
    av_C E cSH mX4_reading [av_r 0, av_i a1, av_i a2, av_i a3] σ Q := by
  refine av_C.ofW (L := [some (av_r 0), some (av_i a1), some (av_i a2), some (av_i a3)]) (by decide) (Nat.le_of_ble_eq_true rfl) rfl ?_
  refine av_aload_n dX4_reading_0 rfl rfl ?_
  refine av_iload_n dX4_reading_1 rfl rfl ?_
  refine av_callV mX4_isReader [av_i a1] [] dX4_reading_2 rfl rfl rfl mbX4_isReader rfl wI_X4_isReader wS_X4_isReader rfl wM_X4_102 ⟨Nat.le_of_ble_eq_true rfl, Nat.le_of_ble_eq_true rfl⟩ rfl (Nat.le_of_ble_eq_true rfl) (av_C.mono (fun v s1 hh => ?_) h)
  obtain ⟨r1, rfl, h⟩ := hh
  change av_W E cSH mX4_reading 5 [some (av_r 0), some (av_i a1), some (av_i a2), some (av_i a3)] [av_i r1] s1 Q
  refine av_if_eq (tgt := 26) dX4_reading_5 (by decide) h.1 (fun c => ?_) (fun c => ?_)
  · have h := h.2.1 c
    refine av_iconst dX4_reading_26 ?_
    exact av_ireturn dX4_reading_27 rfl h
  · have h := h.2.2 c
    refine av_iload_n dX4_reading_8 rfl rfl ?_
    refine av_if_lt (tgt := 26) dX4_reading_9 (by decide) h.1 (fun c => ?_) (fun c => ?_)
    · have h := h.2.1 c
      refine av_iconst dX4_reading_26 ?_
      exact av_ireturn dX4_reading_27 rfl h
    · have h := h.2.2 c
      refine av_iload_n dX4_reading_12 rfl rfl ?_
      refine av_iconst dX4_reading_13 ?_
      refine av_icmp_gt (tgt := 26) dX4_reading_14 (by decide) h.1 (by decide) (fun c => ?_) (fun c => ?_)
      · have h := h.2.1 c
        refine av_iconst dX4_reading_26 ?_
        exact av_ireturn dX4_reading_27 rfl h
      · have h := h.2.2 c
        refine av_aload_n dX4_reading_17 rfl rfl ?_
        refine av_iload_n dX4_reading_18 rfl rfl ?_
        refine av_iload_n dX4_reading_19 rfl rfl ?_
        refine av_callV mX4_isReading [av_i a1, av_i a2] [] dX4_reading_20 rfl rfl rfl mbX4_isReading rfl wI_X4_isReading wS_X4_isReading rfl wM_X4_119 ⟨Nat.le_of_ble_eq_true rfl, Nat.le_of_ble_eq_true rfl⟩ rfl (Nat.le_of_ble_eq_true rfl) (av_C.mono (fun v s2 hh => ?_) h)
        obtain ⟨r2, rfl, h⟩ := hh
        change av_W E cSH mX4_reading 23 [some (av_r 0), some (av_i a1), some (av_i a2), some (av_i a3)] [av_i r2] s2 Q
        refine av_if_ne (tgt := 28) dX4_reading_23 (by decide) h.1 (fun c => ?_) (fun c => ?_)
        · have h := h.2.1 c
          refine av_aload_n dX4_reading_28 rfl rfl ?_
          refine av_getr (k := 3) dX4_reading_29 rfl rfl iuX4 (by decide) rfl wF_X4_54 rfl ?_
          refine av_iload_n dX4_reading_32 rfl rfl ?_
          refine av_callV mX0_pick [av_i a2] [] dX4_reading_33 rfl rfl rfl mbX0_pick rfl wI_X0_pick wS_X0_pick rfl wM_X4_123 ⟨Nat.le_of_ble_eq_true rfl, Nat.le_of_ble_eq_true rfl⟩ rfl (Nat.le_of_ble_eq_true rfl) (av_C.mono (fun v s3 hh => ?_) h)
          obtain ⟨rfl, h⟩ := hh
          change av_W E cSH mX4_reading 36 [some (av_r 0), some (av_i a1), some (av_i a2), some (av_i a3)] [] s3 Q
          refine av_iload_n dX4_reading_36 rfl rfl ?_
          refine av_if_ne (tgt := 48) dX4_reading_37 (by decide) h.1 (fun c => ?_) (fun c => ?_)
          · have h := h.2.1 c
            refine av_iload_n dX4_reading_48 rfl rfl ?_
            refine av_iconst dX4_reading_49 ?_
            refine av_icmp_ne (tgt := 63) dX4_reading_50 (by decide) h.1 (by decide) (fun c => ?_) (fun c => ?_)
            · have h := h.2.1 c
              refine av_aload_n dX4_reading_63 rfl rfl ?_
              refine av_getr (k := 3) dX4_reading_64 rfl rfl iuX4 (by decide) rfl wF_X4_54 rfl ?_
              refine av_get (k := 11) (x := (s3 21 11)) dX4_reading_67 rfl rfl iuX0 (by decide) rfl wF_X4_133 rfl rfl ?_
              exact av_ireturn dX4_reading_70 rfl h
            · have h := h.2.2 c
              refine av_aload_n dX4_reading_53 rfl rfl ?_
              refine av_getr (k := 3) dX4_reading_54 rfl rfl iuX4 (by decide) rfl wF_X4_54 rfl ?_
              refine av_get (k := 10) (x := (s3 21 10)) dX4_reading_57 rfl rfl iuX0 (by decide) rfl wF_X4_130 rfl rfl ?_
              refine av_goto (tgt := 70) dX4_reading_60 (by decide) ?_
              exact av_ireturn dX4_reading_70 rfl h
          · have h := h.2.2 c
            refine av_aload_n dX4_reading_40 rfl rfl ?_
            refine av_getr (k := 3) dX4_reading_41 rfl rfl iuX4 (by decide) rfl wF_X4_54 rfl ?_
            refine av_get (k := 9) (x := (s3 21 9)) dX4_reading_44 rfl rfl iuX0 (by decide) rfl wF_X4_127 rfl rfl ?_
            exact av_ireturn dX4_reading_47 rfl h
        · have h := h.2.2 c
          refine av_iconst dX4_reading_26 ?_
          exact av_ireturn dX4_reading_27 rfl h

theorem uX4_word {E : av_E} {σ : av_M} {Q : Option av_V → av_M → Prop} {a1 a2 a3 : Int} (h : av_C E cSH mX4_isReader [av_r 0, av_i a1] σ (fun v s1 => ∃ r1 : Int, v = some (av_i r1) ∧ ((rg r1) ∧ (((r1 = 0) → Q (some (av_i (-1))) s1) ∧ ((¬ r1 = 0) → (rg a3) ∧ (((a3 < 0) → Q (some (av_i (-1))) s1) ∧ ((0 ≤ a3) → av_C E cSH mX4_isReading [av_r 0, av_i a1, av_i a2] s1 (fun v s2 => ∃ r2 : Int, v = some (av_i r2) ∧ ((rg r2) ∧ (((¬ r2 = 0) → av_C E cSH mX0_pick [av_r 21, av_i a2] s2 (fun v s3 => v = none ∧ ((rg a3) ∧ ((rg (s3 21 9)) ∧ ((((s3 21 9) ≤ a3) → Q (some (av_i (-4))) s3) ∧ ((a3 < (s3 21 9)) → (rg a3) ∧ (((9 ≤ a3) → Q (some (av_i (-4))) s3) ∧ ((a3 < 9) → (0 ≤ a3 ∧ a3 < 9) ∧ (Q (some (av_i (s3 26 (a3).toNat))) s3))))))))) ∧ ((r2 = 0) → Q (some (av_i (-1))) s2))))))))))) :
    av_C E cSH mX4_word [av_r 0, av_i a1, av_i a2, av_i a3] σ Q := by
  refine av_C.ofW (L := [some (av_r 0), some (av_i a1), some (av_i a2), some (av_i a3)]) (by decide) (Nat.le_of_ble_eq_true rfl) rfl ?_
  refine av_aload_n dX4_word_0 rfl rfl ?_
  refine av_iload_n dX4_word_1 rfl rfl ?_
  refine av_callV mX4_isReader [av_i a1] [] dX4_word_2 rfl rfl rfl mbX4_isReader rfl wI_X4_isReader wS_X4_isReader rfl wM_X4_102 ⟨Nat.le_of_ble_eq_true rfl, Nat.le_of_ble_eq_true rfl⟩ rfl (Nat.le_of_ble_eq_true rfl) (av_C.mono (fun v s1 hh => ?_) h)
  obtain ⟨r1, rfl, h⟩ := hh
  change av_W E cSH mX4_word 5 [some (av_r 0), some (av_i a1), some (av_i a2), some (av_i a3)] [av_i r1] s1 Q
  refine av_if_eq (tgt := 21) dX4_word_5 (by decide) h.1 (fun c => ?_) (fun c => ?_)
  · have h := h.2.1 c
    refine av_iconst dX4_word_21 ?_
    exact av_ireturn dX4_word_22 rfl h
  · have h := h.2.2 c
    refine av_iload_n dX4_word_8 rfl rfl ?_
    refine av_if_lt (tgt := 21) dX4_word_9 (by decide) h.1 (fun c => ?_) (fun c => ?_)
    · have h := h.2.1 c
      refine av_iconst dX4_word_21 ?_
      exact av_ireturn dX4_word_22 rfl h
    · have h := h.2.2 c
      refine av_aload_n dX4_word_12 rfl rfl ?_
      refine av_iload_n dX4_word_13 rfl rfl ?_
      refine av_iload_n dX4_word_14 rfl rfl ?_
      refine av_callV mX4_isReading [av_i a1, av_i a2] [] dX4_word_15 rfl rfl rfl mbX4_isReading rfl wI_X4_isReading wS_X4_isReading rfl wM_X4_119 ⟨Nat.le_of_ble_eq_true rfl, Nat.le_of_ble_eq_true rfl⟩ rfl (Nat.le_of_ble_eq_true rfl) (av_C.mono (fun v s2 hh => ?_) h)
      obtain ⟨r2, rfl, h⟩ := hh
      change av_W E cSH mX4_word 18 [some (av_r 0), some (av_i a1), some (av_i a2), some (av_i a3)] [av_i r2] s2 Q
      refine av_if_ne (tgt := 23) dX4_word_18 (by decide) h.1 (fun c => ?_) (fun c => ?_)
      · have h := h.2.1 c
        refine av_aload_n dX4_word_23 rfl rfl ?_
        refine av_getr (k := 3) dX4_word_24 rfl rfl iuX4 (by decide) rfl wF_X4_54 rfl ?_
        refine av_iload_n dX4_word_27 rfl rfl ?_
        refine av_callV mX0_pick [av_i a2] [] dX4_word_28 rfl rfl rfl mbX0_pick rfl wI_X0_pick wS_X0_pick rfl wM_X4_123 ⟨Nat.le_of_ble_eq_true rfl, Nat.le_of_ble_eq_true rfl⟩ rfl (Nat.le_of_ble_eq_true rfl) (av_C.mono (fun v s3 hh => ?_) h)
        obtain ⟨rfl, h⟩ := hh
        change av_W E cSH mX4_word 31 [some (av_r 0), some (av_i a1), some (av_i a2), some (av_i a3)] [] s3 Q
        refine av_iload_n dX4_word_31 rfl rfl ?_
        refine av_aload_n dX4_word_32 rfl rfl ?_
        refine av_getr (k := 3) dX4_word_33 rfl rfl iuX4 (by decide) rfl wF_X4_54 rfl ?_
        refine av_get (k := 9) (x := (s3 21 9)) dX4_word_36 rfl rfl iuX0 (by decide) rfl wF_X4_127 rfl rfl ?_
        refine av_icmp_ge (tgt := 60) dX4_word_39 (by decide) h.1 h.2.1 (fun c => ?_) (fun c => ?_)
        · have h := h.2.2.1 c
          refine av_bipush dX4_word_60 rfl ?_
          exact av_ireturn dX4_word_62 rfl h
        · have h := h.2.2.2 c
          refine av_iload_n dX4_word_42 rfl rfl ?_
          refine av_bipush dX4_word_43 rfl ?_
          refine av_icmp_ge (tgt := 60) dX4_word_45 (by decide) h.1 (by decide) (fun c => ?_) (fun c => ?_)
          · have h := h.2.1 c
            refine av_bipush dX4_word_60 rfl ?_
            exact av_ireturn dX4_word_62 rfl h
          · have h := h.2.2 c
            refine av_aload_n dX4_word_48 rfl rfl ?_
            refine av_getr (k := 3) dX4_word_49 rfl rfl iuX4 (by decide) rfl wF_X4_54 rfl ?_
            refine av_getr (k := 8) dX4_word_52 rfl rfl iuX0 (by decide) rfl wF_X4_136 rfl ?_
            refine av_iload_n dX4_word_55 rfl rfl ?_
            refine av_iald (x := (s3 26 (a3).toNat)) dX4_word_56 rfl (by decide) h.1 rfl ?_
            refine av_goto (tgt := 62) dX4_word_57 (by decide) ?_
            exact av_ireturn dX4_word_62 rfl h.2
      · have h := h.2.2 c
        refine av_iconst dX4_word_21 ?_
        exact av_ireturn dX4_word_22 rfl h

theorem uX4_tells {E : av_E} {σ : av_M} {Q : Option av_V → av_M → Prop} {a1 a2 : Int} (h : av_C E cSH mX4_isReader [av_r 0, av_i a1] σ (fun v s1 => ∃ r1 : Int, v = some (av_i r1) ∧ ((rg r1) ∧ (((r1 = 0) → Q (some (av_i (-1))) s1) ∧ ((¬ r1 = 0) → (rg a2) ∧ (((a2 < 0) → Q (some (av_i (-1))) s1) ∧ ((0 ≤ a2) → (rg a2) ∧ (((a2 ≤ 2) → av_C E cSH mX4_toldBy [av_r 0, av_i a1, av_i (s1 27 4)] s1 (fun v s2 => ∃ r2 : Int, v = some (av_i r2) ∧ ((rg r2) ∧ (((r2 = (-4)) → Q (some (av_i r2)) s2) ∧ ((¬ r2 = (-4)) → (rg a2) ∧ (((¬ a2 = 0) → (rg a2) ∧ (((¬ a2 = 1) → Q (some (av_i (s2 21 11))) s2) ∧ ((a2 = 1) → Q (some (av_i (s2 21 10))) s2))) ∧ ((a2 = 0) → Q (some (av_i r2)) s2))))))) ∧ ((2 < a2) → Q (some (av_i (-1))) s1))))))))) :
    av_C E cSH mX4_tells [av_r 0, av_i a1, av_i a2] σ Q := by
  refine av_C.ofW (L := [some (av_r 0), some (av_i a1), some (av_i a2), none]) (by decide) (Nat.le_of_ble_eq_true rfl) rfl ?_
  refine av_aload_n dX4_tells_0 rfl rfl ?_
  refine av_iload_n dX4_tells_1 rfl rfl ?_
  refine av_callV mX4_isReader [av_i a1] [] dX4_tells_2 rfl rfl rfl mbX4_isReader rfl wI_X4_isReader wS_X4_isReader rfl wM_X4_102 ⟨Nat.le_of_ble_eq_true rfl, Nat.le_of_ble_eq_true rfl⟩ rfl (Nat.le_of_ble_eq_true rfl) (av_C.mono (fun v s1 hh => ?_) h)
  obtain ⟨r1, rfl, h⟩ := hh
  change av_W E cSH mX4_tells 5 [some (av_r 0), some (av_i a1), some (av_i a2), none] [av_i r1] s1 Q
  refine av_if_eq (tgt := 17) dX4_tells_5 (by decide) h.1 (fun c => ?_) (fun c => ?_)
  · have h := h.2.1 c
    refine av_iconst dX4_tells_17 ?_
    exact av_ireturn dX4_tells_18 rfl h
  · have h := h.2.2 c
    refine av_iload_n dX4_tells_8 rfl rfl ?_
    refine av_if_lt (tgt := 17) dX4_tells_9 (by decide) h.1 (fun c => ?_) (fun c => ?_)
    · have h := h.2.1 c
      refine av_iconst dX4_tells_17 ?_
      exact av_ireturn dX4_tells_18 rfl h
    · have h := h.2.2 c
      refine av_iload_n dX4_tells_12 rfl rfl ?_
      refine av_iconst dX4_tells_13 ?_
      refine av_icmp_le (tgt := 19) dX4_tells_14 (by decide) h.1 (by decide) (fun c => ?_) (fun c => ?_)
      · have h := h.2.1 c
        refine av_aload_n dX4_tells_19 rfl rfl ?_
        refine av_iload_n dX4_tells_20 rfl rfl ?_
        refine av_aload_n dX4_tells_21 rfl rfl ?_
        refine av_getr (k := 4) dX4_tells_22 rfl rfl iuX4 (by decide) rfl wF_X4_9 rfl ?_
        refine av_iconst dX4_tells_25 ?_
        refine av_iald (x := (s1 27 4)) dX4_tells_26 rfl (by decide) (by decide) rfl ?_
        refine av_callV mX4_toldBy [av_i a1, av_i (s1 27 4)] [] dX4_tells_27 rfl rfl rfl mbX4_toldBy rfl wI_X4_toldBy wS_X4_toldBy rfl wM_X4_139 ⟨Nat.le_of_ble_eq_true rfl, Nat.le_of_ble_eq_true rfl⟩ rfl (Nat.le_of_ble_eq_true rfl) (av_C.mono (fun v s2 hh => ?_) h)
        obtain ⟨r2, rfl, h⟩ := hh
        change av_W E cSH mX4_tells 30 [some (av_r 0), some (av_i a1), some (av_i a2), none] [av_i r2] s2 Q
        refine av_istore_n (L' := [some (av_r 0), some (av_i a1), some (av_i a2), some (av_i r2)]) dX4_tells_30 rfl (by decide) rfl ?_
        refine av_iload_n dX4_tells_31 rfl rfl ?_
        refine av_bipush dX4_tells_32 rfl ?_
        refine av_icmp_eq (tgt := 41) dX4_tells_34 (by decide) h.1 (by decide) (fun c => ?_) (fun c => ?_)
        · have h := h.2.1 c
          refine av_iload_n dX4_tells_41 rfl rfl ?_
          exact av_ireturn dX4_tells_42 rfl h
        · have h := h.2.2 c
          refine av_iload_n dX4_tells_37 rfl rfl ?_
          refine av_if_ne (tgt := 43) dX4_tells_38 (by decide) h.1 (fun c => ?_) (fun c => ?_)
          · have h := h.2.1 c
            refine av_iload_n dX4_tells_43 rfl rfl ?_
            refine av_iconst dX4_tells_44 ?_
            refine av_icmp_ne (tgt := 58) dX4_tells_45 (by decide) h.1 (by decide) (fun c => ?_) (fun c => ?_)
            · have h := h.2.1 c
              refine av_aload_n dX4_tells_58 rfl rfl ?_
              refine av_getr (k := 3) dX4_tells_59 rfl rfl iuX4 (by decide) rfl wF_X4_54 rfl ?_
              refine av_get (k := 11) (x := (s2 21 11)) dX4_tells_62 rfl rfl iuX0 (by decide) rfl wF_X4_133 rfl rfl ?_
              exact av_ireturn dX4_tells_65 rfl h
            · have h := h.2.2 c
              refine av_aload_n dX4_tells_48 rfl rfl ?_
              refine av_getr (k := 3) dX4_tells_49 rfl rfl iuX4 (by decide) rfl wF_X4_54 rfl ?_
              refine av_get (k := 10) (x := (s2 21 10)) dX4_tells_52 rfl rfl iuX0 (by decide) rfl wF_X4_130 rfl rfl ?_
              refine av_goto (tgt := 65) dX4_tells_55 (by decide) ?_
              exact av_ireturn dX4_tells_65 rfl h
          · have h := h.2.2 c
            refine av_iload_n dX4_tells_41 rfl rfl ?_
            exact av_ireturn dX4_tells_42 rfl h
      · have h := h.2.2 c
        refine av_iconst dX4_tells_17 ?_
        exact av_ireturn dX4_tells_18 rfl h

theorem uX4_ask {E : av_E} {σ : av_M} {Q : Option av_V → av_M → Prop} {a1 : Int} (h : av_C E cSH mX4_isReader [av_r 0, av_i a1] σ (fun v s1 => ∃ r1 : Int, v = some (av_i r1) ∧ ((rg r1) ∧ (((¬ r1 = 0) → (0 ≤ a1 ∧ a1 < 5) ∧ ((rg (s1 27 1)) ∧ ((rg (s1 10 (a1).toNat)) ∧ ((((s1 10 (a1).toNat) ≤ (s1 27 1)) → av_C E cSH mX1_put [av_r 28, av_r 27] s1 (fun v s2 => v = none ∧ ((0 ≤ a1 ∧ a1 < 5) ∧ ((0 ≤ a1 ∧ a1 < 5) ∧ (av_C E cSH mX4_verbsToldBy [av_r 0, av_i a1] (av_st (av_st s2 27 1 ((s2 27 1) - (s2 10 (a1).toNat))) 27 0 ((s2 27 0) + (s2 9 (a1).toNat))) (fun v s3 => ∃ r3 : Int, v = some (av_i r3) ∧ (Q (some (av_i (i_or (s2 27 2) r3))) (av_st s3 27 2 (i_or (s2 27 2) r3))))))))) ∧ (((s1 27 1) < (s1 10 (a1).toNat)) → Q (some (av_i (-2))) s1))))) ∧ ((r1 = 0) → Q (some (av_i (-1))) s1))))) :
    av_C E cSH mX4_ask [av_r 0, av_i a1] σ Q := by
  refine av_C.ofW (L := [some (av_r 0), some (av_i a1)]) (by decide) (Nat.le_of_ble_eq_true rfl) rfl ?_
  refine av_aload_n dX4_ask_0 rfl rfl ?_
  refine av_iload_n dX4_ask_1 rfl rfl ?_
  refine av_callV mX4_isReader [av_i a1] [] dX4_ask_2 rfl rfl rfl mbX4_isReader rfl wI_X4_isReader wS_X4_isReader rfl wM_X4_102 ⟨Nat.le_of_ble_eq_true rfl, Nat.le_of_ble_eq_true rfl⟩ rfl (Nat.le_of_ble_eq_true rfl) (av_C.mono (fun v s1 hh => ?_) h)
  obtain ⟨r1, rfl, h⟩ := hh
  change av_W E cSH mX4_ask 5 [some (av_r 0), some (av_i a1)] [av_i r1] s1 Q
  refine av_if_ne (tgt := 10) dX4_ask_5 (by decide) h.1 (fun c => ?_) (fun c => ?_)
  · have h := h.2.1 c
    refine av_aload_n dX4_ask_10 rfl rfl ?_
    refine av_getr (k := 4) dX4_ask_11 rfl rfl iuX4 (by decide) rfl wF_X4_9 rfl ?_
    refine av_iconst dX4_ask_14 ?_
    refine av_iald (x := (s1 27 1)) dX4_ask_15 rfl (by decide) (by decide) rfl ?_
    refine av_aload_n dX4_ask_16 rfl rfl ?_
    refine av_getr (k := 1) dX4_ask_17 rfl rfl iuX4 (by decide) rfl wF_X4_42 rfl ?_
    refine av_getr (k := 6) dX4_ask_20 rfl rfl iuX3 (by decide) rfl wF_X4_116 rfl ?_
    refine av_iload_n dX4_ask_23 rfl rfl ?_
    refine av_iald (x := (s1 10 (a1).toNat)) dX4_ask_24 rfl (by decide) h.1 rfl ?_
    refine av_icmp_ge (tgt := 31) dX4_ask_25 (by decide) h.2.1 h.2.2.1 (fun c => ?_) (fun c => ?_)
    · have h := h.2.2.2.1 c
      refine av_aload_n dX4_ask_31 rfl rfl ?_
      refine av_getr (k := 5) dX4_ask_32 rfl rfl iuX4 (by decide) rfl wF_X4_16 rfl ?_
      refine av_aload_n dX4_ask_35 rfl rfl ?_
      refine av_getr (k := 4) dX4_ask_36 rfl rfl iuX4 (by decide) rfl wF_X4_9 rfl ?_
      refine av_callV mX1_put [av_r 27] [] dX4_ask_39 rfl rfl rfl mbX1_put rfl wI_X1_put wS_X1_put rfl wM_X4_142 ⟨Nat.le_of_ble_eq_true rfl, Nat.le_of_ble_eq_true rfl⟩ rfl (Nat.le_of_ble_eq_true rfl) (av_C.mono (fun v s2 hh => ?_) h)
      obtain ⟨rfl, h⟩ := hh
      change av_W E cSH mX4_ask 42 [some (av_r 0), some (av_i a1)] [] s2 Q
      refine av_aload_n dX4_ask_42 rfl rfl ?_
      refine av_getr (k := 4) dX4_ask_43 rfl rfl iuX4 (by decide) rfl wF_X4_9 rfl ?_
      refine av_iconst dX4_ask_46 ?_
      refine av_dup2 dX4_ask_47 (fun _ h9 => nomatch h9) (fun _ h9 => nomatch h9) ?_
      refine av_iald (x := (s2 27 1)) dX4_ask_48 rfl (by decide) (by decide) rfl ?_
      refine av_aload_n dX4_ask_49 rfl rfl ?_
      refine av_getr (k := 1) dX4_ask_50 rfl rfl iuX4 (by decide) rfl wF_X4_42 rfl ?_
      refine av_getr (k := 6) dX4_ask_53 rfl rfl iuX3 (by decide) rfl wF_X4_116 rfl ?_
      refine av_iload_n dX4_ask_56 rfl rfl ?_
      refine av_iald (x := (s2 10 (a1).toNat)) dX4_ask_57 rfl (by decide) h.1 rfl ?_
      refine av_isub dX4_ask_58 ?_
      refine av_iast dX4_ask_59 rfl (by decide) (by decide) ?_
      refine av_aload_n dX4_ask_60 rfl rfl ?_
      refine av_getr (k := 4) dX4_ask_61 rfl rfl iuX4 (by decide) rfl wF_X4_9 rfl ?_
      refine av_iconst dX4_ask_64 ?_
      refine av_dup2 dX4_ask_65 (fun _ h9 => nomatch h9) (fun _ h9 => nomatch h9) ?_
      refine av_iald (x := (s2 27 0)) dX4_ask_66 rfl (by decide) (by decide) rfl ?_
      refine av_aload_n dX4_ask_67 rfl rfl ?_
      refine av_getr (k := 1) dX4_ask_68 rfl rfl iuX4 (by decide) rfl wF_X4_42 rfl ?_
      refine av_getr (k := 5) dX4_ask_71 rfl rfl iuX3 (by decide) rfl wF_X4_113 rfl ?_
      refine av_iload_n dX4_ask_74 rfl rfl ?_
      refine av_iald (x := (s2 9 (a1).toNat)) dX4_ask_75 rfl (by decide) h.2.1 rfl ?_
      refine av_iadd dX4_ask_76 ?_
      refine av_iast dX4_ask_77 rfl (by decide) (by decide) ?_
      refine av_aload_n dX4_ask_78 rfl rfl ?_
      refine av_getr (k := 4) dX4_ask_79 rfl rfl iuX4 (by decide) rfl wF_X4_9 rfl ?_
      refine av_iconst dX4_ask_82 ?_
      refine av_dup2 dX4_ask_83 (fun _ h9 => nomatch h9) (fun _ h9 => nomatch h9) ?_
      refine av_iald (x := (s2 27 2)) dX4_ask_84 rfl (by decide) (by decide) rfl ?_
      refine av_aload_n dX4_ask_85 rfl rfl ?_
      refine av_iload_n dX4_ask_86 rfl rfl ?_
      refine av_callV mX4_verbsToldBy [av_i a1] [av_i (s2 27 2), av_i 2, av_r 27] dX4_ask_87 rfl rfl rfl mbX4_verbsToldBy rfl wI_X4_verbsToldBy wS_X4_verbsToldBy rfl wM_X4_146 ⟨Nat.le_of_ble_eq_true rfl, Nat.le_of_ble_eq_true rfl⟩ rfl (Nat.le_of_ble_eq_true rfl) (av_C.mono (fun v s3 hh => ?_) h.2.2)
      obtain ⟨r3, rfl, h⟩ := hh
      change av_W E cSH mX4_ask 90 [some (av_r 0), some (av_i a1)] [av_i r3, av_i (s2 27 2), av_i 2, av_r 27] s3 Q
      refine av_ior dX4_ask_90 ?_
      refine av_iast dX4_ask_91 rfl (by decide) (by decide) ?_
      refine av_aload_n dX4_ask_92 rfl rfl ?_
      refine av_getr (k := 4) dX4_ask_93 rfl rfl iuX4 (by decide) rfl wF_X4_9 rfl ?_
      refine av_iconst dX4_ask_96 ?_
      refine av_iald (x := (i_or (s2 27 2) r3)) dX4_ask_97 rfl (by decide) (by decide) rfl ?_
      exact av_ireturn dX4_ask_98 rfl h
    · have h := h.2.2.2.2 c
      refine av_bipush dX4_ask_28 rfl ?_
      exact av_ireturn dX4_ask_30 rfl h
  · have h := h.2.2 c
    refine av_iconst dX4_ask_8 ?_
    exact av_ireturn dX4_ask_9 rfl h

theorem uX4_shut {E : av_E} {σ : av_M} {Q : Option av_V → av_M → Prop} (h : av_C E cSH mX4_holds [av_i (σ 27 2), av_i 1] σ (fun v s1 => ∃ r1 : Int, v = some (av_i r1) ∧ ((rg r1) ∧ (((r1 = 0) → Q (some (av_i (-2))) s1) ∧ ((¬ r1 = 0) → (rg (s1 27 3)) ∧ ((((s1 27 3) = 1) → Q (some (av_i (-2))) s1) ∧ ((¬ (s1 27 3) = 1) → av_C E cSH mX4_hasFallen [av_r 0] s1 (fun v s2 => ∃ r2 : Int, v = some (av_i r2) ∧ ((rg r2) ∧ (((r2 = 0) → av_C E cSH mX1_put [av_r 28, av_r 27] s2 (fun v s3 => v = none ∧ (av_C E cSH mX3_fall [av_r 3] (av_st s3 27 3 1) (fun v s4 => ∃ r4 : Int, v = some (av_i r4) ∧ (Q (some (av_i (r4 - (s4 27 0)))) s4))))) ∧ ((¬ r2 = 0) → Q (some (av_i (-2))) s2))))))))))) :
    av_C E cSH mX4_shut [av_r 0] σ Q := by
  refine av_C.ofW (L := [some (av_r 0)]) (by decide) (Nat.le_of_ble_eq_true rfl) rfl ?_
  refine av_aload_n dX4_shut_0 rfl rfl ?_
  refine av_getr (k := 4) dX4_shut_1 rfl rfl iuX4 (by decide) rfl wF_X4_9 rfl ?_
  refine av_iconst dX4_shut_4 ?_
  refine av_iald (x := (σ 27 2)) dX4_shut_5 rfl (by decide) (by decide) rfl ?_
  refine av_iconst dX4_shut_6 ?_
  refine av_callS mX4_holds [av_i (σ 27 2), av_i 1] [] dX4_shut_7 mbX4_holds rfl wT_X4_holds rfl wM_X4_150 ⟨Nat.le_of_ble_eq_true rfl, Nat.le_of_ble_eq_true rfl⟩ rfl (Nat.le_of_ble_eq_true rfl) (av_C.mono (fun v s1 hh => ?_) h)
  obtain ⟨r1, rfl, h⟩ := hh
  change av_W E cSH mX4_shut 10 [some (av_r 0)] [av_i r1] s1 Q
  refine av_if_eq (tgt := 30) dX4_shut_10 (by decide) h.1 (fun c => ?_) (fun c => ?_)
  · have h := h.2.1 c
    refine av_bipush dX4_shut_30 rfl ?_
    exact av_ireturn dX4_shut_32 rfl h
  · have h := h.2.2 c
    refine av_aload_n dX4_shut_13 rfl rfl ?_
    refine av_getr (k := 4) dX4_shut_14 rfl rfl iuX4 (by decide) rfl wF_X4_9 rfl ?_
    refine av_iconst dX4_shut_17 ?_
    refine av_iald (x := (s1 27 3)) dX4_shut_18 rfl (by decide) (by decide) rfl ?_
    refine av_iconst dX4_shut_19 ?_
    refine av_icmp_eq (tgt := 30) dX4_shut_20 (by decide) h.1 (by decide) (fun c => ?_) (fun c => ?_)
    · have h := h.2.1 c
      refine av_bipush dX4_shut_30 rfl ?_
      exact av_ireturn dX4_shut_32 rfl h
    · have h := h.2.2 c
      refine av_aload_n dX4_shut_23 rfl rfl ?_
      refine av_callV mX4_hasFallen [] [] dX4_shut_24 rfl rfl rfl mbX4_hasFallen rfl wI_X4_hasFallen wS_X4_hasFallen rfl wM_X4_153 ⟨Nat.le_of_ble_eq_true rfl, Nat.le_of_ble_eq_true rfl⟩ rfl (Nat.le_of_ble_eq_true rfl) (av_C.mono (fun v s2 hh => ?_) h)
      obtain ⟨r2, rfl, h⟩ := hh
      change av_W E cSH mX4_shut 27 [some (av_r 0)] [av_i r2] s2 Q
      refine av_if_eq (tgt := 33) dX4_shut_27 (by decide) h.1 (fun c => ?_) (fun c => ?_)
      · have h := h.2.1 c
        refine av_aload_n dX4_shut_33 rfl rfl ?_
        refine av_getr (k := 5) dX4_shut_34 rfl rfl iuX4 (by decide) rfl wF_X4_16 rfl ?_
        refine av_aload_n dX4_shut_37 rfl rfl ?_
        refine av_getr (k := 4) dX4_shut_38 rfl rfl iuX4 (by decide) rfl wF_X4_9 rfl ?_
        refine av_callV mX1_put [av_r 27] [] dX4_shut_41 rfl rfl rfl mbX1_put rfl wI_X1_put wS_X1_put rfl wM_X4_142 ⟨Nat.le_of_ble_eq_true rfl, Nat.le_of_ble_eq_true rfl⟩ rfl (Nat.le_of_ble_eq_true rfl) (av_C.mono (fun v s3 hh => ?_) h)
        obtain ⟨rfl, h⟩ := hh
        change av_W E cSH mX4_shut 44 [some (av_r 0)] [] s3 Q
        refine av_aload_n dX4_shut_44 rfl rfl ?_
        refine av_getr (k := 4) dX4_shut_45 rfl rfl iuX4 (by decide) rfl wF_X4_9 rfl ?_
        refine av_iconst dX4_shut_48 ?_
        refine av_iconst dX4_shut_49 ?_
        refine av_iast dX4_shut_50 rfl (by decide) (by decide) ?_
        refine av_aload_n dX4_shut_51 rfl rfl ?_
        refine av_getr (k := 1) dX4_shut_52 rfl rfl iuX4 (by decide) rfl wF_X4_42 rfl ?_
        refine av_callV mX3_fall [] [] dX4_shut_55 rfl rfl rfl mbX3_fall rfl wI_X3_fall wS_X3_fall rfl wM_X4_157 ⟨Nat.le_of_ble_eq_true rfl, Nat.le_of_ble_eq_true rfl⟩ rfl (Nat.le_of_ble_eq_true rfl) (av_C.mono (fun v s4 hh => ?_) h)
        obtain ⟨r4, rfl, h⟩ := hh
        change av_W E cSH mX4_shut 58 [some (av_r 0)] [av_i r4] s4 Q
        refine av_aload_n dX4_shut_58 rfl rfl ?_
        refine av_getr (k := 4) dX4_shut_59 rfl rfl iuX4 (by decide) rfl wF_X4_9 rfl ?_
        refine av_iconst dX4_shut_62 ?_
        refine av_iald (x := (s4 27 0)) dX4_shut_63 rfl (by decide) (by decide) rfl ?_
        refine av_isub dX4_shut_64 ?_
        exact av_ireturn dX4_shut_65 rfl h
      · have h := h.2.2 c
        refine av_bipush dX4_shut_30 rfl ?_
        exact av_ireturn dX4_shut_32 rfl h

theorem uX4_carve {E : av_E} {σ : av_M} {Q : Option av_V → av_M → Prop} {a1 : Int} (h : (rg a1) ∧ (((a1 < 0) → Q (some (av_i (-1))) σ) ∧ ((0 ≤ a1) → (rg a1) ∧ (((a1 < 5) → av_C E cSH mX4_lettersIn [av_i (σ 27 4)] σ (fun v s1 => ∃ r1 : Int, v = some (av_i r1) ∧ ((rg r1) ∧ (((r1 < 9) → av_C E cSH mX1_put [av_r 28, av_r 27] s1 (fun v s2 => v = none ∧ (av_C E cSH mX4_lettersIn [av_i ((((s2 27 4) * 6) + a1) + 1)] (av_st s2 27 4 ((((s2 27 4) * 6) + a1) + 1)) (fun v s3 => ∃ r3 : Int, v = some (av_i r3) ∧ (Q (some (av_i r3)) s3))))) ∧ ((9 ≤ r1) → Q (some (av_i (-3))) s1))))) ∧ ((5 ≤ a1) → Q (some (av_i (-1))) σ))))) :
    av_C E cSH mX4_carve [av_r 0, av_i a1] σ Q := by
  refine av_C.ofW (L := [some (av_r 0), some (av_i a1)]) (by decide) (Nat.le_of_ble_eq_true rfl) rfl ?_
  refine av_iload_n dX4_carve_0 rfl rfl ?_
  refine av_if_lt (tgt := 9) dX4_carve_1 (by decide) h.1 (fun c => ?_) (fun c => ?_)
  · have h := h.2.1 c
    refine av_iconst dX4_carve_9 ?_
    exact av_ireturn dX4_carve_10 rfl h
  · have h := h.2.2 c
    refine av_iload_n dX4_carve_4 rfl rfl ?_
    refine av_iconst dX4_carve_5 ?_
    refine av_icmp_lt (tgt := 11) dX4_carve_6 (by decide) h.1 (by decide) (fun c => ?_) (fun c => ?_)
    · have h := h.2.1 c
      refine av_aload_n dX4_carve_11 rfl rfl ?_
      refine av_getr (k := 4) dX4_carve_12 rfl rfl iuX4 (by decide) rfl wF_X4_9 rfl ?_
      refine av_iconst dX4_carve_15 ?_
      refine av_iald (x := (σ 27 4)) dX4_carve_16 rfl (by decide) (by decide) rfl ?_
      refine av_callS mX4_lettersIn [av_i (σ 27 4)] [] dX4_carve_17 mbX4_lettersIn rfl wT_X4_lettersIn rfl wM_X4_160 ⟨Nat.le_of_ble_eq_true rfl, Nat.le_of_ble_eq_true rfl⟩ rfl (Nat.le_of_ble_eq_true rfl) (av_C.mono (fun v s1 hh => ?_) h)
      obtain ⟨r1, rfl, h⟩ := hh
      change av_W E cSH mX4_carve 20 [some (av_r 0), some (av_i a1)] [av_i r1] s1 Q
      refine av_bipush dX4_carve_20 rfl ?_
      refine av_icmp_lt (tgt := 28) dX4_carve_22 (by decide) h.1 (by decide) (fun c => ?_) (fun c => ?_)
      · have h := h.2.1 c
        refine av_aload_n dX4_carve_28 rfl rfl ?_
        refine av_getr (k := 5) dX4_carve_29 rfl rfl iuX4 (by decide) rfl wF_X4_16 rfl ?_
        refine av_aload_n dX4_carve_32 rfl rfl ?_
        refine av_getr (k := 4) dX4_carve_33 rfl rfl iuX4 (by decide) rfl wF_X4_9 rfl ?_
        refine av_callV mX1_put [av_r 27] [] dX4_carve_36 rfl rfl rfl mbX1_put rfl wI_X1_put wS_X1_put rfl wM_X4_142 ⟨Nat.le_of_ble_eq_true rfl, Nat.le_of_ble_eq_true rfl⟩ rfl (Nat.le_of_ble_eq_true rfl) (av_C.mono (fun v s2 hh => ?_) h)
        obtain ⟨rfl, h⟩ := hh
        change av_W E cSH mX4_carve 39 [some (av_r 0), some (av_i a1)] [] s2 Q
        refine av_aload_n dX4_carve_39 rfl rfl ?_
        refine av_getr (k := 4) dX4_carve_40 rfl rfl iuX4 (by decide) rfl wF_X4_9 rfl ?_
        refine av_iconst dX4_carve_43 ?_
        refine av_aload_n dX4_carve_44 rfl rfl ?_
        refine av_getr (k := 4) dX4_carve_45 rfl rfl iuX4 (by decide) rfl wF_X4_9 rfl ?_
        refine av_iconst dX4_carve_48 ?_
        refine av_iald (x := (s2 27 4)) dX4_carve_49 rfl (by decide) (by decide) rfl ?_
        refine av_bipush dX4_carve_50 rfl ?_
        refine av_imul dX4_carve_52 ?_
        refine av_iload_n dX4_carve_53 rfl rfl ?_
        refine av_iadd dX4_carve_54 ?_
        refine av_iconst dX4_carve_55 ?_
        refine av_iadd dX4_carve_56 ?_
        refine av_iast dX4_carve_57 rfl (by decide) (by decide) ?_
        refine av_aload_n dX4_carve_58 rfl rfl ?_
        refine av_getr (k := 4) dX4_carve_59 rfl rfl iuX4 (by decide) rfl wF_X4_9 rfl ?_
        refine av_iconst dX4_carve_62 ?_
        refine av_iald (x := ((((s2 27 4) * 6) + a1) + 1)) dX4_carve_63 rfl (by decide) (by decide) rfl ?_
        refine av_callS mX4_lettersIn [av_i ((((s2 27 4) * 6) + a1) + 1)] [] dX4_carve_64 mbX4_lettersIn rfl wT_X4_lettersIn rfl wM_X4_160 ⟨Nat.le_of_ble_eq_true rfl, Nat.le_of_ble_eq_true rfl⟩ rfl (Nat.le_of_ble_eq_true rfl) (av_C.mono (fun v s3 hh => ?_) h)
        obtain ⟨r3, rfl, h⟩ := hh
        change av_W E cSH mX4_carve 67 [some (av_r 0), some (av_i a1)] [av_i r3] s3 Q
        exact av_ireturn dX4_carve_67 rfl h
      · have h := h.2.2 c
        refine av_bipush dX4_carve_25 rfl ?_
        exact av_ireturn dX4_carve_27 rfl h
    · have h := h.2.2 c
      refine av_iconst dX4_carve_9 ?_
      exact av_ireturn dX4_carve_10 rfl h

theorem uX4_rub {E : av_E} {σ : av_M} {Q : Option av_V → av_M → Prop} (h : (rg (σ 27 4)) ∧ (((¬ (σ 27 4) = 0) → av_C E cSH mX1_put [av_r 28, av_r 27] σ (fun v s1 => v = none ∧ ((0 ≤ (s1 27 4) ∧ (s1 27 4) < 2147483648) ∧ (av_C E cSH mX4_lettersIn [av_i ((s1 27 4) / 6)] (av_st s1 27 4 ((s1 27 4) / 6)) (fun v s2 => ∃ r2 : Int, v = some (av_i r2) ∧ (Q (some (av_i r2)) s2)))))) ∧ (((σ 27 4) = 0) → Q (some (av_i (-2))) σ))) :
    av_C E cSH mX4_rub [av_r 0] σ Q := by
  refine av_C.ofW (L := [some (av_r 0)]) (by decide) (Nat.le_of_ble_eq_true rfl) rfl ?_
  refine av_aload_n dX4_rub_0 rfl rfl ?_
  refine av_getr (k := 4) dX4_rub_1 rfl rfl iuX4 (by decide) rfl wF_X4_9 rfl ?_
  refine av_iconst dX4_rub_4 ?_
  refine av_iald (x := (σ 27 4)) dX4_rub_5 rfl (by decide) (by decide) rfl ?_
  refine av_if_ne (tgt := 12) dX4_rub_6 (by decide) h.1 (fun c => ?_) (fun c => ?_)
  · have h := h.2.1 c
    refine av_aload_n dX4_rub_12 rfl rfl ?_
    refine av_getr (k := 5) dX4_rub_13 rfl rfl iuX4 (by decide) rfl wF_X4_16 rfl ?_
    refine av_aload_n dX4_rub_16 rfl rfl ?_
    refine av_getr (k := 4) dX4_rub_17 rfl rfl iuX4 (by decide) rfl wF_X4_9 rfl ?_
    refine av_callV mX1_put [av_r 27] [] dX4_rub_20 rfl rfl rfl mbX1_put rfl wI_X1_put wS_X1_put rfl wM_X4_142 ⟨Nat.le_of_ble_eq_true rfl, Nat.le_of_ble_eq_true rfl⟩ rfl (Nat.le_of_ble_eq_true rfl) (av_C.mono (fun v s1 hh => ?_) h)
    obtain ⟨rfl, h⟩ := hh
    change av_W E cSH mX4_rub 23 [some (av_r 0)] [] s1 Q
    refine av_aload_n dX4_rub_23 rfl rfl ?_
    refine av_getr (k := 4) dX4_rub_24 rfl rfl iuX4 (by decide) rfl wF_X4_9 rfl ?_
    refine av_iconst dX4_rub_27 ?_
    refine av_dup2 dX4_rub_28 (fun _ h9 => nomatch h9) (fun _ h9 => nomatch h9) ?_
    refine av_iald (x := (s1 27 4)) dX4_rub_29 rfl (by decide) (by decide) rfl ?_
    refine av_bipush dX4_rub_30 rfl ?_
    refine av_idiv dX4_rub_32 h.1 (by decide) ?_
    refine av_iast dX4_rub_33 rfl (by decide) (by decide) ?_
    refine av_aload_n dX4_rub_34 rfl rfl ?_
    refine av_getr (k := 4) dX4_rub_35 rfl rfl iuX4 (by decide) rfl wF_X4_9 rfl ?_
    refine av_iconst dX4_rub_38 ?_
    refine av_iald (x := ((s1 27 4) / 6)) dX4_rub_39 rfl (by decide) (by decide) rfl ?_
    refine av_callS mX4_lettersIn [av_i ((s1 27 4) / 6)] [] dX4_rub_40 mbX4_lettersIn rfl wT_X4_lettersIn rfl wM_X4_160 ⟨Nat.le_of_ble_eq_true rfl, Nat.le_of_ble_eq_true rfl⟩ rfl (Nat.le_of_ble_eq_true rfl) (av_C.mono (fun v s2 hh => ?_) h.2)
    obtain ⟨r2, rfl, h⟩ := hh
    change av_W E cSH mX4_rub 43 [some (av_r 0)] [av_i r2] s2 Q
    exact av_ireturn dX4_rub_43 rfl h
  · have h := h.2.2 c
    refine av_bipush dX4_rub_9 rfl ?_
    exact av_ireturn dX4_rub_11 rfl h

theorem uX4_pass {E : av_E} {σ : av_M} {Q : Option av_V → av_M → Prop} {a1 : Int} (h : (rg a1) ∧ (((a1 < 1) → Q (some (av_i (-1))) σ) ∧ ((1 ≤ a1) → (rg a1) ∧ (((a1 ≤ 24) → av_C E cSH mX1_put [av_r 28, av_r 27] σ (fun v s1 => v = none ∧ (av_C E cSH mX3_depthIn [av_r 3, av_i ((s1 27 0) + a1)] (av_st s1 27 0 ((s1 27 0) + a1)) (fun v s2 => ∃ r2 : Int, v = some (av_i r2) ∧ (Q (some (av_i r2)) s2))))) ∧ ((24 < a1) → Q (some (av_i (-1))) σ))))) :
    av_C E cSH mX4_pass [av_r 0, av_i a1] σ Q := by
  refine av_C.ofW (L := [some (av_r 0), some (av_i a1)]) (by decide) (Nat.le_of_ble_eq_true rfl) rfl ?_
  refine av_iload_n dX4_pass_0 rfl rfl ?_
  refine av_iconst dX4_pass_1 ?_
  refine av_icmp_lt (tgt := 11) dX4_pass_2 (by decide) h.1 (by decide) (fun c => ?_) (fun c => ?_)
  · have h := h.2.1 c
    refine av_iconst dX4_pass_11 ?_
    exact av_ireturn dX4_pass_12 rfl h
  · have h := h.2.2 c
    refine av_iload_n dX4_pass_5 rfl rfl ?_
    refine av_bipush dX4_pass_6 rfl ?_
    refine av_icmp_le (tgt := 13) dX4_pass_8 (by decide) h.1 (by decide) (fun c => ?_) (fun c => ?_)
    · have h := h.2.1 c
      refine av_aload_n dX4_pass_13 rfl rfl ?_
      refine av_getr (k := 5) dX4_pass_14 rfl rfl iuX4 (by decide) rfl wF_X4_16 rfl ?_
      refine av_aload_n dX4_pass_17 rfl rfl ?_
      refine av_getr (k := 4) dX4_pass_18 rfl rfl iuX4 (by decide) rfl wF_X4_9 rfl ?_
      refine av_callV mX1_put [av_r 27] [] dX4_pass_21 rfl rfl rfl mbX1_put rfl wI_X1_put wS_X1_put rfl wM_X4_142 ⟨Nat.le_of_ble_eq_true rfl, Nat.le_of_ble_eq_true rfl⟩ rfl (Nat.le_of_ble_eq_true rfl) (av_C.mono (fun v s1 hh => ?_) h)
      obtain ⟨rfl, h⟩ := hh
      change av_W E cSH mX4_pass 24 [some (av_r 0), some (av_i a1)] [] s1 Q
      refine av_aload_n dX4_pass_24 rfl rfl ?_
      refine av_getr (k := 4) dX4_pass_25 rfl rfl iuX4 (by decide) rfl wF_X4_9 rfl ?_
      refine av_iconst dX4_pass_28 ?_
      refine av_dup2 dX4_pass_29 (fun _ h9 => nomatch h9) (fun _ h9 => nomatch h9) ?_
      refine av_iald (x := (s1 27 0)) dX4_pass_30 rfl (by decide) (by decide) rfl ?_
      refine av_iload_n dX4_pass_31 rfl rfl ?_
      refine av_iadd dX4_pass_32 ?_
      refine av_iast dX4_pass_33 rfl (by decide) (by decide) ?_
      refine av_aload_n dX4_pass_34 rfl rfl ?_
      refine av_getr (k := 1) dX4_pass_35 rfl rfl iuX4 (by decide) rfl wF_X4_42 rfl ?_
      refine av_aload_n dX4_pass_38 rfl rfl ?_
      refine av_getr (k := 4) dX4_pass_39 rfl rfl iuX4 (by decide) rfl wF_X4_9 rfl ?_
      refine av_iconst dX4_pass_42 ?_
      refine av_iald (x := ((s1 27 0) + a1)) dX4_pass_43 rfl (by decide) (by decide) rfl ?_
      refine av_callV mX3_depthIn [av_i ((s1 27 0) + a1)] [] dX4_pass_44 rfl rfl rfl mbX3_depthIn rfl wI_X3_depthIn wS_X3_depthIn rfl wM_X4_163 ⟨Nat.le_of_ble_eq_true rfl, Nat.le_of_ble_eq_true rfl⟩ rfl (Nat.le_of_ble_eq_true rfl) (av_C.mono (fun v s2 hh => ?_) h)
      obtain ⟨r2, rfl, h⟩ := hh
      change av_W E cSH mX4_pass 47 [some (av_r 0), some (av_i a1)] [av_i r2] s2 Q
      exact av_ireturn dX4_pass_47 rfl h
    · have h := h.2.2 c
      refine av_iconst dX4_pass_11 ?_
      exact av_ireturn dX4_pass_12 rfl h

theorem uX4_undo {E : av_E} {σ : av_M} {Q : Option av_V → av_M → Prop} (h : (rg (σ 28 1)) ∧ (((¬ (σ 28 1) = 0) → av_C E cSH mX1_takeInto [av_r 28, av_r 27] σ (fun v s1 => v = none ∧ (Q (some (av_i (s1 28 1))) s1))) ∧ (((σ 28 1) = 0) → Q (some (av_i (-2))) σ))) :
    av_C E cSH mX4_undo [av_r 0] σ Q := by
  refine av_C.ofW (L := [some (av_r 0)]) (by decide) (Nat.le_of_ble_eq_true rfl) rfl ?_
  refine av_aload_n dX4_undo_0 rfl rfl ?_
  refine av_getr (k := 5) dX4_undo_1 rfl rfl iuX4 (by decide) rfl wF_X4_16 rfl ?_
  refine av_get (k := 1) (x := (σ 28 1)) dX4_undo_4 rfl rfl iuX1 (by decide) rfl wF_X4_166 rfl rfl ?_
  refine av_if_ne (tgt := 13) dX4_undo_7 (by decide) h.1 (fun c => ?_) (fun c => ?_)
  · have h := h.2.1 c
    refine av_aload_n dX4_undo_13 rfl rfl ?_
    refine av_getr (k := 5) dX4_undo_14 rfl rfl iuX4 (by decide) rfl wF_X4_16 rfl ?_
    refine av_aload_n dX4_undo_17 rfl rfl ?_
    refine av_getr (k := 4) dX4_undo_18 rfl rfl iuX4 (by decide) rfl wF_X4_9 rfl ?_
    refine av_callV mX1_takeInto [av_r 27] [] dX4_undo_21 rfl rfl rfl mbX1_takeInto rfl wI_X1_takeInto wS_X1_takeInto rfl wM_X4_169 ⟨Nat.le_of_ble_eq_true rfl, Nat.le_of_ble_eq_true rfl⟩ rfl (Nat.le_of_ble_eq_true rfl) (av_C.mono (fun v s1 hh => ?_) h)
    obtain ⟨rfl, h⟩ := hh
    change av_W E cSH mX4_undo 24 [some (av_r 0)] [] s1 Q
    refine av_aload_n dX4_undo_24 rfl rfl ?_
    refine av_getr (k := 5) dX4_undo_25 rfl rfl iuX4 (by decide) rfl wF_X4_16 rfl ?_
    refine av_get (k := 1) (x := (s1 28 1)) dX4_undo_28 rfl rfl iuX1 (by decide) rfl wF_X4_166 rfl rfl ?_
    exact av_ireturn dX4_undo_31 rfl h
  · have h := h.2.2 c
    refine av_bipush dX4_undo_10 rfl ?_
    exact av_ireturn dX4_undo_12 rfl h

theorem uX4_belief {E : av_E} {σ : av_M} {Q : Option av_V → av_M → Prop} {a1 a2 a3 : Int} (h : av_C E cSH mX4_isReader [av_r 0, av_i a1] σ (fun v s1 => ∃ r1 : Int, v = some (av_i r1) ∧ ((rg r1) ∧ (((r1 = 0) → Q (some (av_i (-1))) s1) ∧ ((¬ r1 = 0) → (rg a2) ∧ (((a2 < 1) → Q (some (av_i (-1))) s1) ∧ ((1 ≤ a2) → (rg a2) ∧ (((3 < a2) → Q (some (av_i (-1))) s1) ∧ ((a2 ≤ 3) → av_C E cSH mX4_isPart [av_i a3] s1 (fun v s2 => ∃ r2 : Int, v = some (av_i r2) ∧ ((rg r2) ∧ (((¬ r2 = 0) → av_C E cSH mX4_readingsOf [av_r 0, av_i a1, av_i (s2 27 4)] s2 (fun v s3 => ∃ r3 : Int, v = some (av_i r3) ∧ (av_C E cSH mX3_wordsSaying [av_r 3, av_i a2] s3 (fun v s4 => ∃ r4 : Int, v = some (av_i r4) ∧ (av_C E cSH mX0_tally [av_r 21, av_i (i_and 65535 (i_xor r4 (-1)))] s4 (fun v s5 => ∃ r5 : Int, v = some (av_i r5) ∧ ((rg (r3 - r5)) ∧ ((rg r3) ∧ (av_C E cSH mX4_inLowestTerms [av_l (r3 - r5), av_l r3, av_i a3] s5 (fun v s6 => ∃ r6 : Int, v = some (av_i r6) ∧ (Q (some (av_i r6)) s6))))))))))) ∧ ((r2 = 0) → Q (some (av_i (-1))) s2))))))))))))) :
    av_C E cSH mX4_belief [av_r 0, av_i a1, av_i a2, av_i a3] σ Q := by
  refine av_C.ofW (L := [some (av_r 0), some (av_i a1), some (av_i a2), some (av_i a3), none, none]) (by decide) (Nat.le_of_ble_eq_true rfl) rfl ?_
  refine av_aload_n dX4_belief_0 rfl rfl ?_
  refine av_iload_n dX4_belief_1 rfl rfl ?_
  refine av_callV mX4_isReader [av_i a1] [] dX4_belief_2 rfl rfl rfl mbX4_isReader rfl wI_X4_isReader wS_X4_isReader rfl wM_X4_102 ⟨Nat.le_of_ble_eq_true rfl, Nat.le_of_ble_eq_true rfl⟩ rfl (Nat.le_of_ble_eq_true rfl) (av_C.mono (fun v s1 hh => ?_) h)
  obtain ⟨r1, rfl, h⟩ := hh
  change av_W E cSH mX4_belief 5 [some (av_r 0), some (av_i a1), some (av_i a2), some (av_i a3), none, none] [av_i r1] s1 Q
  refine av_if_eq (tgt := 25) dX4_belief_5 (by decide) h.1 (fun c => ?_) (fun c => ?_)
  · have h := h.2.1 c
    refine av_iconst dX4_belief_25 ?_
    exact av_ireturn dX4_belief_26 rfl h
  · have h := h.2.2 c
    refine av_iload_n dX4_belief_8 rfl rfl ?_
    refine av_iconst dX4_belief_9 ?_
    refine av_icmp_lt (tgt := 25) dX4_belief_10 (by decide) h.1 (by decide) (fun c => ?_) (fun c => ?_)
    · have h := h.2.1 c
      refine av_iconst dX4_belief_25 ?_
      exact av_ireturn dX4_belief_26 rfl h
    · have h := h.2.2 c
      refine av_iload_n dX4_belief_13 rfl rfl ?_
      refine av_iconst dX4_belief_14 ?_
      refine av_icmp_gt (tgt := 25) dX4_belief_15 (by decide) h.1 (by decide) (fun c => ?_) (fun c => ?_)
      · have h := h.2.1 c
        refine av_iconst dX4_belief_25 ?_
        exact av_ireturn dX4_belief_26 rfl h
      · have h := h.2.2 c
        refine av_iload_n dX4_belief_18 rfl rfl ?_
        refine av_callS mX4_isPart [av_i a3] [] dX4_belief_19 mbX4_isPart rfl wT_X4_isPart rfl wM_X4_172 ⟨Nat.le_of_ble_eq_true rfl, Nat.le_of_ble_eq_true rfl⟩ rfl (Nat.le_of_ble_eq_true rfl) (av_C.mono (fun v s2 hh => ?_) h)
        obtain ⟨r2, rfl, h⟩ := hh
        change av_W E cSH mX4_belief 22 [some (av_r 0), some (av_i a1), some (av_i a2), some (av_i a3), none, none] [av_i r2] s2 Q
        refine av_if_ne (tgt := 27) dX4_belief_22 (by decide) h.1 (fun c => ?_) (fun c => ?_)
        · have h := h.2.1 c
          refine av_aload_n dX4_belief_27 rfl rfl ?_
          refine av_iload_n dX4_belief_28 rfl rfl ?_
          refine av_aload_n dX4_belief_29 rfl rfl ?_
          refine av_getr (k := 4) dX4_belief_30 rfl rfl iuX4 (by decide) rfl wF_X4_9 rfl ?_
          refine av_iconst dX4_belief_33 ?_
          refine av_iald (x := (s2 27 4)) dX4_belief_34 rfl (by decide) (by decide) rfl ?_
          refine av_callV mX4_readingsOf [av_i a1, av_i (s2 27 4)] [] dX4_belief_35 rfl rfl rfl mbX4_readingsOf rfl wI_X4_readingsOf wS_X4_readingsOf rfl wM_X4_106 ⟨Nat.le_of_ble_eq_true rfl, Nat.le_of_ble_eq_true rfl⟩ rfl (Nat.le_of_ble_eq_true rfl) (av_C.mono (fun v s3 hh => ?_) h)
          obtain ⟨r3, rfl, h⟩ := hh
          change av_W E cSH mX4_belief 38 [some (av_r 0), some (av_i a1), some (av_i a2), some (av_i a3), none, none] [av_i r3] s3 Q
          refine av_istore (L' := [some (av_r 0), some (av_i a1), some (av_i a2), some (av_i a3), some (av_i r3), none]) dX4_belief_38 (by decide) rfl ?_
          refine av_aload_n dX4_belief_40 rfl rfl ?_
          refine av_getr (k := 3) dX4_belief_41 rfl rfl iuX4 (by decide) rfl wF_X4_54 rfl ?_
          refine av_ldc dX4_belief_44 rfl wK_X4_175 ?_
          refine av_aload_n dX4_belief_46 rfl rfl ?_
          refine av_getr (k := 1) dX4_belief_47 rfl rfl iuX4 (by decide) rfl wF_X4_42 rfl ?_
          refine av_iload_n dX4_belief_50 rfl rfl ?_
          refine av_callV mX3_wordsSaying [av_i a2] [av_i 65535, av_r 21] dX4_belief_51 rfl rfl rfl mbX3_wordsSaying rfl wI_X3_wordsSaying wS_X3_wordsSaying rfl wM_X4_176 ⟨Nat.le_of_ble_eq_true rfl, Nat.le_of_ble_eq_true rfl⟩ rfl (Nat.le_of_ble_eq_true rfl) (av_C.mono (fun v s4 hh => ?_) h)
          obtain ⟨r4, rfl, h⟩ := hh
          change av_W E cSH mX4_belief 54 [some (av_r 0), some (av_i a1), some (av_i a2), some (av_i a3), some (av_i r3), none] [av_i r4, av_i 65535, av_r 21] s4 Q
          refine av_iconst dX4_belief_54 ?_
          refine av_ixor dX4_belief_55 ?_
          refine av_iand dX4_belief_56 ?_
          refine av_callV mX0_tally [av_i (i_and 65535 (i_xor r4 (-1)))] [] dX4_belief_57 rfl rfl rfl mbX0_tally rfl wI_X0_tally wS_X0_tally rfl wM_X4_179 ⟨Nat.le_of_ble_eq_true rfl, Nat.le_of_ble_eq_true rfl⟩ rfl (Nat.le_of_ble_eq_true rfl) (av_C.mono (fun v s5 hh => ?_) h)
          obtain ⟨r5, rfl, h⟩ := hh
          change av_W E cSH mX4_belief 60 [some (av_r 0), some (av_i a1), some (av_i a2), some (av_i a3), some (av_i r3), none] [av_i r5] s5 Q
          refine av_istore (L' := [some (av_r 0), some (av_i a1), some (av_i a2), some (av_i a3), some (av_i r3), some (av_i r5)]) dX4_belief_60 (by decide) rfl ?_
          refine av_iload dX4_belief_62 rfl ?_
          refine av_iload dX4_belief_64 rfl ?_
          refine av_isub dX4_belief_66 ?_
          refine av_i2l dX4_belief_67 h.1 ?_
          refine av_iload dX4_belief_68 rfl ?_
          refine av_i2l dX4_belief_70 h.2.1 ?_
          refine av_iload_n dX4_belief_71 rfl rfl ?_
          refine av_callS mX4_inLowestTerms [av_l (r3 - r5), av_l r3, av_i a3] [] dX4_belief_72 mbX4_inLowestTerms rfl wT_X4_inLowestTerms rfl wM_X4_182 ⟨Nat.le_of_ble_eq_true rfl, Nat.le_of_ble_eq_true rfl⟩ rfl (Nat.le_of_ble_eq_true rfl) (av_C.mono (fun v s6 hh => ?_) h.2.2)
          obtain ⟨r6, rfl, h⟩ := hh
          change av_W E cSH mX4_belief 75 [some (av_r 0), some (av_i a1), some (av_i a2), some (av_i a3), some (av_i r3), some (av_i r5)] [av_i r6] s6 Q
          exact av_ireturn dX4_belief_75 rfl h
        · have h := h.2.2 c
          refine av_iconst dX4_belief_25 ?_
          exact av_ireturn dX4_belief_26 rfl h

theorem uX4_without {E : av_E} {σ : av_M} {Q : Option av_V → av_M → Prop} {a1 : Int} (h : av_C E cSH mX4_isReader [av_r 0, av_i a1] σ (fun v s1 => ∃ r1 : Int, v = some (av_i r1) ∧ ((rg r1) ∧ (((¬ r1 = 0) → av_C E cSH mX4_readingsOf [av_r 0, av_i a1, av_i (s1 27 4)] s1 (fun v s2 => ∃ r2 : Int, v = some (av_i r2) ∧ ((rg r2) ∧ (((¬ r2 = 0) → av_W E cSH mX4_without 31 [some (av_r 0), some (av_i a1), some (av_i 0), some (av_i 0)] [] s2 Q) ∧ ((r2 = 0) → Q (some (av_i (-4))) s2))))) ∧ ((r1 = 0) → Q (some (av_i (-1))) s1))))) :
    av_C E cSH mX4_without [av_r 0, av_i a1] σ Q := by
  refine av_C.ofW (L := [some (av_r 0), some (av_i a1), none, none]) (by decide) (Nat.le_of_ble_eq_true rfl) rfl ?_
  refine av_aload_n dX4_without_0 rfl rfl ?_
  refine av_iload_n dX4_without_1 rfl rfl ?_
  refine av_callV mX4_isReader [av_i a1] [] dX4_without_2 rfl rfl rfl mbX4_isReader rfl wI_X4_isReader wS_X4_isReader rfl wM_X4_102 ⟨Nat.le_of_ble_eq_true rfl, Nat.le_of_ble_eq_true rfl⟩ rfl (Nat.le_of_ble_eq_true rfl) (av_C.mono (fun v s1 hh => ?_) h)
  obtain ⟨r1, rfl, h⟩ := hh
  change av_W E cSH mX4_without 5 [some (av_r 0), some (av_i a1), none, none] [av_i r1] s1 Q
  refine av_if_ne (tgt := 10) dX4_without_5 (by decide) h.1 (fun c => ?_) (fun c => ?_)
  · have h := h.2.1 c
    refine av_aload_n dX4_without_10 rfl rfl ?_
    refine av_iload_n dX4_without_11 rfl rfl ?_
    refine av_aload_n dX4_without_12 rfl rfl ?_
    refine av_getr (k := 4) dX4_without_13 rfl rfl iuX4 (by decide) rfl wF_X4_9 rfl ?_
    refine av_iconst dX4_without_16 ?_
    refine av_iald (x := (s1 27 4)) dX4_without_17 rfl (by decide) (by decide) rfl ?_
    refine av_callV mX4_readingsOf [av_i a1, av_i (s1 27 4)] [] dX4_without_18 rfl rfl rfl mbX4_readingsOf rfl wI_X4_readingsOf wS_X4_readingsOf rfl wM_X4_106 ⟨Nat.le_of_ble_eq_true rfl, Nat.le_of_ble_eq_true rfl⟩ rfl (Nat.le_of_ble_eq_true rfl) (av_C.mono (fun v s2 hh => ?_) h)
    obtain ⟨r2, rfl, h⟩ := hh
    change av_W E cSH mX4_without 21 [some (av_r 0), some (av_i a1), none, none] [av_i r2] s2 Q
    refine av_if_ne (tgt := 27) dX4_without_21 (by decide) h.1 (fun c => ?_) (fun c => ?_)
    · have h := h.2.1 c
      refine av_iconst dX4_without_27 ?_
      refine av_istore_n (L' := [some (av_r 0), some (av_i a1), some (av_i 0), none]) dX4_without_28 rfl (by decide) rfl ?_
      refine av_iconst dX4_without_29 ?_
      refine av_istore_n (L' := [some (av_r 0), some (av_i a1), some (av_i 0), some (av_i 0)]) dX4_without_30 rfl (by decide) rfl ?_
      exact h
    · have h := h.2.2 c
      refine av_bipush dX4_without_24 rfl ?_
      exact av_ireturn dX4_without_26 rfl h
  · have h := h.2.2 c
    refine av_iconst dX4_without_8 ?_
    exact av_ireturn dX4_without_9 rfl h

theorem uX4_without_31 {E : av_E} {σ : av_M} {Q : Option av_V → av_M → Prop} {x1 x2 x3 : Int} (h : (rg x3) ∧ ((rg (σ 3 8)) ∧ ((((σ 3 8) ≤ x3) → Q (some (av_i x2)) σ) ∧ ((x3 < (σ 3 8)) → av_C E cSH mX4_wordsOfRoot [av_i x3] σ (fun v s1 => ∃ r1 : Int, v = some (av_i r1) ∧ (av_C E cSH mX0_tally [av_r 21, av_i (i_and 65535 (i_xor r1 (-1)))] s1 (fun v s2 => ∃ r2 : Int, v = some (av_i r2) ∧ ((rg r2) ∧ (((¬ r2 = 0) → av_W E cSH mX4_without 31 [some (av_r 0), some (av_i x1), some (av_i x2), some (av_i (x3 + 1))] [] s2 Q) ∧ ((r2 = 0) → av_W E cSH mX4_without 31 [some (av_r 0), some (av_i x1), some (av_i (i_or x2 (i_shl 1 x3))), some (av_i (x3 + 1))] [] s2 Q)))))))))) :
    av_W E cSH mX4_without 31 [some (av_r 0), some (av_i x1), some (av_i x2), some (av_i x3)] [] σ Q := by
  refine av_iload_n dX4_without_31 rfl rfl ?_
  refine av_aload_n dX4_without_32 rfl rfl ?_
  refine av_getr (k := 1) dX4_without_33 rfl rfl iuX4 (by decide) rfl wF_X4_42 rfl ?_
  refine av_get (k := 8) (x := (σ 3 8)) dX4_without_36 rfl rfl iuX3 (by decide) rfl wF_X4_87 rfl rfl ?_
  refine av_icmp_ge (tgt := 73) dX4_without_39 (by decide) h.1 h.2.1 (fun c => ?_) (fun c => ?_)
  · have h := h.2.2.1 c
    refine av_iload_n dX4_without_73 rfl rfl ?_
    exact av_ireturn dX4_without_74 rfl h
  · have h := h.2.2.2 c
    refine av_aload_n dX4_without_42 rfl rfl ?_
    refine av_getr (k := 3) dX4_without_43 rfl rfl iuX4 (by decide) rfl wF_X4_54 rfl ?_
    refine av_ldc dX4_without_46 rfl wK_X4_175 ?_
    refine av_iload_n dX4_without_48 rfl rfl ?_
    refine av_callS mX4_wordsOfRoot [av_i x3] [av_i 65535, av_r 21] dX4_without_49 mbX4_wordsOfRoot rfl wT_X4_wordsOfRoot rfl wM_X4_186 ⟨Nat.le_of_ble_eq_true rfl, Nat.le_of_ble_eq_true rfl⟩ rfl (Nat.le_of_ble_eq_true rfl) (av_C.mono (fun v s1 hh => ?_) h)
    obtain ⟨r1, rfl, h⟩ := hh
    change av_W E cSH mX4_without 52 [some (av_r 0), some (av_i x1), some (av_i x2), some (av_i x3)] [av_i r1, av_i 65535, av_r 21] s1 Q
    refine av_iconst dX4_without_52 ?_
    refine av_ixor dX4_without_53 ?_
    refine av_iand dX4_without_54 ?_
    refine av_callV mX0_tally [av_i (i_and 65535 (i_xor r1 (-1)))] [] dX4_without_55 rfl rfl rfl mbX0_tally rfl wI_X0_tally wS_X0_tally rfl wM_X4_179 ⟨Nat.le_of_ble_eq_true rfl, Nat.le_of_ble_eq_true rfl⟩ rfl (Nat.le_of_ble_eq_true rfl) (av_C.mono (fun v s2 hh => ?_) h)
    obtain ⟨r2, rfl, h⟩ := hh
    change av_W E cSH mX4_without 58 [some (av_r 0), some (av_i x1), some (av_i x2), some (av_i x3)] [av_i r2] s2 Q
    refine av_if_ne (tgt := 67) dX4_without_58 (by decide) h.1 (fun c => ?_) (fun c => ?_)
    · have h := h.2.1 c
      refine av_iinc (L' := [some (av_r 0), some (av_i x1), some (av_i x2), some (av_i (x3 + 1))]) dX4_without_67 rfl (by decide) rfl rfl ?_
      refine av_goto (tgt := 31) dX4_without_70 (by decide) ?_
      exact h
    · have h := h.2.2 c
      refine av_iload_n dX4_without_61 rfl rfl ?_
      refine av_iconst dX4_without_62 ?_
      refine av_iload_n dX4_without_63 rfl rfl ?_
      refine av_ishl dX4_without_64 ?_
      refine av_ior dX4_without_65 ?_
      refine av_istore_n (L' := [some (av_r 0), some (av_i x1), some (av_i (i_or x2 (i_shl 1 x3))), some (av_i x3)]) dX4_without_66 rfl (by decide) rfl ?_
      refine av_iinc (L' := [some (av_r 0), some (av_i x1), some (av_i (i_or x2 (i_shl 1 x3))), some (av_i (x3 + 1))]) dX4_without_67 rfl (by decide) rfl rfl ?_
      refine av_goto (tgt := 31) dX4_without_70 (by decide) ?_
      exact h

theorem uX4_shortest {E : av_E} {σ : av_M} {Q : Option av_V → av_M → Prop} {a1 a2 : Int} (h : av_C E cSH mX4_isReader [av_r 0, av_i a1] σ (fun v s1 => ∃ r1 : Int, v = some (av_i r1) ∧ ((rg r1) ∧ (((r1 = 0) → Q (some (av_i (-1))) s1) ∧ ((¬ r1 = 0) → av_C E cSH mX4_isReader [av_r 0, av_i a2] s1 (fun v s2 => ∃ r2 : Int, v = some (av_i r2) ∧ ((rg r2) ∧ (((¬ r2 = 0) → av_W E cSH mX4_shortest 20 [some (av_r 0), some (av_i a1), some (av_i a2), some (av_i 1)] [] s2 Q) ∧ ((r2 = 0) → Q (some (av_i (-1))) s2))))))))) :
    av_C E cSH mX4_shortest [av_r 0, av_i a1, av_i a2] σ Q := by
  refine av_C.ofW (L := [some (av_r 0), some (av_i a1), some (av_i a2), none]) (by decide) (Nat.le_of_ble_eq_true rfl) rfl ?_
  refine av_aload_n dX4_shortest_0 rfl rfl ?_
  refine av_iload_n dX4_shortest_1 rfl rfl ?_
  refine av_callV mX4_isReader [av_i a1] [] dX4_shortest_2 rfl rfl rfl mbX4_isReader rfl wI_X4_isReader wS_X4_isReader rfl wM_X4_102 ⟨Nat.le_of_ble_eq_true rfl, Nat.le_of_ble_eq_true rfl⟩ rfl (Nat.le_of_ble_eq_true rfl) (av_C.mono (fun v s1 hh => ?_) h)
  obtain ⟨r1, rfl, h⟩ := hh
  change av_W E cSH mX4_shortest 5 [some (av_r 0), some (av_i a1), some (av_i a2), none] [av_i r1] s1 Q
  refine av_if_eq (tgt := 16) dX4_shortest_5 (by decide) h.1 (fun c => ?_) (fun c => ?_)
  · have h := h.2.1 c
    refine av_iconst dX4_shortest_16 ?_
    exact av_ireturn dX4_shortest_17 rfl h
  · have h := h.2.2 c
    refine av_aload_n dX4_shortest_8 rfl rfl ?_
    refine av_iload_n dX4_shortest_9 rfl rfl ?_
    refine av_callV mX4_isReader [av_i a2] [] dX4_shortest_10 rfl rfl rfl mbX4_isReader rfl wI_X4_isReader wS_X4_isReader rfl wM_X4_102 ⟨Nat.le_of_ble_eq_true rfl, Nat.le_of_ble_eq_true rfl⟩ rfl (Nat.le_of_ble_eq_true rfl) (av_C.mono (fun v s2 hh => ?_) h)
    obtain ⟨r2, rfl, h⟩ := hh
    change av_W E cSH mX4_shortest 13 [some (av_r 0), some (av_i a1), some (av_i a2), none] [av_i r2] s2 Q
    refine av_if_ne (tgt := 18) dX4_shortest_13 (by decide) h.1 (fun c => ?_) (fun c => ?_)
    · have h := h.2.1 c
      refine av_iconst dX4_shortest_18 ?_
      refine av_istore_n (L' := [some (av_r 0), some (av_i a1), some (av_i a2), some (av_i 1)]) dX4_shortest_19 rfl (by decide) rfl ?_
      exact h
    · have h := h.2.2 c
      refine av_iconst dX4_shortest_16 ?_
      exact av_ireturn dX4_shortest_17 rfl h

theorem uX4_shortest_20 {E : av_E} {σ : av_M} {Q : Option av_V → av_M → Prop} {x1 x2 x3 : Int} (h : (rg x3) ∧ (((1295 < x3) → Q (some (av_i (-4))) σ) ∧ ((x3 ≤ 1295) → av_C E cSH mX4_isShortRow [av_i x3] σ (fun v s1 => ∃ r1 : Int, v = some (av_i r1) ∧ ((rg r1) ∧ (((r1 = 0) → av_W E cSH mX4_shortest 20 [some (av_r 0), some (av_i x1), some (av_i x2), some (av_i (x3 + 1))] [] s1 Q) ∧ ((¬ r1 = 0) → av_C E cSH mX4_readingsOf [av_r 0, av_i x1, av_i x3] s1 (fun v s2 => ∃ r2 : Int, v = some (av_i r2) ∧ ((rg r2) ∧ (((r2 ≤ 0) → av_W E cSH mX4_shortest 20 [some (av_r 0), some (av_i x1), some (av_i x2), some (av_i (x3 + 1))] [] s2 Q) ∧ ((0 < r2) → av_C E cSH mX4_readingsOf [av_r 0, av_i x2, av_i x3] s2 (fun v s3 => ∃ r3 : Int, v = some (av_i r3) ∧ ((rg r3) ∧ (((¬ r3 = 0) → av_W E cSH mX4_shortest 20 [some (av_r 0), some (av_i x1), some (av_i x2), some (av_i (x3 + 1))] [] s3 Q) ∧ ((r3 = 0) → Q (some (av_i x3)) s3))))))))))))))) :
    av_W E cSH mX4_shortest 20 [some (av_r 0), some (av_i x1), some (av_i x2), some (av_i x3)] [] σ Q := by
  refine av_iload_n dX4_shortest_20 rfl rfl ?_
  refine av_sipush dX4_shortest_21 rfl ?_
  refine av_icmp_gt (tgt := 60) dX4_shortest_24 (by decide) h.1 (by decide) (fun c => ?_) (fun c => ?_)
  · have h := h.2.1 c
    refine av_bipush dX4_shortest_60 rfl ?_
    exact av_ireturn dX4_shortest_62 rfl h
  · have h := h.2.2 c
    refine av_iload_n dX4_shortest_27 rfl rfl ?_
    refine av_callS mX4_isShortRow [av_i x3] [] dX4_shortest_28 mbX4_isShortRow rfl wT_X4_isShortRow rfl wM_X4_189 ⟨Nat.le_of_ble_eq_true rfl, Nat.le_of_ble_eq_true rfl⟩ rfl (Nat.le_of_ble_eq_true rfl) (av_C.mono (fun v s1 hh => ?_) h)
    obtain ⟨r1, rfl, h⟩ := hh
    change av_W E cSH mX4_shortest 31 [some (av_r 0), some (av_i x1), some (av_i x2), some (av_i x3)] [av_i r1] s1 Q
    refine av_if_eq (tgt := 54) dX4_shortest_31 (by decide) h.1 (fun c => ?_) (fun c => ?_)
    · have h := h.2.1 c
      refine av_iinc (L' := [some (av_r 0), some (av_i x1), some (av_i x2), some (av_i (x3 + 1))]) dX4_shortest_54 rfl (by decide) rfl rfl ?_
      refine av_goto (tgt := 20) dX4_shortest_57 (by decide) ?_
      exact h
    · have h := h.2.2 c
      refine av_aload_n dX4_shortest_34 rfl rfl ?_
      refine av_iload_n dX4_shortest_35 rfl rfl ?_
      refine av_iload_n dX4_shortest_36 rfl rfl ?_
      refine av_callV mX4_readingsOf [av_i x1, av_i x3] [] dX4_shortest_37 rfl rfl rfl mbX4_readingsOf rfl wI_X4_readingsOf wS_X4_readingsOf rfl wM_X4_106 ⟨Nat.le_of_ble_eq_true rfl, Nat.le_of_ble_eq_true rfl⟩ rfl (Nat.le_of_ble_eq_true rfl) (av_C.mono (fun v s2 hh => ?_) h)
      obtain ⟨r2, rfl, h⟩ := hh
      change av_W E cSH mX4_shortest 40 [some (av_r 0), some (av_i x1), some (av_i x2), some (av_i x3)] [av_i r2] s2 Q
      refine av_if_le (tgt := 54) dX4_shortest_40 (by decide) h.1 (fun c => ?_) (fun c => ?_)
      · have h := h.2.1 c
        refine av_iinc (L' := [some (av_r 0), some (av_i x1), some (av_i x2), some (av_i (x3 + 1))]) dX4_shortest_54 rfl (by decide) rfl rfl ?_
        refine av_goto (tgt := 20) dX4_shortest_57 (by decide) ?_
        exact h
      · have h := h.2.2 c
        refine av_aload_n dX4_shortest_43 rfl rfl ?_
        refine av_iload_n dX4_shortest_44 rfl rfl ?_
        refine av_iload_n dX4_shortest_45 rfl rfl ?_
        refine av_callV mX4_readingsOf [av_i x2, av_i x3] [] dX4_shortest_46 rfl rfl rfl mbX4_readingsOf rfl wI_X4_readingsOf wS_X4_readingsOf rfl wM_X4_106 ⟨Nat.le_of_ble_eq_true rfl, Nat.le_of_ble_eq_true rfl⟩ rfl (Nat.le_of_ble_eq_true rfl) (av_C.mono (fun v s3 hh => ?_) h)
        obtain ⟨r3, rfl, h⟩ := hh
        change av_W E cSH mX4_shortest 49 [some (av_r 0), some (av_i x1), some (av_i x2), some (av_i x3)] [av_i r3] s3 Q
        refine av_if_ne (tgt := 54) dX4_shortest_49 (by decide) h.1 (fun c => ?_) (fun c => ?_)
        · have h := h.2.1 c
          refine av_iinc (L' := [some (av_r 0), some (av_i x1), some (av_i x2), some (av_i (x3 + 1))]) dX4_shortest_54 rfl (by decide) rfl rfl ?_
          refine av_goto (tgt := 20) dX4_shortest_57 (by decide) ?_
          exact h
        · have h := h.2.2 c
          refine av_iload_n dX4_shortest_52 rfl rfl ?_
          exact av_ireturn dX4_shortest_53 rfl h

theorem uX4_until {E : av_E} {σ : av_M} {Q : Option av_V → av_M → Prop} {a1 : Int} (h : av_C E cSH mX4_isReader [av_r 0, av_i a1] σ (fun v s1 => ∃ r1 : Int, v = some (av_i r1) ∧ ((rg r1) ∧ (((¬ r1 = 0) → av_C E cSH mX3_fall [av_r 3] s1 (fun v s2 => ∃ r2 : Int, v = some (av_i r2) ∧ ((0 ≤ a1 ∧ a1 < 5) ∧ (av_C E cSH mX4_verbsToldBy [av_r 0, av_i a1] s2 (fun v s3 => ∃ r3 : Int, v = some (av_i r3) ∧ (av_C E cSH mX4_holds [av_i r3, av_i 1] s3 (fun v s4 => ∃ r4 : Int, v = some (av_i r4) ∧ ((rg r4) ∧ (((r4 = 0) → Q (some (av_i (-4))) s4) ∧ ((¬ r4 = 0) → (rg ((r2 - 1) - (s2 9 (a1).toNat))) ∧ ((rg (s4 27 0)) ∧ (((((r2 - 1) - (s2 9 (a1).toNat)) < (s4 27 0)) → Q (some (av_i (-4))) s4) ∧ (((s4 27 0) ≤ ((r2 - 1) - (s2 9 (a1).toNat))) → Q (some (av_i ((r2 - 1) - (s2 9 (a1).toNat)))) s4))))))))))))) ∧ ((r1 = 0) → Q (some (av_i (-1))) s1))))) :
    av_C E cSH mX4_until [av_r 0, av_i a1] σ Q := by
  refine av_C.ofW (L := [some (av_r 0), some (av_i a1), none]) (by decide) (Nat.le_of_ble_eq_true rfl) rfl ?_
  refine av_aload_n dX4_until_0 rfl rfl ?_
  refine av_iload_n dX4_until_1 rfl rfl ?_
  refine av_callV mX4_isReader [av_i a1] [] dX4_until_2 rfl rfl rfl mbX4_isReader rfl wI_X4_isReader wS_X4_isReader rfl wM_X4_102 ⟨Nat.le_of_ble_eq_true rfl, Nat.le_of_ble_eq_true rfl⟩ rfl (Nat.le_of_ble_eq_true rfl) (av_C.mono (fun v s1 hh => ?_) h)
  obtain ⟨r1, rfl, h⟩ := hh
  change av_W E cSH mX4_until 5 [some (av_r 0), some (av_i a1), none] [av_i r1] s1 Q
  refine av_if_ne (tgt := 10) dX4_until_5 (by decide) h.1 (fun c => ?_) (fun c => ?_)
  · have h := h.2.1 c
    refine av_aload_n dX4_until_10 rfl rfl ?_
    refine av_getr (k := 1) dX4_until_11 rfl rfl iuX4 (by decide) rfl wF_X4_42 rfl ?_
    refine av_callV mX3_fall [] [] dX4_until_14 rfl rfl rfl mbX3_fall rfl wI_X3_fall wS_X3_fall rfl wM_X4_157 ⟨Nat.le_of_ble_eq_true rfl, Nat.le_of_ble_eq_true rfl⟩ rfl (Nat.le_of_ble_eq_true rfl) (av_C.mono (fun v s2 hh => ?_) h)
    obtain ⟨r2, rfl, h⟩ := hh
    change av_W E cSH mX4_until 17 [some (av_r 0), some (av_i a1), none] [av_i r2] s2 Q
    refine av_iconst dX4_until_17 ?_
    refine av_isub dX4_until_18 ?_
    refine av_aload_n dX4_until_19 rfl rfl ?_
    refine av_getr (k := 1) dX4_until_20 rfl rfl iuX4 (by decide) rfl wF_X4_42 rfl ?_
    refine av_getr (k := 5) dX4_until_23 rfl rfl iuX3 (by decide) rfl wF_X4_113 rfl ?_
    refine av_iload_n dX4_until_26 rfl rfl ?_
    refine av_iald (x := (s2 9 (a1).toNat)) dX4_until_27 rfl (by decide) h.1 rfl ?_
    refine av_isub dX4_until_28 ?_
    refine av_istore_n (L' := [some (av_r 0), some (av_i a1), some (av_i ((r2 - 1) - (s2 9 (a1).toNat)))]) dX4_until_29 rfl (by decide) rfl ?_
    refine av_aload_n dX4_until_30 rfl rfl ?_
    refine av_iload_n dX4_until_31 rfl rfl ?_
    refine av_callV mX4_verbsToldBy [av_i a1] [] dX4_until_32 rfl rfl rfl mbX4_verbsToldBy rfl wI_X4_verbsToldBy wS_X4_verbsToldBy rfl wM_X4_146 ⟨Nat.le_of_ble_eq_true rfl, Nat.le_of_ble_eq_true rfl⟩ rfl (Nat.le_of_ble_eq_true rfl) (av_C.mono (fun v s3 hh => ?_) h.2)
    obtain ⟨r3, rfl, h⟩ := hh
    change av_W E cSH mX4_until 35 [some (av_r 0), some (av_i a1), some (av_i ((r2 - 1) - (s2 9 (a1).toNat)))] [av_i r3] s3 Q
    refine av_iconst dX4_until_35 ?_
    refine av_callS mX4_holds [av_i r3, av_i 1] [] dX4_until_36 mbX4_holds rfl wT_X4_holds rfl wM_X4_150 ⟨Nat.le_of_ble_eq_true rfl, Nat.le_of_ble_eq_true rfl⟩ rfl (Nat.le_of_ble_eq_true rfl) (av_C.mono (fun v s4 hh => ?_) h)
    obtain ⟨r4, rfl, h⟩ := hh
    change av_W E cSH mX4_until 39 [some (av_r 0), some (av_i a1), some (av_i ((r2 - 1) - (s2 9 (a1).toNat)))] [av_i r4] s4 Q
    refine av_if_eq (tgt := 56) dX4_until_39 (by decide) h.1 (fun c => ?_) (fun c => ?_)
    · have h := h.2.1 c
      refine av_bipush dX4_until_56 rfl ?_
      exact av_ireturn dX4_until_58 rfl h
    · have h := h.2.2 c
      refine av_iload_n dX4_until_42 rfl rfl ?_
      refine av_aload_n dX4_until_43 rfl rfl ?_
      refine av_getr (k := 4) dX4_until_44 rfl rfl iuX4 (by decide) rfl wF_X4_9 rfl ?_
      refine av_iconst dX4_until_47 ?_
      refine av_iald (x := (s4 27 0)) dX4_until_48 rfl (by decide) (by decide) rfl ?_
      refine av_icmp_lt (tgt := 56) dX4_until_49 (by decide) h.1 h.2.1 (fun c => ?_) (fun c => ?_)
      · have h := h.2.2.1 c
        refine av_bipush dX4_until_56 rfl ?_
        exact av_ireturn dX4_until_58 rfl h
      · have h := h.2.2.2 c
        refine av_iload_n dX4_until_52 rfl rfl ?_
        refine av_goto (tgt := 58) dX4_until_53 (by decide) ?_
        exact av_ireturn dX4_until_58 rfl h
  · have h := h.2.2 c
    refine av_iconst dX4_until_8 ?_
    exact av_ireturn dX4_until_9 rfl h

theorem uX4_enough {E : av_E} {σ : av_M} {Q : Option av_V → av_M → Prop} {a1 a2 : Int} (h : (rg a1) ∧ (((a1 = 0) → Q (some (av_i (-1))) σ) ∧ ((¬ a1 = 0) → (rg (i_and a1 (-15))) ∧ (((¬ (i_and a1 (-15)) = 0) → Q (some (av_i (-1))) σ) ∧ (((i_and a1 (-15)) = 0) → (rg a2) ∧ (((a2 < 0) → Q (some (av_i (-1))) σ) ∧ ((0 ≤ a2) → (rg a2) ∧ (((a2 ≤ 2) → av_W E cSH mX4_enough 24 [some (av_r 0), some (av_i a1), some (av_i a2), some (av_i 0), none] [] σ Q) ∧ ((2 < a2) → Q (some (av_i (-1))) σ))))))))) :
    av_C E cSH mX4_enough [av_r 0, av_i a1, av_i a2] σ Q := by
  refine av_C.ofW (L := [some (av_r 0), some (av_i a1), some (av_i a2), none, none]) (by decide) (Nat.le_of_ble_eq_true rfl) rfl ?_
  refine av_iload_n dX4_enough_0 rfl rfl ?_
  refine av_if_eq (tgt := 20) dX4_enough_1 (by decide) h.1 (fun c => ?_) (fun c => ?_)
  · have h := h.2.1 c
    refine av_iconst dX4_enough_20 ?_
    exact av_ireturn dX4_enough_21 rfl h
  · have h := h.2.2 c
    refine av_iload_n dX4_enough_4 rfl rfl ?_
    refine av_bipush dX4_enough_5 rfl ?_
    refine av_iand dX4_enough_7 ?_
    refine av_if_ne (tgt := 20) dX4_enough_8 (by decide) h.1 (fun c => ?_) (fun c => ?_)
    · have h := h.2.1 c
      refine av_iconst dX4_enough_20 ?_
      exact av_ireturn dX4_enough_21 rfl h
    · have h := h.2.2 c
      refine av_iload_n dX4_enough_11 rfl rfl ?_
      refine av_if_lt (tgt := 20) dX4_enough_12 (by decide) h.1 (fun c => ?_) (fun c => ?_)
      · have h := h.2.1 c
        refine av_iconst dX4_enough_20 ?_
        exact av_ireturn dX4_enough_21 rfl h
      · have h := h.2.2 c
        refine av_iload_n dX4_enough_15 rfl rfl ?_
        refine av_iconst dX4_enough_16 ?_
        refine av_icmp_le (tgt := 22) dX4_enough_17 (by decide) h.1 (by decide) (fun c => ?_) (fun c => ?_)
        · have h := h.2.1 c
          refine av_iconst dX4_enough_22 ?_
          refine av_istore_n (L' := [some (av_r 0), some (av_i a1), some (av_i a2), some (av_i 0), none]) dX4_enough_23 rfl (by decide) rfl ?_
          exact h
        · have h := h.2.2 c
          refine av_iconst dX4_enough_20 ?_
          exact av_ireturn dX4_enough_21 rfl h

theorem uX4_enough_24 {E : av_E} {σ : av_M} {Q : Option av_V → av_M → Prop} {x1 x2 x3 : Int} (h : (rg x3) ∧ ((rg (σ 3 9)) ∧ ((((σ 3 9) ≤ x3) → av_W E cSH mX4_enough 58 [some (av_r 0), some (av_i x1), some (av_i x2), some (av_i (-4)), some (av_i 0)] [] σ Q) ∧ ((x3 < (σ 3 9)) → av_C E cSH mX4_verbsToldBy [av_r 0, av_i x3] σ (fun v s1 => ∃ r1 : Int, v = some (av_i r1) ∧ ((0 ≤ x3 ∧ x3 < 5) ∧ (av_W E cSH mX4_enough 24 [some (av_r 0), some (av_i x1), some (av_i x2), some (av_i (x3 + 1)), none] [] (av_st s1 34 (x3).toNat r1) Q))))))) :
    av_W E cSH mX4_enough 24 [some (av_r 0), some (av_i x1), some (av_i x2), some (av_i x3), none] [] σ Q := by
  refine av_iload_n dX4_enough_24 rfl rfl ?_
  refine av_aload_n dX4_enough_25 rfl rfl ?_
  refine av_getr (k := 1) dX4_enough_26 rfl rfl iuX4 (by decide) rfl wF_X4_42 rfl ?_
  refine av_get (k := 9) (x := (σ 3 9)) dX4_enough_29 rfl rfl iuX3 (by decide) rfl wF_X4_90 rfl rfl ?_
  refine av_icmp_ge (tgt := 52) dX4_enough_32 (by decide) h.1 h.2.1 (fun c => ?_) (fun c => ?_)
  · have h := h.2.2.1 c
    refine av_bipush dX4_enough_52 rfl ?_
    refine av_istore_n (L' := [some (av_r 0), some (av_i x1), some (av_i x2), some (av_i (-4)), none]) dX4_enough_54 rfl (by decide) rfl ?_
    refine av_iconst dX4_enough_55 ?_
    refine av_istore (L' := [some (av_r 0), some (av_i x1), some (av_i x2), some (av_i (-4)), some (av_i 0)]) dX4_enough_56 (by decide) rfl ?_
    exact h
  · have h := h.2.2.2 c
    refine av_aload_n dX4_enough_35 rfl rfl ?_
    refine av_getr (k := 9) dX4_enough_36 rfl rfl iuX4 (by decide) rfl wF_X4_29 rfl ?_
    refine av_iload_n dX4_enough_39 rfl rfl ?_
    refine av_aload_n dX4_enough_40 rfl rfl ?_
    refine av_iload_n dX4_enough_41 rfl rfl ?_
    refine av_callV mX4_verbsToldBy [av_i x3] [av_i x3, av_r 34] dX4_enough_42 rfl rfl rfl mbX4_verbsToldBy rfl wI_X4_verbsToldBy wS_X4_verbsToldBy rfl wM_X4_146 ⟨Nat.le_of_ble_eq_true rfl, Nat.le_of_ble_eq_true rfl⟩ rfl (Nat.le_of_ble_eq_true rfl) (av_C.mono (fun v s1 hh => ?_) h)
    obtain ⟨r1, rfl, h⟩ := hh
    change av_W E cSH mX4_enough 45 [some (av_r 0), some (av_i x1), some (av_i x2), some (av_i x3), none] [av_i r1, av_i x3, av_r 34] s1 Q
    refine av_iast dX4_enough_45 rfl (by decide) h.1 ?_
    refine av_iinc (L' := [some (av_r 0), some (av_i x1), some (av_i x2), some (av_i (x3 + 1)), none]) dX4_enough_46 rfl (by decide) rfl rfl ?_
    refine av_goto (tgt := 24) dX4_enough_49 (by decide) ?_
    exact h.2

theorem uX4_enough_58 {E : av_E} {σ : av_M} {Q : Option av_V → av_M → Prop} {x1 x2 x3 x4 : Int} (h : (rg x4) ∧ ((rg (i_shl 1 (σ 3 9))) ∧ ((((i_shl 1 (σ 3 9)) ≤ x4) → (rg x3) ∧ (((x3 = (-4)) → Q (some (av_i x3)) σ) ∧ ((¬ x3 = (-4)) → (rg x2) ∧ (((¬ x2 = 0) → (rg x2) ∧ (((¬ x2 = 1) → av_C E cSH mX3_hoursOf [av_r 3, av_i x3] σ (fun v s1 => ∃ r1 : Int, v = some (av_i r1) ∧ (Q (some (av_i r1)) s1))) ∧ ((x2 = 1) → av_C E cSH mX3_priceOf [av_r 3, av_i x3] σ (fun v s2 => ∃ r2 : Int, v = some (av_i r2) ∧ (Q (some (av_i r2)) s2))))) ∧ ((x2 = 0) → Q (some (av_i x3)) σ))))) ∧ ((x4 < (i_shl 1 (σ 3 9))) → av_C E cSH mX4_isEnough [av_r 0, av_i x4, av_i x1] σ (fun v s3 => ∃ r3 : Int, v = some (av_i r3) ∧ ((rg r3) ∧ (((r3 = 0) → av_W E cSH mX4_enough 58 [some (av_r 0), some (av_i x1), some (av_i x2), some (av_i x3), some (av_i (x4 + 1))] [] s3 Q) ∧ ((¬ r3 = 0) → (rg x3) ∧ (((x3 = (-4)) → av_W E cSH mX4_enough 58 [some (av_r 0), some (av_i x1), some (av_i x2), some (av_i x4), some (av_i (x4 + 1))] [] s3 Q) ∧ ((¬ x3 = (-4)) → av_C E cSH mX4_isCheaper [av_r 0, av_i x4, av_i x3] s3 (fun v s4 => ∃ r4 : Int, v = some (av_i r4) ∧ ((rg r4) ∧ (((r4 = 0) → av_W E cSH mX4_enough 58 [some (av_r 0), some (av_i x1), some (av_i x2), some (av_i x3), some (av_i (x4 + 1))] [] s4 Q) ∧ ((¬ r4 = 0) → av_W E cSH mX4_enough 58 [some (av_r 0), some (av_i x1), some (av_i x2), some (av_i x4), some (av_i (x4 + 1))] [] s4 Q)))))))))))))) :
    av_W E cSH mX4_enough 58 [some (av_r 0), some (av_i x1), some (av_i x2), some (av_i x3), some (av_i x4)] [] σ Q := by
  refine av_iload dX4_enough_58 rfl ?_
  refine av_iconst dX4_enough_60 ?_
  refine av_aload_n dX4_enough_61 rfl rfl ?_
  refine av_getr (k := 1) dX4_enough_62 rfl rfl iuX4 (by decide) rfl wF_X4_42 rfl ?_
  refine av_get (k := 9) (x := (σ 3 9)) dX4_enough_65 rfl rfl iuX3 (by decide) rfl wF_X4_90 rfl rfl ?_
  refine av_ishl dX4_enough_68 ?_
  refine av_icmp_ge (tgt := 107) dX4_enough_69 (by decide) h.1 h.2.1 (fun c => ?_) (fun c => ?_)
  · have h := h.2.2.1 c
    refine av_iload_n dX4_enough_107 rfl rfl ?_
    refine av_bipush dX4_enough_108 rfl ?_
    refine av_icmp_eq (tgt := 117) dX4_enough_110 (by decide) h.1 (by decide) (fun c => ?_) (fun c => ?_)
    · have h := h.2.1 c
      refine av_iload_n dX4_enough_117 rfl rfl ?_
      exact av_ireturn dX4_enough_118 rfl h
    · have h := h.2.2 c
      refine av_iload_n dX4_enough_113 rfl rfl ?_
      refine av_if_ne (tgt := 119) dX4_enough_114 (by decide) h.1 (fun c => ?_) (fun c => ?_)
      · have h := h.2.1 c
        refine av_iload_n dX4_enough_119 rfl rfl ?_
        refine av_iconst dX4_enough_120 ?_
        refine av_icmp_ne (tgt := 135) dX4_enough_121 (by decide) h.1 (by decide) (fun c => ?_) (fun c => ?_)
        · have h := h.2.1 c
          refine av_aload_n dX4_enough_135 rfl rfl ?_
          refine av_getr (k := 1) dX4_enough_136 rfl rfl iuX4 (by decide) rfl wF_X4_42 rfl ?_
          refine av_iload_n dX4_enough_139 rfl rfl ?_
          refine av_callV mX3_hoursOf [av_i x3] [] dX4_enough_140 rfl rfl rfl mbX3_hoursOf rfl wI_X3_hoursOf wS_X3_hoursOf rfl wM_X4_201 ⟨Nat.le_of_ble_eq_true rfl, Nat.le_of_ble_eq_true rfl⟩ rfl (Nat.le_of_ble_eq_true rfl) (av_C.mono (fun v s1 hh => ?_) h)
          obtain ⟨r1, rfl, h⟩ := hh
          change av_W E cSH mX4_enough 143 [some (av_r 0), some (av_i x1), some (av_i x2), some (av_i x3), some (av_i x4)] [av_i r1] s1 Q
          exact av_ireturn dX4_enough_143 rfl h
        · have h := h.2.2 c
          refine av_aload_n dX4_enough_124 rfl rfl ?_
          refine av_getr (k := 1) dX4_enough_125 rfl rfl iuX4 (by decide) rfl wF_X4_42 rfl ?_
          refine av_iload_n dX4_enough_128 rfl rfl ?_
          refine av_callV mX3_priceOf [av_i x3] [] dX4_enough_129 rfl rfl rfl mbX3_priceOf rfl wI_X3_priceOf wS_X3_priceOf rfl wM_X4_198 ⟨Nat.le_of_ble_eq_true rfl, Nat.le_of_ble_eq_true rfl⟩ rfl (Nat.le_of_ble_eq_true rfl) (av_C.mono (fun v s2 hh => ?_) h)
          obtain ⟨r2, rfl, h⟩ := hh
          change av_W E cSH mX4_enough 132 [some (av_r 0), some (av_i x1), some (av_i x2), some (av_i x3), some (av_i x4)] [av_i r2] s2 Q
          refine av_goto (tgt := 143) dX4_enough_132 (by decide) ?_
          exact av_ireturn dX4_enough_143 rfl h
      · have h := h.2.2 c
        refine av_iload_n dX4_enough_117 rfl rfl ?_
        exact av_ireturn dX4_enough_118 rfl h
  · have h := h.2.2.2 c
    refine av_aload_n dX4_enough_72 rfl rfl ?_
    refine av_iload dX4_enough_73 rfl ?_
    refine av_iload_n dX4_enough_75 rfl rfl ?_
    refine av_callV mX4_isEnough [av_i x4, av_i x1] [] dX4_enough_76 rfl rfl rfl mbX4_isEnough rfl wI_X4_isEnough wS_X4_isEnough rfl wM_X4_192 ⟨Nat.le_of_ble_eq_true rfl, Nat.le_of_ble_eq_true rfl⟩ rfl (Nat.le_of_ble_eq_true rfl) (av_C.mono (fun v s3 hh => ?_) h)
    obtain ⟨r3, rfl, h⟩ := hh
    change av_W E cSH mX4_enough 79 [some (av_r 0), some (av_i x1), some (av_i x2), some (av_i x3), some (av_i x4)] [av_i r3] s3 Q
    refine av_if_eq (tgt := 101) dX4_enough_79 (by decide) h.1 (fun c => ?_) (fun c => ?_)
    · have h := h.2.1 c
      refine av_iinc (L' := [some (av_r 0), some (av_i x1), some (av_i x2), some (av_i x3), some (av_i (x4 + 1))]) dX4_enough_101 rfl (by decide) rfl rfl ?_
      refine av_goto (tgt := 58) dX4_enough_104 (by decide) ?_
      exact h
    · have h := h.2.2 c
      refine av_iload_n dX4_enough_82 rfl rfl ?_
      refine av_bipush dX4_enough_83 rfl ?_
      refine av_icmp_eq (tgt := 98) dX4_enough_85 (by decide) h.1 (by decide) (fun c => ?_) (fun c => ?_)
      · have h := h.2.1 c
        refine av_iload dX4_enough_98 rfl ?_
        refine av_istore_n (L' := [some (av_r 0), some (av_i x1), some (av_i x2), some (av_i x4), some (av_i x4)]) dX4_enough_100 rfl (by decide) rfl ?_
        refine av_iinc (L' := [some (av_r 0), some (av_i x1), some (av_i x2), some (av_i x4), some (av_i (x4 + 1))]) dX4_enough_101 rfl (by decide) rfl rfl ?_
        refine av_goto (tgt := 58) dX4_enough_104 (by decide) ?_
        exact h
      · have h := h.2.2 c
        refine av_aload_n dX4_enough_88 rfl rfl ?_
        refine av_iload dX4_enough_89 rfl ?_
        refine av_iload_n dX4_enough_91 rfl rfl ?_
        refine av_callV mX4_isCheaper [av_i x4, av_i x3] [] dX4_enough_92 rfl rfl rfl mbX4_isCheaper rfl wI_X4_isCheaper wS_X4_isCheaper rfl wM_X4_195 ⟨Nat.le_of_ble_eq_true rfl, Nat.le_of_ble_eq_true rfl⟩ rfl (Nat.le_of_ble_eq_true rfl) (av_C.mono (fun v s4 hh => ?_) h)
        obtain ⟨r4, rfl, h⟩ := hh
        change av_W E cSH mX4_enough 95 [some (av_r 0), some (av_i x1), some (av_i x2), some (av_i x3), some (av_i x4)] [av_i r4] s4 Q
        refine av_if_eq (tgt := 101) dX4_enough_95 (by decide) h.1 (fun c => ?_) (fun c => ?_)
        · have h := h.2.1 c
          refine av_iinc (L' := [some (av_r 0), some (av_i x1), some (av_i x2), some (av_i x3), some (av_i (x4 + 1))]) dX4_enough_101 rfl (by decide) rfl rfl ?_
          refine av_goto (tgt := 58) dX4_enough_104 (by decide) ?_
          exact h
        · have h := h.2.2 c
          refine av_iload dX4_enough_98 rfl ?_
          refine av_istore_n (L' := [some (av_r 0), some (av_i x1), some (av_i x2), some (av_i x4), some (av_i x4)]) dX4_enough_100 rfl (by decide) rfl ?_
          refine av_iinc (L' := [some (av_r 0), some (av_i x1), some (av_i x2), some (av_i x4), some (av_i (x4 + 1))]) dX4_enough_101 rfl (by decide) rfl rfl ?_
          refine av_goto (tgt := 58) dX4_enough_104 (by decide) ?_
          exact h

theorem uX4_see {E : av_E} {σ : av_M} {Q : Option av_V → av_M → Prop} {a1 a2 : Int} (h : av_C E cSH mX4_isReader [av_r 0, av_i a1] σ (fun v s1 => ∃ r1 : Int, v = some (av_i r1) ∧ ((rg r1) ∧ (((r1 = 0) → Q (some (av_i (-1))) s1) ∧ ((¬ r1 = 0) → (rg a2) ∧ (((a2 < 0) → Q (some (av_i (-1))) s1) ∧ ((0 ≤ a2) → (rg a2) ∧ (((a2 ≤ 600) → (rg (s1 0 10)) ∧ ((((s1 0 10) < 6) → (0 ≤ (s1 0 10) ∧ (s1 0 10) < 6) ∧ ((0 ≤ (s1 0 10) ∧ (s1 0 10) < 6) ∧ (Q (some (av_i ((s1 0 10) + 1))) (av_st (av_st (av_st s1 32 ((s1 0 10)).toNat a1) 33 ((s1 0 10)).toNat a2) 0 10 ((s1 0 10) + 1))))) ∧ ((6 ≤ (s1 0 10)) → Q (some (av_i (-3))) s1))) ∧ ((600 < a2) → Q (some (av_i (-1))) s1))))))))) :
    av_C E cSH mX4_see [av_r 0, av_i a1, av_i a2] σ Q := by
  refine av_C.ofW (L := [some (av_r 0), some (av_i a1), some (av_i a2)]) (by decide) (Nat.le_of_ble_eq_true rfl) rfl ?_
  refine av_aload_n dX4_see_0 rfl rfl ?_
  refine av_iload_n dX4_see_1 rfl rfl ?_
  refine av_callV mX4_isReader [av_i a1] [] dX4_see_2 rfl rfl rfl mbX4_isReader rfl wI_X4_isReader wS_X4_isReader rfl wM_X4_102 ⟨Nat.le_of_ble_eq_true rfl, Nat.le_of_ble_eq_true rfl⟩ rfl (Nat.le_of_ble_eq_true rfl) (av_C.mono (fun v s1 hh => ?_) h)
  obtain ⟨r1, rfl, h⟩ := hh
  change av_W E cSH mX4_see 5 [some (av_r 0), some (av_i a1), some (av_i a2)] [av_i r1] s1 Q
  refine av_if_eq (tgt := 19) dX4_see_5 (by decide) h.1 (fun c => ?_) (fun c => ?_)
  · have h := h.2.1 c
    refine av_iconst dX4_see_19 ?_
    exact av_ireturn dX4_see_20 rfl h
  · have h := h.2.2 c
    refine av_iload_n dX4_see_8 rfl rfl ?_
    refine av_if_lt (tgt := 19) dX4_see_9 (by decide) h.1 (fun c => ?_) (fun c => ?_)
    · have h := h.2.1 c
      refine av_iconst dX4_see_19 ?_
      exact av_ireturn dX4_see_20 rfl h
    · have h := h.2.2 c
      refine av_iload_n dX4_see_12 rfl rfl ?_
      refine av_sipush dX4_see_13 rfl ?_
      refine av_icmp_le (tgt := 21) dX4_see_16 (by decide) h.1 (by decide) (fun c => ?_) (fun c => ?_)
      · have h := h.2.1 c
        refine av_aload_n dX4_see_21 rfl rfl ?_
        refine av_get (k := 10) (x := (s1 0 10)) dX4_see_22 rfl rfl iuX4 (by decide) rfl wF_X4_204 rfl rfl ?_
        refine av_bipush dX4_see_25 rfl ?_
        refine av_icmp_lt (tgt := 33) dX4_see_27 (by decide) h.1 (by decide) (fun c => ?_) (fun c => ?_)
        · have h := h.2.1 c
          refine av_aload_n dX4_see_33 rfl rfl ?_
          refine av_getr (k := 7) dX4_see_34 rfl rfl iuX4 (by decide) rfl wF_X4_23 rfl ?_
          refine av_aload_n dX4_see_37 rfl rfl ?_
          refine av_get (k := 10) (x := (s1 0 10)) dX4_see_38 rfl rfl iuX4 (by decide) rfl wF_X4_204 rfl rfl ?_
          refine av_iload_n dX4_see_41 rfl rfl ?_
          refine av_iast dX4_see_42 rfl (by decide) h.1 ?_
          refine av_aload_n dX4_see_43 rfl rfl ?_
          refine av_getr (k := 8) dX4_see_44 rfl rfl iuX4 (by decide) rfl wF_X4_26 rfl ?_
          refine av_aload_n dX4_see_47 rfl rfl ?_
          refine av_get (k := 10) (x := (s1 0 10)) dX4_see_48 rfl rfl iuX4 (by decide) rfl wF_X4_204 rfl rfl ?_
          refine av_iload_n dX4_see_51 rfl rfl ?_
          refine av_iast dX4_see_52 rfl (by decide) h.2.1 ?_
          refine av_aload_n dX4_see_53 rfl rfl ?_
          refine av_dup dX4_see_54 (fun _ h9 => nomatch h9) ?_
          refine av_get (k := 10) (x := (s1 0 10)) dX4_see_55 rfl rfl iuX4 (by decide) rfl wF_X4_204 rfl rfl ?_
          refine av_iconst dX4_see_58 ?_
          refine av_iadd dX4_see_59 ?_
          refine av_put (k := 10) tyX4 dX4_see_60 rfl rfl iuX4 tyX4_ok nmX4 (by decide) rfl wF_X4_204 rfl rfl rfl ?_
          refine av_aload_n dX4_see_63 rfl rfl ?_
          refine av_get (k := 10) (x := ((s1 0 10) + 1)) dX4_see_64 rfl rfl iuX4 (by decide) rfl wF_X4_204 rfl rfl ?_
          exact av_ireturn dX4_see_67 rfl h.2.2
        · have h := h.2.2 c
          refine av_bipush dX4_see_30 rfl ?_
          exact av_ireturn dX4_see_32 rfl h
      · have h := h.2.2 c
        refine av_iconst dX4_see_19 ?_
        exact av_ireturn dX4_see_20 rfl h

theorem uX4_forget {E : av_E} {σ : av_M} {Q : Option av_V → av_M → Prop} (h : Q (some (av_i (σ 0 10))) (av_st σ 0 10 0)) :
    av_C E cSH mX4_forget [av_r 0] σ Q := by
  refine av_C.ofW (L := [some (av_r 0), none]) (by decide) (Nat.le_of_ble_eq_true rfl) rfl ?_
  refine av_aload_n dX4_forget_0 rfl rfl ?_
  refine av_get (k := 10) (x := (σ 0 10)) dX4_forget_1 rfl rfl iuX4 (by decide) rfl wF_X4_204 rfl rfl ?_
  refine av_istore_n (L' := [some (av_r 0), some (av_i (σ 0 10))]) dX4_forget_4 rfl (by decide) rfl ?_
  refine av_aload_n dX4_forget_5 rfl rfl ?_
  refine av_iconst dX4_forget_6 ?_
  refine av_put (k := 10) tyX4 dX4_forget_7 rfl rfl iuX4 tyX4_ok nmX4 (by decide) rfl wF_X4_204 rfl rfl rfl ?_
  refine av_iload_n dX4_forget_10 rfl rfl ?_
  exact av_ireturn dX4_forget_11 rfl h

theorem uX4_wrote {E : av_E} {σ : av_M} {Q : Option av_V → av_M → Prop} {a1 : Int} (h : (rg a1) ∧ (((a1 < 0) → Q (some (av_i (-1))) σ) ∧ ((0 ≤ a1) → (rg a1) ∧ (((a1 ≤ 1) → av_W E cSH mX4_wrote 15 [some (av_r 0), some (av_i a1), some (av_i 0), some (av_i 1)] [] σ Q) ∧ ((1 < a1) → Q (some (av_i (-1))) σ))))) :
    av_C E cSH mX4_wrote [av_r 0, av_i a1] σ Q := by
  refine av_C.ofW (L := [some (av_r 0), some (av_i a1), none, none]) (by decide) (Nat.le_of_ble_eq_true rfl) rfl ?_
  refine av_iload_n dX4_wrote_0 rfl rfl ?_
  refine av_if_lt (tgt := 9) dX4_wrote_1 (by decide) h.1 (fun c => ?_) (fun c => ?_)
  · have h := h.2.1 c
    refine av_iconst dX4_wrote_9 ?_
    exact av_ireturn dX4_wrote_10 rfl h
  · have h := h.2.2 c
    refine av_iload_n dX4_wrote_4 rfl rfl ?_
    refine av_iconst dX4_wrote_5 ?_
    refine av_icmp_le (tgt := 11) dX4_wrote_6 (by decide) h.1 (by decide) (fun c => ?_) (fun c => ?_)
    · have h := h.2.1 c
      refine av_iconst dX4_wrote_11 ?_
      refine av_istore_n (L' := [some (av_r 0), some (av_i a1), some (av_i 0), none]) dX4_wrote_12 rfl (by decide) rfl ?_
      refine av_iconst dX4_wrote_13 ?_
      refine av_istore_n (L' := [some (av_r 0), some (av_i a1), some (av_i 0), some (av_i 1)]) dX4_wrote_14 rfl (by decide) rfl ?_
      exact h
    · have h := h.2.2 c
      refine av_iconst dX4_wrote_9 ?_
      exact av_ireturn dX4_wrote_10 rfl h

theorem uX4_wrote_15 {E : av_E} {σ : av_M} {Q : Option av_V → av_M → Prop} {x1 x2 x3 : Int} (h : (rg x3) ∧ (((1295 < x3) → (rg x1) ∧ (((¬ x1 = 1) → Q (some (av_i x2)) σ) ∧ ((x1 = 1) → Q (some (av_i (-4))) σ))) ∧ ((x3 ≤ 1295) → av_C E cSH mX4_isShortRow [av_i x3] σ (fun v s1 => ∃ r1 : Int, v = some (av_i r1) ∧ ((rg r1) ∧ (((r1 = 0) → av_W E cSH mX4_wrote 15 [some (av_r 0), some (av_i x1), some (av_i x2), some (av_i (x3 + 1))] [] s1 Q) ∧ ((¬ r1 = 0) → av_C E cSH mX4_isAsSeen [av_r 0, av_i x3] s1 (fun v s2 => ∃ r2 : Int, v = some (av_i r2) ∧ ((rg r2) ∧ (((r2 = 0) → av_W E cSH mX4_wrote 15 [some (av_r 0), some (av_i x1), some (av_i x2), some (av_i (x3 + 1))] [] s2 Q) ∧ ((¬ r2 = 0) → (rg x1) ∧ (((¬ x1 = 1) → av_W E cSH mX4_wrote 15 [some (av_r 0), some (av_i x1), some (av_i (x2 + 1)), some (av_i (x3 + 1))] [] s2 Q) ∧ ((x1 = 1) → Q (some (av_i x3)) s2))))))))))))) :
    av_W E cSH mX4_wrote 15 [some (av_r 0), some (av_i x1), some (av_i x2), some (av_i x3)] [] σ Q := by
  refine av_iload_n dX4_wrote_15 rfl rfl ?_
  refine av_sipush dX4_wrote_16 rfl ?_
  refine av_icmp_gt (tgt := 53) dX4_wrote_19 (by decide) h.1 (by decide) (fun c => ?_) (fun c => ?_)
  · have h := h.2.1 c
    refine av_iload_n dX4_wrote_53 rfl rfl ?_
    refine av_iconst dX4_wrote_54 ?_
    refine av_icmp_ne (tgt := 63) dX4_wrote_55 (by decide) h.1 (by decide) (fun c => ?_) (fun c => ?_)
    · have h := h.2.1 c
      refine av_iload_n dX4_wrote_63 rfl rfl ?_
      exact av_ireturn dX4_wrote_64 rfl h
    · have h := h.2.2 c
      refine av_bipush dX4_wrote_58 rfl ?_
      refine av_goto (tgt := 64) dX4_wrote_60 (by decide) ?_
      exact av_ireturn dX4_wrote_64 rfl h
  · have h := h.2.2 c
    refine av_iload_n dX4_wrote_22 rfl rfl ?_
    refine av_callS mX4_isShortRow [av_i x3] [] dX4_wrote_23 mbX4_isShortRow rfl wT_X4_isShortRow rfl wM_X4_189 ⟨Nat.le_of_ble_eq_true rfl, Nat.le_of_ble_eq_true rfl⟩ rfl (Nat.le_of_ble_eq_true rfl) (av_C.mono (fun v s1 hh => ?_) h)
    obtain ⟨r1, rfl, h⟩ := hh
    change av_W E cSH mX4_wrote 26 [some (av_r 0), some (av_i x1), some (av_i x2), some (av_i x3)] [av_i r1] s1 Q
    refine av_if_eq (tgt := 47) dX4_wrote_26 (by decide) h.1 (fun c => ?_) (fun c => ?_)
    · have h := h.2.1 c
      refine av_iinc (L' := [some (av_r 0), some (av_i x1), some (av_i x2), some (av_i (x3 + 1))]) dX4_wrote_47 rfl (by decide) rfl rfl ?_
      refine av_goto (tgt := 15) dX4_wrote_50 (by decide) ?_
      exact h
    · have h := h.2.2 c
      refine av_aload_n dX4_wrote_29 rfl rfl ?_
      refine av_iload_n dX4_wrote_30 rfl rfl ?_
      refine av_callV mX4_isAsSeen [av_i x3] [] dX4_wrote_31 rfl rfl rfl mbX4_isAsSeen rfl wI_X4_isAsSeen wS_X4_isAsSeen rfl wM_X4_207 ⟨Nat.le_of_ble_eq_true rfl, Nat.le_of_ble_eq_true rfl⟩ rfl (Nat.le_of_ble_eq_true rfl) (av_C.mono (fun v s2 hh => ?_) h)
      obtain ⟨r2, rfl, h⟩ := hh
      change av_W E cSH mX4_wrote 34 [some (av_r 0), some (av_i x1), some (av_i x2), some (av_i x3)] [av_i r2] s2 Q
      refine av_if_eq (tgt := 47) dX4_wrote_34 (by decide) h.1 (fun c => ?_) (fun c => ?_)
      · have h := h.2.1 c
        refine av_iinc (L' := [some (av_r 0), some (av_i x1), some (av_i x2), some (av_i (x3 + 1))]) dX4_wrote_47 rfl (by decide) rfl rfl ?_
        refine av_goto (tgt := 15) dX4_wrote_50 (by decide) ?_
        exact h
      · have h := h.2.2 c
        refine av_iload_n dX4_wrote_37 rfl rfl ?_
        refine av_iconst dX4_wrote_38 ?_
        refine av_icmp_ne (tgt := 44) dX4_wrote_39 (by decide) h.1 (by decide) (fun c => ?_) (fun c => ?_)
        · have h := h.2.1 c
          refine av_iinc (L' := [some (av_r 0), some (av_i x1), some (av_i (x2 + 1)), some (av_i x3)]) dX4_wrote_44 rfl (by decide) rfl rfl ?_
          refine av_iinc (L' := [some (av_r 0), some (av_i x1), some (av_i (x2 + 1)), some (av_i (x3 + 1))]) dX4_wrote_47 rfl (by decide) rfl rfl ?_
          refine av_goto (tgt := 15) dX4_wrote_50 (by decide) ?_
          exact h
        · have h := h.2.2 c
          refine av_iload_n dX4_wrote_42 rfl rfl ?_
          exact av_ireturn dX4_wrote_43 rfl h

theorem uX4_forgotten {E : av_E} {σ : av_M} {Q : Option av_V → av_M → Prop} {a1 a2 a3 : Int} (h : av_C E cSH mX4_isReader [av_r 0, av_i a1] σ (fun v s1 => ∃ r1 : Int, v = some (av_i r1) ∧ ((rg r1) ∧ (((r1 = 0) → Q (some (av_i (-1))) s1) ∧ ((¬ r1 = 0) → (rg a2) ∧ (((a2 < 0) → Q (some (av_i (-1))) s1) ∧ ((0 ≤ a2) → (rg a2) ∧ (((10 < a2) → Q (some (av_i (-1))) s1) ∧ ((a2 ≤ 10) → av_C E cSH mX4_isPart [av_i a3] s1 (fun v s2 => ∃ r2 : Int, v = some (av_i r2) ∧ ((rg r2) ∧ (((¬ r2 = 0) → (0 ≤ a1 ∧ a1 < 5) ∧ (av_C E cSH mX0_take [av_r 21, av_i (s2 8 (a1).toNat), av_i (s2 27 4)] s2 (fun v s3 => v = none ∧ (av_W E cSH mX4_forgotten 55 [some (av_r 0), some (av_i a1), some (av_i a2), some (av_i a3), some (av_l 0), none, some (av_i 0)] [] s3 Q)))) ∧ ((r2 = 0) → Q (some (av_i (-1))) s2))))))))))))) :
    av_C E cSH mX4_forgotten [av_r 0, av_i a1, av_i a2, av_i a3] σ Q := by
  refine av_C.ofW (L := [some (av_r 0), some (av_i a1), some (av_i a2), some (av_i a3), none, none, none]) (by decide) (Nat.le_of_ble_eq_true rfl) rfl ?_
  refine av_aload_n dX4_forgotten_0 rfl rfl ?_
  refine av_iload_n dX4_forgotten_1 rfl rfl ?_
  refine av_callV mX4_isReader [av_i a1] [] dX4_forgotten_2 rfl rfl rfl mbX4_isReader rfl wI_X4_isReader wS_X4_isReader rfl wM_X4_102 ⟨Nat.le_of_ble_eq_true rfl, Nat.le_of_ble_eq_true rfl⟩ rfl (Nat.le_of_ble_eq_true rfl) (av_C.mono (fun v s1 hh => ?_) h)
  obtain ⟨r1, rfl, h⟩ := hh
  change av_W E cSH mX4_forgotten 5 [some (av_r 0), some (av_i a1), some (av_i a2), some (av_i a3), none, none, none] [av_i r1] s1 Q
  refine av_if_eq (tgt := 25) dX4_forgotten_5 (by decide) h.1 (fun c => ?_) (fun c => ?_)
  · have h := h.2.1 c
    refine av_iconst dX4_forgotten_25 ?_
    exact av_ireturn dX4_forgotten_26 rfl h
  · have h := h.2.2 c
    refine av_iload_n dX4_forgotten_8 rfl rfl ?_
    refine av_if_lt (tgt := 25) dX4_forgotten_9 (by decide) h.1 (fun c => ?_) (fun c => ?_)
    · have h := h.2.1 c
      refine av_iconst dX4_forgotten_25 ?_
      exact av_ireturn dX4_forgotten_26 rfl h
    · have h := h.2.2 c
      refine av_iload_n dX4_forgotten_12 rfl rfl ?_
      refine av_bipush dX4_forgotten_13 rfl ?_
      refine av_icmp_gt (tgt := 25) dX4_forgotten_15 (by decide) h.1 (by decide) (fun c => ?_) (fun c => ?_)
      · have h := h.2.1 c
        refine av_iconst dX4_forgotten_25 ?_
        exact av_ireturn dX4_forgotten_26 rfl h
      · have h := h.2.2 c
        refine av_iload_n dX4_forgotten_18 rfl rfl ?_
        refine av_callS mX4_isPart [av_i a3] [] dX4_forgotten_19 mbX4_isPart rfl wT_X4_isPart rfl wM_X4_172 ⟨Nat.le_of_ble_eq_true rfl, Nat.le_of_ble_eq_true rfl⟩ rfl (Nat.le_of_ble_eq_true rfl) (av_C.mono (fun v s2 hh => ?_) h)
        obtain ⟨r2, rfl, h⟩ := hh
        change av_W E cSH mX4_forgotten 22 [some (av_r 0), some (av_i a1), some (av_i a2), some (av_i a3), none, none, none] [av_i r2] s2 Q
        refine av_if_ne (tgt := 27) dX4_forgotten_22 (by decide) h.1 (fun c => ?_) (fun c => ?_)
        · have h := h.2.1 c
          refine av_aload_n dX4_forgotten_27 rfl rfl ?_
          refine av_getr (k := 3) dX4_forgotten_28 rfl rfl iuX4 (by decide) rfl wF_X4_54 rfl ?_
          refine av_aload_n dX4_forgotten_31 rfl rfl ?_
          refine av_getr (k := 1) dX4_forgotten_32 rfl rfl iuX4 (by decide) rfl wF_X4_42 rfl ?_
          refine av_getr (k := 4) dX4_forgotten_35 rfl rfl iuX3 (by decide) rfl wF_X4_110 rfl ?_
          refine av_iload_n dX4_forgotten_38 rfl rfl ?_
          refine av_iald (x := (s2 8 (a1).toNat)) dX4_forgotten_39 rfl (by decide) h.1 rfl ?_
          refine av_aload_n dX4_forgotten_40 rfl rfl ?_
          refine av_getr (k := 4) dX4_forgotten_41 rfl rfl iuX4 (by decide) rfl wF_X4_9 rfl ?_
          refine av_iconst dX4_forgotten_44 ?_
          refine av_iald (x := (s2 27 4)) dX4_forgotten_45 rfl (by decide) (by decide) rfl ?_
          refine av_callV mX0_take [av_i (s2 8 (a1).toNat), av_i (s2 27 4)] [] dX4_forgotten_46 rfl rfl rfl mbX0_take rfl wI_X0_take wS_X0_take rfl wM_X4_210 ⟨Nat.le_of_ble_eq_true rfl, Nat.le_of_ble_eq_true rfl⟩ rfl (Nat.le_of_ble_eq_true rfl) (av_C.mono (fun v s3 hh => ?_) h.2)
          obtain ⟨rfl, h⟩ := hh
          change av_W E cSH mX4_forgotten 49 [some (av_r 0), some (av_i a1), some (av_i a2), some (av_i a3), none, none, none] [] s3 Q
          refine av_lconst (x := 0) dX4_forgotten_49 rfl ?_
          refine av_lstore (L' := [some (av_r 0), some (av_i a1), some (av_i a2), some (av_i a3), some (av_l 0), none, none]) dX4_forgotten_50 (by decide) rfl ?_
          refine av_iconst dX4_forgotten_52 ?_
          refine av_istore (L' := [some (av_r 0), some (av_i a1), some (av_i a2), some (av_i a3), some (av_l 0), none, some (av_i 0)]) dX4_forgotten_53 (by decide) rfl ?_
          exact h
        · have h := h.2.2 c
          refine av_iconst dX4_forgotten_25 ?_
          exact av_ireturn dX4_forgotten_26 rfl h

theorem uX4_forgotten_55 {E : av_E} {σ : av_M} {Q : Option av_V → av_M → Prop} {x1 x2 x3 x4 x6 : Int} (h : (rg x6) ∧ ((rg (i_shl 1 (σ 3 8))) ∧ ((((i_shl 1 (σ 3 8)) ≤ x6) → av_C E cSH mX4_power [av_i 10, av_i (σ 3 8)] σ (fun v s1 => ∃ r1 : Int, v = some (av_l r1) ∧ (av_C E cSH mX4_inLowestTerms [av_l x4, av_l r1, av_i x3] s1 (fun v s2 => ∃ r2 : Int, v = some (av_i r2) ∧ (Q (some (av_i r2)) s2))))) ∧ ((x6 < (i_shl 1 (σ 3 8))) → av_C E cSH mX4_wordsOfRoots [av_r 0, av_i x6] σ (fun v s3 => ∃ r3 : Int, v = some (av_i r3) ∧ (av_C E cSH mX0_tally [av_r 21, av_i r3] s3 (fun v s4 => ∃ r4 : Int, v = some (av_i r4) ∧ ((rg r4) ∧ (((r4 ≤ 0) → av_W E cSH mX4_forgotten 55 [some (av_r 0), some (av_i x1), some (av_i x2), some (av_i x3), some (av_l x4), none, some (av_i (x6 + 1))] [] s4 Q) ∧ ((0 < r4) → av_C E cSH mX4_oddsOf [av_r 0, av_i x6, av_i x2] s4 (fun v s5 => ∃ r5 : Int, v = some (av_l r5) ∧ (av_W E cSH mX4_forgotten 55 [some (av_r 0), some (av_i x1), some (av_i x2), some (av_i x3), some (av_l (x4 + r5)), none, some (av_i (x6 + 1))] [] s5 Q)))))))))))) :
    av_W E cSH mX4_forgotten 55 [some (av_r 0), some (av_i x1), some (av_i x2), some (av_i x3), some (av_l x4), none, some (av_i x6)] [] σ Q := by
  refine av_iload dX4_forgotten_55 rfl ?_
  refine av_iconst dX4_forgotten_57 ?_
  refine av_aload_n dX4_forgotten_58 rfl rfl ?_
  refine av_getr (k := 1) dX4_forgotten_59 rfl rfl iuX4 (by decide) rfl wF_X4_42 rfl ?_
  refine av_get (k := 8) (x := (σ 3 8)) dX4_forgotten_62 rfl rfl iuX3 (by decide) rfl wF_X4_87 rfl rfl ?_
  refine av_ishl dX4_forgotten_65 ?_
  refine av_icmp_ge (tgt := 103) dX4_forgotten_66 (by decide) h.1 h.2.1 (fun c => ?_) (fun c => ?_)
  · have h := h.2.2.1 c
    refine av_lload dX4_forgotten_103 rfl ?_
    refine av_bipush dX4_forgotten_105 rfl ?_
    refine av_aload_n dX4_forgotten_107 rfl rfl ?_
    refine av_getr (k := 1) dX4_forgotten_108 rfl rfl iuX4 (by decide) rfl wF_X4_42 rfl ?_
    refine av_get (k := 8) (x := (σ 3 8)) dX4_forgotten_111 rfl rfl iuX3 (by decide) rfl wF_X4_87 rfl rfl ?_
    refine av_callS mX4_power [av_i 10, av_i (σ 3 8)] [av_l x4] dX4_forgotten_114 mbX4_power rfl wT_X4_power rfl wM_X4_221 ⟨Nat.le_of_ble_eq_true rfl, Nat.le_of_ble_eq_true rfl⟩ rfl (Nat.le_of_ble_eq_true rfl) (av_C.mono (fun v s1 hh => ?_) h)
    obtain ⟨r1, rfl, h⟩ := hh
    change av_W E cSH mX4_forgotten 117 [some (av_r 0), some (av_i x1), some (av_i x2), some (av_i x3), some (av_l x4), none, some (av_i x6)] [av_l r1, av_l x4] s1 Q
    refine av_iload_n dX4_forgotten_117 rfl rfl ?_
    refine av_callS mX4_inLowestTerms [av_l x4, av_l r1, av_i x3] [] dX4_forgotten_118 mbX4_inLowestTerms rfl wT_X4_inLowestTerms rfl wM_X4_182 ⟨Nat.le_of_ble_eq_true rfl, Nat.le_of_ble_eq_true rfl⟩ rfl (Nat.le_of_ble_eq_true rfl) (av_C.mono (fun v s2 hh => ?_) h)
    obtain ⟨r2, rfl, h⟩ := hh
    change av_W E cSH mX4_forgotten 121 [some (av_r 0), some (av_i x1), some (av_i x2), some (av_i x3), some (av_l x4), none, some (av_i x6)] [av_i r2] s2 Q
    exact av_ireturn dX4_forgotten_121 rfl h
  · have h := h.2.2.2 c
    refine av_aload_n dX4_forgotten_69 rfl rfl ?_
    refine av_getr (k := 3) dX4_forgotten_70 rfl rfl iuX4 (by decide) rfl wF_X4_54 rfl ?_
    refine av_aload_n dX4_forgotten_73 rfl rfl ?_
    refine av_iload dX4_forgotten_74 rfl ?_
    refine av_callV mX4_wordsOfRoots [av_i x6] [av_r 21] dX4_forgotten_76 rfl rfl rfl mbX4_wordsOfRoots rfl wI_X4_wordsOfRoots wS_X4_wordsOfRoots rfl wM_X4_214 ⟨Nat.le_of_ble_eq_true rfl, Nat.le_of_ble_eq_true rfl⟩ rfl (Nat.le_of_ble_eq_true rfl) (av_C.mono (fun v s3 hh => ?_) h)
    obtain ⟨r3, rfl, h⟩ := hh
    change av_W E cSH mX4_forgotten 79 [some (av_r 0), some (av_i x1), some (av_i x2), some (av_i x3), some (av_l x4), none, some (av_i x6)] [av_i r3, av_r 21] s3 Q
    refine av_callV mX0_tally [av_i r3] [] dX4_forgotten_79 rfl rfl rfl mbX0_tally rfl wI_X0_tally wS_X0_tally rfl wM_X4_179 ⟨Nat.le_of_ble_eq_true rfl, Nat.le_of_ble_eq_true rfl⟩ rfl (Nat.le_of_ble_eq_true rfl) (av_C.mono (fun v s4 hh => ?_) h)
    obtain ⟨r4, rfl, h⟩ := hh
    change av_W E cSH mX4_forgotten 82 [some (av_r 0), some (av_i x1), some (av_i x2), some (av_i x3), some (av_l x4), none, some (av_i x6)] [av_i r4] s4 Q
    refine av_if_le (tgt := 97) dX4_forgotten_82 (by decide) h.1 (fun c => ?_) (fun c => ?_)
    · have h := h.2.1 c
      refine av_iinc (L' := [some (av_r 0), some (av_i x1), some (av_i x2), some (av_i x3), some (av_l x4), none, some (av_i (x6 + 1))]) dX4_forgotten_97 rfl (by decide) rfl rfl ?_
      refine av_goto (tgt := 55) dX4_forgotten_100 (by decide) ?_
      exact h
    · have h := h.2.2 c
      refine av_lload dX4_forgotten_85 rfl ?_
      refine av_aload_n dX4_forgotten_87 rfl rfl ?_
      refine av_iload dX4_forgotten_88 rfl ?_
      refine av_iload_n dX4_forgotten_90 rfl rfl ?_
      refine av_callV mX4_oddsOf [av_i x6, av_i x2] [av_l x4] dX4_forgotten_91 rfl rfl rfl mbX4_oddsOf rfl wI_X4_oddsOf wS_X4_oddsOf rfl wM_X4_217 ⟨Nat.le_of_ble_eq_true rfl, Nat.le_of_ble_eq_true rfl⟩ rfl (Nat.le_of_ble_eq_true rfl) (av_C.mono (fun v s5 hh => ?_) h)
      obtain ⟨r5, rfl, h⟩ := hh
      change av_W E cSH mX4_forgotten 94 [some (av_r 0), some (av_i x1), some (av_i x2), some (av_i x3), some (av_l x4), none, some (av_i x6)] [av_l r5, av_l x4] s5 Q
      refine av_ladd dX4_forgotten_94 ?_
      refine av_lstore (L' := [some (av_r 0), some (av_i x1), some (av_i x2), some (av_i x3), some (av_l (x4 + r5)), none, some (av_i x6)]) dX4_forgotten_95 (by decide) rfl ?_
      refine av_iinc (L' := [some (av_r 0), some (av_i x1), some (av_i x2), some (av_i x3), some (av_l (x4 + r5)), none, some (av_i (x6 + 1))]) dX4_forgotten_97 rfl (by decide) rfl rfl ?_
      refine av_goto (tgt := 55) dX4_forgotten_100 (by decide) ?_
      exact h

theorem uX4_walls {E : av_E} {σ : av_M} {Q : Option av_V → av_M → Prop} {a1 a2 a3 a4 : Int} (h : (rg a1) ∧ (((a1 < 0) → Q (some (av_i (-1))) σ) ∧ ((0 ≤ a1) → (rg a1) ∧ (((9999 < a1) → Q (some (av_i (-1))) σ) ∧ ((a1 ≤ 9999) → (rg a2) ∧ (((a2 < 1) → Q (some (av_i (-1))) σ) ∧ ((1 ≤ a2) → (rg a2) ∧ (((40 < a2) → Q (some (av_i (-1))) σ) ∧ ((a2 ≤ 40) → av_C E cSH mX4_isReader [av_r 0, av_i a3] σ (fun v s1 => ∃ r1 : Int, v = some (av_i r1) ∧ ((rg r1) ∧ (((r1 = 0) → Q (some (av_i (-1))) s1) ∧ ((¬ r1 = 0) → (rg a4) ∧ (((a4 < 0) → Q (some (av_i (-1))) s1) ∧ ((0 ≤ a4) → (rg a4) ∧ (((a4 ≤ 1) → av_W E cSH mX4_walls 52 [some (av_r 0), some (av_i a1), some (av_i a2), some (av_i a3), some (av_i a4), some (av_i 0), some (av_i 0), some (av_i 0), none] [] s1 Q) ∧ ((1 < a4) → Q (some (av_i (-1))) s1))))))))))))))))) :
    av_C E cSH mX4_walls [av_r 0, av_i a1, av_i a2, av_i a3, av_i a4] σ Q := by
  refine av_C.ofW (L := [some (av_r 0), some (av_i a1), some (av_i a2), some (av_i a3), some (av_i a4), none, none, none, none]) (by decide) (Nat.le_of_ble_eq_true rfl) rfl ?_
  refine av_iload_n dX4_walls_0 rfl rfl ?_
  refine av_if_lt (tgt := 41) dX4_walls_1 (by decide) h.1 (fun c => ?_) (fun c => ?_)
  · have h := h.2.1 c
    refine av_iconst dX4_walls_41 ?_
    exact av_ireturn dX4_walls_42 rfl h
  · have h := h.2.2 c
    refine av_iload_n dX4_walls_4 rfl rfl ?_
    refine av_sipush dX4_walls_5 rfl ?_
    refine av_icmp_gt (tgt := 41) dX4_walls_8 (by decide) h.1 (by decide) (fun c => ?_) (fun c => ?_)
    · have h := h.2.1 c
      refine av_iconst dX4_walls_41 ?_
      exact av_ireturn dX4_walls_42 rfl h
    · have h := h.2.2 c
      refine av_iload_n dX4_walls_11 rfl rfl ?_
      refine av_iconst dX4_walls_12 ?_
      refine av_icmp_lt (tgt := 41) dX4_walls_13 (by decide) h.1 (by decide) (fun c => ?_) (fun c => ?_)
      · have h := h.2.1 c
        refine av_iconst dX4_walls_41 ?_
        exact av_ireturn dX4_walls_42 rfl h
      · have h := h.2.2 c
        refine av_iload_n dX4_walls_16 rfl rfl ?_
        refine av_bipush dX4_walls_17 rfl ?_
        refine av_icmp_gt (tgt := 41) dX4_walls_19 (by decide) h.1 (by decide) (fun c => ?_) (fun c => ?_)
        · have h := h.2.1 c
          refine av_iconst dX4_walls_41 ?_
          exact av_ireturn dX4_walls_42 rfl h
        · have h := h.2.2 c
          refine av_aload_n dX4_walls_22 rfl rfl ?_
          refine av_iload_n dX4_walls_23 rfl rfl ?_
          refine av_callV mX4_isReader [av_i a3] [] dX4_walls_24 rfl rfl rfl mbX4_isReader rfl wI_X4_isReader wS_X4_isReader rfl wM_X4_102 ⟨Nat.le_of_ble_eq_true rfl, Nat.le_of_ble_eq_true rfl⟩ rfl (Nat.le_of_ble_eq_true rfl) (av_C.mono (fun v s1 hh => ?_) h)
          obtain ⟨r1, rfl, h⟩ := hh
          change av_W E cSH mX4_walls 27 [some (av_r 0), some (av_i a1), some (av_i a2), some (av_i a3), some (av_i a4), none, none, none, none] [av_i r1] s1 Q
          refine av_if_eq (tgt := 41) dX4_walls_27 (by decide) h.1 (fun c => ?_) (fun c => ?_)
          · have h := h.2.1 c
            refine av_iconst dX4_walls_41 ?_
            exact av_ireturn dX4_walls_42 rfl h
          · have h := h.2.2 c
            refine av_iload dX4_walls_30 rfl ?_
            refine av_if_lt (tgt := 41) dX4_walls_32 (by decide) h.1 (fun c => ?_) (fun c => ?_)
            · have h := h.2.1 c
              refine av_iconst dX4_walls_41 ?_
              exact av_ireturn dX4_walls_42 rfl h
            · have h := h.2.2 c
              refine av_iload dX4_walls_35 rfl ?_
              refine av_iconst dX4_walls_37 ?_
              refine av_icmp_le (tgt := 43) dX4_walls_38 (by decide) h.1 (by decide) (fun c => ?_) (fun c => ?_)
              · have h := h.2.1 c
                refine av_iconst dX4_walls_43 ?_
                refine av_istore (L' := [some (av_r 0), some (av_i a1), some (av_i a2), some (av_i a3), some (av_i a4), some (av_i 0), none, none, none]) dX4_walls_44 (by decide) rfl ?_
                refine av_iconst dX4_walls_46 ?_
                refine av_istore (L' := [some (av_r 0), some (av_i a1), some (av_i a2), some (av_i a3), some (av_i a4), some (av_i 0), some (av_i 0), none, none]) dX4_walls_47 (by decide) rfl ?_
                refine av_iconst dX4_walls_49 ?_
                refine av_istore (L' := [some (av_r 0), some (av_i a1), some (av_i a2), some (av_i a3), some (av_i a4), some (av_i 0), some (av_i 0), some (av_i 0), none]) dX4_walls_50 (by decide) rfl ?_
                exact h
              · have h := h.2.2 c
                refine av_iconst dX4_walls_41 ?_
                exact av_ireturn dX4_walls_42 rfl h

theorem uX4_walls_52 {E : av_E} {σ : av_M} {Q : Option av_V → av_M → Prop} {x1 x2 x3 x4 x5 x6 x7 : Int} (h : (rg x7) ∧ ((rg x2) ∧ (((x2 ≤ x7) → (rg x4) ∧ (((¬ x4 = 0) → Q (some (av_i x6)) σ) ∧ ((x4 = 0) → Q (some (av_i x5)) σ))) ∧ ((x7 < x2) → av_C E cSH mX4_rowOfWall [av_i x1, av_i x7] σ (fun v s1 => ∃ r1 : Int, v = some (av_i r1) ∧ (av_C E cSH mX4_readingsOf [av_r 0, av_i x3, av_i r1] s1 (fun v s2 => ∃ r2 : Int, v = some (av_i r2) ∧ ((rg r2) ∧ (((r2 ≤ 0) → av_W E cSH mX4_walls 52 [some (av_r 0), some (av_i x1), some (av_i x2), some (av_i x3), some (av_i x4), some (av_i (x5 + 0)), some (av_i (x6 + r2)), some (av_i (x7 + 1)), none] [] s2 Q) ∧ ((0 < r2) → av_W E cSH mX4_walls 52 [some (av_r 0), some (av_i x1), some (av_i x2), some (av_i x3), some (av_i x4), some (av_i (x5 + 1)), some (av_i (x6 + r2)), some (av_i (x7 + 1)), none] [] s2 Q)))))))))) :
    av_W E cSH mX4_walls 52 [some (av_r 0), some (av_i x1), some (av_i x2), some (av_i x3), some (av_i x4), some (av_i x5), some (av_i x6), some (av_i x7), none] [] σ Q := by
  refine av_iload dX4_walls_52 rfl ?_
  refine av_iload_n dX4_walls_54 rfl rfl ?_
  refine av_icmp_ge (tgt := 99) dX4_walls_55 (by decide) h.1 h.2.1 (fun c => ?_) (fun c => ?_)
  · have h := h.2.2.1 c
    refine av_iload dX4_walls_99 rfl ?_
    refine av_if_ne (tgt := 109) dX4_walls_101 (by decide) h.1 (fun c => ?_) (fun c => ?_)
    · have h := h.2.1 c
      refine av_iload dX4_walls_109 rfl ?_
      exact av_ireturn dX4_walls_111 rfl h
    · have h := h.2.2 c
      refine av_iload dX4_walls_104 rfl ?_
      refine av_goto (tgt := 111) dX4_walls_106 (by decide) ?_
      exact av_ireturn dX4_walls_111 rfl h
  · have h := h.2.2.2 c
    refine av_aload_n dX4_walls_58 rfl rfl ?_
    refine av_iload_n dX4_walls_59 rfl rfl ?_
    refine av_iload_n dX4_walls_60 rfl rfl ?_
    refine av_iload dX4_walls_61 rfl ?_
    refine av_callS mX4_rowOfWall [av_i x1, av_i x7] [av_i x3, av_r 0] dX4_walls_63 mbX4_rowOfWall rfl wT_X4_rowOfWall rfl wM_X4_224 ⟨Nat.le_of_ble_eq_true rfl, Nat.le_of_ble_eq_true rfl⟩ rfl (Nat.le_of_ble_eq_true rfl) (av_C.mono (fun v s1 hh => ?_) h)
    obtain ⟨r1, rfl, h⟩ := hh
    change av_W E cSH mX4_walls 66 [some (av_r 0), some (av_i x1), some (av_i x2), some (av_i x3), some (av_i x4), some (av_i x5), some (av_i x6), some (av_i x7), none] [av_i r1, av_i x3, av_r 0] s1 Q
    refine av_callV mX4_readingsOf [av_i x3, av_i r1] [] dX4_walls_66 rfl rfl rfl mbX4_readingsOf rfl wI_X4_readingsOf wS_X4_readingsOf rfl wM_X4_106 ⟨Nat.le_of_ble_eq_true rfl, Nat.le_of_ble_eq_true rfl⟩ rfl (Nat.le_of_ble_eq_true rfl) (av_C.mono (fun v s2 hh => ?_) h)
    obtain ⟨r2, rfl, h⟩ := hh
    change av_W E cSH mX4_walls 69 [some (av_r 0), some (av_i x1), some (av_i x2), some (av_i x3), some (av_i x4), some (av_i x5), some (av_i x6), some (av_i x7), none] [av_i r2] s2 Q
    refine av_istore (L' := [some (av_r 0), some (av_i x1), some (av_i x2), some (av_i x3), some (av_i x4), some (av_i x5), some (av_i x6), some (av_i x7), some (av_i r2)]) dX4_walls_69 (by decide) rfl ?_
    refine av_iload dX4_walls_71 rfl ?_
    refine av_iload dX4_walls_73 rfl ?_
    refine av_if_le (tgt := 82) dX4_walls_75 (by decide) h.1 (fun c => ?_) (fun c => ?_)
    · have h := h.2.1 c
      refine av_iconst dX4_walls_82 ?_
      refine av_iadd dX4_walls_83 ?_
      refine av_istore (L' := [some (av_r 0), some (av_i x1), some (av_i x2), some (av_i x3), some (av_i x4), some (av_i (x5 + 0)), some (av_i x6), some (av_i x7), some (av_i r2)]) dX4_walls_84 (by decide) rfl ?_
      refine av_iload dX4_walls_86 rfl ?_
      refine av_iload dX4_walls_88 rfl ?_
      refine av_iadd dX4_walls_90 ?_
      refine av_istore (L' := [some (av_r 0), some (av_i x1), some (av_i x2), some (av_i x3), some (av_i x4), some (av_i (x5 + 0)), some (av_i (x6 + r2)), some (av_i x7), some (av_i r2)]) dX4_walls_91 (by decide) rfl ?_
      refine av_iinc (L' := [some (av_r 0), some (av_i x1), some (av_i x2), some (av_i x3), some (av_i x4), some (av_i (x5 + 0)), some (av_i (x6 + r2)), some (av_i (x7 + 1)), some (av_i r2)]) dX4_walls_93 rfl (by decide) rfl rfl ?_
      refine av_goto (tgt := 52) dX4_walls_96 (by decide) ?_
      refine av_res [true, true, true, true, true, true, true, true, false] (L' := [some (av_r 0), some (av_i x1), some (av_i x2), some (av_i x3), some (av_i x4), some (av_i (x5 + 0)), some (av_i (x6 + r2)), some (av_i (x7 + 1)), none]) rfl ?_
      exact h
    · have h := h.2.2 c
      refine av_iconst dX4_walls_78 ?_
      refine av_goto (tgt := 83) dX4_walls_79 (by decide) ?_
      refine av_iadd dX4_walls_83 ?_
      refine av_istore (L' := [some (av_r 0), some (av_i x1), some (av_i x2), some (av_i x3), some (av_i x4), some (av_i (x5 + 1)), some (av_i x6), some (av_i x7), some (av_i r2)]) dX4_walls_84 (by decide) rfl ?_
      refine av_iload dX4_walls_86 rfl ?_
      refine av_iload dX4_walls_88 rfl ?_
      refine av_iadd dX4_walls_90 ?_
      refine av_istore (L' := [some (av_r 0), some (av_i x1), some (av_i x2), some (av_i x3), some (av_i x4), some (av_i (x5 + 1)), some (av_i (x6 + r2)), some (av_i x7), some (av_i r2)]) dX4_walls_91 (by decide) rfl ?_
      refine av_iinc (L' := [some (av_r 0), some (av_i x1), some (av_i x2), some (av_i x3), some (av_i x4), some (av_i (x5 + 1)), some (av_i (x6 + r2)), some (av_i (x7 + 1)), some (av_i r2)]) dX4_walls_93 rfl (by decide) rfl rfl ?_
      refine av_goto (tgt := 52) dX4_walls_96 (by decide) ?_
      refine av_res [true, true, true, true, true, true, true, true, false] (L' := [some (av_r 0), some (av_i x1), some (av_i x2), some (av_i x3), some (av_i x4), some (av_i (x5 + 1)), some (av_i (x6 + r2)), some (av_i (x7 + 1)), none]) rfl ?_
      exact h

theorem uX4_keep {E : av_E} {σ : av_M} {Q : Option av_V → av_M → Prop} (h : (rg (σ 30 1)) ∧ ((((σ 30 1) < 2) → av_C E cSH mX1_put [av_r 30, av_r 27] σ (fun v s1 => v = none ∧ (Q (some (av_i (s1 30 1))) s1))) ∧ ((2 ≤ (σ 30 1)) → Q (some (av_i (-3))) σ))) :
    av_C E cSH mX4_keep [av_r 0] σ Q := by
  refine av_C.ofW (L := [some (av_r 0)]) (by decide) (Nat.le_of_ble_eq_true rfl) rfl ?_
  refine av_aload_n dX4_keep_0 rfl rfl ?_
  refine av_getr (k := 6) dX4_keep_1 rfl rfl iuX4 (by decide) rfl wF_X4_20 rfl ?_
  refine av_get (k := 1) (x := (σ 30 1)) dX4_keep_4 rfl rfl iuX1 (by decide) rfl wF_X4_166 rfl rfl ?_
  refine av_iconst dX4_keep_7 ?_
  refine av_icmp_lt (tgt := 14) dX4_keep_8 (by decide) h.1 (by decide) (fun c => ?_) (fun c => ?_)
  · have h := h.2.1 c
    refine av_aload_n dX4_keep_14 rfl rfl ?_
    refine av_getr (k := 6) dX4_keep_15 rfl rfl iuX4 (by decide) rfl wF_X4_20 rfl ?_
    refine av_aload_n dX4_keep_18 rfl rfl ?_
    refine av_getr (k := 4) dX4_keep_19 rfl rfl iuX4 (by decide) rfl wF_X4_9 rfl ?_
    refine av_callV mX1_put [av_r 27] [] dX4_keep_22 rfl rfl rfl mbX1_put rfl wI_X1_put wS_X1_put rfl wM_X4_142 ⟨Nat.le_of_ble_eq_true rfl, Nat.le_of_ble_eq_true rfl⟩ rfl (Nat.le_of_ble_eq_true rfl) (av_C.mono (fun v s1 hh => ?_) h)
    obtain ⟨rfl, h⟩ := hh
    change av_W E cSH mX4_keep 25 [some (av_r 0)] [] s1 Q
    refine av_aload_n dX4_keep_25 rfl rfl ?_
    refine av_getr (k := 6) dX4_keep_26 rfl rfl iuX4 (by decide) rfl wF_X4_20 rfl ?_
    refine av_get (k := 1) (x := (s1 30 1)) dX4_keep_29 rfl rfl iuX1 (by decide) rfl wF_X4_166 rfl rfl ?_
    exact av_ireturn dX4_keep_32 rfl h
  · have h := h.2.2 c
    refine av_bipush dX4_keep_11 rfl ?_
    exact av_ireturn dX4_keep_13 rfl h

theorem uX4_back {E : av_E} {σ : av_M} {Q : Option av_V → av_M → Prop} (h : (rg (σ 30 1)) ∧ (((¬ (σ 30 1) = 0) → av_C E cSH mX1_takeInto [av_r 30, av_r 27] σ (fun v s1 => v = none ∧ (Q (some (av_i (s1 30 1))) (av_st s1 28 1 0)))) ∧ (((σ 30 1) = 0) → Q (some (av_i (-2))) σ))) :
    av_C E cSH mX4_back [av_r 0] σ Q := by
  refine av_C.ofW (L := [some (av_r 0)]) (by decide) (Nat.le_of_ble_eq_true rfl) rfl ?_
  refine av_aload_n dX4_back_0 rfl rfl ?_
  refine av_getr (k := 6) dX4_back_1 rfl rfl iuX4 (by decide) rfl wF_X4_20 rfl ?_
  refine av_get (k := 1) (x := (σ 30 1)) dX4_back_4 rfl rfl iuX1 (by decide) rfl wF_X4_166 rfl rfl ?_
  refine av_if_ne (tgt := 13) dX4_back_7 (by decide) h.1 (fun c => ?_) (fun c => ?_)
  · have h := h.2.1 c
    refine av_aload_n dX4_back_13 rfl rfl ?_
    refine av_getr (k := 6) dX4_back_14 rfl rfl iuX4 (by decide) rfl wF_X4_20 rfl ?_
    refine av_aload_n dX4_back_17 rfl rfl ?_
    refine av_getr (k := 4) dX4_back_18 rfl rfl iuX4 (by decide) rfl wF_X4_9 rfl ?_
    refine av_callV mX1_takeInto [av_r 27] [] dX4_back_21 rfl rfl rfl mbX1_takeInto rfl wI_X1_takeInto wS_X1_takeInto rfl wM_X4_169 ⟨Nat.le_of_ble_eq_true rfl, Nat.le_of_ble_eq_true rfl⟩ rfl (Nat.le_of_ble_eq_true rfl) (av_C.mono (fun v s1 hh => ?_) h)
    obtain ⟨rfl, h⟩ := hh
    change av_W E cSH mX4_back 24 [some (av_r 0)] [] s1 Q
    refine av_aload_n dX4_back_24 rfl rfl ?_
    refine av_getr (k := 5) dX4_back_25 rfl rfl iuX4 (by decide) rfl wF_X4_16 rfl ?_
    refine av_iconst dX4_back_28 ?_
    refine av_put (k := 1) tyX1 dX4_back_29 rfl rfl iuX1 tyX1_ok nmX1 (by decide) rfl wF_X4_166 rfl rfl rfl ?_
    refine av_aload_n dX4_back_32 rfl rfl ?_
    refine av_getr (k := 6) dX4_back_33 rfl rfl iuX4 (by decide) rfl wF_X4_20 rfl ?_
    refine av_get (k := 1) (x := (s1 30 1)) dX4_back_36 rfl rfl iuX1 (by decide) rfl wF_X4_166 rfl rfl ?_
    exact av_ireturn dX4_back_39 rfl h
  · have h := h.2.2 c
    refine av_bipush dX4_back_10 rfl ?_
    exact av_ireturn dX4_back_12 rfl h

theorem uX4_count {E : av_E} {σ : av_M} {Q : Option av_V → av_M → Prop} {a1 : Int} (h : (rg a1) ∧ ((a1 = 0 → Q (some (av_i (σ 3 8))) σ) ∧ (a1 = 1 → Q (some (av_i (σ 3 9))) σ) ∧ (a1 = 2 → av_C E cSH mX4_lettersIn [av_i (σ 27 4)] σ (fun v s1 => ∃ r1 : Int, v = some (av_i r1) ∧ (Q (some (av_i r1)) s1))) ∧ (a1 = 3 → Q (some (av_i (σ 27 0))) σ) ∧ (a1 = 4 → Q (some (av_i (σ 27 1))) σ) ∧ (a1 = 5 → av_C E cSH mX3_depthIn [av_r 3, av_i (σ 27 0)] σ (fun v s2 => ∃ r2 : Int, v = some (av_i r2) ∧ (Q (some (av_i r2)) s2))) ∧ (a1 = 6 → av_C E cSH mX3_fall [av_r 3] σ (fun v s3 => ∃ r3 : Int, v = some (av_i r3) ∧ (Q (some (av_i r3)) s3))) ∧ (a1 = 7 → av_C E cSH mX4_hasFallen [av_r 0] σ (fun v s4 => ∃ r4 : Int, v = some (av_i r4) ∧ ((rg r4) ∧ (((r4 = 0) → Q (some (av_i (s4 27 3))) s4) ∧ ((¬ r4 = 0) → Q (some (av_i 2)) s4))))) ∧ (a1 = 8 → Q (some (av_i (σ 27 2))) σ) ∧ (a1 = 9 → Q (some (av_i (σ 0 10))) σ) ∧ (a1 = 10 → Q (some (av_i (σ 28 1))) σ) ∧ (a1 = 11 → Q (some (av_i (σ 30 1))) σ) ∧ (a1 = 12 → Q (some (av_i (σ 1 1))) σ) ∧ ((a1 < 0 ∨ 12 < a1) → Q (some (av_i (-1))) σ))) :
    av_C E cSH mX4_count [av_r 0, av_i a1] σ Q := by
  refine av_C.ofW (L := [some (av_r 0), some (av_i a1)]) (by decide) (Nat.le_of_ble_eq_true rfl) rfl ?_
  refine av_iload_n dX4_count_0 rfl rfl ?_
  refine av_table dX4_count_1 (fun j => if j = 0 then 68 else if j = 1 then 76 else if j = 2 then 84 else if j = 3 then 94 else if j = 4 then 101 else if j = 5 then 108 else if j = 6 then 122 else if j = 7 then 130 else if j = 8 then 148 else if j = 9 then 155 else if j = 10 then 160 else if j = 11 then 168 else if j = 12 then 176 else 184) (by decide) (by decide) (by decide) h.1 (fun j hj hx => ?_) (fun c => ?_)
  · rcases j with _ | _ | _ | _ | _ | _ | _ | _ | _ | _ | _ | _ | _ | j
    · have c : a1 = 0 := by omega
      have h := h.2.1 c
      change av_W E cSH mX4_count 68 [some (av_r 0), some (av_i a1)] [] σ Q
      refine av_aload_n dX4_count_68 rfl rfl ?_
      refine av_getr (k := 1) dX4_count_69 rfl rfl iuX4 (by decide) rfl wF_X4_42 rfl ?_
      refine av_get (k := 8) (x := (σ 3 8)) dX4_count_72 rfl rfl iuX3 (by decide) rfl wF_X4_87 rfl rfl ?_
      exact av_ireturn dX4_count_75 rfl h
    · have c : a1 = 1 := by omega
      have h := h.2.2.1 c
      change av_W E cSH mX4_count 76 [some (av_r 0), some (av_i a1)] [] σ Q
      refine av_aload_n dX4_count_76 rfl rfl ?_
      refine av_getr (k := 1) dX4_count_77 rfl rfl iuX4 (by decide) rfl wF_X4_42 rfl ?_
      refine av_get (k := 9) (x := (σ 3 9)) dX4_count_80 rfl rfl iuX3 (by decide) rfl wF_X4_90 rfl rfl ?_
      exact av_ireturn dX4_count_83 rfl h
    · have c : a1 = 2 := by omega
      have h := h.2.2.2.1 c
      change av_W E cSH mX4_count 84 [some (av_r 0), some (av_i a1)] [] σ Q
      refine av_aload_n dX4_count_84 rfl rfl ?_
      refine av_getr (k := 4) dX4_count_85 rfl rfl iuX4 (by decide) rfl wF_X4_9 rfl ?_
      refine av_iconst dX4_count_88 ?_
      refine av_iald (x := (σ 27 4)) dX4_count_89 rfl (by decide) (by decide) rfl ?_
      refine av_callS mX4_lettersIn [av_i (σ 27 4)] [] dX4_count_90 mbX4_lettersIn rfl wT_X4_lettersIn rfl wM_X4_160 ⟨Nat.le_of_ble_eq_true rfl, Nat.le_of_ble_eq_true rfl⟩ rfl (Nat.le_of_ble_eq_true rfl) (av_C.mono (fun v s1 hh => ?_) h)
      obtain ⟨r1, rfl, h⟩ := hh
      change av_W E cSH mX4_count 93 [some (av_r 0), some (av_i a1)] [av_i r1] s1 Q
      exact av_ireturn dX4_count_93 rfl h
    · have c : a1 = 3 := by omega
      have h := h.2.2.2.2.1 c
      change av_W E cSH mX4_count 94 [some (av_r 0), some (av_i a1)] [] σ Q
      refine av_aload_n dX4_count_94 rfl rfl ?_
      refine av_getr (k := 4) dX4_count_95 rfl rfl iuX4 (by decide) rfl wF_X4_9 rfl ?_
      refine av_iconst dX4_count_98 ?_
      refine av_iald (x := (σ 27 0)) dX4_count_99 rfl (by decide) (by decide) rfl ?_
      exact av_ireturn dX4_count_100 rfl h
    · have c : a1 = 4 := by omega
      have h := h.2.2.2.2.2.1 c
      change av_W E cSH mX4_count 101 [some (av_r 0), some (av_i a1)] [] σ Q
      refine av_aload_n dX4_count_101 rfl rfl ?_
      refine av_getr (k := 4) dX4_count_102 rfl rfl iuX4 (by decide) rfl wF_X4_9 rfl ?_
      refine av_iconst dX4_count_105 ?_
      refine av_iald (x := (σ 27 1)) dX4_count_106 rfl (by decide) (by decide) rfl ?_
      exact av_ireturn dX4_count_107 rfl h
    · have c : a1 = 5 := by omega
      have h := h.2.2.2.2.2.2.1 c
      change av_W E cSH mX4_count 108 [some (av_r 0), some (av_i a1)] [] σ Q
      refine av_aload_n dX4_count_108 rfl rfl ?_
      refine av_getr (k := 1) dX4_count_109 rfl rfl iuX4 (by decide) rfl wF_X4_42 rfl ?_
      refine av_aload_n dX4_count_112 rfl rfl ?_
      refine av_getr (k := 4) dX4_count_113 rfl rfl iuX4 (by decide) rfl wF_X4_9 rfl ?_
      refine av_iconst dX4_count_116 ?_
      refine av_iald (x := (σ 27 0)) dX4_count_117 rfl (by decide) (by decide) rfl ?_
      refine av_callV mX3_depthIn [av_i (σ 27 0)] [] dX4_count_118 rfl rfl rfl mbX3_depthIn rfl wI_X3_depthIn wS_X3_depthIn rfl wM_X4_163 ⟨Nat.le_of_ble_eq_true rfl, Nat.le_of_ble_eq_true rfl⟩ rfl (Nat.le_of_ble_eq_true rfl) (av_C.mono (fun v s2 hh => ?_) h)
      obtain ⟨r2, rfl, h⟩ := hh
      change av_W E cSH mX4_count 121 [some (av_r 0), some (av_i a1)] [av_i r2] s2 Q
      exact av_ireturn dX4_count_121 rfl h
    · have c : a1 = 6 := by omega
      have h := h.2.2.2.2.2.2.2.1 c
      change av_W E cSH mX4_count 122 [some (av_r 0), some (av_i a1)] [] σ Q
      refine av_aload_n dX4_count_122 rfl rfl ?_
      refine av_getr (k := 1) dX4_count_123 rfl rfl iuX4 (by decide) rfl wF_X4_42 rfl ?_
      refine av_callV mX3_fall [] [] dX4_count_126 rfl rfl rfl mbX3_fall rfl wI_X3_fall wS_X3_fall rfl wM_X4_157 ⟨Nat.le_of_ble_eq_true rfl, Nat.le_of_ble_eq_true rfl⟩ rfl (Nat.le_of_ble_eq_true rfl) (av_C.mono (fun v s3 hh => ?_) h)
      obtain ⟨r3, rfl, h⟩ := hh
      change av_W E cSH mX4_count 129 [some (av_r 0), some (av_i a1)] [av_i r3] s3 Q
      exact av_ireturn dX4_count_129 rfl h
    · have c : a1 = 7 := by omega
      have h := h.2.2.2.2.2.2.2.2.1 c
      change av_W E cSH mX4_count 130 [some (av_r 0), some (av_i a1)] [] σ Q
      refine av_aload_n dX4_count_130 rfl rfl ?_
      refine av_callV mX4_hasFallen [] [] dX4_count_131 rfl rfl rfl mbX4_hasFallen rfl wI_X4_hasFallen wS_X4_hasFallen rfl wM_X4_153 ⟨Nat.le_of_ble_eq_true rfl, Nat.le_of_ble_eq_true rfl⟩ rfl (Nat.le_of_ble_eq_true rfl) (av_C.mono (fun v s4 hh => ?_) h)
      obtain ⟨r4, rfl, h⟩ := hh
      change av_W E cSH mX4_count 134 [some (av_r 0), some (av_i a1)] [av_i r4] s4 Q
      refine av_if_eq (tgt := 141) dX4_count_134 (by decide) h.1 (fun c => ?_) (fun c => ?_)
      · have h := h.2.1 c
        refine av_aload_n dX4_count_141 rfl rfl ?_
        refine av_getr (k := 4) dX4_count_142 rfl rfl iuX4 (by decide) rfl wF_X4_9 rfl ?_
        refine av_iconst dX4_count_145 ?_
        refine av_iald (x := (s4 27 3)) dX4_count_146 rfl (by decide) (by decide) rfl ?_
        exact av_ireturn dX4_count_147 rfl h
      · have h := h.2.2 c
        refine av_iconst dX4_count_137 ?_
        refine av_goto (tgt := 147) dX4_count_138 (by decide) ?_
        exact av_ireturn dX4_count_147 rfl h
    · have c : a1 = 8 := by omega
      have h := h.2.2.2.2.2.2.2.2.2.1 c
      change av_W E cSH mX4_count 148 [some (av_r 0), some (av_i a1)] [] σ Q
      refine av_aload_n dX4_count_148 rfl rfl ?_
      refine av_getr (k := 4) dX4_count_149 rfl rfl iuX4 (by decide) rfl wF_X4_9 rfl ?_
      refine av_iconst dX4_count_152 ?_
      refine av_iald (x := (σ 27 2)) dX4_count_153 rfl (by decide) (by decide) rfl ?_
      exact av_ireturn dX4_count_154 rfl h
    · have c : a1 = 9 := by omega
      have h := h.2.2.2.2.2.2.2.2.2.2.1 c
      change av_W E cSH mX4_count 155 [some (av_r 0), some (av_i a1)] [] σ Q
      refine av_aload_n dX4_count_155 rfl rfl ?_
      refine av_get (k := 10) (x := (σ 0 10)) dX4_count_156 rfl rfl iuX4 (by decide) rfl wF_X4_204 rfl rfl ?_
      exact av_ireturn dX4_count_159 rfl h
    · have c : a1 = 10 := by omega
      have h := h.2.2.2.2.2.2.2.2.2.2.2.1 c
      change av_W E cSH mX4_count 160 [some (av_r 0), some (av_i a1)] [] σ Q
      refine av_aload_n dX4_count_160 rfl rfl ?_
      refine av_getr (k := 5) dX4_count_161 rfl rfl iuX4 (by decide) rfl wF_X4_16 rfl ?_
      refine av_get (k := 1) (x := (σ 28 1)) dX4_count_164 rfl rfl iuX1 (by decide) rfl wF_X4_166 rfl rfl ?_
      exact av_ireturn dX4_count_167 rfl h
    · have c : a1 = 11 := by omega
      have h := h.2.2.2.2.2.2.2.2.2.2.2.2.1 c
      change av_W E cSH mX4_count 168 [some (av_r 0), some (av_i a1)] [] σ Q
      refine av_aload_n dX4_count_168 rfl rfl ?_
      refine av_getr (k := 6) dX4_count_169 rfl rfl iuX4 (by decide) rfl wF_X4_20 rfl ?_
      refine av_get (k := 1) (x := (σ 30 1)) dX4_count_172 rfl rfl iuX1 (by decide) rfl wF_X4_166 rfl rfl ?_
      exact av_ireturn dX4_count_175 rfl h
    · have c : a1 = 12 := by omega
      have h := h.2.2.2.2.2.2.2.2.2.2.2.2.2.1 c
      change av_W E cSH mX4_count 176 [some (av_r 0), some (av_i a1)] [] σ Q
      refine av_aload_n dX4_count_176 rfl rfl ?_
      refine av_getr (k := 0) dX4_count_177 rfl rfl iuX4 (by decide) rfl wF_X4_35 rfl ?_
      refine av_get (k := 1) (x := (σ 1 1)) dX4_count_180 rfl rfl iuX2 (by decide) rfl wF_X4_84 rfl rfl ?_
      exact av_ireturn dX4_count_183 rfl h
    · exact absurd hj (by simp)
  · have h := h.2.2.2.2.2.2.2.2.2.2.2.2.2.2 c
    change av_W E cSH mX4_count 184 [some (av_r 0), some (av_i a1)] [] σ Q
    refine av_iconst dX4_count_184 ?_
    exact av_ireturn dX4_count_185 rfl h

theorem uX4_begin {E : av_E} {σ : av_M} {Q : Option av_V → av_M → Prop} (h : Q none (av_st (av_st (av_st (av_st (av_st (av_st (av_st (av_st σ 27 0 0) 27 1 (σ 3 14)) 27 2 0) 27 3 0) 27 4 (σ 3 10)) 28 1 0) 30 1 0) 0 10 0)) :
    av_C E cSH mX4_begin [av_r 0] σ Q := by
  refine av_C.ofW (L := [some (av_r 0)]) (by decide) (Nat.le_of_ble_eq_true rfl) rfl ?_
  refine av_aload_n dX4_begin_0 rfl rfl ?_
  refine av_getr (k := 4) dX4_begin_1 rfl rfl iuX4 (by decide) rfl wF_X4_9 rfl ?_
  refine av_iconst dX4_begin_4 ?_
  refine av_iconst dX4_begin_5 ?_
  refine av_iast dX4_begin_6 rfl (by decide) (by decide) ?_
  refine av_aload_n dX4_begin_7 rfl rfl ?_
  refine av_getr (k := 4) dX4_begin_8 rfl rfl iuX4 (by decide) rfl wF_X4_9 rfl ?_
  refine av_iconst dX4_begin_11 ?_
  refine av_aload_n dX4_begin_12 rfl rfl ?_
  refine av_getr (k := 1) dX4_begin_13 rfl rfl iuX4 (by decide) rfl wF_X4_42 rfl ?_
  refine av_get (k := 14) (x := (σ 3 14)) dX4_begin_16 rfl rfl iuX3 (by decide) rfl wF_X4_227 rfl rfl ?_
  refine av_iast dX4_begin_19 rfl (by decide) (by decide) ?_
  refine av_aload_n dX4_begin_20 rfl rfl ?_
  refine av_getr (k := 4) dX4_begin_21 rfl rfl iuX4 (by decide) rfl wF_X4_9 rfl ?_
  refine av_iconst dX4_begin_24 ?_
  refine av_iconst dX4_begin_25 ?_
  refine av_iast dX4_begin_26 rfl (by decide) (by decide) ?_
  refine av_aload_n dX4_begin_27 rfl rfl ?_
  refine av_getr (k := 4) dX4_begin_28 rfl rfl iuX4 (by decide) rfl wF_X4_9 rfl ?_
  refine av_iconst dX4_begin_31 ?_
  refine av_iconst dX4_begin_32 ?_
  refine av_iast dX4_begin_33 rfl (by decide) (by decide) ?_
  refine av_aload_n dX4_begin_34 rfl rfl ?_
  refine av_getr (k := 4) dX4_begin_35 rfl rfl iuX4 (by decide) rfl wF_X4_9 rfl ?_
  refine av_iconst dX4_begin_38 ?_
  refine av_aload_n dX4_begin_39 rfl rfl ?_
  refine av_getr (k := 1) dX4_begin_40 rfl rfl iuX4 (by decide) rfl wF_X4_42 rfl ?_
  refine av_get (k := 10) (x := (σ 3 10)) dX4_begin_43 rfl rfl iuX3 (by decide) rfl wF_X4_230 rfl rfl ?_
  refine av_iast dX4_begin_46 rfl (by decide) (by decide) ?_
  refine av_aload_n dX4_begin_47 rfl rfl ?_
  refine av_getr (k := 5) dX4_begin_48 rfl rfl iuX4 (by decide) rfl wF_X4_16 rfl ?_
  refine av_iconst dX4_begin_51 ?_
  refine av_put (k := 1) tyX1 dX4_begin_52 rfl rfl iuX1 tyX1_ok nmX1 (by decide) rfl wF_X4_166 rfl rfl rfl ?_
  refine av_aload_n dX4_begin_55 rfl rfl ?_
  refine av_getr (k := 6) dX4_begin_56 rfl rfl iuX4 (by decide) rfl wF_X4_20 rfl ?_
  refine av_iconst dX4_begin_59 ?_
  refine av_put (k := 1) tyX1 dX4_begin_60 rfl rfl iuX1 tyX1_ok nmX1 (by decide) rfl wF_X4_166 rfl rfl rfl ?_
  refine av_aload_n dX4_begin_63 rfl rfl ?_
  refine av_iconst dX4_begin_64 ?_
  refine av_put (k := 10) tyX4 dX4_begin_65 rfl rfl iuX4 tyX4_ok nmX4 (by decide) rfl wF_X4_204 rfl rfl rfl ?_
  exact av_return dX4_begin_68 rfl h

theorem uX4_hasFallen {E : av_E} {σ : av_M} {Q : Option av_V → av_M → Prop} (h : (rg (σ 27 3)) ∧ (((¬ (σ 27 3) = 0) → Q (some (av_i 0)) σ) ∧ (((σ 27 3) = 0) → av_C E cSH mX3_fall [av_r 3] σ (fun v s1 => ∃ r1 : Int, v = some (av_i r1) ∧ ((rg (σ 27 0)) ∧ ((rg r1) ∧ ((((σ 27 0) < r1) → Q (some (av_i 0)) s1) ∧ ((r1 ≤ (σ 27 0)) → Q (some (av_i 1)) s1)))))))) :
    av_C E cSH mX4_hasFallen [av_r 0] σ Q := by
  refine av_C.ofW (L := [some (av_r 0)]) (by decide) (Nat.le_of_ble_eq_true rfl) rfl ?_
  refine av_aload_n dX4_hasFallen_0 rfl rfl ?_
  refine av_getr (k := 4) dX4_hasFallen_1 rfl rfl iuX4 (by decide) rfl wF_X4_9 rfl ?_
  refine av_iconst dX4_hasFallen_4 ?_
  refine av_iald (x := (σ 27 3)) dX4_hasFallen_5 rfl (by decide) (by decide) rfl ?_
  refine av_if_ne (tgt := 29) dX4_hasFallen_6 (by decide) h.1 (fun c => ?_) (fun c => ?_)
  · have h := h.2.1 c
    refine av_iconst dX4_hasFallen_29 ?_
    exact av_zreturn dX4_hasFallen_30 rfl (by decide) h
  · have h := h.2.2 c
    refine av_aload_n dX4_hasFallen_9 rfl rfl ?_
    refine av_getr (k := 4) dX4_hasFallen_10 rfl rfl iuX4 (by decide) rfl wF_X4_9 rfl ?_
    refine av_iconst dX4_hasFallen_13 ?_
    refine av_iald (x := (σ 27 0)) dX4_hasFallen_14 rfl (by decide) (by decide) rfl ?_
    refine av_aload_n dX4_hasFallen_15 rfl rfl ?_
    refine av_getr (k := 1) dX4_hasFallen_16 rfl rfl iuX4 (by decide) rfl wF_X4_42 rfl ?_
    refine av_callV mX3_fall [] [av_i (σ 27 0)] dX4_hasFallen_19 rfl rfl rfl mbX3_fall rfl wI_X3_fall wS_X3_fall rfl wM_X4_157 ⟨Nat.le_of_ble_eq_true rfl, Nat.le_of_ble_eq_true rfl⟩ rfl (Nat.le_of_ble_eq_true rfl) (av_C.mono (fun v s1 hh => ?_) h)
    obtain ⟨r1, rfl, h⟩ := hh
    change av_W E cSH mX4_hasFallen 22 [some (av_r 0)] [av_i r1, av_i (σ 27 0)] s1 Q
    refine av_icmp_lt (tgt := 29) dX4_hasFallen_22 (by decide) h.1 h.2.1 (fun c => ?_) (fun c => ?_)
    · have h := h.2.2.1 c
      refine av_iconst dX4_hasFallen_29 ?_
      exact av_zreturn dX4_hasFallen_30 rfl (by decide) h
    · have h := h.2.2.2 c
      refine av_iconst dX4_hasFallen_25 ?_
      refine av_goto (tgt := 30) dX4_hasFallen_26 (by decide) ?_
      exact av_zreturn dX4_hasFallen_30 rfl (by decide) h

theorem uX4_isReader {E : av_E} {σ : av_M} {Q : Option av_V → av_M → Prop} {a1 : Int} (h : (rg a1) ∧ (((a1 < 0) → Q (some (av_i 0)) σ) ∧ ((0 ≤ a1) → (rg a1) ∧ ((rg (σ 3 9)) ∧ ((((σ 3 9) ≤ a1) → Q (some (av_i 0)) σ) ∧ ((a1 < (σ 3 9)) → Q (some (av_i 1)) σ)))))) :
    av_C E cSH mX4_isReader [av_r 0, av_i a1] σ Q := by
  refine av_C.ofW (L := [some (av_r 0), some (av_i a1)]) (by decide) (Nat.le_of_ble_eq_true rfl) rfl ?_
  refine av_iload_n dX4_isReader_0 rfl rfl ?_
  refine av_if_lt (tgt := 19) dX4_isReader_1 (by decide) h.1 (fun c => ?_) (fun c => ?_)
  · have h := h.2.1 c
    refine av_iconst dX4_isReader_19 ?_
    exact av_zreturn dX4_isReader_20 rfl (by decide) h
  · have h := h.2.2 c
    refine av_iload_n dX4_isReader_4 rfl rfl ?_
    refine av_aload_n dX4_isReader_5 rfl rfl ?_
    refine av_getr (k := 1) dX4_isReader_6 rfl rfl iuX4 (by decide) rfl wF_X4_42 rfl ?_
    refine av_get (k := 9) (x := (σ 3 9)) dX4_isReader_9 rfl rfl iuX3 (by decide) rfl wF_X4_90 rfl rfl ?_
    refine av_icmp_ge (tgt := 19) dX4_isReader_12 (by decide) h.1 h.2.1 (fun c => ?_) (fun c => ?_)
    · have h := h.2.2.1 c
      refine av_iconst dX4_isReader_19 ?_
      exact av_zreturn dX4_isReader_20 rfl (by decide) h
    · have h := h.2.2.2 c
      refine av_iconst dX4_isReader_15 ?_
      refine av_goto (tgt := 20) dX4_isReader_16 (by decide) ?_
      exact av_zreturn dX4_isReader_20 rfl (by decide) h

theorem uX4_isPart {E : av_E} {σ : av_M} {Q : Option av_V → av_M → Prop} {a1 : Int} (h : (rg a1) ∧ (((a1 = 0) → Q (some (av_i 1)) σ) ∧ ((¬ a1 = 0) → (rg a1) ∧ (((¬ a1 = 1) → Q (some (av_i 0)) σ) ∧ ((a1 = 1) → Q (some (av_i 1)) σ))))) :
    av_C E cSH mX4_isPart [av_i a1] σ Q := by
  refine av_C.ofW (L := [some (av_i a1)]) (by decide) (Nat.le_of_ble_eq_true rfl) rfl ?_
  refine av_iload_n dX4_isPart_0 rfl rfl ?_
  refine av_if_eq (tgt := 9) dX4_isPart_1 (by decide) h.1 (fun c => ?_) (fun c => ?_)
  · have h := h.2.1 c
    refine av_iconst dX4_isPart_9 ?_
    refine av_goto (tgt := 14) dX4_isPart_10 (by decide) ?_
    exact av_zreturn dX4_isPart_14 rfl (by decide) h
  · have h := h.2.2 c
    refine av_iload_n dX4_isPart_4 rfl rfl ?_
    refine av_iconst dX4_isPart_5 ?_
    refine av_icmp_ne (tgt := 13) dX4_isPart_6 (by decide) h.1 (by decide) (fun c => ?_) (fun c => ?_)
    · have h := h.2.1 c
      refine av_iconst dX4_isPart_13 ?_
      exact av_zreturn dX4_isPart_14 rfl (by decide) h
    · have h := h.2.2 c
      refine av_iconst dX4_isPart_9 ?_
      refine av_goto (tgt := 14) dX4_isPart_10 (by decide) ?_
      exact av_zreturn dX4_isPart_14 rfl (by decide) h

theorem uX4_isReading {E : av_E} {σ : av_M} {Q : Option av_V → av_M → Prop} {a1 a2 : Int} (h : (rg a2) ∧ (((a2 < 0) → Q (some (av_i 0)) σ) ∧ ((0 ≤ a2) → av_C E cSH mX4_readingsOf [av_r 0, av_i a1, av_i (σ 27 4)] σ (fun v s1 => ∃ r1 : Int, v = some (av_i r1) ∧ ((rg a2) ∧ ((rg r1) ∧ (((r1 ≤ a2) → Q (some (av_i 0)) s1) ∧ ((a2 < r1) → Q (some (av_i 1)) s1)))))))) :
    av_C E cSH mX4_isReading [av_r 0, av_i a1, av_i a2] σ Q := by
  refine av_C.ofW (L := [some (av_r 0), some (av_i a1), some (av_i a2)]) (by decide) (Nat.le_of_ble_eq_true rfl) rfl ?_
  refine av_iload_n dX4_isReading_0 rfl rfl ?_
  refine av_if_lt (tgt := 23) dX4_isReading_1 (by decide) h.1 (fun c => ?_) (fun c => ?_)
  · have h := h.2.1 c
    refine av_iconst dX4_isReading_23 ?_
    exact av_zreturn dX4_isReading_24 rfl (by decide) h
  · have h := h.2.2 c
    refine av_iload_n dX4_isReading_4 rfl rfl ?_
    refine av_aload_n dX4_isReading_5 rfl rfl ?_
    refine av_iload_n dX4_isReading_6 rfl rfl ?_
    refine av_aload_n dX4_isReading_7 rfl rfl ?_
    refine av_getr (k := 4) dX4_isReading_8 rfl rfl iuX4 (by decide) rfl wF_X4_9 rfl ?_
    refine av_iconst dX4_isReading_11 ?_
    refine av_iald (x := (σ 27 4)) dX4_isReading_12 rfl (by decide) (by decide) rfl ?_
    refine av_callV mX4_readingsOf [av_i a1, av_i (σ 27 4)] [av_i a2] dX4_isReading_13 rfl rfl rfl mbX4_readingsOf rfl wI_X4_readingsOf wS_X4_readingsOf rfl wM_X4_106 ⟨Nat.le_of_ble_eq_true rfl, Nat.le_of_ble_eq_true rfl⟩ rfl (Nat.le_of_ble_eq_true rfl) (av_C.mono (fun v s1 hh => ?_) h)
    obtain ⟨r1, rfl, h⟩ := hh
    change av_W E cSH mX4_isReading 16 [some (av_r 0), some (av_i a1), some (av_i a2)] [av_i r1, av_i a2] s1 Q
    refine av_icmp_ge (tgt := 23) dX4_isReading_16 (by decide) h.1 h.2.1 (fun c => ?_) (fun c => ?_)
    · have h := h.2.2.1 c
      refine av_iconst dX4_isReading_23 ?_
      exact av_zreturn dX4_isReading_24 rfl (by decide) h
    · have h := h.2.2.2 c
      refine av_iconst dX4_isReading_19 ?_
      refine av_goto (tgt := 24) dX4_isReading_20 (by decide) ?_
      exact av_zreturn dX4_isReading_24 rfl (by decide) h

theorem uX4_readingsOf {E : av_E} {σ : av_M} {Q : Option av_V → av_M → Prop} {a1 a2 : Int} (h : (0 ≤ a1 ∧ a1 < 5) ∧ (av_C E cSH mX0_take [av_r 21, av_i (σ 8 (a1).toNat), av_i a2] σ (fun v s1 => v = none ∧ (av_C E cSH mX0_tally [av_r 21, av_i 65535] s1 (fun v s2 => ∃ r2 : Int, v = some (av_i r2) ∧ (Q (some (av_i r2)) s2)))))) :
    av_C E cSH mX4_readingsOf [av_r 0, av_i a1, av_i a2] σ Q := by
  refine av_C.ofW (L := [some (av_r 0), some (av_i a1), some (av_i a2)]) (by decide) (Nat.le_of_ble_eq_true rfl) rfl ?_
  refine av_aload_n dX4_readingsOf_0 rfl rfl ?_
  refine av_getr (k := 3) dX4_readingsOf_1 rfl rfl iuX4 (by decide) rfl wF_X4_54 rfl ?_
  refine av_aload_n dX4_readingsOf_4 rfl rfl ?_
  refine av_getr (k := 1) dX4_readingsOf_5 rfl rfl iuX4 (by decide) rfl wF_X4_42 rfl ?_
  refine av_getr (k := 4) dX4_readingsOf_8 rfl rfl iuX3 (by decide) rfl wF_X4_110 rfl ?_
  refine av_iload_n dX4_readingsOf_11 rfl rfl ?_
  refine av_iald (x := (σ 8 (a1).toNat)) dX4_readingsOf_12 rfl (by decide) h.1 rfl ?_
  refine av_iload_n dX4_readingsOf_13 rfl rfl ?_
  refine av_callV mX0_take [av_i (σ 8 (a1).toNat), av_i a2] [] dX4_readingsOf_14 rfl rfl rfl mbX0_take rfl wI_X0_take wS_X0_take rfl wM_X4_210 ⟨Nat.le_of_ble_eq_true rfl, Nat.le_of_ble_eq_true rfl⟩ rfl (Nat.le_of_ble_eq_true rfl) (av_C.mono (fun v s1 hh => ?_) h.2)
  obtain ⟨rfl, h⟩ := hh
  change av_W E cSH mX4_readingsOf 17 [some (av_r 0), some (av_i a1), some (av_i a2)] [] s1 Q
  refine av_aload_n dX4_readingsOf_17 rfl rfl ?_
  refine av_getr (k := 3) dX4_readingsOf_18 rfl rfl iuX4 (by decide) rfl wF_X4_54 rfl ?_
  refine av_ldc dX4_readingsOf_21 rfl wK_X4_175 ?_
  refine av_callV mX0_tally [av_i 65535] [] dX4_readingsOf_23 rfl rfl rfl mbX0_tally rfl wI_X0_tally wS_X0_tally rfl wM_X4_179 ⟨Nat.le_of_ble_eq_true rfl, Nat.le_of_ble_eq_true rfl⟩ rfl (Nat.le_of_ble_eq_true rfl) (av_C.mono (fun v s2 hh => ?_) h)
  obtain ⟨r2, rfl, h⟩ := hh
  change av_W E cSH mX4_readingsOf 26 [some (av_r 0), some (av_i a1), some (av_i a2)] [av_i r2] s2 Q
  exact av_ireturn dX4_readingsOf_26 rfl h

theorem uX4_toldBy {E : av_E} {σ : av_M} {Q : Option av_V → av_M → Prop} {a1 a2 : Int} (h : av_C E cSH mX4_readingsOf [av_r 0, av_i a1, av_i a2] σ (fun v s1 => ∃ r1 : Int, v = some (av_i r1) ∧ ((rg r1) ∧ (((¬ r1 = 0) → av_C E cSH mX0_told [av_r 21] s1 (fun v s2 => ∃ r2 : Int, v = some (av_i r2) ∧ (av_C E cSH mX0_pick [av_r 21, av_i r2] s2 (fun v s3 => v = none ∧ (Q (some (av_i r2)) s3))))) ∧ ((r1 = 0) → Q (some (av_i (-4))) s1))))) :
    av_C E cSH mX4_toldBy [av_r 0, av_i a1, av_i a2] σ Q := by
  refine av_C.ofW (L := [some (av_r 0), some (av_i a1), some (av_i a2), none]) (by decide) (Nat.le_of_ble_eq_true rfl) rfl ?_
  refine av_aload_n dX4_toldBy_0 rfl rfl ?_
  refine av_iload_n dX4_toldBy_1 rfl rfl ?_
  refine av_iload_n dX4_toldBy_2 rfl rfl ?_
  refine av_callV mX4_readingsOf [av_i a1, av_i a2] [] dX4_toldBy_3 rfl rfl rfl mbX4_readingsOf rfl wI_X4_readingsOf wS_X4_readingsOf rfl wM_X4_106 ⟨Nat.le_of_ble_eq_true rfl, Nat.le_of_ble_eq_true rfl⟩ rfl (Nat.le_of_ble_eq_true rfl) (av_C.mono (fun v s1 hh => ?_) h)
  obtain ⟨r1, rfl, h⟩ := hh
  change av_W E cSH mX4_toldBy 6 [some (av_r 0), some (av_i a1), some (av_i a2), none] [av_i r1] s1 Q
  refine av_if_ne (tgt := 12) dX4_toldBy_6 (by decide) h.1 (fun c => ?_) (fun c => ?_)
  · have h := h.2.1 c
    refine av_aload_n dX4_toldBy_12 rfl rfl ?_
    refine av_getr (k := 3) dX4_toldBy_13 rfl rfl iuX4 (by decide) rfl wF_X4_54 rfl ?_
    refine av_callV mX0_told [] [] dX4_toldBy_16 rfl rfl rfl mbX0_told rfl wI_X0_told wS_X0_told rfl wM_X4_233 ⟨Nat.le_of_ble_eq_true rfl, Nat.le_of_ble_eq_true rfl⟩ rfl (Nat.le_of_ble_eq_true rfl) (av_C.mono (fun v s2 hh => ?_) h)
    obtain ⟨r2, rfl, h⟩ := hh
    change av_W E cSH mX4_toldBy 19 [some (av_r 0), some (av_i a1), some (av_i a2), none] [av_i r2] s2 Q
    refine av_istore_n (L' := [some (av_r 0), some (av_i a1), some (av_i a2), some (av_i r2)]) dX4_toldBy_19 rfl (by decide) rfl ?_
    refine av_aload_n dX4_toldBy_20 rfl rfl ?_
    refine av_getr (k := 3) dX4_toldBy_21 rfl rfl iuX4 (by decide) rfl wF_X4_54 rfl ?_
    refine av_iload_n dX4_toldBy_24 rfl rfl ?_
    refine av_callV mX0_pick [av_i r2] [] dX4_toldBy_25 rfl rfl rfl mbX0_pick rfl wI_X0_pick wS_X0_pick rfl wM_X4_123 ⟨Nat.le_of_ble_eq_true rfl, Nat.le_of_ble_eq_true rfl⟩ rfl (Nat.le_of_ble_eq_true rfl) (av_C.mono (fun v s3 hh => ?_) h)
    obtain ⟨rfl, h⟩ := hh
    change av_W E cSH mX4_toldBy 28 [some (av_r 0), some (av_i a1), some (av_i a2), some (av_i r2)] [] s3 Q
    refine av_iload_n dX4_toldBy_28 rfl rfl ?_
    exact av_ireturn dX4_toldBy_29 rfl h
  · have h := h.2.2 c
    refine av_bipush dX4_toldBy_9 rfl ?_
    exact av_ireturn dX4_toldBy_11 rfl h

theorem uX4_verbsToldBy {E : av_E} {σ : av_M} {Q : Option av_V → av_M → Prop} {a1 : Int} (h : av_C E cSH mX4_toldBy [av_r 0, av_i a1, av_i (σ 27 4)] σ (fun v s1 => ∃ r1 : Int, v = some (av_i r1) ∧ ((rg r1) ∧ (((¬ r1 = (-4)) → Q (some (av_i (s1 21 11))) s1) ∧ ((r1 = (-4)) → Q (some (av_i 0)) s1))))) :
    av_C E cSH mX4_verbsToldBy [av_r 0, av_i a1] σ Q := by
  refine av_C.ofW (L := [some (av_r 0), some (av_i a1)]) (by decide) (Nat.le_of_ble_eq_true rfl) rfl ?_
  refine av_aload_n dX4_verbsToldBy_0 rfl rfl ?_
  refine av_iload_n dX4_verbsToldBy_1 rfl rfl ?_
  refine av_aload_n dX4_verbsToldBy_2 rfl rfl ?_
  refine av_getr (k := 4) dX4_verbsToldBy_3 rfl rfl iuX4 (by decide) rfl wF_X4_9 rfl ?_
  refine av_iconst dX4_verbsToldBy_6 ?_
  refine av_iald (x := (σ 27 4)) dX4_verbsToldBy_7 rfl (by decide) (by decide) rfl ?_
  refine av_callV mX4_toldBy [av_i a1, av_i (σ 27 4)] [] dX4_verbsToldBy_8 rfl rfl rfl mbX4_toldBy rfl wI_X4_toldBy wS_X4_toldBy rfl wM_X4_139 ⟨Nat.le_of_ble_eq_true rfl, Nat.le_of_ble_eq_true rfl⟩ rfl (Nat.le_of_ble_eq_true rfl) (av_C.mono (fun v s1 hh => ?_) h)
  obtain ⟨r1, rfl, h⟩ := hh
  change av_W E cSH mX4_verbsToldBy 11 [some (av_r 0), some (av_i a1)] [av_i r1] s1 Q
  refine av_bipush dX4_verbsToldBy_11 rfl ?_
  refine av_icmp_ne (tgt := 20) dX4_verbsToldBy_13 (by decide) h.1 (by decide) (fun c => ?_) (fun c => ?_)
  · have h := h.2.1 c
    refine av_aload_n dX4_verbsToldBy_20 rfl rfl ?_
    refine av_getr (k := 3) dX4_verbsToldBy_21 rfl rfl iuX4 (by decide) rfl wF_X4_54 rfl ?_
    refine av_get (k := 11) (x := (s1 21 11)) dX4_verbsToldBy_24 rfl rfl iuX0 (by decide) rfl wF_X4_133 rfl rfl ?_
    exact av_ireturn dX4_verbsToldBy_27 rfl h
  · have h := h.2.2 c
    refine av_iconst dX4_verbsToldBy_16 ?_
    refine av_goto (tgt := 27) dX4_verbsToldBy_17 (by decide) ?_
    exact av_ireturn dX4_verbsToldBy_27 rfl h

theorem uX4_isEnough {E : av_E} {σ : av_M} {Q : Option av_V → av_M → Prop} {a1 a2 : Int} (h : av_W E cSH mX4_isEnough 10 [some (av_r 0), some (av_i a1), some (av_i a2), some (av_i (σ 27 2)), some (av_i 0)] [] σ Q) :
    av_C E cSH mX4_isEnough [av_r 0, av_i a1, av_i a2] σ Q := by
  refine av_C.ofW (L := [some (av_r 0), some (av_i a1), some (av_i a2), none, none]) (by decide) (Nat.le_of_ble_eq_true rfl) rfl ?_
  refine av_aload_n dX4_isEnough_0 rfl rfl ?_
  refine av_getr (k := 4) dX4_isEnough_1 rfl rfl iuX4 (by decide) rfl wF_X4_9 rfl ?_
  refine av_iconst dX4_isEnough_4 ?_
  refine av_iald (x := (σ 27 2)) dX4_isEnough_5 rfl (by decide) (by decide) rfl ?_
  refine av_istore_n (L' := [some (av_r 0), some (av_i a1), some (av_i a2), some (av_i (σ 27 2)), none]) dX4_isEnough_6 rfl (by decide) rfl ?_
  refine av_iconst dX4_isEnough_7 ?_
  refine av_istore (L' := [some (av_r 0), some (av_i a1), some (av_i a2), some (av_i (σ 27 2)), some (av_i 0)]) dX4_isEnough_8 (by decide) rfl ?_
  exact h

theorem uX4_isEnough_10 {E : av_E} {σ : av_M} {Q : Option av_V → av_M → Prop} {x1 x2 x3 x4 : Int} (h : (rg x4) ∧ ((rg (σ 3 9)) ∧ ((((σ 3 9) ≤ x4) → av_C E cSH mX3_hoursOf [av_r 3, av_i x1] σ (fun v s1 => ∃ r1 : Int, v = some (av_i r1) ∧ (av_C E cSH mX3_fall [av_r 3] s1 (fun v s2 => ∃ r2 : Int, v = some (av_i r2) ∧ ((rg ((σ 27 0) + r1)) ∧ ((rg r2) ∧ (((r2 ≤ ((σ 27 0) + r1)) → (rg (i_and x3 x2)) ∧ ((rg x2) ∧ (((¬ (i_and x3 x2) = x2) → Q (some (av_i 0)) s2) ∧ (((i_and x3 x2) = x2) → Q (some (av_i 0)) s2)))) ∧ ((((σ 27 0) + r1) < r2) → (rg (i_and x3 x2)) ∧ ((rg x2) ∧ (((¬ (i_and x3 x2) = x2) → Q (some (av_i 0)) s2) ∧ (((i_and x3 x2) = x2) → av_C E cSH mX3_priceOf [av_r 3, av_i x1] s2 (fun v s3 => ∃ r3 : Int, v = some (av_i r3) ∧ ((rg r3) ∧ ((rg (s3 27 1)) ∧ ((((s3 27 1) < r3) → Q (some (av_i 0)) s3) ∧ ((r3 ≤ (s3 27 1)) → Q (some (av_i 1)) s3)))))))))))))))) ∧ ((x4 < (σ 3 9)) → av_C E cSH mX4_holds [av_i x1, av_i x4] σ (fun v s4 => ∃ r4 : Int, v = some (av_i r4) ∧ ((rg r4) ∧ (((r4 = 0) → av_W E cSH mX4_isEnough 10 [some (av_r 0), some (av_i x1), some (av_i x2), some (av_i (i_or x3 0)), some (av_i (x4 + 1))] [] s4 Q) ∧ ((¬ r4 = 0) → (0 ≤ x4 ∧ x4 < 5) ∧ (av_W E cSH mX4_isEnough 10 [some (av_r 0), some (av_i x1), some (av_i x2), some (av_i (i_or x3 (s4 34 (x4).toNat))), some (av_i (x4 + 1))] [] s4 Q))))))))) :
    av_W E cSH mX4_isEnough 10 [some (av_r 0), some (av_i x1), some (av_i x2), some (av_i x3), some (av_i x4)] [] σ Q := by
  refine av_iload dX4_isEnough_10 rfl ?_
  refine av_aload_n dX4_isEnough_12 rfl rfl ?_
  refine av_getr (k := 1) dX4_isEnough_13 rfl rfl iuX4 (by decide) rfl wF_X4_42 rfl ?_
  refine av_get (k := 9) (x := (σ 3 9)) dX4_isEnough_16 rfl rfl iuX3 (by decide) rfl wF_X4_90 rfl rfl ?_
  refine av_icmp_ge (tgt := 51) dX4_isEnough_19 (by decide) h.1 h.2.1 (fun c => ?_) (fun c => ?_)
  · have h := h.2.2.1 c
    refine av_aload_n dX4_isEnough_51 rfl rfl ?_
    refine av_getr (k := 4) dX4_isEnough_52 rfl rfl iuX4 (by decide) rfl wF_X4_9 rfl ?_
    refine av_iconst dX4_isEnough_55 ?_
    refine av_iald (x := (σ 27 0)) dX4_isEnough_56 rfl (by decide) (by decide) rfl ?_
    refine av_aload_n dX4_isEnough_57 rfl rfl ?_
    refine av_getr (k := 1) dX4_isEnough_58 rfl rfl iuX4 (by decide) rfl wF_X4_42 rfl ?_
    refine av_iload_n dX4_isEnough_61 rfl rfl ?_
    refine av_callV mX3_hoursOf [av_i x1] [av_i (σ 27 0)] dX4_isEnough_62 rfl rfl rfl mbX3_hoursOf rfl wI_X3_hoursOf wS_X3_hoursOf rfl wM_X4_201 ⟨Nat.le_of_ble_eq_true rfl, Nat.le_of_ble_eq_true rfl⟩ rfl (Nat.le_of_ble_eq_true rfl) (av_C.mono (fun v s1 hh => ?_) h)
    obtain ⟨r1, rfl, h⟩ := hh
    change av_W E cSH mX4_isEnough 65 [some (av_r 0), some (av_i x1), some (av_i x2), some (av_i x3), some (av_i x4)] [av_i r1, av_i (σ 27 0)] s1 Q
    refine av_iadd dX4_isEnough_65 ?_
    refine av_aload_n dX4_isEnough_66 rfl rfl ?_
    refine av_getr (k := 1) dX4_isEnough_67 rfl rfl iuX4 (by decide) rfl wF_X4_42 rfl ?_
    refine av_callV mX3_fall [] [av_i ((σ 27 0) + r1)] dX4_isEnough_70 rfl rfl rfl mbX3_fall rfl wI_X3_fall wS_X3_fall rfl wM_X4_157 ⟨Nat.le_of_ble_eq_true rfl, Nat.le_of_ble_eq_true rfl⟩ rfl (Nat.le_of_ble_eq_true rfl) (av_C.mono (fun v s2 hh => ?_) h)
    obtain ⟨r2, rfl, h⟩ := hh
    change av_W E cSH mX4_isEnough 73 [some (av_r 0), some (av_i x1), some (av_i x2), some (av_i x3), some (av_i x4)] [av_i r2, av_i ((σ 27 0) + r1)] s2 Q
    refine av_icmp_ge (tgt := 80) dX4_isEnough_73 (by decide) h.1 h.2.1 (fun c => ?_) (fun c => ?_)
    · have h := h.2.2.1 c
      refine av_iconst dX4_isEnough_80 ?_
      refine av_istore (L' := [some (av_r 0), some (av_i x1), some (av_i x2), some (av_i x3), some (av_i 0)]) dX4_isEnough_81 (by decide) rfl ?_
      refine av_iload_n dX4_isEnough_83 rfl rfl ?_
      refine av_iload_n dX4_isEnough_84 rfl rfl ?_
      refine av_iand dX4_isEnough_85 ?_
      refine av_iload_n dX4_isEnough_86 rfl rfl ?_
      refine av_icmp_ne (tgt := 116) dX4_isEnough_87 (by decide) h.1 h.2.1 (fun c => ?_) (fun c => ?_)
      · have h := h.2.2.1 c
        refine av_iconst dX4_isEnough_116 ?_
        exact av_zreturn dX4_isEnough_117 rfl (by decide) h
      · have h := h.2.2.2 c
        refine av_iload dX4_isEnough_90 rfl ?_
        refine av_if_eq (tgt := 116) dX4_isEnough_92 (by decide) (by decide) (fun _ => ?_) (fun c => absurd c (by decide))
        refine av_iconst dX4_isEnough_116 ?_
        exact av_zreturn dX4_isEnough_117 rfl (by decide) h
    · have h := h.2.2.2 c
      refine av_iconst dX4_isEnough_76 ?_
      refine av_goto (tgt := 81) dX4_isEnough_77 (by decide) ?_
      refine av_istore (L' := [some (av_r 0), some (av_i x1), some (av_i x2), some (av_i x3), some (av_i 1)]) dX4_isEnough_81 (by decide) rfl ?_
      refine av_iload_n dX4_isEnough_83 rfl rfl ?_
      refine av_iload_n dX4_isEnough_84 rfl rfl ?_
      refine av_iand dX4_isEnough_85 ?_
      refine av_iload_n dX4_isEnough_86 rfl rfl ?_
      refine av_icmp_ne (tgt := 116) dX4_isEnough_87 (by decide) h.1 h.2.1 (fun c => ?_) (fun c => ?_)
      · have h := h.2.2.1 c
        refine av_iconst dX4_isEnough_116 ?_
        exact av_zreturn dX4_isEnough_117 rfl (by decide) h
      · have h := h.2.2.2 c
        refine av_iload dX4_isEnough_90 rfl ?_
        refine av_if_eq (tgt := 116) dX4_isEnough_92 (by decide) (by decide) (fun c => absurd c (by decide)) (fun _ => ?_)
        refine av_aload_n dX4_isEnough_95 rfl rfl ?_
        refine av_getr (k := 1) dX4_isEnough_96 rfl rfl iuX4 (by decide) rfl wF_X4_42 rfl ?_
        refine av_iload_n dX4_isEnough_99 rfl rfl ?_
        refine av_callV mX3_priceOf [av_i x1] [] dX4_isEnough_100 rfl rfl rfl mbX3_priceOf rfl wI_X3_priceOf wS_X3_priceOf rfl wM_X4_198 ⟨Nat.le_of_ble_eq_true rfl, Nat.le_of_ble_eq_true rfl⟩ rfl (Nat.le_of_ble_eq_true rfl) (av_C.mono (fun v s3 hh => ?_) h)
        obtain ⟨r3, rfl, h⟩ := hh
        change av_W E cSH mX4_isEnough 103 [some (av_r 0), some (av_i x1), some (av_i x2), some (av_i x3), some (av_i 1)] [av_i r3] s3 Q
        refine av_aload_n dX4_isEnough_103 rfl rfl ?_
        refine av_getr (k := 4) dX4_isEnough_104 rfl rfl iuX4 (by decide) rfl wF_X4_9 rfl ?_
        refine av_iconst dX4_isEnough_107 ?_
        refine av_iald (x := (s3 27 1)) dX4_isEnough_108 rfl (by decide) (by decide) rfl ?_
        refine av_icmp_gt (tgt := 116) dX4_isEnough_109 (by decide) h.1 h.2.1 (fun c => ?_) (fun c => ?_)
        · have h := h.2.2.1 c
          refine av_iconst dX4_isEnough_116 ?_
          exact av_zreturn dX4_isEnough_117 rfl (by decide) h
        · have h := h.2.2.2 c
          refine av_iconst dX4_isEnough_112 ?_
          refine av_goto (tgt := 117) dX4_isEnough_113 (by decide) ?_
          exact av_zreturn dX4_isEnough_117 rfl (by decide) h
  · have h := h.2.2.2 c
    refine av_iload_n dX4_isEnough_22 rfl rfl ?_
    refine av_iload_n dX4_isEnough_23 rfl rfl ?_
    refine av_iload dX4_isEnough_24 rfl ?_
    refine av_callS mX4_holds [av_i x1, av_i x4] [av_i x3] dX4_isEnough_26 mbX4_holds rfl wT_X4_holds rfl wM_X4_150 ⟨Nat.le_of_ble_eq_true rfl, Nat.le_of_ble_eq_true rfl⟩ rfl (Nat.le_of_ble_eq_true rfl) (av_C.mono (fun v s4 hh => ?_) h)
    obtain ⟨r4, rfl, h⟩ := hh
    change av_W E cSH mX4_isEnough 29 [some (av_r 0), some (av_i x1), some (av_i x2), some (av_i x3), some (av_i x4)] [av_i r4, av_i x3] s4 Q
    refine av_if_eq (tgt := 42) dX4_isEnough_29 (by decide) h.1 (fun c => ?_) (fun c => ?_)
    · have h := h.2.1 c
      refine av_iconst dX4_isEnough_42 ?_
      refine av_ior dX4_isEnough_43 ?_
      refine av_istore_n (L' := [some (av_r 0), some (av_i x1), some (av_i x2), some (av_i (i_or x3 0)), some (av_i x4)]) dX4_isEnough_44 rfl (by decide) rfl ?_
      refine av_iinc (L' := [some (av_r 0), some (av_i x1), some (av_i x2), some (av_i (i_or x3 0)), some (av_i (x4 + 1))]) dX4_isEnough_45 rfl (by decide) rfl rfl ?_
      refine av_goto (tgt := 10) dX4_isEnough_48 (by decide) ?_
      exact h
    · have h := h.2.2 c
      refine av_aload_n dX4_isEnough_32 rfl rfl ?_
      refine av_getr (k := 9) dX4_isEnough_33 rfl rfl iuX4 (by decide) rfl wF_X4_29 rfl ?_
      refine av_iload dX4_isEnough_36 rfl ?_
      refine av_iald (x := (s4 34 (x4).toNat)) dX4_isEnough_38 rfl (by decide) h.1 rfl ?_
      refine av_goto (tgt := 43) dX4_isEnough_39 (by decide) ?_
      refine av_ior dX4_isEnough_43 ?_
      refine av_istore_n (L' := [some (av_r 0), some (av_i x1), some (av_i x2), some (av_i (i_or x3 (s4 34 (x4).toNat))), some (av_i x4)]) dX4_isEnough_44 rfl (by decide) rfl ?_
      refine av_iinc (L' := [some (av_r 0), some (av_i x1), some (av_i x2), some (av_i (i_or x3 (s4 34 (x4).toNat))), some (av_i (x4 + 1))]) dX4_isEnough_45 rfl (by decide) rfl rfl ?_
      refine av_goto (tgt := 10) dX4_isEnough_48 (by decide) ?_
      exact h.2

theorem uX4_isCheaper {E : av_E} {σ : av_M} {Q : Option av_V → av_M → Prop} {a1 a2 : Int} (h : av_C E cSH mX3_priceOf [av_r 3, av_i a2] σ (fun v s1 => ∃ r1 : Int, v = some (av_i r1) ∧ (av_C E cSH mX3_priceOf [av_r 3, av_i a1] s1 (fun v s2 => ∃ r2 : Int, v = some (av_i r2) ∧ ((rg (r1 - r2)) ∧ (((0 < (r1 - r2)) → Q (some (av_i 1)) s2) ∧ (((r1 - r2) ≤ 0) → (rg (r1 - r2)) ∧ (((¬ (r1 - r2) = 0) → Q (some (av_i 0)) s2) ∧ (((r1 - r2) = 0) → av_C E cSH mX3_hoursOf [av_r 3, av_i a1] s2 (fun v s3 => ∃ r3 : Int, v = some (av_i r3) ∧ (av_C E cSH mX3_hoursOf [av_r 3, av_i a2] s3 (fun v s4 => ∃ r4 : Int, v = some (av_i r4) ∧ ((rg r3) ∧ ((rg r4) ∧ (((r4 ≤ r3) → Q (some (av_i 0)) s4) ∧ ((r3 < r4) → Q (some (av_i 1)) s4)))))))))))))))) :
    av_C E cSH mX4_isCheaper [av_r 0, av_i a1, av_i a2] σ Q := by
  refine av_C.ofW (L := [some (av_r 0), some (av_i a1), some (av_i a2), none]) (by decide) (Nat.le_of_ble_eq_true rfl) rfl ?_
  refine av_aload_n dX4_isCheaper_0 rfl rfl ?_
  refine av_getr (k := 1) dX4_isCheaper_1 rfl rfl iuX4 (by decide) rfl wF_X4_42 rfl ?_
  refine av_iload_n dX4_isCheaper_4 rfl rfl ?_
  refine av_callV mX3_priceOf [av_i a2] [] dX4_isCheaper_5 rfl rfl rfl mbX3_priceOf rfl wI_X3_priceOf wS_X3_priceOf rfl wM_X4_198 ⟨Nat.le_of_ble_eq_true rfl, Nat.le_of_ble_eq_true rfl⟩ rfl (Nat.le_of_ble_eq_true rfl) (av_C.mono (fun v s1 hh => ?_) h)
  obtain ⟨r1, rfl, h⟩ := hh
  change av_W E cSH mX4_isCheaper 8 [some (av_r 0), some (av_i a1), some (av_i a2), none] [av_i r1] s1 Q
  refine av_aload_n dX4_isCheaper_8 rfl rfl ?_
  refine av_getr (k := 1) dX4_isCheaper_9 rfl rfl iuX4 (by decide) rfl wF_X4_42 rfl ?_
  refine av_iload_n dX4_isCheaper_12 rfl rfl ?_
  refine av_callV mX3_priceOf [av_i a1] [av_i r1] dX4_isCheaper_13 rfl rfl rfl mbX3_priceOf rfl wI_X3_priceOf wS_X3_priceOf rfl wM_X4_198 ⟨Nat.le_of_ble_eq_true rfl, Nat.le_of_ble_eq_true rfl⟩ rfl (Nat.le_of_ble_eq_true rfl) (av_C.mono (fun v s2 hh => ?_) h)
  obtain ⟨r2, rfl, h⟩ := hh
  change av_W E cSH mX4_isCheaper 16 [some (av_r 0), some (av_i a1), some (av_i a2), none] [av_i r2, av_i r1] s2 Q
  refine av_isub dX4_isCheaper_16 ?_
  refine av_istore_n (L' := [some (av_r 0), some (av_i a1), some (av_i a2), some (av_i (r1 - r2))]) dX4_isCheaper_17 rfl (by decide) rfl ?_
  refine av_iload_n dX4_isCheaper_18 rfl rfl ?_
  refine av_if_gt (tgt := 45) dX4_isCheaper_19 (by decide) h.1 (fun c => ?_) (fun c => ?_)
  · have h := h.2.1 c
    refine av_iconst dX4_isCheaper_45 ?_
    refine av_goto (tgt := 50) dX4_isCheaper_46 (by decide) ?_
    exact av_zreturn dX4_isCheaper_50 rfl (by decide) h
  · have h := h.2.2 c
    refine av_iload_n dX4_isCheaper_22 rfl rfl ?_
    refine av_if_ne (tgt := 49) dX4_isCheaper_23 (by decide) h.1 (fun c => ?_) (fun c => ?_)
    · have h := h.2.1 c
      refine av_iconst dX4_isCheaper_49 ?_
      exact av_zreturn dX4_isCheaper_50 rfl (by decide) h
    · have h := h.2.2 c
      refine av_aload_n dX4_isCheaper_26 rfl rfl ?_
      refine av_getr (k := 1) dX4_isCheaper_27 rfl rfl iuX4 (by decide) rfl wF_X4_42 rfl ?_
      refine av_iload_n dX4_isCheaper_30 rfl rfl ?_
      refine av_callV mX3_hoursOf [av_i a1] [] dX4_isCheaper_31 rfl rfl rfl mbX3_hoursOf rfl wI_X3_hoursOf wS_X3_hoursOf rfl wM_X4_201 ⟨Nat.le_of_ble_eq_true rfl, Nat.le_of_ble_eq_true rfl⟩ rfl (Nat.le_of_ble_eq_true rfl) (av_C.mono (fun v s3 hh => ?_) h)
      obtain ⟨r3, rfl, h⟩ := hh
      change av_W E cSH mX4_isCheaper 34 [some (av_r 0), some (av_i a1), some (av_i a2), some (av_i (r1 - r2))] [av_i r3] s3 Q
      refine av_aload_n dX4_isCheaper_34 rfl rfl ?_
      refine av_getr (k := 1) dX4_isCheaper_35 rfl rfl iuX4 (by decide) rfl wF_X4_42 rfl ?_
      refine av_iload_n dX4_isCheaper_38 rfl rfl ?_
      refine av_callV mX3_hoursOf [av_i a2] [av_i r3] dX4_isCheaper_39 rfl rfl rfl mbX3_hoursOf rfl wI_X3_hoursOf wS_X3_hoursOf rfl wM_X4_201 ⟨Nat.le_of_ble_eq_true rfl, Nat.le_of_ble_eq_true rfl⟩ rfl (Nat.le_of_ble_eq_true rfl) (av_C.mono (fun v s4 hh => ?_) h)
      obtain ⟨r4, rfl, h⟩ := hh
      change av_W E cSH mX4_isCheaper 42 [some (av_r 0), some (av_i a1), some (av_i a2), some (av_i (r1 - r2))] [av_i r4, av_i r3] s4 Q
      refine av_icmp_ge (tgt := 49) dX4_isCheaper_42 (by decide) h.1 h.2.1 (fun c => ?_) (fun c => ?_)
      · have h := h.2.2.1 c
        refine av_iconst dX4_isCheaper_49 ?_
        exact av_zreturn dX4_isCheaper_50 rfl (by decide) h
      · have h := h.2.2.2 c
        refine av_iconst dX4_isCheaper_45 ?_
        refine av_goto (tgt := 50) dX4_isCheaper_46 (by decide) ?_
        exact av_zreturn dX4_isCheaper_50 rfl (by decide) h

theorem uX4_isAsSeen {E : av_E} {σ : av_M} {Q : Option av_V → av_M → Prop} {a1 : Int} (h : av_W E cSH mX4_isAsSeen 2 [some (av_r 0), some (av_i a1), some (av_i 0)] [] σ Q) :
    av_C E cSH mX4_isAsSeen [av_r 0, av_i a1] σ Q := by
  refine av_C.ofW (L := [some (av_r 0), some (av_i a1), none]) (by decide) (Nat.le_of_ble_eq_true rfl) rfl ?_
  refine av_iconst dX4_isAsSeen_0 ?_
  refine av_istore_n (L' := [some (av_r 0), some (av_i a1), some (av_i 0)]) dX4_isAsSeen_1 rfl (by decide) rfl ?_
  exact h

theorem uX4_isAsSeen_2 {E : av_E} {σ : av_M} {Q : Option av_V → av_M → Prop} {x1 x2 : Int} (h : (rg x2) ∧ ((rg (σ 0 10)) ∧ ((((σ 0 10) ≤ x2) → Q (some (av_i 1)) σ) ∧ ((x2 < (σ 0 10)) → (0 ≤ x2 ∧ x2 < 6) ∧ (av_C E cSH mX4_toldBy [av_r 0, av_i (σ 32 (x2).toNat), av_i x1] σ (fun v s1 => ∃ r1 : Int, v = some (av_i r1) ∧ ((rg r1) ∧ (((r1 = (-4)) → Q (some (av_i 0)) s1) ∧ ((¬ r1 = (-4)) → (0 ≤ x2 ∧ x2 < 6) ∧ ((rg (s1 21 10)) ∧ ((rg (s1 33 (x2).toNat)) ∧ ((((s1 21 10) = (s1 33 (x2).toNat)) → av_W E cSH mX4_isAsSeen 2 [some (av_r 0), some (av_i x1), some (av_i (x2 + 1))] [] s1 Q) ∧ ((¬ (s1 21 10) = (s1 33 (x2).toNat)) → Q (some (av_i 0)) s1))))))))))))) :
    av_W E cSH mX4_isAsSeen 2 [some (av_r 0), some (av_i x1), some (av_i x2)] [] σ Q := by
  refine av_iload_n dX4_isAsSeen_2 rfl rfl ?_
  refine av_aload_n dX4_isAsSeen_3 rfl rfl ?_
  refine av_get (k := 10) (x := (σ 0 10)) dX4_isAsSeen_4 rfl rfl iuX4 (by decide) rfl wF_X4_204 rfl rfl ?_
  refine av_icmp_ge (tgt := 50) dX4_isAsSeen_7 (by decide) h.1 h.2.1 (fun c => ?_) (fun c => ?_)
  · have h := h.2.2.1 c
    refine av_iconst dX4_isAsSeen_50 ?_
    exact av_zreturn dX4_isAsSeen_51 rfl (by decide) h
  · have h := h.2.2.2 c
    refine av_aload_n dX4_isAsSeen_10 rfl rfl ?_
    refine av_aload_n dX4_isAsSeen_11 rfl rfl ?_
    refine av_getr (k := 7) dX4_isAsSeen_12 rfl rfl iuX4 (by decide) rfl wF_X4_23 rfl ?_
    refine av_iload_n dX4_isAsSeen_15 rfl rfl ?_
    refine av_iald (x := (σ 32 (x2).toNat)) dX4_isAsSeen_16 rfl (by decide) h.1 rfl ?_
    refine av_iload_n dX4_isAsSeen_17 rfl rfl ?_
    refine av_callV mX4_toldBy [av_i (σ 32 (x2).toNat), av_i x1] [] dX4_isAsSeen_18 rfl rfl rfl mbX4_toldBy rfl wI_X4_toldBy wS_X4_toldBy rfl wM_X4_139 ⟨Nat.le_of_ble_eq_true rfl, Nat.le_of_ble_eq_true rfl⟩ rfl (Nat.le_of_ble_eq_true rfl) (av_C.mono (fun v s1 hh => ?_) h.2)
    obtain ⟨r1, rfl, h⟩ := hh
    change av_W E cSH mX4_isAsSeen 21 [some (av_r 0), some (av_i x1), some (av_i x2)] [av_i r1] s1 Q
    refine av_bipush dX4_isAsSeen_21 rfl ?_
    refine av_icmp_eq (tgt := 42) dX4_isAsSeen_23 (by decide) h.1 (by decide) (fun c => ?_) (fun c => ?_)
    · have h := h.2.1 c
      refine av_iconst dX4_isAsSeen_42 ?_
      exact av_zreturn dX4_isAsSeen_43 rfl (by decide) h
    · have h := h.2.2 c
      refine av_aload_n dX4_isAsSeen_26 rfl rfl ?_
      refine av_getr (k := 3) dX4_isAsSeen_27 rfl rfl iuX4 (by decide) rfl wF_X4_54 rfl ?_
      refine av_get (k := 10) (x := (s1 21 10)) dX4_isAsSeen_30 rfl rfl iuX0 (by decide) rfl wF_X4_130 rfl rfl ?_
      refine av_aload_n dX4_isAsSeen_33 rfl rfl ?_
      refine av_getr (k := 8) dX4_isAsSeen_34 rfl rfl iuX4 (by decide) rfl wF_X4_26 rfl ?_
      refine av_iload_n dX4_isAsSeen_37 rfl rfl ?_
      refine av_iald (x := (s1 33 (x2).toNat)) dX4_isAsSeen_38 rfl (by decide) h.1 rfl ?_
      refine av_icmp_eq (tgt := 44) dX4_isAsSeen_39 (by decide) h.2.1 h.2.2.1 (fun c => ?_) (fun c => ?_)
      · have h := h.2.2.2.1 c
        refine av_iinc (L' := [some (av_r 0), some (av_i x1), some (av_i (x2 + 1))]) dX4_isAsSeen_44 rfl (by decide) rfl rfl ?_
        refine av_goto (tgt := 2) dX4_isAsSeen_47 (by decide) ?_
        exact h
      · have h := h.2.2.2.2 c
        refine av_iconst dX4_isAsSeen_42 ?_
        exact av_zreturn dX4_isAsSeen_43 rfl (by decide) h

theorem uX4_lettersIn {E : av_E} {σ : av_M} {Q : Option av_V → av_M → Prop} {a1 : Int} (h : av_W E cSH mX4_lettersIn 6 [some (av_i a1), some (av_i 0), some (av_i a1), some (av_i 0)] [] σ Q) :
    av_C E cSH mX4_lettersIn [av_i a1] σ Q := by
  refine av_C.ofW (L := [some (av_i a1), none, none, none]) (by decide) (Nat.le_of_ble_eq_true rfl) rfl ?_
  refine av_iconst dX4_lettersIn_0 ?_
  refine av_istore_n (L' := [some (av_i a1), some (av_i 0), none, none]) dX4_lettersIn_1 rfl (by decide) rfl ?_
  refine av_iload_n dX4_lettersIn_2 rfl rfl ?_
  refine av_istore_n (L' := [some (av_i a1), some (av_i 0), some (av_i a1), none]) dX4_lettersIn_3 rfl (by decide) rfl ?_
  refine av_iconst dX4_lettersIn_4 ?_
  refine av_istore_n (L' := [some (av_i a1), some (av_i 0), some (av_i a1), some (av_i 0)]) dX4_lettersIn_5 rfl (by decide) rfl ?_
  exact h

theorem uX4_lettersIn_6 {E : av_E} {σ : av_M} {Q : Option av_V → av_M → Prop} {x0 x1 x2 x3 : Int} (h : (rg x3) ∧ (((9 ≤ x3) → Q (some (av_i x1)) σ) ∧ ((x3 < 9) → (rg x2) ∧ (((x2 ≤ 0) → Q (some (av_i x1)) σ) ∧ ((0 < x2) → (0 ≤ x2 ∧ x2 < 2147483648) ∧ (av_W E cSH mX4_lettersIn 6 [some (av_i x0), some (av_i (x1 + 1)), some (av_i (x2 / 6)), some (av_i (x3 + 1))] [] σ Q)))))) :
    av_W E cSH mX4_lettersIn 6 [some (av_i x0), some (av_i x1), some (av_i x2), some (av_i x3)] [] σ Q := by
  refine av_iload_n dX4_lettersIn_6 rfl rfl ?_
  refine av_bipush dX4_lettersIn_7 rfl ?_
  refine av_icmp_ge (tgt := 30) dX4_lettersIn_9 (by decide) h.1 (by decide) (fun c => ?_) (fun c => ?_)
  · have h := h.2.1 c
    refine av_iload_n dX4_lettersIn_30 rfl rfl ?_
    exact av_ireturn dX4_lettersIn_31 rfl h
  · have h := h.2.2 c
    refine av_iload_n dX4_lettersIn_12 rfl rfl ?_
    refine av_if_le (tgt := 30) dX4_lettersIn_13 (by decide) h.1 (fun c => ?_) (fun c => ?_)
    · have h := h.2.1 c
      refine av_iload_n dX4_lettersIn_30 rfl rfl ?_
      exact av_ireturn dX4_lettersIn_31 rfl h
    · have h := h.2.2 c
      refine av_iload_n dX4_lettersIn_16 rfl rfl ?_
      refine av_bipush dX4_lettersIn_17 rfl ?_
      refine av_idiv dX4_lettersIn_19 h.1 (by decide) ?_
      refine av_istore_n (L' := [some (av_i x0), some (av_i x1), some (av_i (x2 / 6)), some (av_i x3)]) dX4_lettersIn_20 rfl (by decide) rfl ?_
      refine av_iinc (L' := [some (av_i x0), some (av_i (x1 + 1)), some (av_i (x2 / 6)), some (av_i x3)]) dX4_lettersIn_21 rfl (by decide) rfl rfl ?_
      refine av_iinc (L' := [some (av_i x0), some (av_i (x1 + 1)), some (av_i (x2 / 6)), some (av_i (x3 + 1))]) dX4_lettersIn_24 rfl (by decide) rfl rfl ?_
      refine av_goto (tgt := 6) dX4_lettersIn_27 (by decide) ?_
      exact h.2

theorem uX4_isShortRow {E : av_E} {σ : av_M} {Q : Option av_V → av_M → Prop} {a1 : Int} (h : av_W E cSH mX4_isShortRow 4 [some (av_i a1), some (av_i a1), some (av_i 0)] [] σ Q) :
    av_C E cSH mX4_isShortRow [av_i a1] σ Q := by
  refine av_C.ofW (L := [some (av_i a1), none, none]) (by decide) (Nat.le_of_ble_eq_true rfl) rfl ?_
  refine av_iload_n dX4_isShortRow_0 rfl rfl ?_
  refine av_istore_n (L' := [some (av_i a1), some (av_i a1), none]) dX4_isShortRow_1 rfl (by decide) rfl ?_
  refine av_iconst dX4_isShortRow_2 ?_
  refine av_istore_n (L' := [some (av_i a1), some (av_i a1), some (av_i 0)]) dX4_isShortRow_3 rfl (by decide) rfl ?_
  exact h

theorem uX4_isShortRow_4 {E : av_E} {σ : av_M} {Q : Option av_V → av_M → Prop} {x0 x1 x2 : Int} (h : (rg x2) ∧ (((4 ≤ x2) → (rg x1) ∧ (((¬ x1 = 0) → Q (some (av_i 0)) σ) ∧ ((x1 = 0) → Q (some (av_i 1)) σ))) ∧ ((x2 < 4) → (rg x1) ∧ (((x1 ≤ 0) → (rg x1) ∧ (((¬ x1 = 0) → Q (some (av_i 0)) σ) ∧ ((x1 = 0) → Q (some (av_i 1)) σ))) ∧ ((0 < x1) → (0 ≤ x1 ∧ x1 < 2147483648) ∧ ((rg (x1 % 6)) ∧ (((¬ (x1 % 6) = 0) → (0 ≤ x1 ∧ x1 < 2147483648) ∧ (av_W E cSH mX4_isShortRow 4 [some (av_i x0), some (av_i (x1 / 6)), some (av_i (x2 + 1))] [] σ Q)) ∧ (((x1 % 6) = 0) → Q (some (av_i 0)) σ)))))))) :
    av_W E cSH mX4_isShortRow 4 [some (av_i x0), some (av_i x1), some (av_i x2)] [] σ Q := by
  refine av_iload_n dX4_isShortRow_4 rfl rfl ?_
  refine av_iconst dX4_isShortRow_5 ?_
  refine av_icmp_ge (tgt := 33) dX4_isShortRow_6 (by decide) h.1 (by decide) (fun c => ?_) (fun c => ?_)
  · have h := h.2.1 c
    refine av_iload_n dX4_isShortRow_33 rfl rfl ?_
    refine av_if_ne (tgt := 41) dX4_isShortRow_34 (by decide) h.1 (fun c => ?_) (fun c => ?_)
    · have h := h.2.1 c
      refine av_iconst dX4_isShortRow_41 ?_
      exact av_zreturn dX4_isShortRow_42 rfl (by decide) h
    · have h := h.2.2 c
      refine av_iconst dX4_isShortRow_37 ?_
      refine av_goto (tgt := 42) dX4_isShortRow_38 (by decide) ?_
      exact av_zreturn dX4_isShortRow_42 rfl (by decide) h
  · have h := h.2.2 c
    refine av_iload_n dX4_isShortRow_9 rfl rfl ?_
    refine av_if_le (tgt := 33) dX4_isShortRow_10 (by decide) h.1 (fun c => ?_) (fun c => ?_)
    · have h := h.2.1 c
      refine av_iload_n dX4_isShortRow_33 rfl rfl ?_
      refine av_if_ne (tgt := 41) dX4_isShortRow_34 (by decide) h.1 (fun c => ?_) (fun c => ?_)
      · have h := h.2.1 c
        refine av_iconst dX4_isShortRow_41 ?_
        exact av_zreturn dX4_isShortRow_42 rfl (by decide) h
      · have h := h.2.2 c
        refine av_iconst dX4_isShortRow_37 ?_
        refine av_goto (tgt := 42) dX4_isShortRow_38 (by decide) ?_
        exact av_zreturn dX4_isShortRow_42 rfl (by decide) h
    · have h := h.2.2 c
      refine av_iload_n dX4_isShortRow_13 rfl rfl ?_
      refine av_bipush dX4_isShortRow_14 rfl ?_
      refine av_irem dX4_isShortRow_16 h.1 (by decide) ?_
      refine av_if_ne (tgt := 22) dX4_isShortRow_17 (by decide) h.2.1 (fun c => ?_) (fun c => ?_)
      · have h := h.2.2.1 c
        refine av_iload_n dX4_isShortRow_22 rfl rfl ?_
        refine av_bipush dX4_isShortRow_23 rfl ?_
        refine av_idiv dX4_isShortRow_25 h.1 (by decide) ?_
        refine av_istore_n (L' := [some (av_i x0), some (av_i (x1 / 6)), some (av_i x2)]) dX4_isShortRow_26 rfl (by decide) rfl ?_
        refine av_iinc (L' := [some (av_i x0), some (av_i (x1 / 6)), some (av_i (x2 + 1))]) dX4_isShortRow_27 rfl (by decide) rfl rfl ?_
        refine av_goto (tgt := 4) dX4_isShortRow_30 (by decide) ?_
        exact h.2
      · have h := h.2.2.2 c
        refine av_iconst dX4_isShortRow_20 ?_
        exact av_zreturn dX4_isShortRow_21 rfl (by decide) h

theorem uX4_rowOfWall {E : av_E} {σ : av_M} {Q : Option av_V → av_M → Prop} {a1 a2 : Int} (h : (rg a1) ∧ ((rg a2) ∧ ((0 ≤ ((((7919 * a1) + (6151 * a2)) + 1) * (((7919 * a1) + (6151 * a2)) + 1)) ∧ ((((7919 * a1) + (6151 * a2)) + 1) * (((7919 * a1) + (6151 * a2)) + 1)) < 9223372036854775808) ∧ ((0 ≤ (((((7919 * a1) + (6151 * a2)) + 1) * (((7919 * a1) + (6151 * a2)) + 1)) % 65521) ∧ (((((7919 * a1) + (6151 * a2)) + 1) * (((7919 * a1) + (6151 * a2)) + 1)) % 65521) < 2147483648) ∧ ((0 ≤ (((((7919 * a1) + (6151 * a2)) + 1) * (((7919 * a1) + (6151 * a2)) + 1)) % 65521) ∧ (((((7919 * a1) + (6151 * a2)) + 1) * (((7919 * a1) + (6151 * a2)) + 1)) % 65521) < 2147483648) ∧ (av_W E cSH mX4_rowOfWall 46 [some (av_i a1), some (av_i a2), some (av_l (((7919 * a1) + (6151 * a2)) + 1)), none, some (av_i (((((7919 * a1) + (6151 * a2)) + 1) * (((7919 * a1) + (6151 * a2)) + 1)) % 65521)), some (av_i (1 + ((((((7919 * a1) + (6151 * a2)) + 1) * (((7919 * a1) + (6151 * a2)) + 1)) % 65521) % 4))), some (av_i ((((((7919 * a1) + (6151 * a2)) + 1) * (((7919 * a1) + (6151 * a2)) + 1)) % 65521) / 4)), some (av_i 0), some (av_i 0)] [] σ Q)))))) :
    av_C E cSH mX4_rowOfWall [av_i a1, av_i a2] σ Q := by
  refine av_C.ofW (L := [some (av_i a1), some (av_i a2), none, none, none, none, none, none, none]) (by decide) (Nat.le_of_ble_eq_true rfl) rfl ?_
  refine av_ldc2 dX4_rowOfWall_0 rfl wK_X4_236 ?_
  refine av_iload_n dX4_rowOfWall_3 rfl rfl ?_
  refine av_i2l dX4_rowOfWall_4 h.1 ?_
  refine av_lmul dX4_rowOfWall_5 ?_
  refine av_ldc2 dX4_rowOfWall_6 rfl wK_X4_238 ?_
  refine av_iload_n dX4_rowOfWall_9 rfl rfl ?_
  refine av_i2l dX4_rowOfWall_10 h.2.1 ?_
  refine av_lmul dX4_rowOfWall_11 ?_
  refine av_ladd dX4_rowOfWall_12 ?_
  refine av_lconst (x := 1) dX4_rowOfWall_13 rfl ?_
  refine av_ladd dX4_rowOfWall_14 ?_
  refine av_lstore_n (L' := [some (av_i a1), some (av_i a2), some (av_l (((7919 * a1) + (6151 * a2)) + 1)), none, none, none, none, none, none]) dX4_rowOfWall_15 rfl (by decide) rfl ?_
  refine av_lload_n dX4_rowOfWall_16 rfl rfl ?_
  refine av_lload_n dX4_rowOfWall_17 rfl rfl ?_
  refine av_lmul dX4_rowOfWall_18 ?_
  refine av_ldc2 dX4_rowOfWall_19 rfl wK_X4_240 ?_
  refine av_lrem dX4_rowOfWall_22 h.2.2.1 (by decide) ?_
  refine av_l2i dX4_rowOfWall_23 ?_
  refine av_istore (L' := [some (av_i a1), some (av_i a2), some (av_l (((7919 * a1) + (6151 * a2)) + 1)), none, some (av_i (((((7919 * a1) + (6151 * a2)) + 1) * (((7919 * a1) + (6151 * a2)) + 1)) % 65521)), none, none, none, none]) dX4_rowOfWall_24 (by decide) rfl ?_
  refine av_iconst dX4_rowOfWall_26 ?_
  refine av_iload dX4_rowOfWall_27 rfl ?_
  refine av_iconst dX4_rowOfWall_29 ?_
  refine av_irem dX4_rowOfWall_30 h.2.2.2.1 (by decide) ?_
  refine av_iadd dX4_rowOfWall_31 ?_
  refine av_istore (L' := [some (av_i a1), some (av_i a2), some (av_l (((7919 * a1) + (6151 * a2)) + 1)), none, some (av_i (((((7919 * a1) + (6151 * a2)) + 1) * (((7919 * a1) + (6151 * a2)) + 1)) % 65521)), some (av_i (1 + ((((((7919 * a1) + (6151 * a2)) + 1) * (((7919 * a1) + (6151 * a2)) + 1)) % 65521) % 4))), none, none, none]) dX4_rowOfWall_32 (by decide) rfl ?_
  refine av_iload dX4_rowOfWall_34 rfl ?_
  refine av_iconst dX4_rowOfWall_36 ?_
  refine av_idiv dX4_rowOfWall_37 h.2.2.2.2.1 (by decide) ?_
  refine av_istore (L' := [some (av_i a1), some (av_i a2), some (av_l (((7919 * a1) + (6151 * a2)) + 1)), none, some (av_i (((((7919 * a1) + (6151 * a2)) + 1) * (((7919 * a1) + (6151 * a2)) + 1)) % 65521)), some (av_i (1 + ((((((7919 * a1) + (6151 * a2)) + 1) * (((7919 * a1) + (6151 * a2)) + 1)) % 65521) % 4))), some (av_i ((((((7919 * a1) + (6151 * a2)) + 1) * (((7919 * a1) + (6151 * a2)) + 1)) % 65521) / 4)), none, none]) dX4_rowOfWall_38 (by decide) rfl ?_
  refine av_iconst dX4_rowOfWall_40 ?_
  refine av_istore (L' := [some (av_i a1), some (av_i a2), some (av_l (((7919 * a1) + (6151 * a2)) + 1)), none, some (av_i (((((7919 * a1) + (6151 * a2)) + 1) * (((7919 * a1) + (6151 * a2)) + 1)) % 65521)), some (av_i (1 + ((((((7919 * a1) + (6151 * a2)) + 1) * (((7919 * a1) + (6151 * a2)) + 1)) % 65521) % 4))), some (av_i ((((((7919 * a1) + (6151 * a2)) + 1) * (((7919 * a1) + (6151 * a2)) + 1)) % 65521) / 4)), some (av_i 0), none]) dX4_rowOfWall_41 (by decide) rfl ?_
  refine av_iconst dX4_rowOfWall_43 ?_
  refine av_istore (L' := [some (av_i a1), some (av_i a2), some (av_l (((7919 * a1) + (6151 * a2)) + 1)), none, some (av_i (((((7919 * a1) + (6151 * a2)) + 1) * (((7919 * a1) + (6151 * a2)) + 1)) % 65521)), some (av_i (1 + ((((((7919 * a1) + (6151 * a2)) + 1) * (((7919 * a1) + (6151 * a2)) + 1)) % 65521) % 4))), some (av_i ((((((7919 * a1) + (6151 * a2)) + 1) * (((7919 * a1) + (6151 * a2)) + 1)) % 65521) / 4)), some (av_i 0), some (av_i 0)]) dX4_rowOfWall_44 (by decide) rfl ?_
  exact h.2.2.2.2.2

theorem uX4_rowOfWall_46 {E : av_E} {σ : av_M} {Q : Option av_V → av_M → Prop} {x0 x1 x2 x4 x5 x6 x7 x8 : Int} (h : (rg x8) ∧ ((rg x5) ∧ (((x5 ≤ x8) → Q (some (av_i x7)) σ) ∧ ((x8 < x5) → (0 ≤ x6 ∧ x6 < 2147483648) ∧ ((0 ≤ x6 ∧ x6 < 2147483648) ∧ (av_W E cSH mX4_rowOfWall 46 [some (av_i x0), some (av_i x1), some (av_l x2), none, some (av_i x4), some (av_i x5), some (av_i (x6 / 5)), some (av_i (((x7 * 6) + (x6 % 5)) + 1)), some (av_i (x8 + 1))] [] σ Q)))))) :
    av_W E cSH mX4_rowOfWall 46 [some (av_i x0), some (av_i x1), some (av_l x2), none, some (av_i x4), some (av_i x5), some (av_i x6), some (av_i x7), some (av_i x8)] [] σ Q := by
  refine av_iload dX4_rowOfWall_46 rfl ?_
  refine av_iload dX4_rowOfWall_48 rfl ?_
  refine av_icmp_ge (tgt := 79) dX4_rowOfWall_50 (by decide) h.1 h.2.1 (fun c => ?_) (fun c => ?_)
  · have h := h.2.2.1 c
    refine av_iload dX4_rowOfWall_79 rfl ?_
    exact av_ireturn dX4_rowOfWall_81 rfl h
  · have h := h.2.2.2 c
    refine av_iload dX4_rowOfWall_53 rfl ?_
    refine av_bipush dX4_rowOfWall_55 rfl ?_
    refine av_imul dX4_rowOfWall_57 ?_
    refine av_iload dX4_rowOfWall_58 rfl ?_
    refine av_iconst dX4_rowOfWall_60 ?_
    refine av_irem dX4_rowOfWall_61 h.1 (by decide) ?_
    refine av_iadd dX4_rowOfWall_62 ?_
    refine av_iconst dX4_rowOfWall_63 ?_
    refine av_iadd dX4_rowOfWall_64 ?_
    refine av_istore (L' := [some (av_i x0), some (av_i x1), some (av_l x2), none, some (av_i x4), some (av_i x5), some (av_i x6), some (av_i (((x7 * 6) + (x6 % 5)) + 1)), some (av_i x8)]) dX4_rowOfWall_65 (by decide) rfl ?_
    refine av_iload dX4_rowOfWall_67 rfl ?_
    refine av_iconst dX4_rowOfWall_69 ?_
    refine av_idiv dX4_rowOfWall_70 h.2.1 (by decide) ?_
    refine av_istore (L' := [some (av_i x0), some (av_i x1), some (av_l x2), none, some (av_i x4), some (av_i x5), some (av_i (x6 / 5)), some (av_i (((x7 * 6) + (x6 % 5)) + 1)), some (av_i x8)]) dX4_rowOfWall_71 (by decide) rfl ?_
    refine av_iinc (L' := [some (av_i x0), some (av_i x1), some (av_l x2), none, some (av_i x4), some (av_i x5), some (av_i (x6 / 5)), some (av_i (((x7 * 6) + (x6 % 5)) + 1)), some (av_i (x8 + 1))]) dX4_rowOfWall_73 rfl (by decide) rfl rfl ?_
    refine av_goto (tgt := 46) dX4_rowOfWall_76 (by decide) ?_
    exact h.2.2

theorem uX4_holds {E : av_E} {σ : av_M} {Q : Option av_V → av_M → Prop} {a1 a2 : Int} (h : (rg (i_and (i_shr a1 a2) 1)) ∧ (((¬ (i_and (i_shr a1 a2) 1) = 1) → Q (some (av_i 0)) σ) ∧ (((i_and (i_shr a1 a2) 1) = 1) → Q (some (av_i 1)) σ))) :
    av_C E cSH mX4_holds [av_i a1, av_i a2] σ Q := by
  refine av_C.ofW (L := [some (av_i a1), some (av_i a2)]) (by decide) (Nat.le_of_ble_eq_true rfl) rfl ?_
  refine av_iload_n dX4_holds_0 rfl rfl ?_
  refine av_iload_n dX4_holds_1 rfl rfl ?_
  refine av_ishr dX4_holds_2 ?_
  refine av_iconst dX4_holds_3 ?_
  refine av_iand dX4_holds_4 ?_
  refine av_iconst dX4_holds_5 ?_
  refine av_icmp_ne (tgt := 13) dX4_holds_6 (by decide) h.1 (by decide) (fun c => ?_) (fun c => ?_)
  · have h := h.2.1 c
    refine av_iconst dX4_holds_13 ?_
    exact av_zreturn dX4_holds_14 rfl (by decide) h
  · have h := h.2.2 c
    refine av_iconst dX4_holds_9 ?_
    refine av_goto (tgt := 14) dX4_holds_10 (by decide) ?_
    exact av_zreturn dX4_holds_14 rfl (by decide) h

theorem uX4_wordsOfRoot {E : av_E} {σ : av_M} {Q : Option av_V → av_M → Prop} {a1 : Int} (h : Q (some (av_i (i_shl 3 (2 * a1)))) σ) :
    av_C E cSH mX4_wordsOfRoot [av_i a1] σ Q := by
  refine av_C.ofW (L := [some (av_i a1)]) (by decide) (Nat.le_of_ble_eq_true rfl) rfl ?_
  refine av_iconst dX4_wordsOfRoot_0 ?_
  refine av_iconst dX4_wordsOfRoot_1 ?_
  refine av_iload_n dX4_wordsOfRoot_2 rfl rfl ?_
  refine av_imul dX4_wordsOfRoot_3 ?_
  refine av_ishl dX4_wordsOfRoot_4 ?_
  exact av_ireturn dX4_wordsOfRoot_5 rfl h

theorem uX4_wordsOfRoots {E : av_E} {σ : av_M} {Q : Option av_V → av_M → Prop} {a1 : Int} (h : av_W E cSH mX4_wordsOfRoots 4 [some (av_r 0), some (av_i a1), some (av_i 0), some (av_i 0)] [] σ Q) :
    av_C E cSH mX4_wordsOfRoots [av_r 0, av_i a1] σ Q := by
  refine av_C.ofW (L := [some (av_r 0), some (av_i a1), none, none]) (by decide) (Nat.le_of_ble_eq_true rfl) rfl ?_
  refine av_iconst dX4_wordsOfRoots_0 ?_
  refine av_istore_n (L' := [some (av_r 0), some (av_i a1), some (av_i 0), none]) dX4_wordsOfRoots_1 rfl (by decide) rfl ?_
  refine av_iconst dX4_wordsOfRoots_2 ?_
  refine av_istore_n (L' := [some (av_r 0), some (av_i a1), some (av_i 0), some (av_i 0)]) dX4_wordsOfRoots_3 rfl (by decide) rfl ?_
  exact h

theorem uX4_wordsOfRoots_4 {E : av_E} {σ : av_M} {Q : Option av_V → av_M → Prop} {x1 x2 x3 : Int} (h : (rg x3) ∧ ((rg (σ 3 8)) ∧ ((((σ 3 8) ≤ x3) → Q (some (av_i x2)) σ) ∧ ((x3 < (σ 3 8)) → av_C E cSH mX4_holds [av_i x1, av_i x3] σ (fun v s1 => ∃ r1 : Int, v = some (av_i r1) ∧ ((rg r1) ∧ (((r1 = 0) → av_W E cSH mX4_wordsOfRoots 4 [some (av_r 0), some (av_i x1), some (av_i (i_or x2 0)), some (av_i (x3 + 1))] [] s1 Q) ∧ ((¬ r1 = 0) → av_C E cSH mX4_wordsOfRoot [av_i x3] s1 (fun v s2 => ∃ r2 : Int, v = some (av_i r2) ∧ (av_W E cSH mX4_wordsOfRoots 4 [some (av_r 0), some (av_i x1), some (av_i (i_or x2 r2)), some (av_i (x3 + 1))] [] s2 Q)))))))))) :
    av_W E cSH mX4_wordsOfRoots 4 [some (av_r 0), some (av_i x1), some (av_i x2), some (av_i x3)] [] σ Q := by
  refine av_iload_n dX4_wordsOfRoots_4 rfl rfl ?_
  refine av_aload_n dX4_wordsOfRoots_5 rfl rfl ?_
  refine av_getr (k := 1) dX4_wordsOfRoots_6 rfl rfl iuX4 (by decide) rfl wF_X4_42 rfl ?_
  refine av_get (k := 8) (x := (σ 3 8)) dX4_wordsOfRoots_9 rfl rfl iuX3 (by decide) rfl wF_X4_87 rfl rfl ?_
  refine av_icmp_ge (tgt := 40) dX4_wordsOfRoots_12 (by decide) h.1 h.2.1 (fun c => ?_) (fun c => ?_)
  · have h := h.2.2.1 c
    refine av_iload_n dX4_wordsOfRoots_40 rfl rfl ?_
    exact av_ireturn dX4_wordsOfRoots_41 rfl h
  · have h := h.2.2.2 c
    refine av_iload_n dX4_wordsOfRoots_15 rfl rfl ?_
    refine av_iload_n dX4_wordsOfRoots_16 rfl rfl ?_
    refine av_iload_n dX4_wordsOfRoots_17 rfl rfl ?_
    refine av_callS mX4_holds [av_i x1, av_i x3] [av_i x2] dX4_wordsOfRoots_18 mbX4_holds rfl wT_X4_holds rfl wM_X4_150 ⟨Nat.le_of_ble_eq_true rfl, Nat.le_of_ble_eq_true rfl⟩ rfl (Nat.le_of_ble_eq_true rfl) (av_C.mono (fun v s1 hh => ?_) h)
    obtain ⟨r1, rfl, h⟩ := hh
    change av_W E cSH mX4_wordsOfRoots 21 [some (av_r 0), some (av_i x1), some (av_i x2), some (av_i x3)] [av_i r1, av_i x2] s1 Q
    refine av_if_eq (tgt := 31) dX4_wordsOfRoots_21 (by decide) h.1 (fun c => ?_) (fun c => ?_)
    · have h := h.2.1 c
      refine av_iconst dX4_wordsOfRoots_31 ?_
      refine av_ior dX4_wordsOfRoots_32 ?_
      refine av_istore_n (L' := [some (av_r 0), some (av_i x1), some (av_i (i_or x2 0)), some (av_i x3)]) dX4_wordsOfRoots_33 rfl (by decide) rfl ?_
      refine av_iinc (L' := [some (av_r 0), some (av_i x1), some (av_i (i_or x2 0)), some (av_i (x3 + 1))]) dX4_wordsOfRoots_34 rfl (by decide) rfl rfl ?_
      refine av_goto (tgt := 4) dX4_wordsOfRoots_37 (by decide) ?_
      exact h
    · have h := h.2.2 c
      refine av_iload_n dX4_wordsOfRoots_24 rfl rfl ?_
      refine av_callS mX4_wordsOfRoot [av_i x3] [av_i x2] dX4_wordsOfRoots_25 mbX4_wordsOfRoot rfl wT_X4_wordsOfRoot rfl wM_X4_186 ⟨Nat.le_of_ble_eq_true rfl, Nat.le_of_ble_eq_true rfl⟩ rfl (Nat.le_of_ble_eq_true rfl) (av_C.mono (fun v s2 hh => ?_) h)
      obtain ⟨r2, rfl, h⟩ := hh
      change av_W E cSH mX4_wordsOfRoots 28 [some (av_r 0), some (av_i x1), some (av_i x2), some (av_i x3)] [av_i r2, av_i x2] s2 Q
      refine av_goto (tgt := 32) dX4_wordsOfRoots_28 (by decide) ?_
      refine av_ior dX4_wordsOfRoots_32 ?_
      refine av_istore_n (L' := [some (av_r 0), some (av_i x1), some (av_i (i_or x2 r2)), some (av_i x3)]) dX4_wordsOfRoots_33 rfl (by decide) rfl ?_
      refine av_iinc (L' := [some (av_r 0), some (av_i x1), some (av_i (i_or x2 r2)), some (av_i (x3 + 1))]) dX4_wordsOfRoots_34 rfl (by decide) rfl rfl ?_
      refine av_goto (tgt := 4) dX4_wordsOfRoots_37 (by decide) ?_
      exact h

theorem uX4_oddsOf {E : av_E} {σ : av_M} {Q : Option av_V → av_M → Prop} {a1 a2 : Int} (h : av_C E cSH mJ6_bitCount_0f7a4 [av_i a1] σ (fun v s1 => ∃ r1 : Int, v = some (av_i r1) ∧ (av_C E cSH mJ6_bitCount_0f7a4 [av_i a1] s1 (fun v s2 => ∃ r2 : Int, v = some (av_i r2) ∧ (av_C E cSH mX4_power [av_i (10 - a2), av_i r2] s2 (fun v s3 => ∃ r3 : Int, v = some (av_l r3) ∧ (av_C E cSH mX4_power [av_i a2, av_i ((σ 3 8) - r1)] s3 (fun v s4 => ∃ r4 : Int, v = some (av_l r4) ∧ (Q (some (av_l (r3 * r4))) s4))))))))) :
    av_C E cSH mX4_oddsOf [av_r 0, av_i a1, av_i a2] σ Q := by
  refine av_C.ofW (L := [some (av_r 0), some (av_i a1), some (av_i a2), none]) (by decide) (Nat.le_of_ble_eq_true rfl) rfl ?_
  refine av_aload_n dX4_oddsOf_0 rfl rfl ?_
  refine av_getr (k := 1) dX4_oddsOf_1 rfl rfl iuX4 (by decide) rfl wF_X4_42 rfl ?_
  refine av_get (k := 8) (x := (σ 3 8)) dX4_oddsOf_4 rfl rfl iuX3 (by decide) rfl wF_X4_87 rfl rfl ?_
  refine av_iload_n dX4_oddsOf_7 rfl rfl ?_
  refine av_callS mJ6_bitCount_0f7a4 [av_i a1] [av_i (σ 3 8)] dX4_oddsOf_8 mbJ6_bitCount_0f7a4 rfl wT_J6_bitCount_0f7a4 rfl wM_X4_242 ⟨Nat.le_of_ble_eq_true rfl, Nat.le_of_ble_eq_true rfl⟩ rfl (Nat.le_of_ble_eq_true rfl) (av_C.mono (fun v s1 hh => ?_) h)
  obtain ⟨r1, rfl, h⟩ := hh
  change av_W E cSH mX4_oddsOf 11 [some (av_r 0), some (av_i a1), some (av_i a2), none] [av_i r1, av_i (σ 3 8)] s1 Q
  refine av_isub dX4_oddsOf_11 ?_
  refine av_istore_n (L' := [some (av_r 0), some (av_i a1), some (av_i a2), some (av_i ((σ 3 8) - r1))]) dX4_oddsOf_12 rfl (by decide) rfl ?_
  refine av_bipush dX4_oddsOf_13 rfl ?_
  refine av_iload_n dX4_oddsOf_15 rfl rfl ?_
  refine av_isub dX4_oddsOf_16 ?_
  refine av_iload_n dX4_oddsOf_17 rfl rfl ?_
  refine av_callS mJ6_bitCount_0f7a4 [av_i a1] [av_i (10 - a2)] dX4_oddsOf_18 mbJ6_bitCount_0f7a4 rfl wT_J6_bitCount_0f7a4 rfl wM_X4_242 ⟨Nat.le_of_ble_eq_true rfl, Nat.le_of_ble_eq_true rfl⟩ rfl (Nat.le_of_ble_eq_true rfl) (av_C.mono (fun v s2 hh => ?_) h)
  obtain ⟨r2, rfl, h⟩ := hh
  change av_W E cSH mX4_oddsOf 21 [some (av_r 0), some (av_i a1), some (av_i a2), some (av_i ((σ 3 8) - r1))] [av_i r2, av_i (10 - a2)] s2 Q
  refine av_callS mX4_power [av_i (10 - a2), av_i r2] [] dX4_oddsOf_21 mbX4_power rfl wT_X4_power rfl wM_X4_221 ⟨Nat.le_of_ble_eq_true rfl, Nat.le_of_ble_eq_true rfl⟩ rfl (Nat.le_of_ble_eq_true rfl) (av_C.mono (fun v s3 hh => ?_) h)
  obtain ⟨r3, rfl, h⟩ := hh
  change av_W E cSH mX4_oddsOf 24 [some (av_r 0), some (av_i a1), some (av_i a2), some (av_i ((σ 3 8) - r1))] [av_l r3] s3 Q
  refine av_iload_n dX4_oddsOf_24 rfl rfl ?_
  refine av_iload_n dX4_oddsOf_25 rfl rfl ?_
  refine av_callS mX4_power [av_i a2, av_i ((σ 3 8) - r1)] [av_l r3] dX4_oddsOf_26 mbX4_power rfl wT_X4_power rfl wM_X4_221 ⟨Nat.le_of_ble_eq_true rfl, Nat.le_of_ble_eq_true rfl⟩ rfl (Nat.le_of_ble_eq_true rfl) (av_C.mono (fun v s4 hh => ?_) h)
  obtain ⟨r4, rfl, h⟩ := hh
  change av_W E cSH mX4_oddsOf 29 [some (av_r 0), some (av_i a1), some (av_i a2), some (av_i ((σ 3 8) - r1))] [av_l r4, av_l r3] s4 Q
  refine av_lmul dX4_oddsOf_29 ?_
  exact av_lreturn dX4_oddsOf_30 rfl h

theorem uX4_power {E : av_E} {σ : av_M} {Q : Option av_V → av_M → Prop} {a1 a2 : Int} (h : av_W E cSH mX4_power 5 [some (av_i a1), some (av_i a2), some (av_l 1), none, some (av_i 0)] [] σ Q) :
    av_C E cSH mX4_power [av_i a1, av_i a2] σ Q := by
  refine av_C.ofW (L := [some (av_i a1), some (av_i a2), none, none, none]) (by decide) (Nat.le_of_ble_eq_true rfl) rfl ?_
  refine av_lconst (x := 1) dX4_power_0 rfl ?_
  refine av_lstore_n (L' := [some (av_i a1), some (av_i a2), some (av_l 1), none, none]) dX4_power_1 rfl (by decide) rfl ?_
  refine av_iconst dX4_power_2 ?_
  refine av_istore (L' := [some (av_i a1), some (av_i a2), some (av_l 1), none, some (av_i 0)]) dX4_power_3 (by decide) rfl ?_
  exact h

theorem uX4_power_5 {E : av_E} {σ : av_M} {Q : Option av_V → av_M → Prop} {x0 x1 x2 x4 : Int} (h : (rg x4) ∧ ((rg x1) ∧ (((x1 ≤ x4) → Q (some (av_l x2)) σ) ∧ ((x4 < x1) → (rg x0) ∧ (av_W E cSH mX4_power 5 [some (av_i x0), some (av_i x1), some (av_l (x2 * x0)), none, some (av_i (x4 + 1))] [] σ Q))))) :
    av_W E cSH mX4_power 5 [some (av_i x0), some (av_i x1), some (av_l x2), none, some (av_i x4)] [] σ Q := by
  refine av_iload dX4_power_5 rfl ?_
  refine av_iload_n dX4_power_7 rfl rfl ?_
  refine av_icmp_ge (tgt := 22) dX4_power_8 (by decide) h.1 h.2.1 (fun c => ?_) (fun c => ?_)
  · have h := h.2.2.1 c
    refine av_lload_n dX4_power_22 rfl rfl ?_
    exact av_lreturn dX4_power_23 rfl h
  · have h := h.2.2.2 c
    refine av_lload_n dX4_power_11 rfl rfl ?_
    refine av_iload_n dX4_power_12 rfl rfl ?_
    refine av_i2l dX4_power_13 h.1 ?_
    refine av_lmul dX4_power_14 ?_
    refine av_lstore_n (L' := [some (av_i x0), some (av_i x1), some (av_l (x2 * x0)), none, some (av_i x4)]) dX4_power_15 rfl (by decide) rfl ?_
    refine av_iinc (L' := [some (av_i x0), some (av_i x1), some (av_l (x2 * x0)), none, some (av_i (x4 + 1))]) dX4_power_16 rfl (by decide) rfl rfl ?_
    refine av_goto (tgt := 5) dX4_power_19 (by decide) ?_
    exact h.2

theorem uX4_inLowestTerms {E : av_E} {σ : av_M} {Q : Option av_V → av_M → Prop} {a1 a2 a3 : Int} (h : (rg6 a1) ∧ ((rg (i_cmp a1 0)) ∧ ((((i_cmp a1 0) ≤ 0) → Q (some (av_i a3)) σ) ∧ ((0 < (i_cmp a1 0)) → (rg6 a2) ∧ ((rg (i_cmp a2 0)) ∧ (((0 < (i_cmp a2 0)) → av_W E cSH mX4_inLowestTerms 24 [some (av_l a1), none, some (av_l a2), none, some (av_i a3), some (av_l a1), none, some (av_l a2), none, some (av_i 0), none, none] [] σ Q) ∧ (((i_cmp a2 0) ≤ 0) → Q (some (av_i a3)) σ))))))) :
    av_C E cSH mX4_inLowestTerms [av_l a1, av_l a2, av_i a3] σ Q := by
  refine av_C.ofW (L := [some (av_l a1), none, some (av_l a2), none, some (av_i a3), none, none, none, none, none, none, none]) (by decide) (Nat.le_of_ble_eq_true rfl) rfl ?_
  refine av_lload_n dX4_inLowestTerms_0 rfl rfl ?_
  refine av_lconst (x := 0) dX4_inLowestTerms_1 rfl ?_
  refine av_lcmp dX4_inLowestTerms_2 h.1 (by decide) ?_
  refine av_if_le (tgt := 12) dX4_inLowestTerms_3 (by decide) h.2.1 (fun c => ?_) (fun c => ?_)
  · have h := h.2.2.1 c
    refine av_iload dX4_inLowestTerms_12 rfl ?_
    exact av_ireturn dX4_inLowestTerms_14 rfl h
  · have h := h.2.2.2 c
    refine av_lload_n dX4_inLowestTerms_6 rfl rfl ?_
    refine av_lconst (x := 0) dX4_inLowestTerms_7 rfl ?_
    refine av_lcmp dX4_inLowestTerms_8 h.1 (by decide) ?_
    refine av_if_gt (tgt := 15) dX4_inLowestTerms_9 (by decide) h.2.1 (fun c => ?_) (fun c => ?_)
    · have h := h.2.2.1 c
      refine av_lload_n dX4_inLowestTerms_15 rfl rfl ?_
      refine av_lstore (L' := [some (av_l a1), none, some (av_l a2), none, some (av_i a3), some (av_l a1), none, none, none, none, none, none]) dX4_inLowestTerms_16 (by decide) rfl ?_
      refine av_lload_n dX4_inLowestTerms_18 rfl rfl ?_
      refine av_lstore (L' := [some (av_l a1), none, some (av_l a2), none, some (av_i a3), some (av_l a1), none, some (av_l a2), none, none, none, none]) dX4_inLowestTerms_19 (by decide) rfl ?_
      refine av_iconst dX4_inLowestTerms_21 ?_
      refine av_istore (L' := [some (av_l a1), none, some (av_l a2), none, some (av_i a3), some (av_l a1), none, some (av_l a2), none, some (av_i 0), none, none]) dX4_inLowestTerms_22 (by decide) rfl ?_
      exact h
    · have h := h.2.2.2 c
      refine av_iload dX4_inLowestTerms_12 rfl ?_
      exact av_ireturn dX4_inLowestTerms_14 rfl h

theorem uX4_inLowestTerms_24 {E : av_E} {σ : av_M} {Q : Option av_V → av_M → Prop} {x0 x2 x4 x5 x7 x9 : Int} (h : (rg x9) ∧ (((128 ≤ x9) → (rg6 x5) ∧ ((rg (i_cmp x5 0)) ∧ (((¬ (i_cmp x5 0) = 0) → (rg x4) ∧ (((¬ x4 = 0) → (0 ≤ x2 ∧ x2 < 9223372036854775808) ∧ ((0 < x5 ∧ x5 < 9223372036854775808) ∧ (Q (some (av_i (x2 / x5))) σ))) ∧ ((x4 = 0) → (0 ≤ x0 ∧ x0 < 9223372036854775808) ∧ ((0 < x5 ∧ x5 < 9223372036854775808) ∧ (Q (some (av_i (x0 / x5))) σ))))) ∧ (((i_cmp x5 0) = 0) → Q (some (av_i x4)) σ)))) ∧ ((x9 < 128) → (rg6 x7) ∧ ((rg (i_cmp x7 0)) ∧ ((((i_cmp x7 0) ≤ 0) → (rg6 x5) ∧ ((rg (i_cmp x5 0)) ∧ (((¬ (i_cmp x5 0) = 0) → (rg x4) ∧ (((¬ x4 = 0) → (0 ≤ x2 ∧ x2 < 9223372036854775808) ∧ ((0 < x5 ∧ x5 < 9223372036854775808) ∧ (Q (some (av_i (x2 / x5))) σ))) ∧ ((x4 = 0) → (0 ≤ x0 ∧ x0 < 9223372036854775808) ∧ ((0 < x5 ∧ x5 < 9223372036854775808) ∧ (Q (some (av_i (x0 / x5))) σ))))) ∧ (((i_cmp x5 0) = 0) → Q (some (av_i x4)) σ)))) ∧ ((0 < (i_cmp x7 0)) → (0 ≤ x5 ∧ x5 < 9223372036854775808) ∧ ((0 < x7 ∧ x7 < 9223372036854775808) ∧ (av_W E cSH mX4_inLowestTerms 24 [some (av_l x0), none, some (av_l x2), none, some (av_i x4), some (av_l x7), none, some (av_l (x5 % x7)), none, some (av_i (x9 + 1)), none, none] [] σ Q)))))))) :
    av_W E cSH mX4_inLowestTerms 24 [some (av_l x0), none, some (av_l x2), none, some (av_i x4), some (av_l x5), none, some (av_l x7), none, some (av_i x9), none, none] [] σ Q := by
  refine av_iload dX4_inLowestTerms_24 rfl ?_
  refine av_sipush dX4_inLowestTerms_26 rfl ?_
  refine av_icmp_ge (tgt := 60) dX4_inLowestTerms_29 (by decide) h.1 (by decide) (fun c => ?_) (fun c => ?_)
  · have h := h.2.1 c
    refine av_lload dX4_inLowestTerms_60 rfl ?_
    refine av_lconst (x := 0) dX4_inLowestTerms_62 rfl ?_
    refine av_lcmp dX4_inLowestTerms_63 h.1 (by decide) ?_
    refine av_if_ne (tgt := 70) dX4_inLowestTerms_64 (by decide) h.2.1 (fun c => ?_) (fun c => ?_)
    · have h := h.2.2.1 c
      refine av_iload dX4_inLowestTerms_70 rfl ?_
      refine av_if_ne (tgt := 79) dX4_inLowestTerms_72 (by decide) h.1 (fun c => ?_) (fun c => ?_)
      · have h := h.2.1 c
        refine av_lload_n dX4_inLowestTerms_79 rfl rfl ?_
        refine av_lload dX4_inLowestTerms_80 rfl ?_
        refine av_ldiv dX4_inLowestTerms_82 h.1 h.2.1 ?_
        refine av_l2i dX4_inLowestTerms_83 ?_
        exact av_ireturn dX4_inLowestTerms_84 rfl h.2.2
      · have h := h.2.2 c
        refine av_lload_n dX4_inLowestTerms_75 rfl rfl ?_
        refine av_goto (tgt := 80) dX4_inLowestTerms_76 (by decide) ?_
        refine av_lload dX4_inLowestTerms_80 rfl ?_
        refine av_ldiv dX4_inLowestTerms_82 h.1 h.2.1 ?_
        refine av_l2i dX4_inLowestTerms_83 ?_
        exact av_ireturn dX4_inLowestTerms_84 rfl h.2.2
    · have h := h.2.2.2 c
      refine av_iload dX4_inLowestTerms_67 rfl ?_
      exact av_ireturn dX4_inLowestTerms_69 rfl h
  · have h := h.2.2 c
    refine av_lload dX4_inLowestTerms_32 rfl ?_
    refine av_lconst (x := 0) dX4_inLowestTerms_34 rfl ?_
    refine av_lcmp dX4_inLowestTerms_35 h.1 (by decide) ?_
    refine av_if_le (tgt := 60) dX4_inLowestTerms_36 (by decide) h.2.1 (fun c => ?_) (fun c => ?_)
    · have h := h.2.2.1 c
      refine av_lload dX4_inLowestTerms_60 rfl ?_
      refine av_lconst (x := 0) dX4_inLowestTerms_62 rfl ?_
      refine av_lcmp dX4_inLowestTerms_63 h.1 (by decide) ?_
      refine av_if_ne (tgt := 70) dX4_inLowestTerms_64 (by decide) h.2.1 (fun c => ?_) (fun c => ?_)
      · have h := h.2.2.1 c
        refine av_iload dX4_inLowestTerms_70 rfl ?_
        refine av_if_ne (tgt := 79) dX4_inLowestTerms_72 (by decide) h.1 (fun c => ?_) (fun c => ?_)
        · have h := h.2.1 c
          refine av_lload_n dX4_inLowestTerms_79 rfl rfl ?_
          refine av_lload dX4_inLowestTerms_80 rfl ?_
          refine av_ldiv dX4_inLowestTerms_82 h.1 h.2.1 ?_
          refine av_l2i dX4_inLowestTerms_83 ?_
          exact av_ireturn dX4_inLowestTerms_84 rfl h.2.2
        · have h := h.2.2 c
          refine av_lload_n dX4_inLowestTerms_75 rfl rfl ?_
          refine av_goto (tgt := 80) dX4_inLowestTerms_76 (by decide) ?_
          refine av_lload dX4_inLowestTerms_80 rfl ?_
          refine av_ldiv dX4_inLowestTerms_82 h.1 h.2.1 ?_
          refine av_l2i dX4_inLowestTerms_83 ?_
          exact av_ireturn dX4_inLowestTerms_84 rfl h.2.2
      · have h := h.2.2.2 c
        refine av_iload dX4_inLowestTerms_67 rfl ?_
        exact av_ireturn dX4_inLowestTerms_69 rfl h
    · have h := h.2.2.2 c
      refine av_lload dX4_inLowestTerms_39 rfl ?_
      refine av_lload dX4_inLowestTerms_41 rfl ?_
      refine av_lrem dX4_inLowestTerms_43 h.1 h.2.1 ?_
      refine av_lstore (L' := [some (av_l x0), none, some (av_l x2), none, some (av_i x4), some (av_l x5), none, some (av_l x7), none, some (av_i x9), some (av_l (x5 % x7)), none]) dX4_inLowestTerms_44 (by decide) rfl ?_
      refine av_lload dX4_inLowestTerms_46 rfl ?_
      refine av_lstore (L' := [some (av_l x0), none, some (av_l x2), none, some (av_i x4), some (av_l x7), none, some (av_l x7), none, some (av_i x9), some (av_l (x5 % x7)), none]) dX4_inLowestTerms_48 (by decide) rfl ?_
      refine av_lload dX4_inLowestTerms_50 rfl ?_
      refine av_lstore (L' := [some (av_l x0), none, some (av_l x2), none, some (av_i x4), some (av_l x7), none, some (av_l (x5 % x7)), none, some (av_i x9), some (av_l (x5 % x7)), none]) dX4_inLowestTerms_52 (by decide) rfl ?_
      refine av_iinc (L' := [some (av_l x0), none, some (av_l x2), none, some (av_i x4), some (av_l x7), none, some (av_l (x5 % x7)), none, some (av_i (x9 + 1)), some (av_l (x5 % x7)), none]) dX4_inLowestTerms_54 rfl (by decide) rfl rfl ?_
      refine av_goto (tgt := 24) dX4_inLowestTerms_57 (by decide) ?_
      refine av_res [true, false, true, false, true, true, false, true, false, true, false, false] (L' := [some (av_l x0), none, some (av_l x2), none, some (av_i x4), some (av_l x7), none, some (av_l (x5 % x7)), none, some (av_i (x9 + 1)), none, none]) rfl ?_
      exact h.2.2

theorem uJ6_bitCount_0f7a4 {E : av_E} {σ : av_M} {Q : Option av_V → av_M → Prop} {a1 : Int} (h : Q (some (av_i (i_and (((i_and (((i_and (a1 - (i_and (i_ushr a1 1) 1431655765)) 858993459) + (i_and (i_ushr (a1 - (i_and (i_ushr a1 1) 1431655765)) 2) 858993459)) + (i_ushr ((i_and (a1 - (i_and (i_ushr a1 1) 1431655765)) 858993459) + (i_and (i_ushr (a1 - (i_and (i_ushr a1 1) 1431655765)) 2) 858993459)) 4)) 252645135) + (i_ushr (i_and (((i_and (a1 - (i_and (i_ushr a1 1) 1431655765)) 858993459) + (i_and (i_ushr (a1 - (i_and (i_ushr a1 1) 1431655765)) 2) 858993459)) + (i_ushr ((i_and (a1 - (i_and (i_ushr a1 1) 1431655765)) 858993459) + (i_and (i_ushr (a1 - (i_and (i_ushr a1 1) 1431655765)) 2) 858993459)) 4)) 252645135) 8)) + (i_ushr ((i_and (((i_and (a1 - (i_and (i_ushr a1 1) 1431655765)) 858993459) + (i_and (i_ushr (a1 - (i_and (i_ushr a1 1) 1431655765)) 2) 858993459)) + (i_ushr ((i_and (a1 - (i_and (i_ushr a1 1) 1431655765)) 858993459) + (i_and (i_ushr (a1 - (i_and (i_ushr a1 1) 1431655765)) 2) 858993459)) 4)) 252645135) + (i_ushr (i_and (((i_and (a1 - (i_and (i_ushr a1 1) 1431655765)) 858993459) + (i_and (i_ushr (a1 - (i_and (i_ushr a1 1) 1431655765)) 2) 858993459)) + (i_ushr ((i_and (a1 - (i_and (i_ushr a1 1) 1431655765)) 858993459) + (i_and (i_ushr (a1 - (i_and (i_ushr a1 1) 1431655765)) 2) 858993459)) 4)) 252645135) 8)) 16)) 63))) σ) :
    av_C E cSH mJ6_bitCount_0f7a4 [av_i a1] σ Q := by
  refine av_C.ofW (L := [some (av_i a1)]) (by decide) (Nat.le_of_ble_eq_true rfl) rfl ?_
  refine av_iload_n dJ6_bitCount_0f7a4_0 rfl rfl ?_
  refine av_iload_n dJ6_bitCount_0f7a4_1 rfl rfl ?_
  refine av_iconst dJ6_bitCount_0f7a4_2 ?_
  refine av_iushr dJ6_bitCount_0f7a4_3 ?_
  refine av_ldcw dJ6_bitCount_0f7a4_4 rfl wK_J6_265 ?_
  refine av_iand dJ6_bitCount_0f7a4_7 ?_
  refine av_isub dJ6_bitCount_0f7a4_8 ?_
  refine av_istore_n (L' := [some (av_i (a1 - (i_and (i_ushr a1 1) 1431655765)))]) dJ6_bitCount_0f7a4_9 rfl (by decide) rfl ?_
  refine av_iload_n dJ6_bitCount_0f7a4_10 rfl rfl ?_
  refine av_ldcw dJ6_bitCount_0f7a4_11 rfl wK_J6_266 ?_
  refine av_iand dJ6_bitCount_0f7a4_14 ?_
  refine av_iload_n dJ6_bitCount_0f7a4_15 rfl rfl ?_
  refine av_iconst dJ6_bitCount_0f7a4_16 ?_
  refine av_iushr dJ6_bitCount_0f7a4_17 ?_
  refine av_ldcw dJ6_bitCount_0f7a4_18 rfl wK_J6_266 ?_
  refine av_iand dJ6_bitCount_0f7a4_21 ?_
  refine av_iadd dJ6_bitCount_0f7a4_22 ?_
  refine av_istore_n (L' := [some (av_i ((i_and (a1 - (i_and (i_ushr a1 1) 1431655765)) 858993459) + (i_and (i_ushr (a1 - (i_and (i_ushr a1 1) 1431655765)) 2) 858993459)))]) dJ6_bitCount_0f7a4_23 rfl (by decide) rfl ?_
  refine av_iload_n dJ6_bitCount_0f7a4_24 rfl rfl ?_
  refine av_iload_n dJ6_bitCount_0f7a4_25 rfl rfl ?_
  refine av_iconst dJ6_bitCount_0f7a4_26 ?_
  refine av_iushr dJ6_bitCount_0f7a4_27 ?_
  refine av_iadd dJ6_bitCount_0f7a4_28 ?_
  refine av_ldcw dJ6_bitCount_0f7a4_29 rfl wK_J6_267 ?_
  refine av_iand dJ6_bitCount_0f7a4_32 ?_
  refine av_istore_n (L' := [some (av_i (i_and (((i_and (a1 - (i_and (i_ushr a1 1) 1431655765)) 858993459) + (i_and (i_ushr (a1 - (i_and (i_ushr a1 1) 1431655765)) 2) 858993459)) + (i_ushr ((i_and (a1 - (i_and (i_ushr a1 1) 1431655765)) 858993459) + (i_and (i_ushr (a1 - (i_and (i_ushr a1 1) 1431655765)) 2) 858993459)) 4)) 252645135))]) dJ6_bitCount_0f7a4_33 rfl (by decide) rfl ?_
  refine av_iload_n dJ6_bitCount_0f7a4_34 rfl rfl ?_
  refine av_iload_n dJ6_bitCount_0f7a4_35 rfl rfl ?_
  refine av_bipush dJ6_bitCount_0f7a4_36 rfl ?_
  refine av_iushr dJ6_bitCount_0f7a4_38 ?_
  refine av_iadd dJ6_bitCount_0f7a4_39 ?_
  refine av_istore_n (L' := [some (av_i ((i_and (((i_and (a1 - (i_and (i_ushr a1 1) 1431655765)) 858993459) + (i_and (i_ushr (a1 - (i_and (i_ushr a1 1) 1431655765)) 2) 858993459)) + (i_ushr ((i_and (a1 - (i_and (i_ushr a1 1) 1431655765)) 858993459) + (i_and (i_ushr (a1 - (i_and (i_ushr a1 1) 1431655765)) 2) 858993459)) 4)) 252645135) + (i_ushr (i_and (((i_and (a1 - (i_and (i_ushr a1 1) 1431655765)) 858993459) + (i_and (i_ushr (a1 - (i_and (i_ushr a1 1) 1431655765)) 2) 858993459)) + (i_ushr ((i_and (a1 - (i_and (i_ushr a1 1) 1431655765)) 858993459) + (i_and (i_ushr (a1 - (i_and (i_ushr a1 1) 1431655765)) 2) 858993459)) 4)) 252645135) 8)))]) dJ6_bitCount_0f7a4_40 rfl (by decide) rfl ?_
  refine av_iload_n dJ6_bitCount_0f7a4_41 rfl rfl ?_
  refine av_iload_n dJ6_bitCount_0f7a4_42 rfl rfl ?_
  refine av_bipush dJ6_bitCount_0f7a4_43 rfl ?_
  refine av_iushr dJ6_bitCount_0f7a4_45 ?_
  refine av_iadd dJ6_bitCount_0f7a4_46 ?_
  refine av_istore_n (L' := [some (av_i (((i_and (((i_and (a1 - (i_and (i_ushr a1 1) 1431655765)) 858993459) + (i_and (i_ushr (a1 - (i_and (i_ushr a1 1) 1431655765)) 2) 858993459)) + (i_ushr ((i_and (a1 - (i_and (i_ushr a1 1) 1431655765)) 858993459) + (i_and (i_ushr (a1 - (i_and (i_ushr a1 1) 1431655765)) 2) 858993459)) 4)) 252645135) + (i_ushr (i_and (((i_and (a1 - (i_and (i_ushr a1 1) 1431655765)) 858993459) + (i_and (i_ushr (a1 - (i_and (i_ushr a1 1) 1431655765)) 2) 858993459)) + (i_ushr ((i_and (a1 - (i_and (i_ushr a1 1) 1431655765)) 858993459) + (i_and (i_ushr (a1 - (i_and (i_ushr a1 1) 1431655765)) 2) 858993459)) 4)) 252645135) 8)) + (i_ushr ((i_and (((i_and (a1 - (i_and (i_ushr a1 1) 1431655765)) 858993459) + (i_and (i_ushr (a1 - (i_and (i_ushr a1 1) 1431655765)) 2) 858993459)) + (i_ushr ((i_and (a1 - (i_and (i_ushr a1 1) 1431655765)) 858993459) + (i_and (i_ushr (a1 - (i_and (i_ushr a1 1) 1431655765)) 2) 858993459)) 4)) 252645135) + (i_ushr (i_and (((i_and (a1 - (i_and (i_ushr a1 1) 1431655765)) 858993459) + (i_and (i_ushr (a1 - (i_and (i_ushr a1 1) 1431655765)) 2) 858993459)) + (i_ushr ((i_and (a1 - (i_and (i_ushr a1 1) 1431655765)) 858993459) + (i_and (i_ushr (a1 - (i_and (i_ushr a1 1) 1431655765)) 2) 858993459)) 4)) 252645135) 8)) 16)))]) dJ6_bitCount_0f7a4_47 rfl (by decide) rfl ?_
  refine av_iload_n dJ6_bitCount_0f7a4_48 rfl rfl ?_
  refine av_bipush dJ6_bitCount_0f7a4_49 rfl ?_
  refine av_iand dJ6_bitCount_0f7a4_51 ?_
  exact av_ireturn dJ6_bitCount_0f7a4_52 rfl h
