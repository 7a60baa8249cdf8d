theorem uX0_take {E : av_E} {σ : av_M} {Q : Option av_V → av_M → Prop} {a1 a2 : Int} (h : av_C E cSH mX4_lettersIn [av_i a2] (av_st σ 21 5 a1) (fun v s1 => ∃ r1 : Int, v = some (av_i r1) ∧ (av_W E cSH mX0_take 18 [some (av_r 21), some (av_i a1), some (av_i a2), some (av_i a2), some (av_i 0)] [] (av_st s1 21 6 r1) Q))) :
    av_C E cSH mX0_take [av_r 21, av_i a1, av_i a2] σ Q := by
  refine av_C.ofW (L := [some (av_r 21), some (av_i a1), some (av_i a2), none, none]) (by decide) (Nat.le_of_ble_eq_true rfl) rfl ?_
  refine av_aload_n dX0_take_0 rfl rfl ?_
  refine av_iload_n dX0_take_1 rfl rfl ?_
  refine av_put (k := 5) tyX0 dX0_take_2 rfl rfl iuX0 tyX0_ok nmX0 (by decide) rfl wF_X0_31 rfl rfl rfl ?_
  refine av_aload_n dX0_take_5 rfl rfl ?_
  refine av_iload_n dX0_take_6 rfl rfl ?_
  refine av_callN mX4_lettersIn [av_i a2] [av_r 21] dX0_take_7 mbX4_lettersIn rfl wT_X4_lettersIn rfl wNest_X0_35 ⟨Nat.le_of_ble_eq_true rfl, Nat.le_of_ble_eq_true rfl⟩ rfl (Nat.le_of_ble_eq_true rfl) (av_C.mono (fun v s1 hh => ?_) h)
  obtain ⟨r1, rfl, h⟩ := hh
  change av_W E cSH mX0_take 10 [some (av_r 21), some (av_i a1), some (av_i a2), none, none] [av_i r1, av_r 21] s1 Q
  refine av_put (k := 6) tyX0 dX0_take_10 rfl rfl iuX0 tyX0_ok nmX0 (by decide) rfl wF_X0_39 rfl rfl rfl ?_
  refine av_iload_n dX0_take_13 rfl rfl ?_
  refine av_istore_n (L' := [some (av_r 21), some (av_i a1), some (av_i a2), some (av_i a2), none]) dX0_take_14 rfl (by decide) rfl ?_
  refine av_iconst dX0_take_15 ?_
  refine av_istore (L' := [some (av_r 21), some (av_i a1), some (av_i a2), some (av_i a2), some (av_i 0)]) dX0_take_16 (by decide) rfl ?_
  exact h

theorem uX0_take_18 {E : av_E} {σ : av_M} {Q : Option av_V → av_M → Prop} {x1 x2 x3 x4 : Int} (h : (rg x4) ∧ ((rg (σ 21 6)) ∧ ((((σ 21 6) ≤ x4) → av_W E cSH mX0_take 72 [some (av_r 21), some (av_i x1), some (av_i x2), some (av_i x3), some (av_i 0)] [] σ Q) ∧ ((x4 < (σ 21 6)) → (rg (σ 21 5)) ∧ (((¬ (σ 21 5) = 3) → (0 ≤ x3 ∧ x3 < 2147483648) ∧ ((0 ≤ (((σ 21 6) - 1) - x4) ∧ (((σ 21 6) - 1) - x4) < 9) ∧ ((0 ≤ x3 ∧ x3 < 2147483648) ∧ (av_W E cSH mX0_take 18 [some (av_r 21), some (av_i x1), some (av_i x2), some (av_i (x3 / 6)), some (av_i (x4 + 1))] [] (av_st σ 22 ((((σ 21 6) - 1) - x4)).toNat (x3 % 6)) Q)))) ∧ (((σ 21 5) = 3) → (0 ≤ x3 ∧ x3 < 2147483648) ∧ ((0 ≤ x4 ∧ x4 < 9) ∧ ((0 ≤ x3 ∧ x3 < 2147483648) ∧ (av_W E cSH mX0_take 18 [some (av_r 21), some (av_i x1), some (av_i x2), some (av_i (x3 / 6)), some (av_i (x4 + 1))] [] (av_st σ 22 (x4).toNat (x3 % 6)) Q))))))))) :
    av_W E cSH mX0_take 18 [some (av_r 21), some (av_i x1), some (av_i x2), some (av_i x3), some (av_i x4)] [] σ Q := by
  refine av_iload dX0_take_18 rfl ?_
  refine av_aload_n dX0_take_20 rfl rfl ?_
  refine av_get (k := 6) (x := (σ 21 6)) dX0_take_21 rfl rfl iuX0 (by decide) rfl wF_X0_39 rfl rfl ?_
  refine av_icmp_ge (tgt := 69) dX0_take_24 (by decide) h.1 h.2.1 (fun c => ?_) (fun c => ?_)
  · have h := h.2.2.1 c
    refine av_iconst dX0_take_69 ?_
    refine av_istore (L' := [some (av_r 21), some (av_i x1), some (av_i x2), some (av_i x3), some (av_i 0)]) dX0_take_70 (by decide) rfl ?_
    exact h
  · have h := h.2.2.2 c
    refine av_aload_n dX0_take_27 rfl rfl ?_
    refine av_getr (k := 1) dX0_take_28 rfl rfl iuX0 (by decide) rfl wF_X0_11 rfl ?_
    refine av_aload_n dX0_take_31 rfl rfl ?_
    refine av_get (k := 5) (x := (σ 21 5)) dX0_take_32 rfl rfl iuX0 (by decide) rfl wF_X0_31 rfl rfl ?_
    refine av_iconst dX0_take_35 ?_
    refine av_icmp_ne (tgt := 44) dX0_take_36 (by decide) h.1 (by decide) (fun c => ?_) (fun c => ?_)
    · have h := h.2.1 c
      refine av_aload_n dX0_take_44 rfl rfl ?_
      refine av_get (k := 6) (x := (σ 21 6)) dX0_take_45 rfl rfl iuX0 (by decide) rfl wF_X0_39 rfl rfl ?_
      refine av_iconst dX0_take_48 ?_
      refine av_isub dX0_take_49 ?_
      refine av_iload dX0_take_50 rfl ?_
      refine av_isub dX0_take_52 ?_
      refine av_iload_n dX0_take_53 rfl rfl ?_
      refine av_bipush dX0_take_54 rfl ?_
      refine av_irem dX0_take_56 h.1 (by decide) ?_
      refine av_iast dX0_take_57 rfl (by decide) h.2.1 ?_
      refine av_iload_n dX0_take_58 rfl rfl ?_
      refine av_bipush dX0_take_59 rfl ?_
      refine av_idiv dX0_take_61 h.2.2.1 (by decide) ?_
      refine av_istore_n (L' := [some (av_r 21), some (av_i x1), some (av_i x2), some (av_i (x3 / 6)), some (av_i x4)]) dX0_take_62 rfl (by decide) rfl ?_
      refine av_iinc (L' := [some (av_r 21), some (av_i x1), some (av_i x2), some (av_i (x3 / 6)), some (av_i (x4 + 1))]) dX0_take_63 rfl (by decide) rfl rfl ?_
      refine av_goto (tgt := 18) dX0_take_66 (by decide) ?_
      exact h.2.2.2
    · have h := h.2.2 c
      refine av_iload dX0_take_39 rfl ?_
      refine av_goto (tgt := 53) dX0_take_41 (by decide) ?_
      refine av_iload_n dX0_take_53 rfl rfl ?_
      refine av_bipush dX0_take_54 rfl ?_
      refine av_irem dX0_take_56 h.1 (by decide) ?_
      refine av_iast dX0_take_57 rfl (by decide) h.2.1 ?_
      refine av_iload_n dX0_take_58 rfl rfl ?_
      refine av_bipush dX0_take_59 rfl ?_
      refine av_idiv dX0_take_61 h.2.2.1 (by decide) ?_
      refine av_istore_n (L' := [some (av_r 21), some (av_i x1), some (av_i x2), some (av_i (x3 / 6)), some (av_i x4)]) dX0_take_62 rfl (by decide) rfl ?_
      refine av_iinc (L' := [some (av_r 21), some (av_i x1), some (av_i x2), some (av_i (x3 / 6)), some (av_i (x4 + 1))]) dX0_take_63 rfl (by decide) rfl rfl ?_
      refine av_goto (tgt := 18) dX0_take_66 (by decide) ?_
      exact h.2.2.2

theorem uX0_take_72 {E : av_E} {σ : av_M} {Q : Option av_V → av_M → Prop} {x1 x2 x3 x4 : Int} (h : (rg x4) ∧ ((rg (σ 21 6)) ∧ ((((σ 21 6) ≤ x4) → Q none σ) ∧ ((x4 < (σ 21 6)) → av_C E cSH mX0_fitWords [av_r 21, av_i x4] σ (fun v s1 => v = none ∧ (av_W E cSH mX0_take 72 [some (av_r 21), some (av_i x1), some (av_i x2), some (av_i x3), some (av_i (x4 + 1))] [] s1 Q)))))) :
    av_W E cSH mX0_take 72 [some (av_r 21), some (av_i x1), some (av_i x2), some (av_i x3), some (av_i x4)] [] σ Q := by
  refine av_iload dX0_take_72 rfl ?_
  refine av_aload_n dX0_take_74 rfl rfl ?_
  refine av_get (k := 6) (x := (σ 21 6)) dX0_take_75 rfl rfl iuX0 (by decide) rfl wF_X0_39 rfl rfl ?_
  refine av_icmp_ge (tgt := 93) dX0_take_78 (by decide) h.1 h.2.1 (fun c => ?_) (fun c => ?_)
  · have h := h.2.2.1 c
    exact av_return dX0_take_93 rfl h
  · have h := h.2.2.2 c
    refine av_aload_n dX0_take_81 rfl rfl ?_
    refine av_iload dX0_take_82 rfl ?_
    refine av_callV mX0_fitWords [av_i x4] [] dX0_take_84 rfl rfl rfl mbX0_fitWords rfl wI_X0_fitWords wS_X0_fitWords rfl wM_X0_42 ⟨Nat.le_of_ble_eq_true rfl, Nat.le_of_ble_eq_true rfl⟩ rfl (Nat.le_of_ble_eq_true rfl) (av_C.mono (fun v s1 hh => ?_) h)
    obtain ⟨rfl, h⟩ := hh
    change av_W E cSH mX0_take 87 [some (av_r 21), some (av_i x1), some (av_i x2), some (av_i x3), some (av_i x4)] [] s1 Q
    refine av_iinc (L' := [some (av_r 21), some (av_i x1), some (av_i x2), some (av_i x3), some (av_i (x4 + 1))]) dX0_take_87 rfl (by decide) rfl rfl ?_
    refine av_goto (tgt := 72) dX0_take_90 (by decide) ?_
    exact h

theorem uX0_fitWords {E : av_E} {σ : av_M} {Q : Option av_V → av_M → Prop} {a1 : Int} (h : av_W E cSH mX0_fitWords 4 [some (av_r 21), some (av_i a1), some (av_i 0), some (av_i 0), none] [] σ Q) :
    av_C E cSH mX0_fitWords [av_r 21, av_i a1] σ Q := by
  refine av_C.ofW (L := [some (av_r 21), some (av_i a1), none, none, none]) (by decide) (Nat.le_of_ble_eq_true rfl) rfl ?_
  refine av_iconst dX0_fitWords_0 ?_
  refine av_istore_n (L' := [some (av_r 21), some (av_i a1), some (av_i 0), none, none]) dX0_fitWords_1 rfl (by decide) rfl ?_
  refine av_iconst dX0_fitWords_2 ?_
  refine av_istore_n (L' := [some (av_r 21), some (av_i a1), some (av_i 0), some (av_i 0), none]) dX0_fitWords_3 rfl (by decide) rfl ?_
  exact h

theorem uX0_fitWords_4 {E : av_E} {σ : av_M} {Q : Option av_V → av_M → Prop} {x1 x2 x3 : Int} (h : (rg x3) ∧ (((3 ≤ x3) → Q none σ) ∧ ((x3 < 3) → (rg (x1 + x3)) ∧ ((rg (σ 21 6)) ∧ ((((σ 21 6) ≤ (x1 + x3)) → (0 ≤ ((x1 * 3) + x3) ∧ ((x1 * 3) + x3) < 27) ∧ (av_W E cSH mX0_fitWords 4 [some (av_r 21), some (av_i x1), some (av_i 0), some (av_i (x3 + 1)), none] [] (av_st σ 23 (((x1 * 3) + x3)).toNat (σ 11 0)) Q)) ∧ (((x1 + x3) < (σ 21 6)) → (0 ≤ (x1 + x3) ∧ (x1 + x3) < 9) ∧ ((rg ((x2 * 6) + (σ 22 ((x1 + x3)).toNat))) ∧ (((216 ≤ ((x2 * 6) + (σ 22 ((x1 + x3)).toNat))) → (0 ≤ ((x1 * 3) + x3) ∧ ((x1 * 3) + x3) < 27) ∧ (av_W E cSH mX0_fitWords 4 [some (av_r 21), some (av_i x1), some (av_i ((x2 * 6) + (σ 22 ((x1 + x3)).toNat))), some (av_i (x3 + 1)), none] [] (av_st σ 23 (((x1 * 3) + x3)).toNat 0) Q)) ∧ ((((x2 * 6) + (σ 22 ((x1 + x3)).toNat)) < 216) → (0 ≤ ((x2 * 6) + (σ 22 ((x1 + x3)).toNat)) ∧ ((x2 * 6) + (σ 22 ((x1 + x3)).toNat)) < 216) ∧ ((0 ≤ ((x1 * 3) + x3) ∧ ((x1 * 3) + x3) < 27) ∧ (av_W E cSH mX0_fitWords 4 [some (av_r 21), some (av_i x1), some (av_i ((x2 * 6) + (σ 22 ((x1 + x3)).toNat))), some (av_i (x3 + 1)), none] [] (av_st σ 23 (((x1 * 3) + x3)).toNat (σ 11 (((x2 * 6) + (σ 22 ((x1 + x3)).toNat))).toNat)) Q))))))))))) :
    av_W E cSH mX0_fitWords 4 [some (av_r 21), some (av_i x1), some (av_i x2), some (av_i x3), none] [] σ Q := by
  refine av_iload_n dX0_fitWords_4 rfl rfl ?_
  refine av_iconst dX0_fitWords_5 ?_
  refine av_icmp_ge (tgt := 85) dX0_fitWords_6 (by decide) h.1 (by decide) (fun c => ?_) (fun c => ?_)
  · have h := h.2.1 c
    exact av_return dX0_fitWords_85 rfl h
  · have h := h.2.2 c
    refine av_iload_n dX0_fitWords_9 rfl rfl ?_
    refine av_iload_n dX0_fitWords_10 rfl rfl ?_
    refine av_iadd dX0_fitWords_11 ?_
    refine av_aload_n dX0_fitWords_12 rfl rfl ?_
    refine av_get (k := 6) (x := (σ 21 6)) dX0_fitWords_13 rfl rfl iuX0 (by decide) rfl wF_X0_39 rfl rfl ?_
    refine av_icmp_ge (tgt := 23) dX0_fitWords_16 (by decide) h.1 h.2.1 (fun c => ?_) (fun c => ?_)
    · have h := h.2.2.1 c
      refine av_iconst dX0_fitWords_23 ?_
      refine av_istore (L' := [some (av_r 21), some (av_i x1), some (av_i x2), some (av_i x3), some (av_i 0)]) dX0_fitWords_24 (by decide) rfl ?_
      refine av_iload dX0_fitWords_26 rfl ?_
      refine av_if_eq (tgt := 47) dX0_fitWords_28 (by decide) (by decide) (fun _ => ?_) (fun c => absurd c (by decide))
      refine av_iconst dX0_fitWords_47 ?_
      refine av_istore_n (L' := [some (av_r 21), some (av_i x1), some (av_i 0), some (av_i x3), some (av_i 0)]) dX0_fitWords_48 rfl (by decide) rfl ?_
      refine av_aload_n dX0_fitWords_49 rfl rfl ?_
      refine av_getr (k := 2) dX0_fitWords_50 rfl rfl iuX0 (by decide) rfl wF_X0_15 rfl ?_
      refine av_iload_n dX0_fitWords_53 rfl rfl ?_
      refine av_iconst dX0_fitWords_54 ?_
      refine av_imul dX0_fitWords_55 ?_
      refine av_iload_n dX0_fitWords_56 rfl rfl ?_
      refine av_iadd dX0_fitWords_57 ?_
      refine av_iload_n dX0_fitWords_58 rfl rfl ?_
      refine av_sipush dX0_fitWords_59 rfl ?_
      refine av_icmp_ge (tgt := 77) dX0_fitWords_62 (by decide) (by decide) (by decide) (fun c => absurd c (by decide)) (fun _ => ?_)
      refine av_aload_n dX0_fitWords_65 rfl rfl ?_
      refine av_getr (k := 0) dX0_fitWords_66 rfl rfl iuX0 (by decide) rfl wF_X0_27 rfl ?_
      refine av_getr (k := 7) dX0_fitWords_69 rfl rfl iuX3 (by decide) rfl wF_X0_46 rfl ?_
      refine av_iload_n dX0_fitWords_72 rfl rfl ?_
      refine av_iald (x := (σ 11 0)) dX0_fitWords_73 rfl (by decide) (by decide) rfl ?_
      refine av_goto (tgt := 78) dX0_fitWords_74 (by decide) ?_
      refine av_iast dX0_fitWords_78 rfl (by decide) h.1 ?_
      refine av_iinc (L' := [some (av_r 21), some (av_i x1), some (av_i 0), some (av_i (x3 + 1)), some (av_i 0)]) dX0_fitWords_79 rfl (by decide) rfl rfl ?_
      refine av_goto (tgt := 4) dX0_fitWords_82 (by decide) ?_
      refine av_res [true, true, true, true, false] (L' := [some (av_r 21), some (av_i x1), some (av_i 0), some (av_i (x3 + 1)), none]) rfl ?_
      exact h.2
    · have h := h.2.2.2 c
      refine av_iconst dX0_fitWords_19 ?_
      refine av_goto (tgt := 24) dX0_fitWords_20 (by decide) ?_
      refine av_istore (L' := [some (av_r 21), some (av_i x1), some (av_i x2), some (av_i x3), some (av_i 1)]) dX0_fitWords_24 (by decide) rfl ?_
      refine av_iload dX0_fitWords_26 rfl ?_
      refine av_if_eq (tgt := 47) dX0_fitWords_28 (by decide) (by decide) (fun c => absurd c (by decide)) (fun _ => ?_)
      refine av_iload_n dX0_fitWords_31 rfl rfl ?_
      refine av_bipush dX0_fitWords_32 rfl ?_
      refine av_imul dX0_fitWords_34 ?_
      refine av_aload_n dX0_fitWords_35 rfl rfl ?_
      refine av_getr (k := 1) dX0_fitWords_36 rfl rfl iuX0 (by decide) rfl wF_X0_11 rfl ?_
      refine av_iload_n dX0_fitWords_39 rfl rfl ?_
      refine av_iload_n dX0_fitWords_40 rfl rfl ?_
      refine av_iadd dX0_fitWords_41 ?_
      refine av_iald (x := (σ 22 ((x1 + x3)).toNat)) dX0_fitWords_42 rfl (by decide) h.1 rfl ?_
      refine av_iadd dX0_fitWords_43 ?_
      refine av_goto (tgt := 48) dX0_fitWords_44 (by decide) ?_
      refine av_istore_n (L' := [some (av_r 21), some (av_i x1), some (av_i ((x2 * 6) + (σ 22 ((x1 + x3)).toNat))), some (av_i x3), some (av_i 1)]) dX0_fitWords_48 rfl (by decide) rfl ?_
      refine av_aload_n dX0_fitWords_49 rfl rfl ?_
      refine av_getr (k := 2) dX0_fitWords_50 rfl rfl iuX0 (by decide) rfl wF_X0_15 rfl ?_
      refine av_iload_n dX0_fitWords_53 rfl rfl ?_
      refine av_iconst dX0_fitWords_54 ?_
      refine av_imul dX0_fitWords_55 ?_
      refine av_iload_n dX0_fitWords_56 rfl rfl ?_
      refine av_iadd dX0_fitWords_57 ?_
      refine av_iload_n dX0_fitWords_58 rfl rfl ?_
      refine av_sipush dX0_fitWords_59 rfl ?_
      refine av_icmp_ge (tgt := 77) dX0_fitWords_62 (by decide) h.2.1 (by decide) (fun c => ?_) (fun c => ?_)
      · have h := h.2.2.1 c
        refine av_iconst dX0_fitWords_77 ?_
        refine av_iast dX0_fitWords_78 rfl (by decide) h.1 ?_
        refine av_iinc (L' := [some (av_r 21), some (av_i x1), some (av_i ((x2 * 6) + (σ 22 ((x1 + x3)).toNat))), some (av_i (x3 + 1)), some (av_i 1)]) dX0_fitWords_79 rfl (by decide) rfl rfl ?_
        refine av_goto (tgt := 4) dX0_fitWords_82 (by decide) ?_
        refine av_res [true, true, true, true, false] (L' := [some (av_r 21), some (av_i x1), some (av_i ((x2 * 6) + (σ 22 ((x1 + x3)).toNat))), some (av_i (x3 + 1)), none]) rfl ?_
        exact h.2
      · have h := h.2.2.2 c
        refine av_aload_n dX0_fitWords_65 rfl rfl ?_
        refine av_getr (k := 0) dX0_fitWords_66 rfl rfl iuX0 (by decide) rfl wF_X0_27 rfl ?_
        refine av_getr (k := 7) dX0_fitWords_69 rfl rfl iuX3 (by decide) rfl wF_X0_46 rfl ?_
        refine av_iload_n dX0_fitWords_72 rfl rfl ?_
        refine av_iald (x := (σ 11 (((x2 * 6) + (σ 22 ((x1 + x3)).toNat))).toNat)) dX0_fitWords_73 rfl (by decide) h.1 rfl ?_
        refine av_goto (tgt := 78) dX0_fitWords_74 (by decide) ?_
        refine av_iast dX0_fitWords_78 rfl (by decide) h.2.1 ?_
        refine av_iinc (L' := [some (av_r 21), some (av_i x1), some (av_i ((x2 * 6) + (σ 22 ((x1 + x3)).toNat))), some (av_i (x3 + 1)), some (av_i 1)]) dX0_fitWords_79 rfl (by decide) rfl rfl ?_
        refine av_goto (tgt := 4) dX0_fitWords_82 (by decide) ?_
        refine av_res [true, true, true, true, false] (L' := [some (av_r 21), some (av_i x1), some (av_i ((x2 * 6) + (σ 22 ((x1 + x3)).toNat))), some (av_i (x3 + 1)), none]) rfl ?_
        exact h.2.2

theorem uX0_tally {E : av_E} {σ : av_M} {Q : Option av_V → av_M → Prop} {a1 : Int} (h : av_W E cSH mX0_tally 7 [some (av_r 21), some (av_i a1), some (av_i 0)] [] (av_st σ 21 7 a1) Q) :
    av_C E cSH mX0_tally [av_r 21, av_i a1] σ Q := by
  refine av_C.ofW (L := [some (av_r 21), some (av_i a1), none]) (by decide) (Nat.le_of_ble_eq_true rfl) rfl ?_
  refine av_aload_n dX0_tally_0 rfl rfl ?_
  refine av_iload_n dX0_tally_1 rfl rfl ?_
  refine av_put (k := 7) tyX0 dX0_tally_2 rfl rfl iuX0 tyX0_ok nmX0 (by decide) rfl wF_X0_51 rfl rfl rfl ?_
  refine av_iconst dX0_tally_5 ?_
  refine av_istore_n (L' := [some (av_r 21), some (av_i a1), some (av_i 0)]) dX0_tally_6 rfl (by decide) rfl ?_
  exact h

theorem uX0_tally_7 {E : av_E} {σ : av_M} {Q : Option av_V → av_M → Prop} {x1 x2 : Int} (h : (rg x2) ∧ (((3 ≤ x2) → av_W E cSH mX0_tally 51 [some (av_r 21), some (av_i x1), some (av_i ((σ 21 6) - 1))] [] σ Q) ∧ ((x2 < 3) → av_C E cSH mX0_mayEndAt [av_r 21, av_i x2] σ (fun v s1 => ∃ r1 : Int, v = some (av_i r1) ∧ ((rg r1) ∧ (((r1 = 0) → (0 ≤ (((σ 21 6) * 3) + x2) ∧ (((σ 21 6) * 3) + x2) < 30) ∧ (av_W E cSH mX0_tally 7 [some (av_r 21), some (av_i x1), some (av_i (x2 + 1))] [] (av_st s1 24 ((((σ 21 6) * 3) + x2)).toNat 0) Q)) ∧ ((¬ r1 = 0) → (0 ≤ (((σ 21 6) * 3) + x2) ∧ (((σ 21 6) * 3) + x2) < 30) ∧ (av_W E cSH mX0_tally 7 [some (av_r 21), some (av_i x1), some (av_i (x2 + 1))] [] (av_st s1 24 ((((σ 21 6) * 3) + x2)).toNat 1) Q)))))))) :
    av_W E cSH mX0_tally 7 [some (av_r 21), some (av_i x1), some (av_i x2)] [] σ Q := by
  refine av_iload_n dX0_tally_7 rfl rfl ?_
  refine av_iconst dX0_tally_8 ?_
  refine av_icmp_ge (tgt := 44) dX0_tally_9 (by decide) h.1 (by decide) (fun c => ?_) (fun c => ?_)
  · have h := h.2.1 c
    refine av_aload_n dX0_tally_44 rfl rfl ?_
    refine av_get (k := 6) (x := (σ 21 6)) dX0_tally_45 rfl rfl iuX0 (by decide) rfl wF_X0_39 rfl rfl ?_
    refine av_iconst dX0_tally_48 ?_
    refine av_isub dX0_tally_49 ?_
    refine av_istore_n (L' := [some (av_r 21), some (av_i x1), some (av_i ((σ 21 6) - 1))]) dX0_tally_50 rfl (by decide) rfl ?_
    exact h
  · have h := h.2.2 c
    refine av_aload_n dX0_tally_12 rfl rfl ?_
    refine av_getr (k := 3) dX0_tally_13 rfl rfl iuX0 (by decide) rfl wF_X0_18 rfl ?_
    refine av_aload_n dX0_tally_16 rfl rfl ?_
    refine av_get (k := 6) (x := (σ 21 6)) dX0_tally_17 rfl rfl iuX0 (by decide) rfl wF_X0_39 rfl rfl ?_
    refine av_iconst dX0_tally_20 ?_
    refine av_imul dX0_tally_21 ?_
    refine av_iload_n dX0_tally_22 rfl rfl ?_
    refine av_iadd dX0_tally_23 ?_
    refine av_aload_n dX0_tally_24 rfl rfl ?_
    refine av_iload_n dX0_tally_25 rfl rfl ?_
    refine av_callV mX0_mayEndAt [av_i x2] [av_i (((σ 21 6) * 3) + x2), av_r 24] dX0_tally_26 rfl rfl rfl mbX0_mayEndAt rfl wI_X0_mayEndAt wS_X0_mayEndAt rfl wM_X0_54 ⟨Nat.le_of_ble_eq_true rfl, Nat.le_of_ble_eq_true rfl⟩ rfl (Nat.le_of_ble_eq_true rfl) (av_C.mono (fun v s1 hh => ?_) h)
    obtain ⟨r1, rfl, h⟩ := hh
    change av_W E cSH mX0_tally 29 [some (av_r 21), some (av_i x1), some (av_i x2)] [av_i r1, av_i (((σ 21 6) * 3) + x2), av_r 24] s1 Q
    refine av_if_eq (tgt := 36) dX0_tally_29 (by decide) h.1 (fun c => ?_) (fun c => ?_)
    · have h := h.2.1 c
      refine av_iconst dX0_tally_36 ?_
      refine av_iast dX0_tally_37 rfl (by decide) h.1 ?_
      refine av_iinc (L' := [some (av_r 21), some (av_i x1), some (av_i (x2 + 1))]) dX0_tally_38 rfl (by decide) rfl rfl ?_
      refine av_goto (tgt := 7) dX0_tally_41 (by decide) ?_
      exact h.2
    · have h := h.2.2 c
      refine av_iconst dX0_tally_32 ?_
      refine av_goto (tgt := 37) dX0_tally_33 (by decide) ?_
      refine av_iast dX0_tally_37 rfl (by decide) h.1 ?_
      refine av_iinc (L' := [some (av_r 21), some (av_i x1), some (av_i (x2 + 1))]) dX0_tally_38 rfl (by decide) rfl rfl ?_
      refine av_goto (tgt := 7) dX0_tally_41 (by decide) ?_
      exact h.2

theorem uX0_tally_51 {E : av_E} {σ : av_M} {Q : Option av_V → av_M → Prop} {x1 x2 : Int} (h : (rg x2) ∧ (((x2 < 0) → (rg (σ 21 6)) ∧ (((¬ (σ 21 6) = 0) → Q (some (av_i (σ 24 0))) σ) ∧ (((σ 21 6) = 0) → Q (some (av_i 0)) σ))) ∧ ((0 ≤ x2) → av_C E cSH mX0_tallyFrom [av_r 21, av_i x2] σ (fun v s1 => v = none ∧ (av_W E cSH mX0_tally 51 [some (av_r 21), some (av_i x1), some (av_i (x2 + (-1)))] [] s1 Q))))) :
    av_W E cSH mX0_tally 51 [some (av_r 21), some (av_i x1), some (av_i x2)] [] σ Q := by
  refine av_iload_n dX0_tally_51 rfl rfl ?_
  refine av_if_lt (tgt := 66) dX0_tally_52 (by decide) h.1 (fun c => ?_) (fun c => ?_)
  · have h := h.2.1 c
    refine av_aload_n dX0_tally_66 rfl rfl ?_
    refine av_get (k := 6) (x := (σ 21 6)) dX0_tally_67 rfl rfl iuX0 (by decide) rfl wF_X0_39 rfl rfl ?_
    refine av_if_ne (tgt := 77) dX0_tally_70 (by decide) h.1 (fun c => ?_) (fun c => ?_)
    · have h := h.2.1 c
      refine av_aload_n dX0_tally_77 rfl rfl ?_
      refine av_getr (k := 3) dX0_tally_78 rfl rfl iuX0 (by decide) rfl wF_X0_18 rfl ?_
      refine av_iconst dX0_tally_81 ?_
      refine av_iald (x := (σ 24 0)) dX0_tally_82 rfl (by decide) (by decide) rfl ?_
      exact av_ireturn dX0_tally_83 rfl h
    · have h := h.2.2 c
      refine av_iconst dX0_tally_73 ?_
      refine av_goto (tgt := 83) dX0_tally_74 (by decide) ?_
      exact av_ireturn dX0_tally_83 rfl h
  · have h := h.2.2 c
    refine av_aload_n dX0_tally_55 rfl rfl ?_
    refine av_iload_n dX0_tally_56 rfl rfl ?_
    refine av_callV mX0_tallyFrom [av_i x2] [] dX0_tally_57 rfl rfl rfl mbX0_tallyFrom rfl wI_X0_tallyFrom wS_X0_tallyFrom rfl wM_X0_58 ⟨Nat.le_of_ble_eq_true rfl, Nat.le_of_ble_eq_true rfl⟩ rfl (Nat.le_of_ble_eq_true rfl) (av_C.mono (fun v s1 hh => ?_) h)
    obtain ⟨rfl, h⟩ := hh
    change av_W E cSH mX0_tally 60 [some (av_r 21), some (av_i x1), some (av_i x2)] [] s1 Q
    refine av_iinc (L' := [some (av_r 21), some (av_i x1), some (av_i (x2 + (-1)))]) dX0_tally_60 rfl (by decide) rfl rfl ?_
    refine av_goto (tgt := 51) dX0_tally_63 (by decide) ?_
    exact h

theorem uX0_tallyFrom {E : av_E} {σ : av_M} {Q : Option av_V → av_M → Prop} {a1 : Int} (h : av_W E cSH mX0_tallyFrom 10 [some (av_r 21), some (av_i a1), some (av_i 0), some (av_i 0), some (av_i 0), some (av_i 0), none, none] [] σ Q) :
    av_C E cSH mX0_tallyFrom [av_r 21, av_i a1] σ Q := by
  refine av_C.ofW (L := [some (av_r 21), some (av_i a1), none, none, none, none, none, none]) (by decide) (Nat.le_of_ble_eq_true rfl) rfl ?_
  refine av_iconst dX0_tallyFrom_0 ?_
  refine av_istore_n (L' := [some (av_r 21), some (av_i a1), some (av_i 0), none, none, none, none, none]) dX0_tallyFrom_1 rfl (by decide) rfl ?_
  refine av_iconst dX0_tallyFrom_2 ?_
  refine av_istore_n (L' := [some (av_r 21), some (av_i a1), some (av_i 0), some (av_i 0), none, none, none, none]) dX0_tallyFrom_3 rfl (by decide) rfl ?_
  refine av_iconst dX0_tallyFrom_4 ?_
  refine av_istore (L' := [some (av_r 21), some (av_i a1), some (av_i 0), some (av_i 0), some (av_i 0), none, none, none]) dX0_tallyFrom_5 (by decide) rfl ?_
  refine av_iconst dX0_tallyFrom_7 ?_
  refine av_istore (L' := [some (av_r 21), some (av_i a1), some (av_i 0), some (av_i 0), some (av_i 0), some (av_i 0), none, none]) dX0_tallyFrom_8 (by decide) rfl ?_
  exact h

theorem uX0_tallyFrom_10 {E : av_E} {σ : av_M} {Q : Option av_V → av_M → Prop} {x1 x2 x3 x4 x5 : Int} (h : (rg x5) ∧ (((3 ≤ x5) → (0 ≤ ((x1 * 3) + 0) ∧ ((x1 * 3) + 0) < 30) ∧ ((0 ≤ ((x1 * 3) + 1) ∧ ((x1 * 3) + 1) < 30) ∧ ((0 ≤ ((x1 * 3) + 2) ∧ ((x1 * 3) + 2) < 30) ∧ (Q none (av_st (av_st (av_st σ 24 (((x1 * 3) + 0)).toNat x2) 24 (((x1 * 3) + 1)).toNat x3) 24 (((x1 * 3) + 2)).toNat x4))))) ∧ ((x5 < 3) → (rg (x1 + x5)) ∧ ((rg (σ 21 6)) ∧ ((((σ 21 6) ≤ (x1 + x5)) → (0 ≤ ((x1 * 3) + 0) ∧ ((x1 * 3) + 0) < 30) ∧ ((0 ≤ ((x1 * 3) + 1) ∧ ((x1 * 3) + 1) < 30) ∧ ((0 ≤ ((x1 * 3) + 2) ∧ ((x1 * 3) + 2) < 30) ∧ (Q none (av_st (av_st (av_st σ 24 (((x1 * 3) + 0)).toNat x2) 24 (((x1 * 3) + 1)).toNat x3) 24 (((x1 * 3) + 2)).toNat x4))))) ∧ (((x1 + x5) < (σ 21 6)) → (0 ≤ ((x1 * 3) + x5) ∧ ((x1 * 3) + x5) < 27) ∧ ((rg (i_and (i_and (σ 23 (((x1 * 3) + x5)).toNat) (σ 21 7)) 21845)) ∧ ((((i_and (i_and (σ 23 (((x1 * 3) + x5)).toNat) (σ 21 7)) 21845) = 0) → (rg (i_and (i_and (σ 23 (((x1 * 3) + x5)).toNat) (σ 21 7)) (-21846))) ∧ ((((i_and (i_and (σ 23 (((x1 * 3) + x5)).toNat) (σ 21 7)) (-21846)) = 0) → av_W E cSH mX0_tallyFrom 10 [some (av_r 21), some (av_i x1), some (av_i x2), some (av_i x3), some (av_i x4), some (av_i (x5 + 1)), none, none] [] σ Q) ∧ ((¬ (i_and (i_and (σ 23 (((x1 * 3) + x5)).toNat) (σ 21 7)) (-21846)) = 0) → (0 ≤ ((((x1 + x5) + 1) * 3) + 2) ∧ ((((x1 + x5) + 1) * 3) + 2) < 30) ∧ ((0 ≤ ((((x1 + x5) + 1) * 3) + 2) ∧ ((((x1 + x5) + 1) * 3) + 2) < 30) ∧ (av_W E cSH mX0_tallyFrom 10 [some (av_r 21), some (av_i x1), some (av_i (x2 + (σ 24 (((((x1 + x5) + 1) * 3) + 2)).toNat))), some (av_i (x3 + (σ 24 (((((x1 + x5) + 1) * 3) + 2)).toNat))), some (av_i x4), some (av_i (x5 + 1)), none, none] [] σ Q))))) ∧ ((¬ (i_and (i_and (σ 23 (((x1 * 3) + x5)).toNat) (σ 21 7)) 21845) = 0) → (0 ≤ ((((x1 + x5) + 1) * 3) + 0) ∧ ((((x1 + x5) + 1) * 3) + 0) < 30) ∧ ((0 ≤ ((((x1 + x5) + 1) * 3) + 1) ∧ ((((x1 + x5) + 1) * 3) + 1) < 30) ∧ ((0 ≤ ((((x1 + x5) + 1) * 3) + 1) ∧ ((((x1 + x5) + 1) * 3) + 1) < 30) ∧ ((rg (i_and (i_and (σ 23 (((x1 * 3) + x5)).toNat) (σ 21 7)) (-21846))) ∧ ((((i_and (i_and (σ 23 (((x1 * 3) + x5)).toNat) (σ 21 7)) (-21846)) = 0) → av_W E cSH mX0_tallyFrom 10 [some (av_r 21), some (av_i x1), some (av_i (x2 + (σ 24 (((((x1 + x5) + 1) * 3) + 0)).toNat))), some (av_i (x3 + (σ 24 (((((x1 + x5) + 1) * 3) + 1)).toNat))), some (av_i (x4 + (σ 24 (((((x1 + x5) + 1) * 3) + 1)).toNat))), some (av_i (x5 + 1)), none, none] [] σ Q) ∧ ((¬ (i_and (i_and (σ 23 (((x1 * 3) + x5)).toNat) (σ 21 7)) (-21846)) = 0) → (0 ≤ ((((x1 + x5) + 1) * 3) + 2) ∧ ((((x1 + x5) + 1) * 3) + 2) < 30) ∧ ((0 ≤ ((((x1 + x5) + 1) * 3) + 2) ∧ ((((x1 + x5) + 1) * 3) + 2) < 30) ∧ (av_W E cSH mX0_tallyFrom 10 [some (av_r 21), some (av_i x1), some (av_i ((x2 + (σ 24 (((((x1 + x5) + 1) * 3) + 0)).toNat)) + (σ 24 (((((x1 + x5) + 1) * 3) + 2)).toNat))), some (av_i ((x3 + (σ 24 (((((x1 + x5) + 1) * 3) + 1)).toNat)) + (σ 24 (((((x1 + x5) + 1) * 3) + 2)).toNat))), some (av_i (x4 + (σ 24 (((((x1 + x5) + 1) * 3) + 1)).toNat))), some (av_i (x5 + 1)), none, none] [] σ Q)))))))))))))))) :
    av_W E cSH mX0_tallyFrom 10 [some (av_r 21), some (av_i x1), some (av_i x2), some (av_i x3), some (av_i x4), some (av_i x5), none, none] [] σ Q := by
  refine av_iload dX0_tallyFrom_10 rfl ?_
  refine av_iconst dX0_tallyFrom_12 ?_
  refine av_icmp_ge (tgt := 141) dX0_tallyFrom_13 (by decide) h.1 (by decide) (fun c => ?_) (fun c => ?_)
  · have h := h.2.1 c
    refine av_aload_n dX0_tallyFrom_141 rfl rfl ?_
    refine av_getr (k := 3) dX0_tallyFrom_142 rfl rfl iuX0 (by decide) rfl wF_X0_18 rfl ?_
    refine av_iload_n dX0_tallyFrom_145 rfl rfl ?_
    refine av_iconst dX0_tallyFrom_146 ?_
    refine av_imul dX0_tallyFrom_147 ?_
    refine av_iconst dX0_tallyFrom_148 ?_
    refine av_iadd dX0_tallyFrom_149 ?_
    refine av_iload_n dX0_tallyFrom_150 rfl rfl ?_
    refine av_iast dX0_tallyFrom_151 rfl (by decide) h.1 ?_
    refine av_aload_n dX0_tallyFrom_152 rfl rfl ?_
    refine av_getr (k := 3) dX0_tallyFrom_153 rfl rfl iuX0 (by decide) rfl wF_X0_18 rfl ?_
    refine av_iload_n dX0_tallyFrom_156 rfl rfl ?_
    refine av_iconst dX0_tallyFrom_157 ?_
    refine av_imul dX0_tallyFrom_158 ?_
    refine av_iconst dX0_tallyFrom_159 ?_
    refine av_iadd dX0_tallyFrom_160 ?_
    refine av_iload_n dX0_tallyFrom_161 rfl rfl ?_
    refine av_iast dX0_tallyFrom_162 rfl (by decide) h.2.1 ?_
    refine av_aload_n dX0_tallyFrom_163 rfl rfl ?_
    refine av_getr (k := 3) dX0_tallyFrom_164 rfl rfl iuX0 (by decide) rfl wF_X0_18 rfl ?_
    refine av_iload_n dX0_tallyFrom_167 rfl rfl ?_
    refine av_iconst dX0_tallyFrom_168 ?_
    refine av_imul dX0_tallyFrom_169 ?_
    refine av_iconst dX0_tallyFrom_170 ?_
    refine av_iadd dX0_tallyFrom_171 ?_
    refine av_iload dX0_tallyFrom_172 rfl ?_
    refine av_iast dX0_tallyFrom_174 rfl (by decide) h.2.2.1 ?_
    exact av_return dX0_tallyFrom_175 rfl h.2.2.2
  · have h := h.2.2 c
    refine av_iload_n dX0_tallyFrom_16 rfl rfl ?_
    refine av_iload dX0_tallyFrom_17 rfl ?_
    refine av_iadd dX0_tallyFrom_19 ?_
    refine av_aload_n dX0_tallyFrom_20 rfl rfl ?_
    refine av_get (k := 6) (x := (σ 21 6)) dX0_tallyFrom_21 rfl rfl iuX0 (by decide) rfl wF_X0_39 rfl rfl ?_
    refine av_icmp_ge (tgt := 141) dX0_tallyFrom_24 (by decide) h.1 h.2.1 (fun c => ?_) (fun c => ?_)
    · have h := h.2.2.1 c
      refine av_aload_n dX0_tallyFrom_141 rfl rfl ?_
      refine av_getr (k := 3) dX0_tallyFrom_142 rfl rfl iuX0 (by decide) rfl wF_X0_18 rfl ?_
      refine av_iload_n dX0_tallyFrom_145 rfl rfl ?_
      refine av_iconst dX0_tallyFrom_146 ?_
      refine av_imul dX0_tallyFrom_147 ?_
      refine av_iconst dX0_tallyFrom_148 ?_
      refine av_iadd dX0_tallyFrom_149 ?_
      refine av_iload_n dX0_tallyFrom_150 rfl rfl ?_
      refine av_iast dX0_tallyFrom_151 rfl (by decide) h.1 ?_
      refine av_aload_n dX0_tallyFrom_152 rfl rfl ?_
      refine av_getr (k := 3) dX0_tallyFrom_153 rfl rfl iuX0 (by decide) rfl wF_X0_18 rfl ?_
      refine av_iload_n dX0_tallyFrom_156 rfl rfl ?_
      refine av_iconst dX0_tallyFrom_157 ?_
      refine av_imul dX0_tallyFrom_158 ?_
      refine av_iconst dX0_tallyFrom_159 ?_
      refine av_iadd dX0_tallyFrom_160 ?_
      refine av_iload_n dX0_tallyFrom_161 rfl rfl ?_
      refine av_iast dX0_tallyFrom_162 rfl (by decide) h.2.1 ?_
      refine av_aload_n dX0_tallyFrom_163 rfl rfl ?_
      refine av_getr (k := 3) dX0_tallyFrom_164 rfl rfl iuX0 (by decide) rfl wF_X0_18 rfl ?_
      refine av_iload_n dX0_tallyFrom_167 rfl rfl ?_
      refine av_iconst dX0_tallyFrom_168 ?_
      refine av_imul dX0_tallyFrom_169 ?_
      refine av_iconst dX0_tallyFrom_170 ?_
      refine av_iadd dX0_tallyFrom_171 ?_
      refine av_iload dX0_tallyFrom_172 rfl ?_
      refine av_iast dX0_tallyFrom_174 rfl (by decide) h.2.2.1 ?_
      exact av_return dX0_tallyFrom_175 rfl h.2.2.2
    · have h := h.2.2.2 c
      refine av_aload_n dX0_tallyFrom_27 rfl rfl ?_
      refine av_getr (k := 2) dX0_tallyFrom_28 rfl rfl iuX0 (by decide) rfl wF_X0_15 rfl ?_
      refine av_iload_n dX0_tallyFrom_31 rfl rfl ?_
      refine av_iconst dX0_tallyFrom_32 ?_
      refine av_imul dX0_tallyFrom_33 ?_
      refine av_iload dX0_tallyFrom_34 rfl ?_
      refine av_iadd dX0_tallyFrom_36 ?_
      refine av_iald (x := (σ 23 (((x1 * 3) + x5)).toNat)) dX0_tallyFrom_37 rfl (by decide) h.1 rfl ?_
      refine av_aload_n dX0_tallyFrom_38 rfl rfl ?_
      refine av_get (k := 7) (x := (σ 21 7)) dX0_tallyFrom_39 rfl rfl iuX0 (by decide) rfl wF_X0_51 rfl rfl ?_
      refine av_iand dX0_tallyFrom_42 ?_
      refine av_istore (L' := [some (av_r 21), some (av_i x1), some (av_i x2), some (av_i x3), some (av_i x4), some (av_i x5), some (av_i (i_and (σ 23 (((x1 * 3) + x5)).toNat) (σ 21 7))), none]) dX0_tallyFrom_43 (by decide) rfl ?_
      refine av_iload_n dX0_tallyFrom_45 rfl rfl ?_
      refine av_iload dX0_tallyFrom_46 rfl ?_
      refine av_iadd dX0_tallyFrom_48 ?_
      refine av_iconst dX0_tallyFrom_49 ?_
      refine av_iadd dX0_tallyFrom_50 ?_
      refine av_iconst dX0_tallyFrom_51 ?_
      refine av_imul dX0_tallyFrom_52 ?_
      refine av_istore (L' := [some (av_r 21), some (av_i x1), some (av_i x2), some (av_i x3), some (av_i x4), some (av_i x5), some (av_i (i_and (σ 23 (((x1 * 3) + x5)).toNat) (σ 21 7))), some (av_i (((x1 + x5) + 1) * 3))]) dX0_tallyFrom_53 (by decide) rfl ?_
      refine av_iload dX0_tallyFrom_55 rfl ?_
      refine av_sipush dX0_tallyFrom_57 rfl ?_
      refine av_iand dX0_tallyFrom_60 ?_
      refine av_if_eq (tgt := 102) dX0_tallyFrom_61 (by decide) h.2.1 (fun c => ?_) (fun c => ?_)
      · have h := h.2.2.1 c
        refine av_iload dX0_tallyFrom_102 rfl ?_
        refine av_sipush dX0_tallyFrom_104 rfl ?_
        refine av_iand dX0_tallyFrom_107 ?_
        refine av_if_eq (tgt := 135) dX0_tallyFrom_108 (by decide) h.1 (fun c => ?_) (fun c => ?_)
        · have h := h.2.1 c
          refine av_iinc (L' := [some (av_r 21), some (av_i x1), some (av_i x2), some (av_i x3), some (av_i x4), some (av_i (x5 + 1)), some (av_i (i_and (σ 23 (((x1 * 3) + x5)).toNat) (σ 21 7))), some (av_i (((x1 + x5) + 1) * 3))]) dX0_tallyFrom_135 rfl (by decide) rfl rfl ?_
          refine av_goto (tgt := 10) dX0_tallyFrom_138 (by decide) ?_
          refine av_res [true, true, true, true, true, true, false, false] (L' := [some (av_r 21), some (av_i x1), some (av_i x2), some (av_i x3), some (av_i x4), some (av_i (x5 + 1)), none, none]) rfl ?_
          exact h
        · have h := h.2.2 c
          refine av_iload_n dX0_tallyFrom_111 rfl rfl ?_
          refine av_aload_n dX0_tallyFrom_112 rfl rfl ?_
          refine av_getr (k := 3) dX0_tallyFrom_113 rfl rfl iuX0 (by decide) rfl wF_X0_18 rfl ?_
          refine av_iload dX0_tallyFrom_116 rfl ?_
          refine av_iconst dX0_tallyFrom_118 ?_
          refine av_iadd dX0_tallyFrom_119 ?_
          refine av_iald (x := (σ 24 (((((x1 + x5) + 1) * 3) + 2)).toNat)) dX0_tallyFrom_120 rfl (by decide) h.1 rfl ?_
          refine av_iadd dX0_tallyFrom_121 ?_
          refine av_istore_n (L' := [some (av_r 21), some (av_i x1), some (av_i (x2 + (σ 24 (((((x1 + x5) + 1) * 3) + 2)).toNat))), some (av_i x3), some (av_i x4), some (av_i x5), some (av_i (i_and (σ 23 (((x1 * 3) + x5)).toNat) (σ 21 7))), some (av_i (((x1 + x5) + 1) * 3))]) dX0_tallyFrom_122 rfl (by decide) rfl ?_
          refine av_iload_n dX0_tallyFrom_123 rfl rfl ?_
          refine av_aload_n dX0_tallyFrom_124 rfl rfl ?_
          refine av_getr (k := 3) dX0_tallyFrom_125 rfl rfl iuX0 (by decide) rfl wF_X0_18 rfl ?_
          refine av_iload dX0_tallyFrom_128 rfl ?_
          refine av_iconst dX0_tallyFrom_130 ?_
          refine av_iadd dX0_tallyFrom_131 ?_
          refine av_iald (x := (σ 24 (((((x1 + x5) + 1) * 3) + 2)).toNat)) dX0_tallyFrom_132 rfl (by decide) h.2.1 rfl ?_
          refine av_iadd dX0_tallyFrom_133 ?_
          refine av_istore_n (L' := [some (av_r 21), some (av_i x1), some (av_i (x2 + (σ 24 (((((x1 + x5) + 1) * 3) + 2)).toNat))), some (av_i (x3 + (σ 24 (((((x1 + x5) + 1) * 3) + 2)).toNat))), some (av_i x4), some (av_i x5), some (av_i (i_and (σ 23 (((x1 * 3) + x5)).toNat) (σ 21 7))), some (av_i (((x1 + x5) + 1) * 3))]) dX0_tallyFrom_134 rfl (by decide) rfl ?_
          refine av_iinc (L' := [some (av_r 21), some (av_i x1), some (av_i (x2 + (σ 24 (((((x1 + x5) + 1) * 3) + 2)).toNat))), some (av_i (x3 + (σ 24 (((((x1 + x5) + 1) * 3) + 2)).toNat))), some (av_i x4), some (av_i (x5 + 1)), some (av_i (i_and (σ 23 (((x1 * 3) + x5)).toNat) (σ 21 7))), some (av_i (((x1 + x5) + 1) * 3))]) dX0_tallyFrom_135 rfl (by decide) rfl rfl ?_
          refine av_goto (tgt := 10) dX0_tallyFrom_138 (by decide) ?_
          refine av_res [true, true, true, true, true, true, false, false] (L' := [some (av_r 21), some (av_i x1), some (av_i (x2 + (σ 24 (((((x1 + x5) + 1) * 3) + 2)).toNat))), some (av_i (x3 + (σ 24 (((((x1 + x5) + 1) * 3) + 2)).toNat))), some (av_i x4), some (av_i (x5 + 1)), none, none]) rfl ?_
          exact h.2.2
      · have h := h.2.2.2 c
        refine av_iload_n dX0_tallyFrom_64 rfl rfl ?_
        refine av_aload_n dX0_tallyFrom_65 rfl rfl ?_
        refine av_getr (k := 3) dX0_tallyFrom_66 rfl rfl iuX0 (by decide) rfl wF_X0_18 rfl ?_
        refine av_iload dX0_tallyFrom_69 rfl ?_
        refine av_iconst dX0_tallyFrom_71 ?_
        refine av_iadd dX0_tallyFrom_72 ?_
        refine av_iald (x := (σ 24 (((((x1 + x5) + 1) * 3) + 0)).toNat)) dX0_tallyFrom_73 rfl (by decide) h.1 rfl ?_
        refine av_iadd dX0_tallyFrom_74 ?_
        refine av_istore_n (L' := [some (av_r 21), some (av_i x1), some (av_i (x2 + (σ 24 (((((x1 + x5) + 1) * 3) + 0)).toNat))), some (av_i x3), some (av_i x4), some (av_i x5), some (av_i (i_and (σ 23 (((x1 * 3) + x5)).toNat) (σ 21 7))), some (av_i (((x1 + x5) + 1) * 3))]) dX0_tallyFrom_75 rfl (by decide) rfl ?_
        refine av_iload_n dX0_tallyFrom_76 rfl rfl ?_
        refine av_aload_n dX0_tallyFrom_77 rfl rfl ?_
        refine av_getr (k := 3) dX0_tallyFrom_78 rfl rfl iuX0 (by decide) rfl wF_X0_18 rfl ?_
        refine av_iload dX0_tallyFrom_81 rfl ?_
        refine av_iconst dX0_tallyFrom_83 ?_
        refine av_iadd dX0_tallyFrom_84 ?_
        refine av_iald (x := (σ 24 (((((x1 + x5) + 1) * 3) + 1)).toNat)) dX0_tallyFrom_85 rfl (by decide) h.2.1 rfl ?_
        refine av_iadd dX0_tallyFrom_86 ?_
        refine av_istore_n (L' := [some (av_r 21), some (av_i x1), some (av_i (x2 + (σ 24 (((((x1 + x5) + 1) * 3) + 0)).toNat))), some (av_i (x3 + (σ 24 (((((x1 + x5) + 1) * 3) + 1)).toNat))), some (av_i x4), some (av_i x5), some (av_i (i_and (σ 23 (((x1 * 3) + x5)).toNat) (σ 21 7))), some (av_i (((x1 + x5) + 1) * 3))]) dX0_tallyFrom_87 rfl (by decide) rfl ?_
        refine av_iload dX0_tallyFrom_88 rfl ?_
        refine av_aload_n dX0_tallyFrom_90 rfl rfl ?_
        refine av_getr (k := 3) dX0_tallyFrom_91 rfl rfl iuX0 (by decide) rfl wF_X0_18 rfl ?_
        refine av_iload dX0_tallyFrom_94 rfl ?_
        refine av_iconst dX0_tallyFrom_96 ?_
        refine av_iadd dX0_tallyFrom_97 ?_
        refine av_iald (x := (σ 24 (((((x1 + x5) + 1) * 3) + 1)).toNat)) dX0_tallyFrom_98 rfl (by decide) h.2.2.1 rfl ?_
        refine av_iadd dX0_tallyFrom_99 ?_
        refine av_istore (L' := [some (av_r 21), some (av_i x1), some (av_i (x2 + (σ 24 (((((x1 + x5) + 1) * 3) + 0)).toNat))), some (av_i (x3 + (σ 24 (((((x1 + x5) + 1) * 3) + 1)).toNat))), some (av_i (x4 + (σ 24 (((((x1 + x5) + 1) * 3) + 1)).toNat))), some (av_i x5), some (av_i (i_and (σ 23 (((x1 * 3) + x5)).toNat) (σ 21 7))), some (av_i (((x1 + x5) + 1) * 3))]) dX0_tallyFrom_100 (by decide) rfl ?_
        refine av_iload dX0_tallyFrom_102 rfl ?_
        refine av_sipush dX0_tallyFrom_104 rfl ?_
        refine av_iand dX0_tallyFrom_107 ?_
        refine av_if_eq (tgt := 135) dX0_tallyFrom_108 (by decide) h.2.2.2.1 (fun c => ?_) (fun c => ?_)
        · have h := h.2.2.2.2.1 c
          refine av_iinc (L' := [some (av_r 21), some (av_i x1), some (av_i (x2 + (σ 24 (((((x1 + x5) + 1) * 3) + 0)).toNat))), some (av_i (x3 + (σ 24 (((((x1 + x5) + 1) * 3) + 1)).toNat))), some (av_i (x4 + (σ 24 (((((x1 + x5) + 1) * 3) + 1)).toNat))), some (av_i (x5 + 1)), some (av_i (i_and (σ 23 (((x1 * 3) + x5)).toNat) (σ 21 7))), some (av_i (((x1 + x5) + 1) * 3))]) dX0_tallyFrom_135 rfl (by decide) rfl rfl ?_
          refine av_goto (tgt := 10) dX0_tallyFrom_138 (by decide) ?_
          refine av_res [true, true, true, true, true, true, false, false] (L' := [some (av_r 21), some (av_i x1), some (av_i (x2 + (σ 24 (((((x1 + x5) + 1) * 3) + 0)).toNat))), some (av_i (x3 + (σ 24 (((((x1 + x5) + 1) * 3) + 1)).toNat))), some (av_i (x4 + (σ 24 (((((x1 + x5) + 1) * 3) + 1)).toNat))), some (av_i (x5 + 1)), none, none]) rfl ?_
          exact h
        · have h := h.2.2.2.2.2 c
          refine av_iload_n dX0_tallyFrom_111 rfl rfl ?_
          refine av_aload_n dX0_tallyFrom_112 rfl rfl ?_
          refine av_getr (k := 3) dX0_tallyFrom_113 rfl rfl iuX0 (by decide) rfl wF_X0_18 rfl ?_
          refine av_iload dX0_tallyFrom_116 rfl ?_
          refine av_iconst dX0_tallyFrom_118 ?_
          refine av_iadd dX0_tallyFrom_119 ?_
          refine av_iald (x := (σ 24 (((((x1 + x5) + 1) * 3) + 2)).toNat)) dX0_tallyFrom_120 rfl (by decide) h.1 rfl ?_
          refine av_iadd dX0_tallyFrom_121 ?_
          refine av_istore_n (L' := [some (av_r 21), some (av_i x1), some (av_i ((x2 + (σ 24 (((((x1 + x5) + 1) * 3) + 0)).toNat)) + (σ 24 (((((x1 + x5) + 1) * 3) + 2)).toNat))), some (av_i (x3 + (σ 24 (((((x1 + x5) + 1) * 3) + 1)).toNat))), some (av_i (x4 + (σ 24 (((((x1 + x5) + 1) * 3) + 1)).toNat))), some (av_i x5), some (av_i (i_and (σ 23 (((x1 * 3) + x5)).toNat) (σ 21 7))), some (av_i (((x1 + x5) + 1) * 3))]) dX0_tallyFrom_122 rfl (by decide) rfl ?_
          refine av_iload_n dX0_tallyFrom_123 rfl rfl ?_
          refine av_aload_n dX0_tallyFrom_124 rfl rfl ?_
          refine av_getr (k := 3) dX0_tallyFrom_125 rfl rfl iuX0 (by decide) rfl wF_X0_18 rfl ?_
          refine av_iload dX0_tallyFrom_128 rfl ?_
          refine av_iconst dX0_tallyFrom_130 ?_
          refine av_iadd dX0_tallyFrom_131 ?_
          refine av_iald (x := (σ 24 (((((x1 + x5) + 1) * 3) + 2)).toNat)) dX0_tallyFrom_132 rfl (by decide) h.2.1 rfl ?_
          refine av_iadd dX0_tallyFrom_133 ?_
          refine av_istore_n (L' := [some (av_r 21), some (av_i x1), some (av_i ((x2 + (σ 24 (((((x1 + x5) + 1) * 3) + 0)).toNat)) + (σ 24 (((((x1 + x5) + 1) * 3) + 2)).toNat))), some (av_i ((x3 + (σ 24 (((((x1 + x5) + 1) * 3) + 1)).toNat)) + (σ 24 (((((x1 + x5) + 1) * 3) + 2)).toNat))), some (av_i (x4 + (σ 24 (((((x1 + x5) + 1) * 3) + 1)).toNat))), some (av_i x5), some (av_i (i_and (σ 23 (((x1 * 3) + x5)).toNat) (σ 21 7))), some (av_i (((x1 + x5) + 1) * 3))]) dX0_tallyFrom_134 rfl (by decide) rfl ?_
          refine av_iinc (L' := [some (av_r 21), some (av_i x1), some (av_i ((x2 + (σ 24 (((((x1 + x5) + 1) * 3) + 0)).toNat)) + (σ 24 (((((x1 + x5) + 1) * 3) + 2)).toNat))), some (av_i ((x3 + (σ 24 (((((x1 + x5) + 1) * 3) + 1)).toNat)) + (σ 24 (((((x1 + x5) + 1) * 3) + 2)).toNat))), some (av_i (x4 + (σ 24 (((((x1 + x5) + 1) * 3) + 1)).toNat))), some (av_i (x5 + 1)), some (av_i (i_and (σ 23 (((x1 * 3) + x5)).toNat) (σ 21 7))), some (av_i (((x1 + x5) + 1) * 3))]) dX0_tallyFrom_135 rfl (by decide) rfl rfl ?_
          refine av_goto (tgt := 10) dX0_tallyFrom_138 (by decide) ?_
          refine av_res [true, true, true, true, true, true, false, false] (L' := [some (av_r 21), some (av_i x1), some (av_i ((x2 + (σ 24 (((((x1 + x5) + 1) * 3) + 0)).toNat)) + (σ 24 (((((x1 + x5) + 1) * 3) + 2)).toNat))), some (av_i ((x3 + (σ 24 (((((x1 + x5) + 1) * 3) + 1)).toNat)) + (σ 24 (((((x1 + x5) + 1) * 3) + 2)).toNat))), some (av_i (x4 + (σ 24 (((((x1 + x5) + 1) * 3) + 1)).toNat))), some (av_i (x5 + 1)), none, none]) rfl ?_
          exact h.2.2

theorem uX0_mayEndAt {E : av_E} {σ : av_M} {Q : Option av_V → av_M → Prop} {a1 : Int} (h : (rg (σ 21 5)) ∧ (((σ 21 5) = 1 → (rg a1) ∧ (((¬ a1 = 0) → Q (some (av_i 0)) σ) ∧ ((a1 = 0) → Q (some (av_i 1)) σ))) ∧ ((σ 21 5) = 2 → (rg a1) ∧ (((a1 = 0) → Q (some (av_i 0)) σ) ∧ ((¬ a1 = 0) → Q (some (av_i 1)) σ))) ∧ ((σ 21 5) = 3 → Q (some (av_i 1)) σ) ∧ ((σ 21 5) = 4 → (rg a1) ∧ (((¬ a1 = 2) → Q (some (av_i 0)) σ) ∧ ((a1 = 2) → Q (some (av_i 1)) σ))) ∧ (((σ 21 5) < 1 ∨ 4 < (σ 21 5)) → Q (some (av_i 1)) σ))) :
    av_C E cSH mX0_mayEndAt [av_r 21, av_i a1] σ Q := by
  refine av_C.ofW (L := [some (av_r 21), some (av_i a1)]) (by decide) (Nat.le_of_ble_eq_true rfl) rfl ?_
  refine av_aload_n dX0_mayEndAt_0 rfl rfl ?_
  refine av_get (k := 5) (x := (σ 21 5)) dX0_mayEndAt_1 rfl rfl iuX0 (by decide) rfl wF_X0_31 rfl rfl ?_
  refine av_table dX0_mayEndAt_4 (fun j => if j = 0 then 36 else if j = 1 then 46 else if j = 2 then 67 else if j = 3 then 56 else 67) (by decide) (by decide) (by decide) h.1 (fun j hj hx => ?_) (fun c => ?_)
  · rcases j with _ | _ | _ | _ | j
    · have c : (σ 21 5) = 1 := by omega
      have h := h.2.1 c
      change av_W E cSH mX0_mayEndAt 36 [some (av_r 21), some (av_i a1)] [] σ Q
      refine av_iload_n dX0_mayEndAt_36 rfl rfl ?_
      refine av_if_ne (tgt := 44) dX0_mayEndAt_37 (by decide) h.1 (fun c => ?_) (fun c => ?_)
      · have h := h.2.1 c
        refine av_iconst dX0_mayEndAt_44 ?_
        exact av_zreturn dX0_mayEndAt_45 rfl (by decide) h
      · have h := h.2.2 c
        refine av_iconst dX0_mayEndAt_40 ?_
        refine av_goto (tgt := 45) dX0_mayEndAt_41 (by decide) ?_
        exact av_zreturn dX0_mayEndAt_45 rfl (by decide) h
    · have c : (σ 21 5) = 2 := by omega
      have h := h.2.2.1 c
      change av_W E cSH mX0_mayEndAt 46 [some (av_r 21), some (av_i a1)] [] σ Q
      refine av_iload_n dX0_mayEndAt_46 rfl rfl ?_
      refine av_if_eq (tgt := 54) dX0_mayEndAt_47 (by decide) h.1 (fun c => ?_) (fun c => ?_)
      · have h := h.2.1 c
        refine av_iconst dX0_mayEndAt_54 ?_
        exact av_zreturn dX0_mayEndAt_55 rfl (by decide) h
      · have h := h.2.2 c
        refine av_iconst dX0_mayEndAt_50 ?_
        refine av_goto (tgt := 55) dX0_mayEndAt_51 (by decide) ?_
        exact av_zreturn dX0_mayEndAt_55 rfl (by decide) h
    · have c : (σ 21 5) = 3 := by omega
      have h := h.2.2.2.1 c
      change av_W E cSH mX0_mayEndAt 67 [some (av_r 21), some (av_i a1)] [] σ Q
      refine av_iconst dX0_mayEndAt_67 ?_
      exact av_zreturn dX0_mayEndAt_68 rfl (by decide) h
    · have c : (σ 21 5) = 4 := by omega
      have h := h.2.2.2.2.1 c
      change av_W E cSH mX0_mayEndAt 56 [some (av_r 21), some (av_i a1)] [] σ Q
      refine av_iload_n dX0_mayEndAt_56 rfl rfl ?_
      refine av_iconst dX0_mayEndAt_57 ?_
      refine av_icmp_ne (tgt := 65) dX0_mayEndAt_58 (by decide) h.1 (by decide) (fun c => ?_) (fun c => ?_)
      · have h := h.2.1 c
        refine av_iconst dX0_mayEndAt_65 ?_
        exact av_zreturn dX0_mayEndAt_66 rfl (by decide) h
      · have h := h.2.2 c
        refine av_iconst dX0_mayEndAt_61 ?_
        refine av_goto (tgt := 66) dX0_mayEndAt_62 (by decide) ?_
        exact av_zreturn dX0_mayEndAt_66 rfl (by decide) h
    · exact absurd hj (by simp)
  · have h := h.2.2.2.2.2 c
    change av_W E cSH mX0_mayEndAt 67 [some (av_r 21), some (av_i a1)] [] σ Q
    refine av_iconst dX0_mayEndAt_67 ?_
    exact av_zreturn dX0_mayEndAt_68 rfl (by decide) h

theorem uX0_openAt {E : av_E} {σ : av_M} {Q : Option av_V → av_M → Prop} {a1 : Int} (h : (0 ≤ a1 ∧ a1 < 2147483648) ∧ ((0 ≤ ((a1 / 3) * 3) ∧ ((a1 / 3) * 3) < 27) ∧ ((0 ≤ (((a1 / 3) * 3) + 1) ∧ (((a1 / 3) * 3) + 1) < 27) ∧ ((0 ≤ (((a1 / 3) * 3) + 2) ∧ (((a1 / 3) * 3) + 2) < 27) ∧ ((0 ≤ a1 ∧ a1 < 2147483648) ∧ ((rg (a1 % 3)) ∧ (((¬ (a1 % 3) = 2) → Q (some (av_i (i_and (i_or (i_or (σ 23 (((a1 / 3) * 3)).toNat) (σ 23 ((((a1 / 3) * 3) + 1)).toNat)) (σ 23 ((((a1 / 3) * 3) + 2)).toNat)) (σ 21 7)))) σ) ∧ (((a1 % 3) = 2) → Q (some (av_i (i_and (i_and (i_or (i_or (σ 23 (((a1 / 3) * 3)).toNat) (σ 23 ((((a1 / 3) * 3) + 1)).toNat)) (σ 23 ((((a1 / 3) * 3) + 2)).toNat)) (σ 21 7)) 21845))) σ)))))))) :
    av_C E cSH mX0_openAt [av_r 21, av_i a1] σ Q := by
  refine av_C.ofW (L := [some (av_r 21), some (av_i a1), none, none]) (by decide) (Nat.le_of_ble_eq_true rfl) rfl ?_
  refine av_iload_n dX0_openAt_0 rfl rfl ?_
  refine av_iconst dX0_openAt_1 ?_
  refine av_idiv dX0_openAt_2 h.1 (by decide) ?_
  refine av_iconst dX0_openAt_3 ?_
  refine av_imul dX0_openAt_4 ?_
  refine av_istore_n (L' := [some (av_r 21), some (av_i a1), some (av_i ((a1 / 3) * 3)), none]) dX0_openAt_5 rfl (by decide) rfl ?_
  refine av_aload_n dX0_openAt_6 rfl rfl ?_
  refine av_getr (k := 2) dX0_openAt_7 rfl rfl iuX0 (by decide) rfl wF_X0_15 rfl ?_
  refine av_iload_n dX0_openAt_10 rfl rfl ?_
  refine av_iald (x := (σ 23 (((a1 / 3) * 3)).toNat)) dX0_openAt_11 rfl (by decide) h.2.1 rfl ?_
  refine av_aload_n dX0_openAt_12 rfl rfl ?_
  refine av_getr (k := 2) dX0_openAt_13 rfl rfl iuX0 (by decide) rfl wF_X0_15 rfl ?_
  refine av_iload_n dX0_openAt_16 rfl rfl ?_
  refine av_iconst dX0_openAt_17 ?_
  refine av_iadd dX0_openAt_18 ?_
  refine av_iald (x := (σ 23 ((((a1 / 3) * 3) + 1)).toNat)) dX0_openAt_19 rfl (by decide) h.2.2.1 rfl ?_
  refine av_ior dX0_openAt_20 ?_
  refine av_aload_n dX0_openAt_21 rfl rfl ?_
  refine av_getr (k := 2) dX0_openAt_22 rfl rfl iuX0 (by decide) rfl wF_X0_15 rfl ?_
  refine av_iload_n dX0_openAt_25 rfl rfl ?_
  refine av_iconst dX0_openAt_26 ?_
  refine av_iadd dX0_openAt_27 ?_
  refine av_iald (x := (σ 23 ((((a1 / 3) * 3) + 2)).toNat)) dX0_openAt_28 rfl (by decide) h.2.2.2.1 rfl ?_
  refine av_ior dX0_openAt_29 ?_
  refine av_aload_n dX0_openAt_30 rfl rfl ?_
  refine av_get (k := 7) (x := (σ 21 7)) dX0_openAt_31 rfl rfl iuX0 (by decide) rfl wF_X0_51 rfl rfl ?_
  refine av_iand dX0_openAt_34 ?_
  refine av_istore_n (L' := [some (av_r 21), some (av_i a1), some (av_i ((a1 / 3) * 3)), some (av_i (i_and (i_or (i_or (σ 23 (((a1 / 3) * 3)).toNat) (σ 23 ((((a1 / 3) * 3) + 1)).toNat)) (σ 23 ((((a1 / 3) * 3) + 2)).toNat)) (σ 21 7)))]) dX0_openAt_35 rfl (by decide) rfl ?_
  refine av_iload_n dX0_openAt_36 rfl rfl ?_
  refine av_iconst dX0_openAt_37 ?_
  refine av_irem dX0_openAt_38 h.2.2.2.2.1 (by decide) ?_
  refine av_iconst dX0_openAt_39 ?_
  refine av_icmp_ne (tgt := 51) dX0_openAt_40 (by decide) h.2.2.2.2.2.1 (by decide) (fun c => ?_) (fun c => ?_)
  · have h := h.2.2.2.2.2.2.1 c
    refine av_iload_n dX0_openAt_51 rfl rfl ?_
    exact av_ireturn dX0_openAt_52 rfl h
  · have h := h.2.2.2.2.2.2.2 c
    refine av_iload_n dX0_openAt_43 rfl rfl ?_
    refine av_sipush dX0_openAt_44 rfl ?_
    refine av_iand dX0_openAt_47 ?_
    refine av_goto (tgt := 52) dX0_openAt_48 (by decide) ?_
    exact av_ireturn dX0_openAt_52 rfl h

theorem uX0_slotBehind {E : av_E} {σ : av_M} {Q : Option av_V → av_M → Prop} {a1 a2 : Int} (h : (0 ≤ a1 ∧ a1 < 2147483648) ∧ ((0 ≤ a2 ∧ a2 < 2147483648) ∧ ((0 ≤ (a2 / 2) ∧ (a2 / 2) < 8) ∧ ((rg ((a1 / 3) + (σ 5 ((a2 / 2)).toNat))) ∧ ((rg (σ 21 6)) ∧ (((((a1 / 3) + (σ 5 ((a2 / 2)).toNat)) ≤ (σ 21 6)) → (0 ≤ a2 ∧ a2 < 2147483648) ∧ ((rg (a2 % 2)) ∧ (((¬ (a2 % 2) = 1) → (0 ≤ a1 ∧ a1 < 2147483648) ∧ ((rg (a1 % 3)) ∧ (((¬ (a1 % 3) = 0) → Q (some (av_i ((((a1 / 3) + (σ 5 ((a2 / 2)).toNat)) * 3) + 1))) σ) ∧ (((a1 % 3) = 0) → Q (some (av_i ((((a1 / 3) + (σ 5 ((a2 / 2)).toNat)) * 3) + 0))) σ)))) ∧ (((a2 % 2) = 1) → Q (some (av_i ((((a1 / 3) + (σ 5 ((a2 / 2)).toNat)) * 3) + 2))) σ)))) ∧ (((σ 21 6) < ((a1 / 3) + (σ 5 ((a2 / 2)).toNat))) → Q (some (av_i a1)) σ))))))) :
    av_C E cSH mX0_slotBehind [av_r 21, av_i a1, av_i a2] σ Q := by
  refine av_C.ofW (L := [some (av_r 21), some (av_i a1), some (av_i a2), none]) (by decide) (Nat.le_of_ble_eq_true rfl) rfl ?_
  refine av_iload_n dX0_slotBehind_0 rfl rfl ?_
  refine av_iconst dX0_slotBehind_1 ?_
  refine av_idiv dX0_slotBehind_2 h.1 (by decide) ?_
  refine av_aload_n dX0_slotBehind_3 rfl rfl ?_
  refine av_getr (k := 0) dX0_slotBehind_4 rfl rfl iuX0 (by decide) rfl wF_X0_27 rfl ?_
  refine av_getr (k := 1) dX0_slotBehind_7 rfl rfl iuX3 (by decide) rfl wF_X0_61 rfl ?_
  refine av_iload_n dX0_slotBehind_10 rfl rfl ?_
  refine av_iconst dX0_slotBehind_11 ?_
  refine av_idiv dX0_slotBehind_12 h.2.1 (by decide) ?_
  refine av_iald (x := (σ 5 ((a2 / 2)).toNat)) dX0_slotBehind_13 rfl (by decide) h.2.2.1 rfl ?_
  refine av_iadd dX0_slotBehind_14 ?_
  refine av_istore_n (L' := [some (av_r 21), some (av_i a1), some (av_i a2), some (av_i ((a1 / 3) + (σ 5 ((a2 / 2)).toNat)))]) dX0_slotBehind_15 rfl (by decide) rfl ?_
  refine av_iload_n dX0_slotBehind_16 rfl rfl ?_
  refine av_aload_n dX0_slotBehind_17 rfl rfl ?_
  refine av_get (k := 6) (x := (σ 21 6)) dX0_slotBehind_18 rfl rfl iuX0 (by decide) rfl wF_X0_39 rfl rfl ?_
  refine av_icmp_le (tgt := 26) dX0_slotBehind_21 (by decide) h.2.2.2.1 h.2.2.2.2.1 (fun c => ?_) (fun c => ?_)
  · have h := h.2.2.2.2.2.1 c
    refine av_iload_n dX0_slotBehind_26 rfl rfl ?_
    refine av_iconst dX0_slotBehind_27 ?_
    refine av_irem dX0_slotBehind_28 h.1 (by decide) ?_
    refine av_iconst dX0_slotBehind_29 ?_
    refine av_icmp_ne (tgt := 39) dX0_slotBehind_30 (by decide) h.2.1 (by decide) (fun c => ?_) (fun c => ?_)
    · have h := h.2.2.1 c
      refine av_iload_n dX0_slotBehind_39 rfl rfl ?_
      refine av_iconst dX0_slotBehind_40 ?_
      refine av_imul dX0_slotBehind_41 ?_
      refine av_iload_n dX0_slotBehind_42 rfl rfl ?_
      refine av_iconst dX0_slotBehind_43 ?_
      refine av_irem dX0_slotBehind_44 h.1 (by decide) ?_
      refine av_if_ne (tgt := 52) dX0_slotBehind_45 (by decide) h.2.1 (fun c => ?_) (fun c => ?_)
      · have h := h.2.2.1 c
        refine av_iconst dX0_slotBehind_52 ?_
        refine av_iadd dX0_slotBehind_53 ?_
        exact av_ireturn dX0_slotBehind_54 rfl h
      · have h := h.2.2.2 c
        refine av_iconst dX0_slotBehind_48 ?_
        refine av_goto (tgt := 53) dX0_slotBehind_49 (by decide) ?_
        refine av_iadd dX0_slotBehind_53 ?_
        exact av_ireturn dX0_slotBehind_54 rfl h
    · have h := h.2.2.2 c
      refine av_iload_n dX0_slotBehind_33 rfl rfl ?_
      refine av_iconst dX0_slotBehind_34 ?_
      refine av_imul dX0_slotBehind_35 ?_
      refine av_iconst dX0_slotBehind_36 ?_
      refine av_iadd dX0_slotBehind_37 ?_
      exact av_ireturn dX0_slotBehind_38 rfl h
  · have h := h.2.2.2.2.2.2 c
    refine av_iload_n dX0_slotBehind_24 rfl rfl ?_
    exact av_ireturn dX0_slotBehind_25 rfl h

theorem uX0_pick {E : av_E} {σ : av_M} {Q : Option av_V → av_M → Prop} {a1 : Int} (h : av_W E cSH mX0_pick 22 [some (av_r 21), some (av_i a1), some (av_i 0), some (av_i a1), some (av_i 0), none, none, none] [] (av_st (av_st (av_st σ 21 9 0) 21 10 0) 21 11 0) Q) :
    av_C E cSH mX0_pick [av_r 21, av_i a1] σ Q := by
  refine av_C.ofW (L := [some (av_r 21), some (av_i a1), none, none, none, none, none, none]) (by decide) (Nat.le_of_ble_eq_true rfl) rfl ?_
  refine av_aload_n dX0_pick_0 rfl rfl ?_
  refine av_iconst dX0_pick_1 ?_
  refine av_put (k := 9) tyX0 dX0_pick_2 rfl rfl iuX0 tyX0_ok nmX0 (by decide) rfl wF_X0_64 rfl rfl rfl ?_
  refine av_aload_n dX0_pick_5 rfl rfl ?_
  refine av_iconst dX0_pick_6 ?_
  refine av_put (k := 10) tyX0 dX0_pick_7 rfl rfl iuX0 tyX0_ok nmX0 (by decide) rfl wF_X0_67 rfl rfl rfl ?_
  refine av_aload_n dX0_pick_10 rfl rfl ?_
  refine av_iconst dX0_pick_11 ?_
  refine av_put (k := 11) tyX0 dX0_pick_12 rfl rfl iuX0 tyX0_ok nmX0 (by decide) rfl wF_X0_70 rfl rfl rfl ?_
  refine av_iconst dX0_pick_15 ?_
  refine av_istore_n (L' := [some (av_r 21), some (av_i a1), some (av_i 0), none, none, none, none, none]) dX0_pick_16 rfl (by decide) rfl ?_
  refine av_iload_n dX0_pick_17 rfl rfl ?_
  refine av_istore_n (L' := [some (av_r 21), some (av_i a1), some (av_i 0), some (av_i a1), none, none, none, none]) dX0_pick_18 rfl (by decide) rfl ?_
  refine av_iconst dX0_pick_19 ?_
  refine av_istore (L' := [some (av_r 21), some (av_i a1), some (av_i 0), some (av_i a1), some (av_i 0), none, none, none]) dX0_pick_20 (by decide) rfl ?_
  exact h

theorem uX0_pick_22 {E : av_E} {σ : av_M} {Q : Option av_V → av_M → Prop} {x1 x2 x3 x4 : Int} (h : (rg x4) ∧ (((9 ≤ x4) → Q none σ) ∧ ((x4 < 9) → (rg x2) ∧ ((rg ((σ 21 6) * 3)) ∧ (((((σ 21 6) * 3) ≤ x2) → Q none σ) ∧ ((x2 < ((σ 21 6) * 3)) → av_C E cSH mX0_openAt [av_r 21, av_i x2] σ (fun v s1 => ∃ r1 : Int, v = some (av_i r1) ∧ (av_W E cSH mX0_pick 49 [some (av_r 21), some (av_i x1), some (av_i x2), some (av_i x3), some (av_i x4), some (av_i r1), some (av_i 0), none] [] s1 Q)))))))) :
    av_W E cSH mX0_pick 22 [some (av_r 21), some (av_i x1), some (av_i x2), some (av_i x3), some (av_i x4), none, none, none] [] σ Q := by
  refine av_iload dX0_pick_22 rfl ?_
  refine av_bipush dX0_pick_24 rfl ?_
  refine av_icmp_ge (tgt := 140) dX0_pick_26 (by decide) h.1 (by decide) (fun c => ?_) (fun c => ?_)
  · have h := h.2.1 c
    exact av_return dX0_pick_140 rfl h
  · have h := h.2.2 c
    refine av_iload_n dX0_pick_29 rfl rfl ?_
    refine av_aload_n dX0_pick_30 rfl rfl ?_
    refine av_get (k := 6) (x := (σ 21 6)) dX0_pick_31 rfl rfl iuX0 (by decide) rfl wF_X0_39 rfl rfl ?_
    refine av_iconst dX0_pick_34 ?_
    refine av_imul dX0_pick_35 ?_
    refine av_icmp_ge (tgt := 140) dX0_pick_36 (by decide) h.1 h.2.1 (fun c => ?_) (fun c => ?_)
    · have h := h.2.2.1 c
      exact av_return dX0_pick_140 rfl h
    · have h := h.2.2.2 c
      refine av_aload_n dX0_pick_39 rfl rfl ?_
      refine av_iload_n dX0_pick_40 rfl rfl ?_
      refine av_callV mX0_openAt [av_i x2] [] dX0_pick_41 rfl rfl rfl mbX0_openAt rfl wI_X0_openAt wS_X0_openAt rfl wM_X0_73 ⟨Nat.le_of_ble_eq_true rfl, Nat.le_of_ble_eq_true rfl⟩ rfl (Nat.le_of_ble_eq_true rfl) (av_C.mono (fun v s1 hh => ?_) h)
      obtain ⟨r1, rfl, h⟩ := hh
      change av_W E cSH mX0_pick 44 [some (av_r 21), some (av_i x1), some (av_i x2), some (av_i x3), some (av_i x4), none, none, none] [av_i r1] s1 Q
      refine av_istore (L' := [some (av_r 21), some (av_i x1), some (av_i x2), some (av_i x3), some (av_i x4), some (av_i r1), none, none]) dX0_pick_44 (by decide) rfl ?_
      refine av_iconst dX0_pick_46 ?_
      refine av_istore (L' := [some (av_r 21), some (av_i x1), some (av_i x2), some (av_i x3), some (av_i x4), some (av_i r1), some (av_i 0), none]) dX0_pick_47 (by decide) rfl ?_
      exact h

theorem uX0_pick_49 {E : av_E} {σ : av_M} {Q : Option av_V → av_M → Prop} {x1 x2 x3 x4 x5 x6 : Int} (h : (rg x6) ∧ (((16 ≤ x6) → av_W E cSH mX0_pick 22 [some (av_r 21), some (av_i x1), some (av_i x2), some (av_i x3), some (av_i (x4 + 1)), none, none, none] [] σ Q) ∧ ((x6 < 16) → av_C E cSH mX4_holds [av_i x5, av_i x6] σ (fun v s1 => ∃ r1 : Int, v = some (av_i r1) ∧ ((rg r1) ∧ (((r1 = 0) → (rg x2) ∧ ((rg x2) ∧ (((x2 ≤ x2) → (rg x2) ∧ ((rg x2) ∧ (((x2 ≤ x2) → av_W E cSH mX0_pick 49 [some (av_r 21), some (av_i x1), some (av_i x2), some (av_i (x3 - 0)), some (av_i x4), some (av_i x5), some (av_i (x6 + 1)), none] [] s1 Q) ∧ ((x2 < x2) → (0 ≤ x2 ∧ x2 < 30) ∧ (av_W E cSH mX0_pick 49 [some (av_r 21), some (av_i x1), some (av_i x2), some (av_i (x3 - (s1 24 (x2).toNat))), some (av_i x4), some (av_i x5), some (av_i (x6 + 1)), none] [] s1 Q))))) ∧ ((x2 < x2) → (0 ≤ x2 ∧ x2 < 30) ∧ ((rg x3) ∧ ((rg (s1 24 (x2).toNat)) ∧ ((((s1 24 (x2).toNat) ≤ x3) → (rg x2) ∧ ((rg x2) ∧ (((x2 ≤ x2) → av_W E cSH mX0_pick 49 [some (av_r 21), some (av_i x1), some (av_i x2), some (av_i (x3 - 0)), some (av_i x4), some (av_i x5), some (av_i (x6 + 1)), none] [] s1 Q) ∧ ((x2 < x2) → (0 ≤ x2 ∧ x2 < 30) ∧ (av_W E cSH mX0_pick 49 [some (av_r 21), some (av_i x1), some (av_i x2), some (av_i (x3 - (s1 24 (x2).toNat))), some (av_i x4), some (av_i x5), some (av_i (x6 + 1)), none] [] s1 Q))))) ∧ ((x3 < (s1 24 (x2).toNat)) → av_C E cSH mX0_addWord [av_r 21, av_i x6] s1 (fun v s2 => v = none ∧ (av_W E cSH mX0_pick 22 [some (av_r 21), some (av_i x1), some (av_i x2), some (av_i x3), some (av_i (x4 + 1)), none, none, none] [] s2 Q)))))))))) ∧ ((¬ r1 = 0) → av_C E cSH mX0_slotBehind [av_r 21, av_i x2, av_i x6] s1 (fun v s3 => ∃ r3 : Int, v = some (av_i r3) ∧ ((rg r3) ∧ ((rg x2) ∧ (((r3 ≤ x2) → (rg r3) ∧ ((rg x2) ∧ (((r3 ≤ x2) → av_W E cSH mX0_pick 49 [some (av_r 21), some (av_i x1), some (av_i x2), some (av_i (x3 - 0)), some (av_i x4), some (av_i x5), some (av_i (x6 + 1)), none] [] s3 Q) ∧ ((x2 < r3) → (0 ≤ r3 ∧ r3 < 30) ∧ (av_W E cSH mX0_pick 49 [some (av_r 21), some (av_i x1), some (av_i x2), some (av_i (x3 - (s3 24 (r3).toNat))), some (av_i x4), some (av_i x5), some (av_i (x6 + 1)), none] [] s3 Q))))) ∧ ((x2 < r3) → (0 ≤ r3 ∧ r3 < 30) ∧ ((rg x3) ∧ ((rg (s3 24 (r3).toNat)) ∧ ((((s3 24 (r3).toNat) ≤ x3) → (rg r3) ∧ ((rg x2) ∧ (((r3 ≤ x2) → av_W E cSH mX0_pick 49 [some (av_r 21), some (av_i x1), some (av_i x2), some (av_i (x3 - 0)), some (av_i x4), some (av_i x5), some (av_i (x6 + 1)), none] [] s3 Q) ∧ ((x2 < r3) → (0 ≤ r3 ∧ r3 < 30) ∧ (av_W E cSH mX0_pick 49 [some (av_r 21), some (av_i x1), some (av_i x2), some (av_i (x3 - (s3 24 (r3).toNat))), some (av_i x4), some (av_i x5), some (av_i (x6 + 1)), none] [] s3 Q))))) ∧ ((x3 < (s3 24 (r3).toNat)) → av_C E cSH mX0_addWord [av_r 21, av_i x6] s3 (fun v s4 => v = none ∧ (av_W E cSH mX0_pick 22 [some (av_r 21), some (av_i x1), some (av_i r3), some (av_i x3), some (av_i (x4 + 1)), none, none, none] [] s4 Q)))))))))))))))))) :
    av_W E cSH mX0_pick 49 [some (av_r 21), some (av_i x1), some (av_i x2), some (av_i x3), some (av_i x4), some (av_i x5), some (av_i x6), none] [] σ Q := by
  refine av_iload dX0_pick_49 rfl ?_
  refine av_bipush dX0_pick_51 rfl ?_
  refine av_icmp_ge (tgt := 134) dX0_pick_53 (by decide) h.1 (by decide) (fun c => ?_) (fun c => ?_)
  · have h := h.2.1 c
    refine av_iinc (L' := [some (av_r 21), some (av_i x1), some (av_i x2), some (av_i x3), some (av_i (x4 + 1)), some (av_i x5), some (av_i x6), none]) dX0_pick_134 rfl (by decide) rfl rfl ?_
    refine av_goto (tgt := 22) dX0_pick_137 (by decide) ?_
    refine av_res [true, true, true, true, true, false, false, false] (L' := [some (av_r 21), some (av_i x1), some (av_i x2), some (av_i x3), some (av_i (x4 + 1)), none, none, none]) rfl ?_
    exact h
  · have h := h.2.2 c
    refine av_iload dX0_pick_56 rfl ?_
    refine av_iload dX0_pick_58 rfl ?_
    refine av_callN mX4_holds [av_i x5, av_i x6] [] dX0_pick_60 mbX4_holds rfl wT_X4_holds rfl wNest_X0_76 ⟨Nat.le_of_ble_eq_true rfl, Nat.le_of_ble_eq_true rfl⟩ rfl (Nat.le_of_ble_eq_true rfl) (av_C.mono (fun v s1 hh => ?_) h)
    obtain ⟨r1, rfl, h⟩ := hh
    change av_W E cSH mX0_pick 63 [some (av_r 21), some (av_i x1), some (av_i x2), some (av_i x3), some (av_i x4), some (av_i x5), some (av_i x6), none] [av_i r1] s1 Q
    refine av_if_eq (tgt := 76) dX0_pick_63 (by decide) h.1 (fun c => ?_) (fun c => ?_)
    · have h := h.2.1 c
      refine av_iload_n dX0_pick_76 rfl rfl ?_
      refine av_istore (L' := [some (av_r 21), some (av_i x1), some (av_i x2), some (av_i x3), some (av_i x4), some (av_i x5), some (av_i x6), some (av_i x2)]) dX0_pick_77 (by decide) rfl ?_
      refine av_iload dX0_pick_79 rfl ?_
      refine av_iload_n dX0_pick_81 rfl rfl ?_
      refine av_icmp_le (tgt := 108) dX0_pick_82 (by decide) h.1 h.2.1 (fun c => ?_) (fun c => ?_)
      · have h := h.2.2.1 c
        refine av_iload_n dX0_pick_108 rfl rfl ?_
        refine av_iload dX0_pick_109 rfl ?_
        refine av_iload_n dX0_pick_111 rfl rfl ?_
        refine av_icmp_le (tgt := 125) dX0_pick_112 (by decide) h.1 h.2.1 (fun c => ?_) (fun c => ?_)
        · have h := h.2.2.1 c
          refine av_iconst dX0_pick_125 ?_
          refine av_isub dX0_pick_126 ?_
          refine av_istore_n (L' := [some (av_r 21), some (av_i x1), some (av_i x2), some (av_i (x3 - 0)), some (av_i x4), some (av_i x5), some (av_i x6), some (av_i x2)]) dX0_pick_127 rfl (by decide) rfl ?_
          refine av_iinc (L' := [some (av_r 21), some (av_i x1), some (av_i x2), some (av_i (x3 - 0)), some (av_i x4), some (av_i x5), some (av_i (x6 + 1)), some (av_i x2)]) dX0_pick_128 rfl (by decide) rfl rfl ?_
          refine av_goto (tgt := 49) dX0_pick_131 (by decide) ?_
          refine av_res [true, true, true, true, true, true, true, false] (L' := [some (av_r 21), some (av_i x1), some (av_i x2), some (av_i (x3 - 0)), some (av_i x4), some (av_i x5), some (av_i (x6 + 1)), none]) rfl ?_
          exact h
        · have h := h.2.2.2 c
          refine av_aload_n dX0_pick_115 rfl rfl ?_
          refine av_getr (k := 3) dX0_pick_116 rfl rfl iuX0 (by decide) rfl wF_X0_18 rfl ?_
          refine av_iload dX0_pick_119 rfl ?_
          refine av_iald (x := (s1 24 (x2).toNat)) dX0_pick_121 rfl (by decide) h.1 rfl ?_
          refine av_goto (tgt := 126) dX0_pick_122 (by decide) ?_
          refine av_isub dX0_pick_126 ?_
          refine av_istore_n (L' := [some (av_r 21), some (av_i x1), some (av_i x2), some (av_i (x3 - (s1 24 (x2).toNat))), some (av_i x4), some (av_i x5), some (av_i x6), some (av_i x2)]) dX0_pick_127 rfl (by decide) rfl ?_
          refine av_iinc (L' := [some (av_r 21), some (av_i x1), some (av_i x2), some (av_i (x3 - (s1 24 (x2).toNat))), some (av_i x4), some (av_i x5), some (av_i (x6 + 1)), some (av_i x2)]) dX0_pick_128 rfl (by decide) rfl rfl ?_
          refine av_goto (tgt := 49) dX0_pick_131 (by decide) ?_
          refine av_res [true, true, true, true, true, true, true, false] (L' := [some (av_r 21), some (av_i x1), some (av_i x2), some (av_i (x3 - (s1 24 (x2).toNat))), some (av_i x4), some (av_i x5), some (av_i (x6 + 1)), none]) rfl ?_
          exact h.2
      · have h := h.2.2.2 c
        refine av_iload_n dX0_pick_85 rfl rfl ?_
        refine av_aload_n dX0_pick_86 rfl rfl ?_
        refine av_getr (k := 3) dX0_pick_87 rfl rfl iuX0 (by decide) rfl wF_X0_18 rfl ?_
        refine av_iload dX0_pick_90 rfl ?_
        refine av_iald (x := (s1 24 (x2).toNat)) dX0_pick_92 rfl (by decide) h.1 rfl ?_
        refine av_icmp_ge (tgt := 108) dX0_pick_93 (by decide) h.2.1 h.2.2.1 (fun c => ?_) (fun c => ?_)
        · have h := h.2.2.2.1 c
          refine av_iload_n dX0_pick_108 rfl rfl ?_
          refine av_iload dX0_pick_109 rfl ?_
          refine av_iload_n dX0_pick_111 rfl rfl ?_
          refine av_icmp_le (tgt := 125) dX0_pick_112 (by decide) h.1 h.2.1 (fun c => ?_) (fun c => ?_)
          · have h := h.2.2.1 c
            refine av_iconst dX0_pick_125 ?_
            refine av_isub dX0_pick_126 ?_
            refine av_istore_n (L' := [some (av_r 21), some (av_i x1), some (av_i x2), some (av_i (x3 - 0)), some (av_i x4), some (av_i x5), some (av_i x6), some (av_i x2)]) dX0_pick_127 rfl (by decide) rfl ?_
            refine av_iinc (L' := [some (av_r 21), some (av_i x1), some (av_i x2), some (av_i (x3 - 0)), some (av_i x4), some (av_i x5), some (av_i (x6 + 1)), some (av_i x2)]) dX0_pick_128 rfl (by decide) rfl rfl ?_
            refine av_goto (tgt := 49) dX0_pick_131 (by decide) ?_
            refine av_res [true, true, true, true, true, true, true, false] (L' := [some (av_r 21), some (av_i x1), some (av_i x2), some (av_i (x3 - 0)), some (av_i x4), some (av_i x5), some (av_i (x6 + 1)), none]) rfl ?_
            exact h
          · have h := h.2.2.2 c
            refine av_aload_n dX0_pick_115 rfl rfl ?_
            refine av_getr (k := 3) dX0_pick_116 rfl rfl iuX0 (by decide) rfl wF_X0_18 rfl ?_
            refine av_iload dX0_pick_119 rfl ?_
            refine av_iald (x := (s1 24 (x2).toNat)) dX0_pick_121 rfl (by decide) h.1 rfl ?_
            refine av_goto (tgt := 126) dX0_pick_122 (by decide) ?_
            refine av_isub dX0_pick_126 ?_
            refine av_istore_n (L' := [some (av_r 21), some (av_i x1), some (av_i x2), some (av_i (x3 - (s1 24 (x2).toNat))), some (av_i x4), some (av_i x5), some (av_i x6), some (av_i x2)]) dX0_pick_127 rfl (by decide) rfl ?_
            refine av_iinc (L' := [some (av_r 21), some (av_i x1), some (av_i x2), some (av_i (x3 - (s1 24 (x2).toNat))), some (av_i x4), some (av_i x5), some (av_i (x6 + 1)), some (av_i x2)]) dX0_pick_128 rfl (by decide) rfl rfl ?_
            refine av_goto (tgt := 49) dX0_pick_131 (by decide) ?_
            refine av_res [true, true, true, true, true, true, true, false] (L' := [some (av_r 21), some (av_i x1), some (av_i x2), some (av_i (x3 - (s1 24 (x2).toNat))), some (av_i x4), some (av_i x5), some (av_i (x6 + 1)), none]) rfl ?_
            exact h.2
        · have h := h.2.2.2.2 c
          refine av_aload_n dX0_pick_96 rfl rfl ?_
          refine av_iload dX0_pick_97 rfl ?_
          refine av_callV mX0_addWord [av_i x6] [] dX0_pick_99 rfl rfl rfl mbX0_addWord rfl wI_X0_addWord wS_X0_addWord rfl wM_X0_84 ⟨Nat.le_of_ble_eq_true rfl, Nat.le_of_ble_eq_true rfl⟩ rfl (Nat.le_of_ble_eq_true rfl) (av_C.mono (fun v s2 hh => ?_) h)
          obtain ⟨rfl, h⟩ := hh
          change av_W E cSH mX0_pick 102 [some (av_r 21), some (av_i x1), some (av_i x2), some (av_i x3), some (av_i x4), some (av_i x5), some (av_i x6), some (av_i x2)] [] s2 Q
          refine av_iload dX0_pick_102 rfl ?_
          refine av_istore_n (L' := [some (av_r 21), some (av_i x1), some (av_i x2), some (av_i x3), some (av_i x4), some (av_i x5), some (av_i x6), some (av_i x2)]) dX0_pick_104 rfl (by decide) rfl ?_
          refine av_goto (tgt := 134) dX0_pick_105 (by decide) ?_
          refine av_iinc (L' := [some (av_r 21), some (av_i x1), some (av_i x2), some (av_i x3), some (av_i (x4 + 1)), some (av_i x5), some (av_i x6), some (av_i x2)]) dX0_pick_134 rfl (by decide) rfl rfl ?_
          refine av_goto (tgt := 22) dX0_pick_137 (by decide) ?_
          refine av_res [true, true, true, true, true, false, false, false] (L' := [some (av_r 21), some (av_i x1), some (av_i x2), some (av_i x3), some (av_i (x4 + 1)), none, none, none]) rfl ?_
          exact h
    · have h := h.2.2 c
      refine av_aload_n dX0_pick_66 rfl rfl ?_
      refine av_iload_n dX0_pick_67 rfl rfl ?_
      refine av_iload dX0_pick_68 rfl ?_
      refine av_callV mX0_slotBehind [av_i x2, av_i x6] [] dX0_pick_70 rfl rfl rfl mbX0_slotBehind rfl wI_X0_slotBehind wS_X0_slotBehind rfl wM_X0_80 ⟨Nat.le_of_ble_eq_true rfl, Nat.le_of_ble_eq_true rfl⟩ rfl (Nat.le_of_ble_eq_true rfl) (av_C.mono (fun v s3 hh => ?_) h)
      obtain ⟨r3, rfl, h⟩ := hh
      change av_W E cSH mX0_pick 73 [some (av_r 21), some (av_i x1), some (av_i x2), some (av_i x3), some (av_i x4), some (av_i x5), some (av_i x6), none] [av_i r3] s3 Q
      refine av_goto (tgt := 77) dX0_pick_73 (by decide) ?_
      refine av_istore (L' := [some (av_r 21), some (av_i x1), some (av_i x2), some (av_i x3), some (av_i x4), some (av_i x5), some (av_i x6), some (av_i r3)]) dX0_pick_77 (by decide) rfl ?_
      refine av_iload dX0_pick_79 rfl ?_
      refine av_iload_n dX0_pick_81 rfl rfl ?_
      refine av_icmp_le (tgt := 108) dX0_pick_82 (by decide) h.1 h.2.1 (fun c => ?_) (fun c => ?_)
      · have h := h.2.2.1 c
        refine av_iload_n dX0_pick_108 rfl rfl ?_
        refine av_iload dX0_pick_109 rfl ?_
        refine av_iload_n dX0_pick_111 rfl rfl ?_
        refine av_icmp_le (tgt := 125) dX0_pick_112 (by decide) h.1 h.2.1 (fun c => ?_) (fun c => ?_)
        · have h := h.2.2.1 c
          refine av_iconst dX0_pick_125 ?_
          refine av_isub dX0_pick_126 ?_
          refine av_istore_n (L' := [some (av_r 21), some (av_i x1), some (av_i x2), some (av_i (x3 - 0)), some (av_i x4), some (av_i x5), some (av_i x6), some (av_i r3)]) dX0_pick_127 rfl (by decide) rfl ?_
          refine av_iinc (L' := [some (av_r 21), some (av_i x1), some (av_i x2), some (av_i (x3 - 0)), some (av_i x4), some (av_i x5), some (av_i (x6 + 1)), some (av_i r3)]) dX0_pick_128 rfl (by decide) rfl rfl ?_
          refine av_goto (tgt := 49) dX0_pick_131 (by decide) ?_
          refine av_res [true, true, true, true, true, true, true, false] (L' := [some (av_r 21), some (av_i x1), some (av_i x2), some (av_i (x3 - 0)), some (av_i x4), some (av_i x5), some (av_i (x6 + 1)), none]) rfl ?_
          exact h
        · have h := h.2.2.2 c
          refine av_aload_n dX0_pick_115 rfl rfl ?_
          refine av_getr (k := 3) dX0_pick_116 rfl rfl iuX0 (by decide) rfl wF_X0_18 rfl ?_
          refine av_iload dX0_pick_119 rfl ?_
          refine av_iald (x := (s3 24 (r3).toNat)) dX0_pick_121 rfl (by decide) h.1 rfl ?_
          refine av_goto (tgt := 126) dX0_pick_122 (by decide) ?_
          refine av_isub dX0_pick_126 ?_
          refine av_istore_n (L' := [some (av_r 21), some (av_i x1), some (av_i x2), some (av_i (x3 - (s3 24 (r3).toNat))), some (av_i x4), some (av_i x5), some (av_i x6), some (av_i r3)]) dX0_pick_127 rfl (by decide) rfl ?_
          refine av_iinc (L' := [some (av_r 21), some (av_i x1), some (av_i x2), some (av_i (x3 - (s3 24 (r3).toNat))), some (av_i x4), some (av_i x5), some (av_i (x6 + 1)), some (av_i r3)]) dX0_pick_128 rfl (by decide) rfl rfl ?_
          refine av_goto (tgt := 49) dX0_pick_131 (by decide) ?_
          refine av_res [true, true, true, true, true, true, true, false] (L' := [some (av_r 21), some (av_i x1), some (av_i x2), some (av_i (x3 - (s3 24 (r3).toNat))), some (av_i x4), some (av_i x5), some (av_i (x6 + 1)), none]) rfl ?_
          exact h.2
      · have h := h.2.2.2 c
        refine av_iload_n dX0_pick_85 rfl rfl ?_
        refine av_aload_n dX0_pick_86 rfl rfl ?_
        refine av_getr (k := 3) dX0_pick_87 rfl rfl iuX0 (by decide) rfl wF_X0_18 rfl ?_
        refine av_iload dX0_pick_90 rfl ?_
        refine av_iald (x := (s3 24 (r3).toNat)) dX0_pick_92 rfl (by decide) h.1 rfl ?_
        refine av_icmp_ge (tgt := 108) dX0_pick_93 (by decide) h.2.1 h.2.2.1 (fun c => ?_) (fun c => ?_)
        · have h := h.2.2.2.1 c
          refine av_iload_n dX0_pick_108 rfl rfl ?_
          refine av_iload dX0_pick_109 rfl ?_
          refine av_iload_n dX0_pick_111 rfl rfl ?_
          refine av_icmp_le (tgt := 125) dX0_pick_112 (by decide) h.1 h.2.1 (fun c => ?_) (fun c => ?_)
          · have h := h.2.2.1 c
            refine av_iconst dX0_pick_125 ?_
            refine av_isub dX0_pick_126 ?_
            refine av_istore_n (L' := [some (av_r 21), some (av_i x1), some (av_i x2), some (av_i (x3 - 0)), some (av_i x4), some (av_i x5), some (av_i x6), some (av_i r3)]) dX0_pick_127 rfl (by decide) rfl ?_
            refine av_iinc (L' := [some (av_r 21), some (av_i x1), some (av_i x2), some (av_i (x3 - 0)), some (av_i x4), some (av_i x5), some (av_i (x6 + 1)), some (av_i r3)]) dX0_pick_128 rfl (by decide) rfl rfl ?_
            refine av_goto (tgt := 49) dX0_pick_131 (by decide) ?_
            refine av_res [true, true, true, true, true, true, true, false] (L' := [some (av_r 21), some (av_i x1), some (av_i x2), some (av_i (x3 - 0)), some (av_i x4), some (av_i x5), some (av_i (x6 + 1)), none]) rfl ?_
            exact h
          · have h := h.2.2.2 c
            refine av_aload_n dX0_pick_115 rfl rfl ?_
            refine av_getr (k := 3) dX0_pick_116 rfl rfl iuX0 (by decide) rfl wF_X0_18 rfl ?_
            refine av_iload dX0_pick_119 rfl ?_
            refine av_iald (x := (s3 24 (r3).toNat)) dX0_pick_121 rfl (by decide) h.1 rfl ?_
            refine av_goto (tgt := 126) dX0_pick_122 (by decide) ?_
            refine av_isub dX0_pick_126 ?_
            refine av_istore_n (L' := [some (av_r 21), some (av_i x1), some (av_i x2), some (av_i (x3 - (s3 24 (r3).toNat))), some (av_i x4), some (av_i x5), some (av_i x6), some (av_i r3)]) dX0_pick_127 rfl (by decide) rfl ?_
            refine av_iinc (L' := [some (av_r 21), some (av_i x1), some (av_i x2), some (av_i (x3 - (s3 24 (r3).toNat))), some (av_i x4), some (av_i x5), some (av_i (x6 + 1)), some (av_i r3)]) dX0_pick_128 rfl (by decide) rfl rfl ?_
            refine av_goto (tgt := 49) dX0_pick_131 (by decide) ?_
            refine av_res [true, true, true, true, true, true, true, false] (L' := [some (av_r 21), some (av_i x1), some (av_i x2), some (av_i (x3 - (s3 24 (r3).toNat))), some (av_i x4), some (av_i x5), some (av_i (x6 + 1)), none]) rfl ?_
            exact h.2
        · have h := h.2.2.2.2 c
          refine av_aload_n dX0_pick_96 rfl rfl ?_
          refine av_iload dX0_pick_97 rfl ?_
          refine av_callV mX0_addWord [av_i x6] [] dX0_pick_99 rfl rfl rfl mbX0_addWord rfl wI_X0_addWord wS_X0_addWord rfl wM_X0_84 ⟨Nat.le_of_ble_eq_true rfl, Nat.le_of_ble_eq_true rfl⟩ rfl (Nat.le_of_ble_eq_true rfl) (av_C.mono (fun v s4 hh => ?_) h)
          obtain ⟨rfl, h⟩ := hh
          change av_W E cSH mX0_pick 102 [some (av_r 21), some (av_i x1), some (av_i x2), some (av_i x3), some (av_i x4), some (av_i x5), some (av_i x6), some (av_i r3)] [] s4 Q
          refine av_iload dX0_pick_102 rfl ?_
          refine av_istore_n (L' := [some (av_r 21), some (av_i x1), some (av_i r3), some (av_i x3), some (av_i x4), some (av_i x5), some (av_i x6), some (av_i r3)]) dX0_pick_104 rfl (by decide) rfl ?_
          refine av_goto (tgt := 134) dX0_pick_105 (by decide) ?_
          refine av_iinc (L' := [some (av_r 21), some (av_i x1), some (av_i r3), some (av_i x3), some (av_i (x4 + 1)), some (av_i x5), some (av_i x6), some (av_i r3)]) dX0_pick_134 rfl (by decide) rfl rfl ?_
          refine av_goto (tgt := 22) dX0_pick_137 (by decide) ?_
          refine av_res [true, true, true, true, true, false, false, false] (L' := [some (av_r 21), some (av_i x1), some (av_i r3), some (av_i x3), some (av_i (x4 + 1)), none, none, none]) rfl ?_
          exact h

theorem uX0_addWord {E : av_E} {σ : av_M} {Q : Option av_V → av_M → Prop} {a1 : Int} (h : (0 ≤ (σ 21 9) ∧ (σ 21 9) < 9) ∧ ((0 ≤ a1 ∧ a1 < 2147483648) ∧ ((rg (a1 % 2)) ∧ (((¬ (a1 % 2) = 1) → (0 ≤ a1 ∧ a1 < 2147483648) ∧ ((0 ≤ (a1 / 2) ∧ (a1 / 2) < 8) ∧ (Q none (av_st (av_st (av_st σ 26 ((σ 21 9)).toNat a1) 21 9 ((σ 21 9) + 1)) 21 10 ((σ 21 10) + (σ 6 ((a1 / 2)).toNat)))))) ∧ (((a1 % 2) = 1) → (0 ≤ a1 ∧ a1 < 2147483648) ∧ ((0 ≤ (a1 / 2) ∧ (a1 / 2) < 8) ∧ (Q none (av_st (av_st (av_st σ 26 ((σ 21 9)).toNat a1) 21 9 ((σ 21 9) + 1)) 21 11 (i_or (σ 21 11) (i_shl 1 (σ 7 ((a1 / 2)).toNat))))))))))) :
    av_C E cSH mX0_addWord [av_r 21, av_i a1] σ Q := by
  refine av_C.ofW (L := [some (av_r 21), some (av_i a1)]) (by decide) (Nat.le_of_ble_eq_true rfl) rfl ?_
  refine av_aload_n dX0_addWord_0 rfl rfl ?_
  refine av_getr (k := 8) dX0_addWord_1 rfl rfl iuX0 (by decide) rfl wF_X0_24 rfl ?_
  refine av_aload_n dX0_addWord_4 rfl rfl ?_
  refine av_get (k := 9) (x := (σ 21 9)) dX0_addWord_5 rfl rfl iuX0 (by decide) rfl wF_X0_64 rfl rfl ?_
  refine av_iload_n dX0_addWord_8 rfl rfl ?_
  refine av_iast dX0_addWord_9 rfl (by decide) h.1 ?_
  refine av_aload_n dX0_addWord_10 rfl rfl ?_
  refine av_dup dX0_addWord_11 (fun _ h9 => nomatch h9) ?_
  refine av_get (k := 9) (x := (σ 21 9)) dX0_addWord_12 rfl rfl iuX0 (by decide) rfl wF_X0_64 rfl rfl ?_
  refine av_iconst dX0_addWord_15 ?_
  refine av_iadd dX0_addWord_16 ?_
  refine av_put (k := 9) tyX0 dX0_addWord_17 rfl rfl iuX0 tyX0_ok nmX0 (by decide) rfl wF_X0_64 rfl rfl rfl ?_
  refine av_iload_n dX0_addWord_20 rfl rfl ?_
  refine av_iconst dX0_addWord_21 ?_
  refine av_irem dX0_addWord_22 h.2.1 (by decide) ?_
  refine av_iconst dX0_addWord_23 ?_
  refine av_icmp_ne (tgt := 52) dX0_addWord_24 (by decide) h.2.2.1 (by decide) (fun c => ?_) (fun c => ?_)
  · have h := h.2.2.2.1 c
    refine av_aload_n dX0_addWord_52 rfl rfl ?_
    refine av_dup dX0_addWord_53 (fun _ h9 => nomatch h9) ?_
    refine av_get (k := 10) (x := (σ 21 10)) dX0_addWord_54 rfl rfl iuX0 (by decide) rfl wF_X0_67 rfl rfl ?_
    refine av_aload_n dX0_addWord_57 rfl rfl ?_
    refine av_getr (k := 0) dX0_addWord_58 rfl rfl iuX0 (by decide) rfl wF_X0_27 rfl ?_
    refine av_getr (k := 2) dX0_addWord_61 rfl rfl iuX3 (by decide) rfl wF_X0_90 rfl ?_
    refine av_iload_n dX0_addWord_64 rfl rfl ?_
    refine av_iconst dX0_addWord_65 ?_
    refine av_idiv dX0_addWord_66 h.1 (by decide) ?_
    refine av_iald (x := (σ 6 ((a1 / 2)).toNat)) dX0_addWord_67 rfl (by decide) h.2.1 rfl ?_
    refine av_iadd dX0_addWord_68 ?_
    refine av_put (k := 10) tyX0 dX0_addWord_69 rfl rfl iuX0 tyX0_ok nmX0 (by decide) rfl wF_X0_67 rfl rfl rfl ?_
    exact av_return dX0_addWord_72 rfl h.2.2
  · have h := h.2.2.2.2 c
    refine av_aload_n dX0_addWord_27 rfl rfl ?_
    refine av_dup dX0_addWord_28 (fun _ h9 => nomatch h9) ?_
    refine av_get (k := 11) (x := (σ 21 11)) dX0_addWord_29 rfl rfl iuX0 (by decide) rfl wF_X0_70 rfl rfl ?_
    refine av_iconst dX0_addWord_32 ?_
    refine av_aload_n dX0_addWord_33 rfl rfl ?_
    refine av_getr (k := 0) dX0_addWord_34 rfl rfl iuX0 (by decide) rfl wF_X0_27 rfl ?_
    refine av_getr (k := 3) dX0_addWord_37 rfl rfl iuX3 (by decide) rfl wF_X0_87 rfl ?_
    refine av_iload_n dX0_addWord_40 rfl rfl ?_
    refine av_iconst dX0_addWord_41 ?_
    refine av_idiv dX0_addWord_42 h.1 (by decide) ?_
    refine av_iald (x := (σ 7 ((a1 / 2)).toNat)) dX0_addWord_43 rfl (by decide) h.2.1 rfl ?_
    refine av_ishl dX0_addWord_44 ?_
    refine av_ior dX0_addWord_45 ?_
    refine av_put (k := 11) tyX0 dX0_addWord_46 rfl rfl iuX0 tyX0_ok nmX0 (by decide) rfl wF_X0_70 rfl rfl rfl ?_
    refine av_goto (tgt := 72) dX0_addWord_49 (by decide) ?_
    exact av_return dX0_addWord_72 rfl h.2.2

theorem uX0_told {E : av_E} {σ : av_M} {Q : Option av_V → av_M → Prop} (h : (rg (σ 21 5)) ∧ (((¬ (σ 21 5) = 3) → (rg (σ 21 5)) ∧ ((((σ 21 5) = 1) → av_C E cSH mX0_rank [av_r 21] σ (fun v s1 => v = none ∧ (av_C E cSH mX0_firstOfBest [av_r 21] s1 (fun v s2 => ∃ r2 : Int, v = some (av_i r2) ∧ (Q (some (av_i r2)) s2))))) ∧ ((¬ (σ 21 5) = 1) → (rg (σ 21 5)) ∧ ((((σ 21 5) = 2) → av_C E cSH mX0_rank [av_r 21] σ (fun v s3 => v = none ∧ (av_C E cSH mX0_firstOfBest [av_r 21] s3 (fun v s4 => ∃ r4 : Int, v = some (av_i r4) ∧ (Q (some (av_i r4)) s4))))) ∧ ((¬ (σ 21 5) = 2) → Q (some (av_i 0)) σ))))) ∧ (((σ 21 5) = 3) → Q (some (av_i ((σ 24 0) - 1))) σ))) :
    av_C E cSH mX0_told [av_r 21] σ Q := by
  refine av_C.ofW (L := [some (av_r 21)]) (by decide) (Nat.le_of_ble_eq_true rfl) rfl ?_
  refine av_aload_n dX0_told_0 rfl rfl ?_
  refine av_get (k := 5) (x := (σ 21 5)) dX0_told_1 rfl rfl iuX0 (by decide) rfl wF_X0_31 rfl rfl ?_
  refine av_iconst dX0_told_4 ?_
  refine av_icmp_ne (tgt := 17) dX0_told_5 (by decide) h.1 (by decide) (fun c => ?_) (fun c => ?_)
  · have h := h.2.1 c
    refine av_aload_n dX0_told_17 rfl rfl ?_
    refine av_get (k := 5) (x := (σ 21 5)) dX0_told_18 rfl rfl iuX0 (by decide) rfl wF_X0_31 rfl rfl ?_
    refine av_iconst dX0_told_21 ?_
    refine av_icmp_eq (tgt := 35) dX0_told_22 (by decide) h.1 (by decide) (fun c => ?_) (fun c => ?_)
    · have h := h.2.1 c
      refine av_aload_n dX0_told_35 rfl rfl ?_
      refine av_callV mX0_rank [] [] dX0_told_36 rfl rfl rfl mbX0_rank rfl wI_X0_rank wS_X0_rank rfl wM_X0_93 ⟨Nat.le_of_ble_eq_true rfl, Nat.le_of_ble_eq_true rfl⟩ rfl (Nat.le_of_ble_eq_true rfl) (av_C.mono (fun v s1 hh => ?_) h)
      obtain ⟨rfl, h⟩ := hh
      change av_W E cSH mX0_told 39 [some (av_r 21)] [] s1 Q
      refine av_aload_n dX0_told_39 rfl rfl ?_
      refine av_callV mX0_firstOfBest [] [] dX0_told_40 rfl rfl rfl mbX0_firstOfBest rfl wI_X0_firstOfBest wS_X0_firstOfBest rfl wM_X0_96 ⟨Nat.le_of_ble_eq_true rfl, Nat.le_of_ble_eq_true rfl⟩ rfl (Nat.le_of_ble_eq_true rfl) (av_C.mono (fun v s2 hh => ?_) h)
      obtain ⟨r2, rfl, h⟩ := hh
      change av_W E cSH mX0_told 43 [some (av_r 21)] [av_i r2] s2 Q
      exact av_ireturn dX0_told_43 rfl h
    · have h := h.2.2 c
      refine av_aload_n dX0_told_25 rfl rfl ?_
      refine av_get (k := 5) (x := (σ 21 5)) dX0_told_26 rfl rfl iuX0 (by decide) rfl wF_X0_31 rfl rfl ?_
      refine av_iconst dX0_told_29 ?_
      refine av_icmp_eq (tgt := 35) dX0_told_30 (by decide) h.1 (by decide) (fun c => ?_) (fun c => ?_)
      · have h := h.2.1 c
        refine av_aload_n dX0_told_35 rfl rfl ?_
        refine av_callV mX0_rank [] [] dX0_told_36 rfl rfl rfl mbX0_rank rfl wI_X0_rank wS_X0_rank rfl wM_X0_93 ⟨Nat.le_of_ble_eq_true rfl, Nat.le_of_ble_eq_true rfl⟩ rfl (Nat.le_of_ble_eq_true rfl) (av_C.mono (fun v s3 hh => ?_) h)
        obtain ⟨rfl, h⟩ := hh
        change av_W E cSH mX0_told 39 [some (av_r 21)] [] s3 Q
        refine av_aload_n dX0_told_39 rfl rfl ?_
        refine av_callV mX0_firstOfBest [] [] dX0_told_40 rfl rfl rfl mbX0_firstOfBest rfl wI_X0_firstOfBest wS_X0_firstOfBest rfl wM_X0_96 ⟨Nat.le_of_ble_eq_true rfl, Nat.le_of_ble_eq_true rfl⟩ rfl (Nat.le_of_ble_eq_true rfl) (av_C.mono (fun v s4 hh => ?_) h)
        obtain ⟨r4, rfl, h⟩ := hh
        change av_W E cSH mX0_told 43 [some (av_r 21)] [av_i r4] s4 Q
        exact av_ireturn dX0_told_43 rfl h
      · have h := h.2.2 c
        refine av_iconst dX0_told_33 ?_
        exact av_ireturn dX0_told_34 rfl h
  · have h := h.2.2 c
    refine av_aload_n dX0_told_8 rfl rfl ?_
    refine av_getr (k := 3) dX0_told_9 rfl rfl iuX0 (by decide) rfl wF_X0_18 rfl ?_
    refine av_iconst dX0_told_12 ?_
    refine av_iald (x := (σ 24 0)) dX0_told_13 rfl (by decide) (by decide) rfl ?_
    refine av_iconst dX0_told_14 ?_
    refine av_isub dX0_told_15 ?_
    exact av_ireturn dX0_told_16 rfl h

theorem uX0_rank {E : av_E} {σ : av_M} {Q : Option av_V → av_M → Prop} (h : av_W E cSH mX0_rank 2 [some (av_r 21), some (av_i 0)] [] σ Q) :
    av_C E cSH mX0_rank [av_r 21] σ Q := by
  refine av_C.ofW (L := [some (av_r 21), none]) (by decide) (Nat.le_of_ble_eq_true rfl) rfl ?_
  refine av_iconst dX0_rank_0 ?_
  refine av_istore_n (L' := [some (av_r 21), some (av_i 0)]) dX0_rank_1 rfl (by decide) rfl ?_
  exact h

theorem uX0_rank_2 {E : av_E} {σ : av_M} {Q : Option av_V → av_M → Prop} {x1 : Int} (h : (rg x1) ∧ (((3 ≤ x1) → av_W E cSH mX0_rank 36 [some (av_r 21), some (av_i (((σ 21 6) * 3) - 1))] [] σ Q) ∧ ((x1 < 3) → (0 ≤ (((σ 21 6) * 3) + x1) ∧ (((σ 21 6) * 3) + x1) < 30) ∧ (av_W E cSH mX0_rank 2 [some (av_r 21), some (av_i (x1 + 1))] [] (av_st σ 25 ((((σ 21 6) * 3) + x1)).toNat 0) Q)))) :
    av_W E cSH mX0_rank 2 [some (av_r 21), some (av_i x1)] [] σ Q := by
  refine av_iload_n dX0_rank_2 rfl rfl ?_
  refine av_iconst dX0_rank_3 ?_
  refine av_icmp_ge (tgt := 27) dX0_rank_4 (by decide) h.1 (by decide) (fun c => ?_) (fun c => ?_)
  · have h := h.2.1 c
    refine av_aload_n dX0_rank_27 rfl rfl ?_
    refine av_get (k := 6) (x := (σ 21 6)) dX0_rank_28 rfl rfl iuX0 (by decide) rfl wF_X0_39 rfl rfl ?_
    refine av_iconst dX0_rank_31 ?_
    refine av_imul dX0_rank_32 ?_
    refine av_iconst dX0_rank_33 ?_
    refine av_isub dX0_rank_34 ?_
    refine av_istore_n (L' := [some (av_r 21), some (av_i (((σ 21 6) * 3) - 1))]) dX0_rank_35 rfl (by decide) rfl ?_
    exact h
  · have h := h.2.2 c
    refine av_aload_n dX0_rank_7 rfl rfl ?_
    refine av_getr (k := 4) dX0_rank_8 rfl rfl iuX0 (by decide) rfl wF_X0_21 rfl ?_
    refine av_aload_n dX0_rank_11 rfl rfl ?_
    refine av_get (k := 6) (x := (σ 21 6)) dX0_rank_12 rfl rfl iuX0 (by decide) rfl wF_X0_39 rfl rfl ?_
    refine av_iconst dX0_rank_15 ?_
    refine av_imul dX0_rank_16 ?_
    refine av_iload_n dX0_rank_17 rfl rfl ?_
    refine av_iadd dX0_rank_18 ?_
    refine av_iconst dX0_rank_19 ?_
    refine av_iast dX0_rank_20 rfl (by decide) h.1 ?_
    refine av_iinc (L' := [some (av_r 21), some (av_i (x1 + 1))]) dX0_rank_21 rfl (by decide) rfl rfl ?_
    refine av_goto (tgt := 2) dX0_rank_24 (by decide) ?_
    exact h.2

theorem uX0_rank_36 {E : av_E} {σ : av_M} {Q : Option av_V → av_M → Prop} {x1 : Int} (h : (rg x1) ∧ (((x1 < 0) → Q none σ) ∧ ((0 ≤ x1) → (0 ≤ x1 ∧ x1 < 30) ∧ ((rg (σ 24 (x1).toNat)) ∧ ((((σ 24 (x1).toNat) ≤ 0) → (0 ≤ x1 ∧ x1 < 30) ∧ (av_W E cSH mX0_rank 36 [some (av_r 21), some (av_i (x1 + (-1)))] [] (av_st σ 25 (x1).toNat 0) Q)) ∧ ((0 < (σ 24 (x1).toNat)) → av_C E cSH mX0_bestFrom [av_r 21, av_i x1] σ (fun v s1 => ∃ r1 : Int, v = some (av_i r1) ∧ ((0 ≤ x1 ∧ x1 < 30) ∧ (av_W E cSH mX0_rank 36 [some (av_r 21), some (av_i (x1 + (-1)))] [] (av_st s1 25 (x1).toNat r1) Q))))))))) :
    av_W E cSH mX0_rank 36 [some (av_r 21), some (av_i x1)] [] σ Q := by
  refine av_iload_n dX0_rank_36 rfl rfl ?_
  refine av_if_lt (tgt := 70) dX0_rank_37 (by decide) h.1 (fun c => ?_) (fun c => ?_)
  · have h := h.2.1 c
    exact av_return dX0_rank_70 rfl h
  · have h := h.2.2 c
    refine av_aload_n dX0_rank_40 rfl rfl ?_
    refine av_getr (k := 4) dX0_rank_41 rfl rfl iuX0 (by decide) rfl wF_X0_21 rfl ?_
    refine av_iload_n dX0_rank_44 rfl rfl ?_
    refine av_aload_n dX0_rank_45 rfl rfl ?_
    refine av_getr (k := 3) dX0_rank_46 rfl rfl iuX0 (by decide) rfl wF_X0_18 rfl ?_
    refine av_iload_n dX0_rank_49 rfl rfl ?_
    refine av_iald (x := (σ 24 (x1).toNat)) dX0_rank_50 rfl (by decide) h.1 rfl ?_
    refine av_if_le (tgt := 62) dX0_rank_51 (by decide) h.2.1 (fun c => ?_) (fun c => ?_)
    · have h := h.2.2.1 c
      refine av_iconst dX0_rank_62 ?_
      refine av_iast dX0_rank_63 rfl (by decide) h.1 ?_
      refine av_iinc (L' := [some (av_r 21), some (av_i (x1 + (-1)))]) dX0_rank_64 rfl (by decide) rfl rfl ?_
      refine av_goto (tgt := 36) dX0_rank_67 (by decide) ?_
      exact h.2
    · have h := h.2.2.2 c
      refine av_aload_n dX0_rank_54 rfl rfl ?_
      refine av_iload_n dX0_rank_55 rfl rfl ?_
      refine av_callV mX0_bestFrom [av_i x1] [av_i x1, av_r 25] dX0_rank_56 rfl rfl rfl mbX0_bestFrom rfl wI_X0_bestFrom wS_X0_bestFrom rfl wM_X0_100 ⟨Nat.le_of_ble_eq_true rfl, Nat.le_of_ble_eq_true rfl⟩ rfl (Nat.le_of_ble_eq_true rfl) (av_C.mono (fun v s1 hh => ?_) h)
      obtain ⟨r1, rfl, h⟩ := hh
      change av_W E cSH mX0_rank 59 [some (av_r 21), some (av_i x1)] [av_i r1, av_i x1, av_r 25] s1 Q
      refine av_goto (tgt := 63) dX0_rank_59 (by decide) ?_
      refine av_iast dX0_rank_63 rfl (by decide) h.1 ?_
      refine av_iinc (L' := [some (av_r 21), some (av_i (x1 + (-1)))]) dX0_rank_64 rfl (by decide) rfl rfl ?_
      refine av_goto (tgt := 36) dX0_rank_67 (by decide) ?_
      exact h.2

theorem uX0_bestFrom {E : av_E} {σ : av_M} {Q : Option av_V → av_M → Prop} {a1 : Int} (h : av_C E cSH mX0_openAt [av_r 21, av_i a1] σ (fun v s1 => ∃ r1 : Int, v = some (av_i r1) ∧ (av_W E cSH mX0_bestFrom 11 [some (av_r 21), some (av_i a1), some (av_i r1), some (av_i 0), some (av_i 0), none] [] s1 Q))) :
    av_C E cSH mX0_bestFrom [av_r 21, av_i a1] σ Q := by
  refine av_C.ofW (L := [some (av_r 21), some (av_i a1), none, none, none, none]) (by decide) (Nat.le_of_ble_eq_true rfl) rfl ?_
  refine av_aload_n dX0_bestFrom_0 rfl rfl ?_
  refine av_iload_n dX0_bestFrom_1 rfl rfl ?_
  refine av_callV mX0_openAt [av_i a1] [] dX0_bestFrom_2 rfl rfl rfl mbX0_openAt rfl wI_X0_openAt wS_X0_openAt rfl wM_X0_73 ⟨Nat.le_of_ble_eq_true rfl, Nat.le_of_ble_eq_true rfl⟩ rfl (Nat.le_of_ble_eq_true rfl) (av_C.mono (fun v s1 hh => ?_) h)
  obtain ⟨r1, rfl, h⟩ := hh
  change av_W E cSH mX0_bestFrom 5 [some (av_r 21), some (av_i a1), none, none, none, none] [av_i r1] s1 Q
  refine av_istore_n (L' := [some (av_r 21), some (av_i a1), some (av_i r1), none, none, none]) dX0_bestFrom_5 rfl (by decide) rfl ?_
  refine av_iconst dX0_bestFrom_6 ?_
  refine av_istore_n (L' := [some (av_r 21), some (av_i a1), some (av_i r1), some (av_i 0), none, none]) dX0_bestFrom_7 rfl (by decide) rfl ?_
  refine av_iconst dX0_bestFrom_8 ?_
  refine av_istore (L' := [some (av_r 21), some (av_i a1), some (av_i r1), some (av_i 0), some (av_i 0), none]) dX0_bestFrom_9 (by decide) rfl ?_
  exact h

theorem uX0_bestFrom_11 {E : av_E} {σ : av_M} {Q : Option av_V → av_M → Prop} {x1 x2 x3 x4 : Int} (h : (rg x4) ∧ (((16 ≤ x4) → Q (some (av_i x3)) σ) ∧ ((x4 < 16) → (rg (i_shr x2 x4)) ∧ ((((i_shr x2 x4) = 0) → Q (some (av_i x3)) σ) ∧ ((¬ (i_shr x2 x4) = 0) → av_C E cSH mX4_holds [av_i x2, av_i x4] σ (fun v s1 => ∃ r1 : Int, v = some (av_i r1) ∧ ((rg r1) ∧ (((r1 = 0) → (rg x1) ∧ ((rg x1) ∧ (((x1 ≤ x1) → av_W E cSH mX0_bestFrom 11 [some (av_r 21), some (av_i x1), some (av_i x2), some (av_i x3), some (av_i (x4 + 1)), none] [] s1 Q) ∧ ((x1 < x1) → (0 ≤ x1 ∧ x1 < 30) ∧ ((rg (s1 24 (x1).toNat)) ∧ ((((s1 24 (x1).toNat) ≤ 0) → av_W E cSH mX0_bestFrom 11 [some (av_r 21), some (av_i x1), some (av_i x2), some (av_i x3), some (av_i (x4 + 1)), none] [] s1 Q) ∧ ((0 < (s1 24 (x1).toNat)) → av_C E cSH mX0_gainOf [av_r 21, av_i x4] s1 (fun v s2 => ∃ r2 : Int, v = some (av_i r2) ∧ ((0 ≤ x1 ∧ x1 < 30) ∧ ((rg x3) ∧ ((rg (r2 + (s2 25 (x1).toNat))) ∧ (av_W E cSH mX0_bestFrom 11 [some (av_r 21), some (av_i x1), some (av_i x2), some (av_i (max x3 (r2 + (s2 25 (x1).toNat)))), some (av_i (x4 + 1)), none] [] s2 Q)))))))))))) ∧ ((¬ r1 = 0) → av_C E cSH mX0_slotBehind [av_r 21, av_i x1, av_i x4] s1 (fun v s3 => ∃ r3 : Int, v = some (av_i r3) ∧ ((rg r3) ∧ ((rg x1) ∧ (((r3 ≤ x1) → av_W E cSH mX0_bestFrom 11 [some (av_r 21), some (av_i x1), some (av_i x2), some (av_i x3), some (av_i (x4 + 1)), none] [] s3 Q) ∧ ((x1 < r3) → (0 ≤ r3 ∧ r3 < 30) ∧ ((rg (s3 24 (r3).toNat)) ∧ ((((s3 24 (r3).toNat) ≤ 0) → av_W E cSH mX0_bestFrom 11 [some (av_r 21), some (av_i x1), some (av_i x2), some (av_i x3), some (av_i (x4 + 1)), none] [] s3 Q) ∧ ((0 < (s3 24 (r3).toNat)) → av_C E cSH mX0_gainOf [av_r 21, av_i x4] s3 (fun v s4 => ∃ r4 : Int, v = some (av_i r4) ∧ ((0 ≤ r3 ∧ r3 < 30) ∧ ((rg x3) ∧ ((rg (r4 + (s4 25 (r3).toNat))) ∧ (av_W E cSH mX0_bestFrom 11 [some (av_r 21), some (av_i x1), some (av_i x2), some (av_i (max x3 (r4 + (s4 25 (r3).toNat)))), some (av_i (x4 + 1)), none] [] s4 Q)))))))))))))))))))))) :
    av_W E cSH mX0_bestFrom 11 [some (av_r 21), some (av_i x1), some (av_i x2), some (av_i x3), some (av_i x4), none] [] σ Q := by
  refine av_iload dX0_bestFrom_11 rfl ?_
  refine av_bipush dX0_bestFrom_13 rfl ?_
  refine av_icmp_ge (tgt := 88) dX0_bestFrom_15 (by decide) h.1 (by decide) (fun c => ?_) (fun c => ?_)
  · have h := h.2.1 c
    refine av_iload_n dX0_bestFrom_88 rfl rfl ?_
    exact av_ireturn dX0_bestFrom_89 rfl h
  · have h := h.2.2 c
    refine av_iload_n dX0_bestFrom_18 rfl rfl ?_
    refine av_iload dX0_bestFrom_19 rfl ?_
    refine av_ishr dX0_bestFrom_21 ?_
    refine av_if_eq (tgt := 88) dX0_bestFrom_22 (by decide) h.1 (fun c => ?_) (fun c => ?_)
    · have h := h.2.1 c
      refine av_iload_n dX0_bestFrom_88 rfl rfl ?_
      exact av_ireturn dX0_bestFrom_89 rfl h
    · have h := h.2.2 c
      refine av_iload_n dX0_bestFrom_25 rfl rfl ?_
      refine av_iload dX0_bestFrom_26 rfl ?_
      refine av_callN mX4_holds [av_i x2, av_i x4] [] dX0_bestFrom_28 mbX4_holds rfl wT_X4_holds rfl wNest_X0_76 ⟨Nat.le_of_ble_eq_true rfl, Nat.le_of_ble_eq_true rfl⟩ rfl (Nat.le_of_ble_eq_true rfl) (av_C.mono (fun v s1 hh => ?_) h)
      obtain ⟨r1, rfl, h⟩ := hh
      change av_W E cSH mX0_bestFrom 31 [some (av_r 21), some (av_i x1), some (av_i x2), some (av_i x3), some (av_i x4), none] [av_i r1] s1 Q
      refine av_if_eq (tgt := 44) dX0_bestFrom_31 (by decide) h.1 (fun c => ?_) (fun c => ?_)
      · have h := h.2.1 c
        refine av_iload_n dX0_bestFrom_44 rfl rfl ?_
        refine av_istore (L' := [some (av_r 21), some (av_i x1), some (av_i x2), some (av_i x3), some (av_i x4), some (av_i x1)]) dX0_bestFrom_45 (by decide) rfl ?_
        refine av_iload dX0_bestFrom_47 rfl ?_
        refine av_iload_n dX0_bestFrom_49 rfl rfl ?_
        refine av_icmp_le (tgt := 82) dX0_bestFrom_50 (by decide) h.1 h.2.1 (fun c => ?_) (fun c => ?_)
        · have h := h.2.2.1 c
          refine av_iinc (L' := [some (av_r 21), some (av_i x1), some (av_i x2), some (av_i x3), some (av_i (x4 + 1)), some (av_i x1)]) dX0_bestFrom_82 rfl (by decide) rfl rfl ?_
          refine av_goto (tgt := 11) dX0_bestFrom_85 (by decide) ?_
          refine av_res [true, true, true, true, true, false] (L' := [some (av_r 21), some (av_i x1), some (av_i x2), some (av_i x3), some (av_i (x4 + 1)), none]) rfl ?_
          exact h
        · have h := h.2.2.2 c
          refine av_aload_n dX0_bestFrom_53 rfl rfl ?_
          refine av_getr (k := 3) dX0_bestFrom_54 rfl rfl iuX0 (by decide) rfl wF_X0_18 rfl ?_
          refine av_iload dX0_bestFrom_57 rfl ?_
          refine av_iald (x := (s1 24 (x1).toNat)) dX0_bestFrom_59 rfl (by decide) h.1 rfl ?_
          refine av_if_le (tgt := 82) dX0_bestFrom_60 (by decide) h.2.1 (fun c => ?_) (fun c => ?_)
          · have h := h.2.2.1 c
            refine av_iinc (L' := [some (av_r 21), some (av_i x1), some (av_i x2), some (av_i x3), some (av_i (x4 + 1)), some (av_i x1)]) dX0_bestFrom_82 rfl (by decide) rfl rfl ?_
            refine av_goto (tgt := 11) dX0_bestFrom_85 (by decide) ?_
            refine av_res [true, true, true, true, true, false] (L' := [some (av_r 21), some (av_i x1), some (av_i x2), some (av_i x3), some (av_i (x4 + 1)), none]) rfl ?_
            exact h
          · have h := h.2.2.2 c
            refine av_iload_n dX0_bestFrom_63 rfl rfl ?_
            refine av_aload_n dX0_bestFrom_64 rfl rfl ?_
            refine av_iload dX0_bestFrom_65 rfl ?_
            refine av_callV mX0_gainOf [av_i x4] [av_i x3] dX0_bestFrom_67 rfl rfl rfl mbX0_gainOf rfl wI_X0_gainOf wS_X0_gainOf rfl wM_X0_103 ⟨Nat.le_of_ble_eq_true rfl, Nat.le_of_ble_eq_true rfl⟩ rfl (Nat.le_of_ble_eq_true rfl) (av_C.mono (fun v s2 hh => ?_) h)
            obtain ⟨r2, rfl, h⟩ := hh
            change av_W E cSH mX0_bestFrom 70 [some (av_r 21), some (av_i x1), some (av_i x2), some (av_i x3), some (av_i x4), some (av_i x1)] [av_i r2, av_i x3] s2 Q
            refine av_aload_n dX0_bestFrom_70 rfl rfl ?_
            refine av_getr (k := 4) dX0_bestFrom_71 rfl rfl iuX0 (by decide) rfl wF_X0_21 rfl ?_
            refine av_iload dX0_bestFrom_74 rfl ?_
            refine av_iald (x := (s2 25 (x1).toNat)) dX0_bestFrom_76 rfl (by decide) h.1 rfl ?_
            refine av_iadd dX0_bestFrom_77 ?_
            refine av_max dX0_bestFrom_78 rfl wM_X0_106 wT_J9_max_7cf53 wN_J9 mbJ9_max_7cf53.2.2.2.2 (by decide) (by decide) (Nat.le_of_ble_eq_true rfl) h.2.1 h.2.2.1 ?_
            refine av_istore_n (L' := [some (av_r 21), some (av_i x1), some (av_i x2), some (av_i (max x3 (r2 + (s2 25 (x1).toNat)))), some (av_i x4), some (av_i x1)]) dX0_bestFrom_81 rfl (by decide) rfl ?_
            refine av_iinc (L' := [some (av_r 21), some (av_i x1), some (av_i x2), some (av_i (max x3 (r2 + (s2 25 (x1).toNat)))), some (av_i (x4 + 1)), some (av_i x1)]) dX0_bestFrom_82 rfl (by decide) rfl rfl ?_
            refine av_goto (tgt := 11) dX0_bestFrom_85 (by decide) ?_
            refine av_res [true, true, true, true, true, false] (L' := [some (av_r 21), some (av_i x1), some (av_i x2), some (av_i (max x3 (r2 + (s2 25 (x1).toNat)))), some (av_i (x4 + 1)), none]) rfl ?_
            exact h.2.2.2
      · have h := h.2.2 c
        refine av_aload_n dX0_bestFrom_34 rfl rfl ?_
        refine av_iload_n dX0_bestFrom_35 rfl rfl ?_
        refine av_iload dX0_bestFrom_36 rfl ?_
        refine av_callV mX0_slotBehind [av_i x1, av_i x4] [] dX0_bestFrom_38 rfl rfl rfl mbX0_slotBehind rfl wI_X0_slotBehind wS_X0_slotBehind rfl wM_X0_80 ⟨Nat.le_of_ble_eq_true rfl, Nat.le_of_ble_eq_true rfl⟩ rfl (Nat.le_of_ble_eq_true rfl) (av_C.mono (fun v s3 hh => ?_) h)
        obtain ⟨r3, rfl, h⟩ := hh
        change av_W E cSH mX0_bestFrom 41 [some (av_r 21), some (av_i x1), some (av_i x2), some (av_i x3), some (av_i x4), none] [av_i r3] s3 Q
        refine av_goto (tgt := 45) dX0_bestFrom_41 (by decide) ?_
        refine av_istore (L' := [some (av_r 21), some (av_i x1), some (av_i x2), some (av_i x3), some (av_i x4), some (av_i r3)]) dX0_bestFrom_45 (by decide) rfl ?_
        refine av_iload dX0_bestFrom_47 rfl ?_
        refine av_iload_n dX0_bestFrom_49 rfl rfl ?_
        refine av_icmp_le (tgt := 82) dX0_bestFrom_50 (by decide) h.1 h.2.1 (fun c => ?_) (fun c => ?_)
        · have h := h.2.2.1 c
          refine av_iinc (L' := [some (av_r 21), some (av_i x1), some (av_i x2), some (av_i x3), some (av_i (x4 + 1)), some (av_i r3)]) dX0_bestFrom_82 rfl (by decide) rfl rfl ?_
          refine av_goto (tgt := 11) dX0_bestFrom_85 (by decide) ?_
          refine av_res [true, true, true, true, true, false] (L' := [some (av_r 21), some (av_i x1), some (av_i x2), some (av_i x3), some (av_i (x4 + 1)), none]) rfl ?_
          exact h
        · have h := h.2.2.2 c
          refine av_aload_n dX0_bestFrom_53 rfl rfl ?_
          refine av_getr (k := 3) dX0_bestFrom_54 rfl rfl iuX0 (by decide) rfl wF_X0_18 rfl ?_
          refine av_iload dX0_bestFrom_57 rfl ?_
          refine av_iald (x := (s3 24 (r3).toNat)) dX0_bestFrom_59 rfl (by decide) h.1 rfl ?_
          refine av_if_le (tgt := 82) dX0_bestFrom_60 (by decide) h.2.1 (fun c => ?_) (fun c => ?_)
          · have h := h.2.2.1 c
            refine av_iinc (L' := [some (av_r 21), some (av_i x1), some (av_i x2), some (av_i x3), some (av_i (x4 + 1)), some (av_i r3)]) dX0_bestFrom_82 rfl (by decide) rfl rfl ?_
            refine av_goto (tgt := 11) dX0_bestFrom_85 (by decide) ?_
            refine av_res [true, true, true, true, true, false] (L' := [some (av_r 21), some (av_i x1), some (av_i x2), some (av_i x3), some (av_i (x4 + 1)), none]) rfl ?_
            exact h
          · have h := h.2.2.2 c
            refine av_iload_n dX0_bestFrom_63 rfl rfl ?_
            refine av_aload_n dX0_bestFrom_64 rfl rfl ?_
            refine av_iload dX0_bestFrom_65 rfl ?_
            refine av_callV mX0_gainOf [av_i x4] [av_i x3] dX0_bestFrom_67 rfl rfl rfl mbX0_gainOf rfl wI_X0_gainOf wS_X0_gainOf rfl wM_X0_103 ⟨Nat.le_of_ble_eq_true rfl, Nat.le_of_ble_eq_true rfl⟩ rfl (Nat.le_of_ble_eq_true rfl) (av_C.mono (fun v s4 hh => ?_) h)
            obtain ⟨r4, rfl, h⟩ := hh
            change av_W E cSH mX0_bestFrom 70 [some (av_r 21), some (av_i x1), some (av_i x2), some (av_i x3), some (av_i x4), some (av_i r3)] [av_i r4, av_i x3] s4 Q
            refine av_aload_n dX0_bestFrom_70 rfl rfl ?_
            refine av_getr (k := 4) dX0_bestFrom_71 rfl rfl iuX0 (by decide) rfl wF_X0_21 rfl ?_
            refine av_iload dX0_bestFrom_74 rfl ?_
            refine av_iald (x := (s4 25 (r3).toNat)) dX0_bestFrom_76 rfl (by decide) h.1 rfl ?_
            refine av_iadd dX0_bestFrom_77 ?_
            refine av_max dX0_bestFrom_78 rfl wM_X0_106 wT_J9_max_7cf53 wN_J9 mbJ9_max_7cf53.2.2.2.2 (by decide) (by decide) (Nat.le_of_ble_eq_true rfl) h.2.1 h.2.2.1 ?_
            refine av_istore_n (L' := [some (av_r 21), some (av_i x1), some (av_i x2), some (av_i (max x3 (r4 + (s4 25 (r3).toNat)))), some (av_i x4), some (av_i r3)]) dX0_bestFrom_81 rfl (by decide) rfl ?_
            refine av_iinc (L' := [some (av_r 21), some (av_i x1), some (av_i x2), some (av_i (max x3 (r4 + (s4 25 (r3).toNat)))), some (av_i (x4 + 1)), some (av_i r3)]) dX0_bestFrom_82 rfl (by decide) rfl rfl ?_
            refine av_goto (tgt := 11) dX0_bestFrom_85 (by decide) ?_
            refine av_res [true, true, true, true, true, false] (L' := [some (av_r 21), some (av_i x1), some (av_i x2), some (av_i (max x3 (r4 + (s4 25 (r3).toNat)))), some (av_i (x4 + 1)), none]) rfl ?_
            exact h.2.2.2

theorem uX0_gainOf {E : av_E} {σ : av_M} {Q : Option av_V → av_M → Prop} {a1 : Int} (h : (rg (σ 21 5)) ∧ (((¬ (σ 21 5) = 2) → (0 ≤ a1 ∧ a1 < 2147483648) ∧ ((rg (a1 % 2)) ∧ (((¬ (a1 % 2) = 0) → Q (some (av_i 0)) σ) ∧ (((a1 % 2) = 0) → (0 ≤ a1 ∧ a1 < 2147483648) ∧ ((0 ≤ (a1 / 2) ∧ (a1 / 2) < 8) ∧ (Q (some (av_i (σ 6 ((a1 / 2)).toNat))) σ)))))) ∧ (((σ 21 5) = 2) → (0 ≤ a1 ∧ a1 < 2147483648) ∧ (Q (some (av_i (a1 % 2))) σ)))) :
    av_C E cSH mX0_gainOf [av_r 21, av_i a1] σ Q := by
  refine av_C.ofW (L := [some (av_r 21), some (av_i a1)]) (by decide) (Nat.le_of_ble_eq_true rfl) rfl ?_
  refine av_aload_n dX0_gainOf_0 rfl rfl ?_
  refine av_get (k := 5) (x := (σ 21 5)) dX0_gainOf_1 rfl rfl iuX0 (by decide) rfl wF_X0_31 rfl rfl ?_
  refine av_iconst dX0_gainOf_4 ?_
  refine av_icmp_ne (tgt := 12) dX0_gainOf_5 (by decide) h.1 (by decide) (fun c => ?_) (fun c => ?_)
  · have h := h.2.1 c
    refine av_iload_n dX0_gainOf_12 rfl rfl ?_
    refine av_iconst dX0_gainOf_13 ?_
    refine av_irem dX0_gainOf_14 h.1 (by decide) ?_
    refine av_if_ne (tgt := 32) dX0_gainOf_15 (by decide) h.2.1 (fun c => ?_) (fun c => ?_)
    · have h := h.2.2.1 c
      refine av_iconst dX0_gainOf_32 ?_
      exact av_ireturn dX0_gainOf_33 rfl h
    · have h := h.2.2.2 c
      refine av_aload_n dX0_gainOf_18 rfl rfl ?_
      refine av_getr (k := 0) dX0_gainOf_19 rfl rfl iuX0 (by decide) rfl wF_X0_27 rfl ?_
      refine av_getr (k := 2) dX0_gainOf_22 rfl rfl iuX3 (by decide) rfl wF_X0_90 rfl ?_
      refine av_iload_n dX0_gainOf_25 rfl rfl ?_
      refine av_iconst dX0_gainOf_26 ?_
      refine av_idiv dX0_gainOf_27 h.1 (by decide) ?_
      refine av_iald (x := (σ 6 ((a1 / 2)).toNat)) dX0_gainOf_28 rfl (by decide) h.2.1 rfl ?_
      refine av_goto (tgt := 33) dX0_gainOf_29 (by decide) ?_
      exact av_ireturn dX0_gainOf_33 rfl h.2.2
  · have h := h.2.2 c
    refine av_iload_n dX0_gainOf_8 rfl rfl ?_
    refine av_iconst dX0_gainOf_9 ?_
    refine av_irem dX0_gainOf_10 h.1 (by decide) ?_
    exact av_ireturn dX0_gainOf_11 rfl h.2

theorem uX0_firstOfBest {E : av_E} {σ : av_M} {Q : Option av_V → av_M → Prop} (h : av_W E cSH mX0_firstOfBest 6 [some (av_r 21), some (av_i 0), some (av_i 0), some (av_i 0), none, none, none] [] σ Q) :
    av_C E cSH mX0_firstOfBest [av_r 21] σ Q := by
  refine av_C.ofW (L := [some (av_r 21), none, none, none, none, none, none]) (by decide) (Nat.le_of_ble_eq_true rfl) rfl ?_
  refine av_iconst dX0_firstOfBest_0 ?_
  refine av_istore_n (L' := [some (av_r 21), some (av_i 0), none, none, none, none, none]) dX0_firstOfBest_1 rfl (by decide) rfl ?_
  refine av_iconst dX0_firstOfBest_2 ?_
  refine av_istore_n (L' := [some (av_r 21), some (av_i 0), some (av_i 0), none, none, none, none]) dX0_firstOfBest_3 rfl (by decide) rfl ?_
  refine av_iconst dX0_firstOfBest_4 ?_
  refine av_istore_n (L' := [some (av_r 21), some (av_i 0), some (av_i 0), some (av_i 0), none, none, none]) dX0_firstOfBest_5 rfl (by decide) rfl ?_
  exact h

theorem uX0_firstOfBest_6 {E : av_E} {σ : av_M} {Q : Option av_V → av_M → Prop} {x1 x2 x3 : Int} (h : (rg x3) ∧ (((9 ≤ x3) → Q (some (av_i x1)) σ) ∧ ((x3 < 9) → (rg x2) ∧ ((rg ((σ 21 6) * 3)) ∧ (((((σ 21 6) * 3) ≤ x2) → Q (some (av_i x1)) σ) ∧ ((x2 < ((σ 21 6) * 3)) → av_C E cSH mX0_openAt [av_r 21, av_i x2] σ (fun v s1 => ∃ r1 : Int, v = some (av_i r1) ∧ (av_W E cSH mX0_firstOfBest 32 [some (av_r 21), some (av_i x1), some (av_i x2), some (av_i x3), some (av_i r1), some (av_i 0), none] [] s1 Q)))))))) :
    av_W E cSH mX0_firstOfBest 6 [some (av_r 21), some (av_i x1), some (av_i x2), some (av_i x3), none, none, none] [] σ Q := by
  refine av_iload_n dX0_firstOfBest_6 rfl rfl ?_
  refine av_bipush dX0_firstOfBest_7 rfl ?_
  refine av_icmp_ge (tgt := 139) dX0_firstOfBest_9 (by decide) h.1 (by decide) (fun c => ?_) (fun c => ?_)
  · have h := h.2.1 c
    refine av_iload_n dX0_firstOfBest_139 rfl rfl ?_
    exact av_ireturn dX0_firstOfBest_140 rfl h
  · have h := h.2.2 c
    refine av_iload_n dX0_firstOfBest_12 rfl rfl ?_
    refine av_aload_n dX0_firstOfBest_13 rfl rfl ?_
    refine av_get (k := 6) (x := (σ 21 6)) dX0_firstOfBest_14 rfl rfl iuX0 (by decide) rfl wF_X0_39 rfl rfl ?_
    refine av_iconst dX0_firstOfBest_17 ?_
    refine av_imul dX0_firstOfBest_18 ?_
    refine av_icmp_ge (tgt := 139) dX0_firstOfBest_19 (by decide) h.1 h.2.1 (fun c => ?_) (fun c => ?_)
    · have h := h.2.2.1 c
      refine av_iload_n dX0_firstOfBest_139 rfl rfl ?_
      exact av_ireturn dX0_firstOfBest_140 rfl h
    · have h := h.2.2.2 c
      refine av_aload_n dX0_firstOfBest_22 rfl rfl ?_
      refine av_iload_n dX0_firstOfBest_23 rfl rfl ?_
      refine av_callV mX0_openAt [av_i x2] [] dX0_firstOfBest_24 rfl rfl rfl mbX0_openAt rfl wI_X0_openAt wS_X0_openAt rfl wM_X0_73 ⟨Nat.le_of_ble_eq_true rfl, Nat.le_of_ble_eq_true rfl⟩ rfl (Nat.le_of_ble_eq_true rfl) (av_C.mono (fun v s1 hh => ?_) h)
      obtain ⟨r1, rfl, h⟩ := hh
      change av_W E cSH mX0_firstOfBest 27 [some (av_r 21), some (av_i x1), some (av_i x2), some (av_i x3), none, none, none] [av_i r1] s1 Q
      refine av_istore (L' := [some (av_r 21), some (av_i x1), some (av_i x2), some (av_i x3), some (av_i r1), none, none]) dX0_firstOfBest_27 (by decide) rfl ?_
      refine av_iconst dX0_firstOfBest_29 ?_
      refine av_istore (L' := [some (av_r 21), some (av_i x1), some (av_i x2), some (av_i x3), some (av_i r1), some (av_i 0), none]) dX0_firstOfBest_30 (by decide) rfl ?_
      exact h

theorem uX0_firstOfBest_32 {E : av_E} {σ : av_M} {Q : Option av_V → av_M → Prop} {x1 x2 x3 x4 x5 : Int} (h : (rg x5) ∧ (((16 ≤ x5) → av_W E cSH mX0_firstOfBest 6 [some (av_r 21), some (av_i x1), some (av_i x2), some (av_i (x3 + 1)), none, none, none] [] σ Q) ∧ ((x5 < 16) → av_C E cSH mX4_holds [av_i x4, av_i x5] σ (fun v s1 => ∃ r1 : Int, v = some (av_i r1) ∧ ((rg r1) ∧ (((r1 = 0) → (rg x2) ∧ ((rg x2) ∧ (((x2 ≤ x2) → (rg x2) ∧ ((rg x2) ∧ (((x2 ≤ x2) → av_W E cSH mX0_firstOfBest 32 [some (av_r 21), some (av_i (x1 + 0)), some (av_i x2), some (av_i x3), some (av_i x4), some (av_i (x5 + 1)), none] [] s1 Q) ∧ ((x2 < x2) → (0 ≤ x2 ∧ x2 < 30) ∧ (av_W E cSH mX0_firstOfBest 32 [some (av_r 21), some (av_i (x1 + (s1 24 (x2).toNat))), some (av_i x2), some (av_i x3), some (av_i x4), some (av_i (x5 + 1)), none] [] s1 Q))))) ∧ ((x2 < x2) → (0 ≤ x2 ∧ x2 < 30) ∧ ((rg (s1 24 (x2).toNat)) ∧ ((((s1 24 (x2).toNat) ≤ 0) → (rg x2) ∧ ((rg x2) ∧ (((x2 ≤ x2) → av_W E cSH mX0_firstOfBest 32 [some (av_r 21), some (av_i (x1 + 0)), some (av_i x2), some (av_i x3), some (av_i x4), some (av_i (x5 + 1)), none] [] s1 Q) ∧ ((x2 < x2) → (0 ≤ x2 ∧ x2 < 30) ∧ (av_W E cSH mX0_firstOfBest 32 [some (av_r 21), some (av_i (x1 + (s1 24 (x2).toNat))), some (av_i x2), some (av_i x3), some (av_i x4), some (av_i (x5 + 1)), none] [] s1 Q))))) ∧ ((0 < (s1 24 (x2).toNat)) → av_C E cSH mX0_gainOf [av_r 21, av_i x5] s1 (fun v s2 => ∃ r2 : Int, v = some (av_i r2) ∧ ((0 ≤ x2 ∧ x2 < 30) ∧ ((0 ≤ x2 ∧ x2 < 30) ∧ ((rg (r2 + (s2 25 (x2).toNat))) ∧ ((rg (s2 25 (x2).toNat)) ∧ (((¬ (r2 + (s2 25 (x2).toNat)) = (s2 25 (x2).toNat)) → (rg x2) ∧ ((rg x2) ∧ (((x2 ≤ x2) → av_W E cSH mX0_firstOfBest 32 [some (av_r 21), some (av_i (x1 + 0)), some (av_i x2), some (av_i x3), some (av_i x4), some (av_i (x5 + 1)), none] [] s2 Q) ∧ ((x2 < x2) → (0 ≤ x2 ∧ x2 < 30) ∧ (av_W E cSH mX0_firstOfBest 32 [some (av_r 21), some (av_i (x1 + (s2 24 (x2).toNat))), some (av_i x2), some (av_i x3), some (av_i x4), some (av_i (x5 + 1)), none] [] s2 Q))))) ∧ (((r2 + (s2 25 (x2).toNat)) = (s2 25 (x2).toNat)) → av_W E cSH mX0_firstOfBest 6 [some (av_r 21), some (av_i x1), some (av_i x2), some (av_i (x3 + 1)), none, none, none] [] s2 Q)))))))))))))) ∧ ((¬ r1 = 0) → av_C E cSH mX0_slotBehind [av_r 21, av_i x2, av_i x5] s1 (fun v s3 => ∃ r3 : Int, v = some (av_i r3) ∧ ((rg r3) ∧ ((rg x2) ∧ (((r3 ≤ x2) → (rg r3) ∧ ((rg x2) ∧ (((r3 ≤ x2) → av_W E cSH mX0_firstOfBest 32 [some (av_r 21), some (av_i (x1 + 0)), some (av_i x2), some (av_i x3), some (av_i x4), some (av_i (x5 + 1)), none] [] s3 Q) ∧ ((x2 < r3) → (0 ≤ r3 ∧ r3 < 30) ∧ (av_W E cSH mX0_firstOfBest 32 [some (av_r 21), some (av_i (x1 + (s3 24 (r3).toNat))), some (av_i x2), some (av_i x3), some (av_i x4), some (av_i (x5 + 1)), none] [] s3 Q))))) ∧ ((x2 < r3) → (0 ≤ r3 ∧ r3 < 30) ∧ ((rg (s3 24 (r3).toNat)) ∧ ((((s3 24 (r3).toNat) ≤ 0) → (rg r3) ∧ ((rg x2) ∧ (((r3 ≤ x2) → av_W E cSH mX0_firstOfBest 32 [some (av_r 21), some (av_i (x1 + 0)), some (av_i x2), some (av_i x3), some (av_i x4), some (av_i (x5 + 1)), none] [] s3 Q) ∧ ((x2 < r3) → (0 ≤ r3 ∧ r3 < 30) ∧ (av_W E cSH mX0_firstOfBest 32 [some (av_r 21), some (av_i (x1 + (s3 24 (r3).toNat))), some (av_i x2), some (av_i x3), some (av_i x4), some (av_i (x5 + 1)), none] [] s3 Q))))) ∧ ((0 < (s3 24 (r3).toNat)) → av_C E cSH mX0_gainOf [av_r 21, av_i x5] s3 (fun v s4 => ∃ r4 : Int, v = some (av_i r4) ∧ ((0 ≤ r3 ∧ r3 < 30) ∧ ((0 ≤ x2 ∧ x2 < 30) ∧ ((rg (r4 + (s4 25 (r3).toNat))) ∧ ((rg (s4 25 (x2).toNat)) ∧ (((¬ (r4 + (s4 25 (r3).toNat)) = (s4 25 (x2).toNat)) → (rg r3) ∧ ((rg x2) ∧ (((r3 ≤ x2) → av_W E cSH mX0_firstOfBest 32 [some (av_r 21), some (av_i (x1 + 0)), some (av_i x2), some (av_i x3), some (av_i x4), some (av_i (x5 + 1)), none] [] s4 Q) ∧ ((x2 < r3) → (0 ≤ r3 ∧ r3 < 30) ∧ (av_W E cSH mX0_firstOfBest 32 [some (av_r 21), some (av_i (x1 + (s4 24 (r3).toNat))), some (av_i x2), some (av_i x3), some (av_i x4), some (av_i (x5 + 1)), none] [] s4 Q))))) ∧ (((r4 + (s4 25 (r3).toNat)) = (s4 25 (x2).toNat)) → av_W E cSH mX0_firstOfBest 6 [some (av_r 21), some (av_i x1), some (av_i r3), some (av_i (x3 + 1)), none, none, none] [] s4 Q)))))))))))))))))))))) :
    av_W E cSH mX0_firstOfBest 32 [some (av_r 21), some (av_i x1), some (av_i x2), some (av_i x3), some (av_i x4), some (av_i x5), none] [] σ Q := by
  refine av_iload dX0_firstOfBest_32 rfl ?_
  refine av_bipush dX0_firstOfBest_34 rfl ?_
  refine av_icmp_ge (tgt := 133) dX0_firstOfBest_36 (by decide) h.1 (by decide) (fun c => ?_) (fun c => ?_)
  · have h := h.2.1 c
    refine av_iinc (L' := [some (av_r 21), some (av_i x1), some (av_i x2), some (av_i (x3 + 1)), some (av_i x4), some (av_i x5), none]) dX0_firstOfBest_133 rfl (by decide) rfl rfl ?_
    refine av_goto (tgt := 6) dX0_firstOfBest_136 (by decide) ?_
    refine av_res [true, true, true, true, false, false, false] (L' := [some (av_r 21), some (av_i x1), some (av_i x2), some (av_i (x3 + 1)), none, none, none]) rfl ?_
    exact h
  · have h := h.2.2 c
    refine av_iload dX0_firstOfBest_39 rfl ?_
    refine av_iload dX0_firstOfBest_41 rfl ?_
    refine av_callN mX4_holds [av_i x4, av_i x5] [] dX0_firstOfBest_43 mbX4_holds rfl wT_X4_holds rfl wNest_X0_76 ⟨Nat.le_of_ble_eq_true rfl, Nat.le_of_ble_eq_true rfl⟩ rfl (Nat.le_of_ble_eq_true rfl) (av_C.mono (fun v s1 hh => ?_) h)
    obtain ⟨r1, rfl, h⟩ := hh
    change av_W E cSH mX0_firstOfBest 46 [some (av_r 21), some (av_i x1), some (av_i x2), some (av_i x3), some (av_i x4), some (av_i x5), none] [av_i r1] s1 Q
    refine av_if_eq (tgt := 59) dX0_firstOfBest_46 (by decide) h.1 (fun c => ?_) (fun c => ?_)
    · have h := h.2.1 c
      refine av_iload_n dX0_firstOfBest_59 rfl rfl ?_
      refine av_istore (L' := [some (av_r 21), some (av_i x1), some (av_i x2), some (av_i x3), some (av_i x4), some (av_i x5), some (av_i x2)]) dX0_firstOfBest_60 (by decide) rfl ?_
      refine av_iload dX0_firstOfBest_62 rfl ?_
      refine av_iload_n dX0_firstOfBest_64 rfl rfl ?_
      refine av_icmp_le (tgt := 107) dX0_firstOfBest_65 (by decide) h.1 h.2.1 (fun c => ?_) (fun c => ?_)
      · have h := h.2.2.1 c
        refine av_iload_n dX0_firstOfBest_107 rfl rfl ?_
        refine av_iload dX0_firstOfBest_108 rfl ?_
        refine av_iload_n dX0_firstOfBest_110 rfl rfl ?_
        refine av_icmp_le (tgt := 124) dX0_firstOfBest_111 (by decide) h.1 h.2.1 (fun c => ?_) (fun c => ?_)
        · have h := h.2.2.1 c
          refine av_iconst dX0_firstOfBest_124 ?_
          refine av_iadd dX0_firstOfBest_125 ?_
          refine av_istore_n (L' := [some (av_r 21), some (av_i (x1 + 0)), some (av_i x2), some (av_i x3), some (av_i x4), some (av_i x5), some (av_i x2)]) dX0_firstOfBest_126 rfl (by decide) rfl ?_
          refine av_iinc (L' := [some (av_r 21), some (av_i (x1 + 0)), some (av_i x2), some (av_i x3), some (av_i x4), some (av_i (x5 + 1)), some (av_i x2)]) dX0_firstOfBest_127 rfl (by decide) rfl rfl ?_
          refine av_goto (tgt := 32) dX0_firstOfBest_130 (by decide) ?_
          refine av_res [true, true, true, true, true, true, false] (L' := [some (av_r 21), some (av_i (x1 + 0)), some (av_i x2), some (av_i x3), some (av_i x4), some (av_i (x5 + 1)), none]) rfl ?_
          exact h
        · have h := h.2.2.2 c
          refine av_aload_n dX0_firstOfBest_114 rfl rfl ?_
          refine av_getr (k := 3) dX0_firstOfBest_115 rfl rfl iuX0 (by decide) rfl wF_X0_18 rfl ?_
          refine av_iload dX0_firstOfBest_118 rfl ?_
          refine av_iald (x := (s1 24 (x2).toNat)) dX0_firstOfBest_120 rfl (by decide) h.1 rfl ?_
          refine av_goto (tgt := 125) dX0_firstOfBest_121 (by decide) ?_
          refine av_iadd dX0_firstOfBest_125 ?_
          refine av_istore_n (L' := [some (av_r 21), some (av_i (x1 + (s1 24 (x2).toNat))), some (av_i x2), some (av_i x3), some (av_i x4), some (av_i x5), some (av_i x2)]) dX0_firstOfBest_126 rfl (by decide) rfl ?_
          refine av_iinc (L' := [some (av_r 21), some (av_i (x1 + (s1 24 (x2).toNat))), some (av_i x2), some (av_i x3), some (av_i x4), some (av_i (x5 + 1)), some (av_i x2)]) dX0_firstOfBest_127 rfl (by decide) rfl rfl ?_
          refine av_goto (tgt := 32) dX0_firstOfBest_130 (by decide) ?_
          refine av_res [true, true, true, true, true, true, false] (L' := [some (av_r 21), some (av_i (x1 + (s1 24 (x2).toNat))), some (av_i x2), some (av_i x3), some (av_i x4), some (av_i (x5 + 1)), none]) rfl ?_
          exact h.2
      · have h := h.2.2.2 c
        refine av_aload_n dX0_firstOfBest_68 rfl rfl ?_
        refine av_getr (k := 3) dX0_firstOfBest_69 rfl rfl iuX0 (by decide) rfl wF_X0_18 rfl ?_
        refine av_iload dX0_firstOfBest_72 rfl ?_
        refine av_iald (x := (s1 24 (x2).toNat)) dX0_firstOfBest_74 rfl (by decide) h.1 rfl ?_
        refine av_if_le (tgt := 107) dX0_firstOfBest_75 (by decide) h.2.1 (fun c => ?_) (fun c => ?_)
        · have h := h.2.2.1 c
          refine av_iload_n dX0_firstOfBest_107 rfl rfl ?_
          refine av_iload dX0_firstOfBest_108 rfl ?_
          refine av_iload_n dX0_firstOfBest_110 rfl rfl ?_
          refine av_icmp_le (tgt := 124) dX0_firstOfBest_111 (by decide) h.1 h.2.1 (fun c => ?_) (fun c => ?_)
          · have h := h.2.2.1 c
            refine av_iconst dX0_firstOfBest_124 ?_
            refine av_iadd dX0_firstOfBest_125 ?_
            refine av_istore_n (L' := [some (av_r 21), some (av_i (x1 + 0)), some (av_i x2), some (av_i x3), some (av_i x4), some (av_i x5), some (av_i x2)]) dX0_firstOfBest_126 rfl (by decide) rfl ?_
            refine av_iinc (L' := [some (av_r 21), some (av_i (x1 + 0)), some (av_i x2), some (av_i x3), some (av_i x4), some (av_i (x5 + 1)), some (av_i x2)]) dX0_firstOfBest_127 rfl (by decide) rfl rfl ?_
            refine av_goto (tgt := 32) dX0_firstOfBest_130 (by decide) ?_
            refine av_res [true, true, true, true, true, true, false] (L' := [some (av_r 21), some (av_i (x1 + 0)), some (av_i x2), some (av_i x3), some (av_i x4), some (av_i (x5 + 1)), none]) rfl ?_
            exact h
          · have h := h.2.2.2 c
            refine av_aload_n dX0_firstOfBest_114 rfl rfl ?_
            refine av_getr (k := 3) dX0_firstOfBest_115 rfl rfl iuX0 (by decide) rfl wF_X0_18 rfl ?_
            refine av_iload dX0_firstOfBest_118 rfl ?_
            refine av_iald (x := (s1 24 (x2).toNat)) dX0_firstOfBest_120 rfl (by decide) h.1 rfl ?_
            refine av_goto (tgt := 125) dX0_firstOfBest_121 (by decide) ?_
            refine av_iadd dX0_firstOfBest_125 ?_
            refine av_istore_n (L' := [some (av_r 21), some (av_i (x1 + (s1 24 (x2).toNat))), some (av_i x2), some (av_i x3), some (av_i x4), some (av_i x5), some (av_i x2)]) dX0_firstOfBest_126 rfl (by decide) rfl ?_
            refine av_iinc (L' := [some (av_r 21), some (av_i (x1 + (s1 24 (x2).toNat))), some (av_i x2), some (av_i x3), some (av_i x4), some (av_i (x5 + 1)), some (av_i x2)]) dX0_firstOfBest_127 rfl (by decide) rfl rfl ?_
            refine av_goto (tgt := 32) dX0_firstOfBest_130 (by decide) ?_
            refine av_res [true, true, true, true, true, true, false] (L' := [some (av_r 21), some (av_i (x1 + (s1 24 (x2).toNat))), some (av_i x2), some (av_i x3), some (av_i x4), some (av_i (x5 + 1)), none]) rfl ?_
            exact h.2
        · have h := h.2.2.2 c
          refine av_aload_n dX0_firstOfBest_78 rfl rfl ?_
          refine av_iload dX0_firstOfBest_79 rfl ?_
          refine av_callV mX0_gainOf [av_i x5] [] dX0_firstOfBest_81 rfl rfl rfl mbX0_gainOf rfl wI_X0_gainOf wS_X0_gainOf rfl wM_X0_103 ⟨Nat.le_of_ble_eq_true rfl, Nat.le_of_ble_eq_true rfl⟩ rfl (Nat.le_of_ble_eq_true rfl) (av_C.mono (fun v s2 hh => ?_) h)
          obtain ⟨r2, rfl, h⟩ := hh
          change av_W E cSH mX0_firstOfBest 84 [some (av_r 21), some (av_i x1), some (av_i x2), some (av_i x3), some (av_i x4), some (av_i x5), some (av_i x2)] [av_i r2] s2 Q
          refine av_aload_n dX0_firstOfBest_84 rfl rfl ?_
          refine av_getr (k := 4) dX0_firstOfBest_85 rfl rfl iuX0 (by decide) rfl wF_X0_21 rfl ?_
          refine av_iload dX0_firstOfBest_88 rfl ?_
          refine av_iald (x := (s2 25 (x2).toNat)) dX0_firstOfBest_90 rfl (by decide) h.1 rfl ?_
          refine av_iadd dX0_firstOfBest_91 ?_
          refine av_aload_n dX0_firstOfBest_92 rfl rfl ?_
          refine av_getr (k := 4) dX0_firstOfBest_93 rfl rfl iuX0 (by decide) rfl wF_X0_21 rfl ?_
          refine av_iload_n dX0_firstOfBest_96 rfl rfl ?_
          refine av_iald (x := (s2 25 (x2).toNat)) dX0_firstOfBest_97 rfl (by decide) h.2.1 rfl ?_
          refine av_icmp_ne (tgt := 107) dX0_firstOfBest_98 (by decide) h.2.2.1 h.2.2.2.1 (fun c => ?_) (fun c => ?_)
          · have h := h.2.2.2.2.1 c
            refine av_iload_n dX0_firstOfBest_107 rfl rfl ?_
            refine av_iload dX0_firstOfBest_108 rfl ?_
            refine av_iload_n dX0_firstOfBest_110 rfl rfl ?_
            refine av_icmp_le (tgt := 124) dX0_firstOfBest_111 (by decide) h.1 h.2.1 (fun c => ?_) (fun c => ?_)
            · have h := h.2.2.1 c
              refine av_iconst dX0_firstOfBest_124 ?_
              refine av_iadd dX0_firstOfBest_125 ?_
              refine av_istore_n (L' := [some (av_r 21), some (av_i (x1 + 0)), some (av_i x2), some (av_i x3), some (av_i x4), some (av_i x5), some (av_i x2)]) dX0_firstOfBest_126 rfl (by decide) rfl ?_
              refine av_iinc (L' := [some (av_r 21), some (av_i (x1 + 0)), some (av_i x2), some (av_i x3), some (av_i x4), some (av_i (x5 + 1)), some (av_i x2)]) dX0_firstOfBest_127 rfl (by decide) rfl rfl ?_
              refine av_goto (tgt := 32) dX0_firstOfBest_130 (by decide) ?_
              refine av_res [true, true, true, true, true, true, false] (L' := [some (av_r 21), some (av_i (x1 + 0)), some (av_i x2), some (av_i x3), some (av_i x4), some (av_i (x5 + 1)), none]) rfl ?_
              exact h
            · have h := h.2.2.2 c
              refine av_aload_n dX0_firstOfBest_114 rfl rfl ?_
              refine av_getr (k := 3) dX0_firstOfBest_115 rfl rfl iuX0 (by decide) rfl wF_X0_18 rfl ?_
              refine av_iload dX0_firstOfBest_118 rfl ?_
              refine av_iald (x := (s2 24 (x2).toNat)) dX0_firstOfBest_120 rfl (by decide) h.1 rfl ?_
              refine av_goto (tgt := 125) dX0_firstOfBest_121 (by decide) ?_
              refine av_iadd dX0_firstOfBest_125 ?_
              refine av_istore_n (L' := [some (av_r 21), some (av_i (x1 + (s2 24 (x2).toNat))), some (av_i x2), some (av_i x3), some (av_i x4), some (av_i x5), some (av_i x2)]) dX0_firstOfBest_126 rfl (by decide) rfl ?_
              refine av_iinc (L' := [some (av_r 21), some (av_i (x1 + (s2 24 (x2).toNat))), some (av_i x2), some (av_i x3), some (av_i x4), some (av_i (x5 + 1)), some (av_i x2)]) dX0_firstOfBest_127 rfl (by decide) rfl rfl ?_
              refine av_goto (tgt := 32) dX0_firstOfBest_130 (by decide) ?_
              refine av_res [true, true, true, true, true, true, false] (L' := [some (av_r 21), some (av_i (x1 + (s2 24 (x2).toNat))), some (av_i x2), some (av_i x3), some (av_i x4), some (av_i (x5 + 1)), none]) rfl ?_
              exact h.2
          · have h := h.2.2.2.2.2 c
            refine av_iload dX0_firstOfBest_101 rfl ?_
            refine av_istore_n (L' := [some (av_r 21), some (av_i x1), some (av_i x2), some (av_i x3), some (av_i x4), some (av_i x5), some (av_i x2)]) dX0_firstOfBest_103 rfl (by decide) rfl ?_
            refine av_goto (tgt := 133) dX0_firstOfBest_104 (by decide) ?_
            refine av_iinc (L' := [some (av_r 21), some (av_i x1), some (av_i x2), some (av_i (x3 + 1)), some (av_i x4), some (av_i x5), some (av_i x2)]) dX0_firstOfBest_133 rfl (by decide) rfl rfl ?_
            refine av_goto (tgt := 6) dX0_firstOfBest_136 (by decide) ?_
            refine av_res [true, true, true, true, false, false, false] (L' := [some (av_r 21), some (av_i x1), some (av_i x2), some (av_i (x3 + 1)), none, none, none]) rfl ?_
            exact h
    · have h := h.2.2 c
      refine av_aload_n dX0_firstOfBest_49 rfl rfl ?_
      refine av_iload_n dX0_firstOfBest_50 rfl rfl ?_
      refine av_iload dX0_firstOfBest_51 rfl ?_
      refine av_callV mX0_slotBehind [av_i x2, av_i x5] [] dX0_firstOfBest_53 rfl rfl rfl mbX0_slotBehind rfl wI_X0_slotBehind wS_X0_slotBehind rfl wM_X0_80 ⟨Nat.le_of_ble_eq_true rfl, Nat.le_of_ble_eq_true rfl⟩ rfl (Nat.le_of_ble_eq_true rfl) (av_C.mono (fun v s3 hh => ?_) h)
      obtain ⟨r3, rfl, h⟩ := hh
      change av_W E cSH mX0_firstOfBest 56 [some (av_r 21), some (av_i x1), some (av_i x2), some (av_i x3), some (av_i x4), some (av_i x5), none] [av_i r3] s3 Q
      refine av_goto (tgt := 60) dX0_firstOfBest_56 (by decide) ?_
      refine av_istore (L' := [some (av_r 21), some (av_i x1), some (av_i x2), some (av_i x3), some (av_i x4), some (av_i x5), some (av_i r3)]) dX0_firstOfBest_60 (by decide) rfl ?_
      refine av_iload dX0_firstOfBest_62 rfl ?_
      refine av_iload_n dX0_firstOfBest_64 rfl rfl ?_
      refine av_icmp_le (tgt := 107) dX0_firstOfBest_65 (by decide) h.1 h.2.1 (fun c => ?_) (fun c => ?_)
      · have h := h.2.2.1 c
        refine av_iload_n dX0_firstOfBest_107 rfl rfl ?_
        refine av_iload dX0_firstOfBest_108 rfl ?_
        refine av_iload_n dX0_firstOfBest_110 rfl rfl ?_
        refine av_icmp_le (tgt := 124) dX0_firstOfBest_111 (by decide) h.1 h.2.1 (fun c => ?_) (fun c => ?_)
        · have h := h.2.2.1 c
          refine av_iconst dX0_firstOfBest_124 ?_
          refine av_iadd dX0_firstOfBest_125 ?_
          refine av_istore_n (L' := [some (av_r 21), some (av_i (x1 + 0)), some (av_i x2), some (av_i x3), some (av_i x4), some (av_i x5), some (av_i r3)]) dX0_firstOfBest_126 rfl (by decide) rfl ?_
          refine av_iinc (L' := [some (av_r 21), some (av_i (x1 + 0)), some (av_i x2), some (av_i x3), some (av_i x4), some (av_i (x5 + 1)), some (av_i r3)]) dX0_firstOfBest_127 rfl (by decide) rfl rfl ?_
          refine av_goto (tgt := 32) dX0_firstOfBest_130 (by decide) ?_
          refine av_res [true, true, true, true, true, true, false] (L' := [some (av_r 21), some (av_i (x1 + 0)), some (av_i x2), some (av_i x3), some (av_i x4), some (av_i (x5 + 1)), none]) rfl ?_
          exact h
        · have h := h.2.2.2 c
          refine av_aload_n dX0_firstOfBest_114 rfl rfl ?_
          refine av_getr (k := 3) dX0_firstOfBest_115 rfl rfl iuX0 (by decide) rfl wF_X0_18 rfl ?_
          refine av_iload dX0_firstOfBest_118 rfl ?_
          refine av_iald (x := (s3 24 (r3).toNat)) dX0_firstOfBest_120 rfl (by decide) h.1 rfl ?_
          refine av_goto (tgt := 125) dX0_firstOfBest_121 (by decide) ?_
          refine av_iadd dX0_firstOfBest_125 ?_
          refine av_istore_n (L' := [some (av_r 21), some (av_i (x1 + (s3 24 (r3).toNat))), some (av_i x2), some (av_i x3), some (av_i x4), some (av_i x5), some (av_i r3)]) dX0_firstOfBest_126 rfl (by decide) rfl ?_
          refine av_iinc (L' := [some (av_r 21), some (av_i (x1 + (s3 24 (r3).toNat))), some (av_i x2), some (av_i x3), some (av_i x4), some (av_i (x5 + 1)), some (av_i r3)]) dX0_firstOfBest_127 rfl (by decide) rfl rfl ?_
          refine av_goto (tgt := 32) dX0_firstOfBest_130 (by decide) ?_
          refine av_res [true, true, true, true, true, true, false] (L' := [some (av_r 21), some (av_i (x1 + (s3 24 (r3).toNat))), some (av_i x2), some (av_i x3), some (av_i x4), some (av_i (x5 + 1)), none]) rfl ?_
          exact h.2
      · have h := h.2.2.2 c
        refine av_aload_n dX0_firstOfBest_68 rfl rfl ?_
        refine av_getr (k := 3) dX0_firstOfBest_69 rfl rfl iuX0 (by decide) rfl wF_X0_18 rfl ?_
        refine av_iload dX0_firstOfBest_72 rfl ?_
        refine av_iald (x := (s3 24 (r3).toNat)) dX0_firstOfBest_74 rfl (by decide) h.1 rfl ?_
        refine av_if_le (tgt := 107) dX0_firstOfBest_75 (by decide) h.2.1 (fun c => ?_) (fun c => ?_)
        · have h := h.2.2.1 c
          refine av_iload_n dX0_firstOfBest_107 rfl rfl ?_
          refine av_iload dX0_firstOfBest_108 rfl ?_
          refine av_iload_n dX0_firstOfBest_110 rfl rfl ?_
          refine av_icmp_le (tgt := 124) dX0_firstOfBest_111 (by decide) h.1 h.2.1 (fun c => ?_) (fun c => ?_)
          · have h := h.2.2.1 c
            refine av_iconst dX0_firstOfBest_124 ?_
            refine av_iadd dX0_firstOfBest_125 ?_
            refine av_istore_n (L' := [some (av_r 21), some (av_i (x1 + 0)), some (av_i x2), some (av_i x3), some (av_i x4), some (av_i x5), some (av_i r3)]) dX0_firstOfBest_126 rfl (by decide) rfl ?_
            refine av_iinc (L' := [some (av_r 21), some (av_i (x1 + 0)), some (av_i x2), some (av_i x3), some (av_i x4), some (av_i (x5 + 1)), some (av_i r3)]) dX0_firstOfBest_127 rfl (by decide) rfl rfl ?_
            refine av_goto (tgt := 32) dX0_firstOfBest_130 (by decide) ?_
            refine av_res [true, true, true, true, true, true, false] (L' := [some (av_r 21), some (av_i (x1 + 0)), some (av_i x2), some (av_i x3), some (av_i x4), some (av_i (x5 + 1)), none]) rfl ?_
            exact h
          · have h := h.2.2.2 c
            refine av_aload_n dX0_firstOfBest_114 rfl rfl ?_
            refine av_getr (k := 3) dX0_firstOfBest_115 rfl rfl iuX0 (by decide) rfl wF_X0_18 rfl ?_
            refine av_iload dX0_firstOfBest_118 rfl ?_
            refine av_iald (x := (s3 24 (r3).toNat)) dX0_firstOfBest_120 rfl (by decide) h.1 rfl ?_
            refine av_goto (tgt := 125) dX0_firstOfBest_121 (by decide) ?_
            refine av_iadd dX0_firstOfBest_125 ?_
            refine av_istore_n (L' := [some (av_r 21), some (av_i (x1 + (s3 24 (r3).toNat))), some (av_i x2), some (av_i x3), some (av_i x4), some (av_i x5), some (av_i r3)]) dX0_firstOfBest_126 rfl (by decide) rfl ?_
            refine av_iinc (L' := [some (av_r 21), some (av_i (x1 + (s3 24 (r3).toNat))), some (av_i x2), some (av_i x3), some (av_i x4), some (av_i (x5 + 1)), some (av_i r3)]) dX0_firstOfBest_127 rfl (by decide) rfl rfl ?_
            refine av_goto (tgt := 32) dX0_firstOfBest_130 (by decide) ?_
            refine av_res [true, true, true, true, true, true, false] (L' := [some (av_r 21), some (av_i (x1 + (s3 24 (r3).toNat))), some (av_i x2), some (av_i x3), some (av_i x4), some (av_i (x5 + 1)), none]) rfl ?_
            exact h.2
        · have h := h.2.2.2 c
          refine av_aload_n dX0_firstOfBest_78 rfl rfl ?_
          refine av_iload dX0_firstOfBest_79 rfl ?_
          refine av_callV mX0_gainOf [av_i x5] [] dX0_firstOfBest_81 rfl rfl rfl mbX0_gainOf rfl wI_X0_gainOf wS_X0_gainOf rfl wM_X0_103 ⟨Nat.le_of_ble_eq_true rfl, Nat.le_of_ble_eq_true rfl⟩ rfl (Nat.le_of_ble_eq_true rfl) (av_C.mono (fun v s4 hh => ?_) h)
          obtain ⟨r4, rfl, h⟩ := hh
          change av_W E cSH mX0_firstOfBest 84 [some (av_r 21), some (av_i x1), some (av_i x2), some (av_i x3), some (av_i x4), some (av_i x5), some (av_i r3)] [av_i r4] s4 Q
          refine av_aload_n dX0_firstOfBest_84 rfl rfl ?_
          refine av_getr (k := 4) dX0_firstOfBest_85 rfl rfl iuX0 (by decide) rfl wF_X0_21 rfl ?_
          refine av_iload dX0_firstOfBest_88 rfl ?_
          refine av_iald (x := (s4 25 (r3).toNat)) dX0_firstOfBest_90 rfl (by decide) h.1 rfl ?_
          refine av_iadd dX0_firstOfBest_91 ?_
          refine av_aload_n dX0_firstOfBest_92 rfl rfl ?_
          refine av_getr (k := 4) dX0_firstOfBest_93 rfl rfl iuX0 (by decide) rfl wF_X0_21 rfl ?_
          refine av_iload_n dX0_firstOfBest_96 rfl rfl ?_
          refine av_iald (x := (s4 25 (x2).toNat)) dX0_firstOfBest_97 rfl (by decide) h.2.1 rfl ?_
          refine av_icmp_ne (tgt := 107) dX0_firstOfBest_98 (by decide) h.2.2.1 h.2.2.2.1 (fun c => ?_) (fun c => ?_)
          · have h := h.2.2.2.2.1 c
            refine av_iload_n dX0_firstOfBest_107 rfl rfl ?_
            refine av_iload dX0_firstOfBest_108 rfl ?_
            refine av_iload_n dX0_firstOfBest_110 rfl rfl ?_
            refine av_icmp_le (tgt := 124) dX0_firstOfBest_111 (by decide) h.1 h.2.1 (fun c => ?_) (fun c => ?_)
            · have h := h.2.2.1 c
              refine av_iconst dX0_firstOfBest_124 ?_
              refine av_iadd dX0_firstOfBest_125 ?_
              refine av_istore_n (L' := [some (av_r 21), some (av_i (x1 + 0)), some (av_i x2), some (av_i x3), some (av_i x4), some (av_i x5), some (av_i r3)]) dX0_firstOfBest_126 rfl (by decide) rfl ?_
              refine av_iinc (L' := [some (av_r 21), some (av_i (x1 + 0)), some (av_i x2), some (av_i x3), some (av_i x4), some (av_i (x5 + 1)), some (av_i r3)]) dX0_firstOfBest_127 rfl (by decide) rfl rfl ?_
              refine av_goto (tgt := 32) dX0_firstOfBest_130 (by decide) ?_
              refine av_res [true, true, true, true, true, true, false] (L' := [some (av_r 21), some (av_i (x1 + 0)), some (av_i x2), some (av_i x3), some (av_i x4), some (av_i (x5 + 1)), none]) rfl ?_
              exact h
            · have h := h.2.2.2 c
              refine av_aload_n dX0_firstOfBest_114 rfl rfl ?_
              refine av_getr (k := 3) dX0_firstOfBest_115 rfl rfl iuX0 (by decide) rfl wF_X0_18 rfl ?_
              refine av_iload dX0_firstOfBest_118 rfl ?_
              refine av_iald (x := (s4 24 (r3).toNat)) dX0_firstOfBest_120 rfl (by decide) h.1 rfl ?_
              refine av_goto (tgt := 125) dX0_firstOfBest_121 (by decide) ?_
              refine av_iadd dX0_firstOfBest_125 ?_
              refine av_istore_n (L' := [some (av_r 21), some (av_i (x1 + (s4 24 (r3).toNat))), some (av_i x2), some (av_i x3), some (av_i x4), some (av_i x5), some (av_i r3)]) dX0_firstOfBest_126 rfl (by decide) rfl ?_
              refine av_iinc (L' := [some (av_r 21), some (av_i (x1 + (s4 24 (r3).toNat))), some (av_i x2), some (av_i x3), some (av_i x4), some (av_i (x5 + 1)), some (av_i r3)]) dX0_firstOfBest_127 rfl (by decide) rfl rfl ?_
              refine av_goto (tgt := 32) dX0_firstOfBest_130 (by decide) ?_
              refine av_res [true, true, true, true, true, true, false] (L' := [some (av_r 21), some (av_i (x1 + (s4 24 (r3).toNat))), some (av_i x2), some (av_i x3), some (av_i x4), some (av_i (x5 + 1)), none]) rfl ?_
              exact h.2
          · have h := h.2.2.2.2.2 c
            refine av_iload dX0_firstOfBest_101 rfl ?_
            refine av_istore_n (L' := [some (av_r 21), some (av_i x1), some (av_i r3), some (av_i x3), some (av_i x4), some (av_i x5), some (av_i r3)]) dX0_firstOfBest_103 rfl (by decide) rfl ?_
            refine av_goto (tgt := 133) dX0_firstOfBest_104 (by decide) ?_
            refine av_iinc (L' := [some (av_r 21), some (av_i x1), some (av_i r3), some (av_i (x3 + 1)), some (av_i x4), some (av_i x5), some (av_i r3)]) dX0_firstOfBest_133 rfl (by decide) rfl rfl ?_
            refine av_goto (tgt := 6) dX0_firstOfBest_136 (by decide) ?_
            refine av_res [true, true, true, true, false, false, false] (L' := [some (av_r 21), some (av_i x1), some (av_i r3), some (av_i (x3 + 1)), none, none, none]) rfl ?_
            exact h

theorem uX1_put_28 {E : av_E} {σ : av_M} {Q : Option av_V → av_M → Prop} (h : (rg (σ 28 1)) ∧ ((((σ 28 1) < 8) → ((0 : Int) ≤ ((σ 28 1) * 5) ∧ ((σ 28 1) * 5) + 5 ≤ 40) ∧ (Q none (av_st (av_cp σ 27 0 29 (((σ 28 1) * 5)).toNat 5) 28 1 ((σ 28 1) + 1)))) ∧ ((8 ≤ (σ 28 1)) → Q none (av_st (av_cp (av_st (av_cp σ 29 5 29 0 35) 28 1 7) 27 0 29 35 5) 28 1 (7 + 1))))) :
    av_C E cSH mX1_put [av_r 28, av_r 27] σ Q := by
  refine av_C.ofW (L := [some (av_r 28), some (av_r 27)]) (by decide) (Nat.le_of_ble_eq_true rfl) rfl ?_
  refine av_aload_n dX1_put_0 rfl rfl ?_
  refine av_get (k := 1) (x := (σ 28 1)) dX1_put_1 rfl rfl iuX1 (by decide) rfl wF_X1_15 rfl rfl ?_
  refine av_bipush dX1_put_4 rfl ?_
  refine av_icmp_lt (tgt := 30) dX1_put_6 (by decide) h.1 (by decide) (fun c => ?_) (fun c => ?_)
  · have h := h.2.1 c
    refine av_aload_n dX1_put_30 rfl rfl ?_
    refine av_iconst dX1_put_31 ?_
    refine av_aload_n dX1_put_32 rfl rfl ?_
    refine av_getr (k := 0) dX1_put_33 rfl rfl iuX1 (by decide) rfl wF_X1_9 rfl ?_
    refine av_aload_n dX1_put_36 rfl rfl ?_
    refine av_get (k := 1) (x := (σ 28 1)) dX1_put_37 rfl rfl iuX1 (by decide) rfl wF_X1_15 rfl rfl ?_
    refine av_iconst dX1_put_40 ?_
    refine av_imul dX1_put_41 ?_
    refine av_iconst dX1_put_42 ?_
    refine av_copy dX1_put_43 rfl wM_X1_19 wNat_copy wT_copy wN_J10 rfl rfl (by decide) (by decide) ⟨(by decide), h.1, (by decide)⟩ (by decide) (by decide) (by decide) ?_
    refine av_aload_n dX1_put_46 rfl rfl ?_
    refine av_dup dX1_put_47 (fun _ h9 => nomatch h9) ?_
    refine av_get (k := 1) (x := (σ 28 1)) dX1_put_48 rfl rfl iuX1 (by decide) rfl wF_X1_15 rfl rfl ?_
    refine av_iconst dX1_put_51 ?_
    refine av_iadd dX1_put_52 ?_
    refine av_put (k := 1) tyX1 dX1_put_53 rfl rfl iuX1 tyX1_ok nmX1 (by decide) rfl wF_X1_15 rfl rfl rfl ?_
    exact av_return dX1_put_56 rfl h.2
  · have h := h.2.2 c
    refine av_aload_n dX1_put_9 rfl rfl ?_
    refine av_getr (k := 0) dX1_put_10 rfl rfl iuX1 (by decide) rfl wF_X1_9 rfl ?_
    refine av_iconst dX1_put_13 ?_
    refine av_aload_n dX1_put_14 rfl rfl ?_
    refine av_getr (k := 0) dX1_put_15 rfl rfl iuX1 (by decide) rfl wF_X1_9 rfl ?_
    refine av_iconst dX1_put_18 ?_
    refine av_bipush dX1_put_19 rfl ?_
    refine av_copy dX1_put_21 rfl wM_X1_19 wNat_copy wT_copy wN_J10 rfl rfl (by decide) (by decide) ⟨(by decide), (by decide), (by decide)⟩ (by decide) (by decide) (by decide) ?_
    refine av_aload_n dX1_put_24 rfl rfl ?_
    refine av_bipush dX1_put_25 rfl ?_
    refine av_put (k := 1) tyX1 dX1_put_27 rfl rfl iuX1 tyX1_ok nmX1 (by decide) rfl wF_X1_15 rfl rfl rfl ?_
    refine av_aload_n dX1_put_30 rfl rfl ?_
    refine av_iconst dX1_put_31 ?_
    refine av_aload_n dX1_put_32 rfl rfl ?_
    refine av_getr (k := 0) dX1_put_33 rfl rfl iuX1 (by decide) rfl wF_X1_9 rfl ?_
    refine av_aload_n dX1_put_36 rfl rfl ?_
    refine av_get (k := 1) (x := 7) dX1_put_37 rfl rfl iuX1 (by decide) rfl wF_X1_15 rfl rfl ?_
    refine av_iconst dX1_put_40 ?_
    refine av_imul dX1_put_41 ?_
    refine av_iconst dX1_put_42 ?_
    refine av_copy dX1_put_43 rfl wM_X1_19 wNat_copy wT_copy wN_J10 rfl rfl (by decide) (by decide) ⟨(by decide), (by decide), (by decide)⟩ (by decide) (by decide) (by decide) ?_
    refine av_aload_n dX1_put_46 rfl rfl ?_
    refine av_dup dX1_put_47 (fun _ h9 => nomatch h9) ?_
    refine av_get (k := 1) (x := 7) dX1_put_48 rfl rfl iuX1 (by decide) rfl wF_X1_15 rfl rfl ?_
    refine av_iconst dX1_put_51 ?_
    refine av_iadd dX1_put_52 ?_
    refine av_put (k := 1) tyX1 dX1_put_53 rfl rfl iuX1 tyX1_ok nmX1 (by decide) rfl wF_X1_15 rfl rfl rfl ?_
    exact av_return dX1_put_56 rfl h

theorem uX1_put_30 {E : av_E} {σ : av_M} {Q : Option av_V → av_M → Prop} (h : (rg (σ 30 1)) ∧ ((((σ 30 1) < 8) → ((0 : Int) ≤ ((σ 30 1) * 5) ∧ ((σ 30 1) * 5) + 5 ≤ 40) ∧ (Q none (av_st (av_cp σ 27 0 31 (((σ 30 1) * 5)).toNat 5) 30 1 ((σ 30 1) + 1)))) ∧ ((8 ≤ (σ 30 1)) → Q none (av_st (av_cp (av_st (av_cp σ 31 5 31 0 35) 30 1 7) 27 0 31 35 5) 30 1 (7 + 1))))) :
    av_C E cSH mX1_put [av_r 30, av_r 27] σ Q := by
  refine av_C.ofW (L := [some (av_r 30), some (av_r 27)]) (by decide) (Nat.le_of_ble_eq_true rfl) rfl ?_
  refine av_aload_n dX1_put_0 rfl rfl ?_
  refine av_get (k := 1) (x := (σ 30 1)) dX1_put_1 rfl rfl iuX1 (by decide) rfl wF_X1_15 rfl rfl ?_
  refine av_bipush dX1_put_4 rfl ?_
  refine av_icmp_lt (tgt := 30) dX1_put_6 (by decide) h.1 (by decide) (fun c => ?_) (fun c => ?_)
  · have h := h.2.1 c
    refine av_aload_n dX1_put_30 rfl rfl ?_
    refine av_iconst dX1_put_31 ?_
    refine av_aload_n dX1_put_32 rfl rfl ?_
    refine av_getr (k := 0) dX1_put_33 rfl rfl iuX1 (by decide) rfl wF_X1_9 rfl ?_
    refine av_aload_n dX1_put_36 rfl rfl ?_
    refine av_get (k := 1) (x := (σ 30 1)) dX1_put_37 rfl rfl iuX1 (by decide) rfl wF_X1_15 rfl rfl ?_
    refine av_iconst dX1_put_40 ?_
    refine av_imul dX1_put_41 ?_
    refine av_iconst dX1_put_42 ?_
    refine av_copy dX1_put_43 rfl wM_X1_19 wNat_copy wT_copy wN_J10 rfl rfl (by decide) (by decide) ⟨(by decide), h.1, (by decide)⟩ (by decide) (by decide) (by decide) ?_
    refine av_aload_n dX1_put_46 rfl rfl ?_
    refine av_dup dX1_put_47 (fun _ h9 => nomatch h9) ?_
    refine av_get (k := 1) (x := (σ 30 1)) dX1_put_48 rfl rfl iuX1 (by decide) rfl wF_X1_15 rfl rfl ?_
    refine av_iconst dX1_put_51 ?_
    refine av_iadd dX1_put_52 ?_
    refine av_put (k := 1) tyX1 dX1_put_53 rfl rfl iuX1 tyX1_ok nmX1 (by decide) rfl wF_X1_15 rfl rfl rfl ?_
    exact av_return dX1_put_56 rfl h.2
  · have h := h.2.2 c
    refine av_aload_n dX1_put_9 rfl rfl ?_
    refine av_getr (k := 0) dX1_put_10 rfl rfl iuX1 (by decide) rfl wF_X1_9 rfl ?_
    refine av_iconst dX1_put_13 ?_
    refine av_aload_n dX1_put_14 rfl rfl ?_
    refine av_getr (k := 0) dX1_put_15 rfl rfl iuX1 (by decide) rfl wF_X1_9 rfl ?_
    refine av_iconst dX1_put_18 ?_
    refine av_bipush dX1_put_19 rfl ?_
    refine av_copy dX1_put_21 rfl wM_X1_19 wNat_copy wT_copy wN_J10 rfl rfl (by decide) (by decide) ⟨(by decide), (by decide), (by decide)⟩ (by decide) (by decide) (by decide) ?_
    refine av_aload_n dX1_put_24 rfl rfl ?_
    refine av_bipush dX1_put_25 rfl ?_
    refine av_put (k := 1) tyX1 dX1_put_27 rfl rfl iuX1 tyX1_ok nmX1 (by decide) rfl wF_X1_15 rfl rfl rfl ?_
    refine av_aload_n dX1_put_30 rfl rfl ?_
    refine av_iconst dX1_put_31 ?_
    refine av_aload_n dX1_put_32 rfl rfl ?_
    refine av_getr (k := 0) dX1_put_33 rfl rfl iuX1 (by decide) rfl wF_X1_9 rfl ?_
    refine av_aload_n dX1_put_36 rfl rfl ?_
    refine av_get (k := 1) (x := 7) dX1_put_37 rfl rfl iuX1 (by decide) rfl wF_X1_15 rfl rfl ?_
    refine av_iconst dX1_put_40 ?_
    refine av_imul dX1_put_41 ?_
    refine av_iconst dX1_put_42 ?_
    refine av_copy dX1_put_43 rfl wM_X1_19 wNat_copy wT_copy wN_J10 rfl rfl (by decide) (by decide) ⟨(by decide), (by decide), (by decide)⟩ (by decide) (by decide) (by decide) ?_
    refine av_aload_n dX1_put_46 rfl rfl ?_
    refine av_dup dX1_put_47 (fun _ h9 => nomatch h9) ?_
    refine av_get (k := 1) (x := 7) dX1_put_48 rfl rfl iuX1 (by decide) rfl wF_X1_15 rfl rfl ?_
    refine av_iconst dX1_put_51 ?_
    refine av_iadd dX1_put_52 ?_
    refine av_put (k := 1) tyX1 dX1_put_53 rfl rfl iuX1 tyX1_ok nmX1 (by decide) rfl wF_X1_15 rfl rfl rfl ?_
    exact av_return dX1_put_56 rfl h

theorem uX1_takeInto_28 {E : av_E} {σ : av_M} {Q : Option av_V → av_M → Prop} (h : (rg (σ 28 1)) ∧ (((0 < (σ 28 1)) → ((0 : Int) ≤ (((σ 28 1) - 1) * 5) ∧ (((σ 28 1) - 1) * 5) + 5 ≤ 40) ∧ (Q none (av_cp (av_st σ 28 1 ((σ 28 1) - 1)) 29 ((((σ 28 1) - 1) * 5)).toNat 27 0 5))) ∧ (((σ 28 1) ≤ 0) → Q none σ))) :
    av_C E cSH mX1_takeInto [av_r 28, av_r 27] σ Q := by
  refine av_C.ofW (L := [some (av_r 28), some (av_r 27)]) (by decide) (Nat.le_of_ble_eq_true rfl) rfl ?_
  refine av_aload_n dX1_takeInto_0 rfl rfl ?_
  refine av_get (k := 1) (x := (σ 28 1)) dX1_takeInto_1 rfl rfl iuX1 (by decide) rfl wF_X1_15 rfl rfl ?_
  refine av_if_gt (tgt := 8) dX1_takeInto_4 (by decide) h.1 (fun c => ?_) (fun c => ?_)
  · have h := h.2.1 c
    refine av_aload_n dX1_takeInto_8 rfl rfl ?_
    refine av_dup dX1_takeInto_9 (fun _ h9 => nomatch h9) ?_
    refine av_get (k := 1) (x := (σ 28 1)) dX1_takeInto_10 rfl rfl iuX1 (by decide) rfl wF_X1_15 rfl rfl ?_
    refine av_iconst dX1_takeInto_13 ?_
    refine av_isub dX1_takeInto_14 ?_
    refine av_put (k := 1) tyX1 dX1_takeInto_15 rfl rfl iuX1 tyX1_ok nmX1 (by decide) rfl wF_X1_15 rfl rfl rfl ?_
    refine av_aload_n dX1_takeInto_18 rfl rfl ?_
    refine av_getr (k := 0) dX1_takeInto_19 rfl rfl iuX1 (by decide) rfl wF_X1_9 rfl ?_
    refine av_aload_n dX1_takeInto_22 rfl rfl ?_
    refine av_get (k := 1) (x := ((σ 28 1) - 1)) dX1_takeInto_23 rfl rfl iuX1 (by decide) rfl wF_X1_15 rfl rfl ?_
    refine av_iconst dX1_takeInto_26 ?_
    refine av_imul dX1_takeInto_27 ?_
    refine av_aload_n dX1_takeInto_28 rfl rfl ?_
    refine av_iconst dX1_takeInto_29 ?_
    refine av_iconst dX1_takeInto_30 ?_
    refine av_copy dX1_takeInto_31 rfl wM_X1_19 wNat_copy wT_copy wN_J10 rfl rfl (by decide) (by decide) ⟨h.1, (by decide), (by decide)⟩ (by decide) (by decide) (by decide) ?_
    exact av_return dX1_takeInto_34 rfl h.2
  · have h := h.2.2 c
    exact av_return dX1_takeInto_7 rfl h

theorem uX1_takeInto_30 {E : av_E} {σ : av_M} {Q : Option av_V → av_M → Prop} (h : (rg (σ 30 1)) ∧ (((0 < (σ 30 1)) → ((0 : Int) ≤ (((σ 30 1) - 1) * 5) ∧ (((σ 30 1) - 1) * 5) + 5 ≤ 40) ∧ (Q none (av_cp (av_st σ 30 1 ((σ 30 1) - 1)) 31 ((((σ 30 1) - 1) * 5)).toNat 27 0 5))) ∧ (((σ 30 1) ≤ 0) → Q none σ))) :
    av_C E cSH mX1_takeInto [av_r 30, av_r 27] σ Q := by
  refine av_C.ofW (L := [some (av_r 30), some (av_r 27)]) (by decide) (Nat.le_of_ble_eq_true rfl) rfl ?_
  refine av_aload_n dX1_takeInto_0 rfl rfl ?_
  refine av_get (k := 1) (x := (σ 30 1)) dX1_takeInto_1 rfl rfl iuX1 (by decide) rfl wF_X1_15 rfl rfl ?_
  refine av_if_gt (tgt := 8) dX1_takeInto_4 (by decide) h.1 (fun c => ?_) (fun c => ?_)
  · have h := h.2.1 c
    refine av_aload_n dX1_takeInto_8 rfl rfl ?_
    refine av_dup dX1_takeInto_9 (fun _ h9 => nomatch h9) ?_
    refine av_get (k := 1) (x := (σ 30 1)) dX1_takeInto_10 rfl rfl iuX1 (by decide) rfl wF_X1_15 rfl rfl ?_
    refine av_iconst dX1_takeInto_13 ?_
    refine av_isub dX1_takeInto_14 ?_
    refine av_put (k := 1) tyX1 dX1_takeInto_15 rfl rfl iuX1 tyX1_ok nmX1 (by decide) rfl wF_X1_15 rfl rfl rfl ?_
    refine av_aload_n dX1_takeInto_18 rfl rfl ?_
    refine av_getr (k := 0) dX1_takeInto_19 rfl rfl iuX1 (by decide) rfl wF_X1_9 rfl ?_
    refine av_aload_n dX1_takeInto_22 rfl rfl ?_
    refine av_get (k := 1) (x := ((σ 30 1) - 1)) dX1_takeInto_23 rfl rfl iuX1 (by decide) rfl wF_X1_15 rfl rfl ?_
    refine av_iconst dX1_takeInto_26 ?_
    refine av_imul dX1_takeInto_27 ?_
    refine av_aload_n dX1_takeInto_28 rfl rfl ?_
    refine av_iconst dX1_takeInto_29 ?_
    refine av_iconst dX1_takeInto_30 ?_
    refine av_copy dX1_takeInto_31 rfl wM_X1_19 wNat_copy wT_copy wN_J10 rfl rfl (by decide) (by decide) ⟨h.1, (by decide), (by decide)⟩ (by decide) (by decide) (by decide) ?_
    exact av_return dX1_takeInto_34 rfl h.2
  · have h := h.2.2 c
    exact av_return dX1_takeInto_7 rfl h

theorem uX2_add {E : av_E} {σ : av_M} {Q : Option av_V → av_M → Prop} {a1 : Int} (h : (rg (σ 1 1)) ∧ ((((σ 1 1) < 200) → (0 ≤ (σ 1 1) ∧ (σ 1 1) < 200) ∧ ((0 ≤ a1 ∧ a1 < 65536) ∧ (Q (some (av_i 1)) (av_st (av_st σ 2 ((σ 1 1)).toNat a1) 1 1 ((σ 1 1) + 1))))) ∧ ((200 ≤ (σ 1 1)) → Q (some (av_i 0)) σ))) :
    av_C E cSH mX2_add [av_r 1, av_i a1] σ Q := by
  refine av_C.ofW (L := [some (av_r 1), some (av_i a1)]) (by decide) (Nat.le_of_ble_eq_true rfl) rfl ?_
  refine av_aload_n dX2_add_0 rfl rfl ?_
  refine av_get (k := 1) (x := (σ 1 1)) dX2_add_1 rfl rfl iuX2 (by decide) rfl wF_X2_15 rfl rfl ?_
  refine av_sipush dX2_add_4 rfl ?_
  refine av_icmp_lt (tgt := 12) dX2_add_7 (by decide) h.1 (by decide) (fun c => ?_) (fun c => ?_)
  · have h := h.2.1 c
    refine av_aload_n dX2_add_12 rfl rfl ?_
    refine av_getr (k := 0) dX2_add_13 rfl rfl iuX2 (by decide) rfl wF_X2_9 rfl ?_
    refine av_aload_n dX2_add_16 rfl rfl ?_
    refine av_get (k := 1) (x := (σ 1 1)) dX2_add_17 rfl rfl iuX2 (by decide) rfl wF_X2_15 rfl rfl ?_
    refine av_iload_n dX2_add_20 rfl rfl ?_
    refine av_cast dX2_add_21 rfl (by decide) h.1 h.2.1.1 h.2.1.2 ?_
    refine av_aload_n dX2_add_22 rfl rfl ?_
    refine av_dup dX2_add_23 (fun _ h9 => nomatch h9) ?_
    refine av_get (k := 1) (x := (σ 1 1)) dX2_add_24 rfl rfl iuX2 (by decide) rfl wF_X2_15 rfl rfl ?_
    refine av_iconst dX2_add_27 ?_
    refine av_iadd dX2_add_28 ?_
    refine av_put (k := 1) tyX2 dX2_add_29 rfl rfl iuX2 tyX2_ok nmX2 (by decide) rfl wF_X2_15 rfl rfl rfl ?_
    refine av_iconst dX2_add_32 ?_
    exact av_zreturn dX2_add_33 rfl (by decide) h.2.2
  · have h := h.2.2 c
    refine av_iconst dX2_add_10 ?_
    exact av_zreturn dX2_add_11 rfl (by decide) h

theorem uX2_clear {E : av_E} {σ : av_M} {Q : Option av_V → av_M → Prop} (h : Q none (av_st σ 1 1 0)) :
    av_C E cSH mX2_clear [av_r 1] σ Q := by
  refine av_C.ofW (L := [some (av_r 1)]) (by decide) (Nat.le_of_ble_eq_true rfl) rfl ?_
  refine av_aload_n dX2_clear_0 rfl rfl ?_
  refine av_iconst dX2_clear_1 ?_
  refine av_put (k := 1) tyX2 dX2_clear_2 rfl rfl iuX2 tyX2_ok nmX2 (by decide) rfl wF_X2_15 rfl rfl rfl ?_
  exact av_return dX2_clear_5 rfl h

theorem uX2_firstFault_3 {E : av_E} {σ : av_M} {Q : Option av_V → av_M → Prop} (h : av_C E cSH mX3_clear [av_r 3] σ (fun v s1 => v = none ∧ (av_W E cSH mX2_firstFault 11 [some (av_r 1), some (av_r 3), some (av_i 0), none] [] (av_st s1 1 2 0) Q))) :
    av_C E cSH mX2_firstFault [av_r 1, av_r 3] σ Q := by
  refine av_C.ofW (L := [some (av_r 1), some (av_r 3), none, none]) (by decide) (Nat.le_of_ble_eq_true rfl) rfl ?_
  refine av_aload_n dX2_firstFault_0 rfl rfl ?_
  refine av_callV mX3_clear [] [] dX2_firstFault_1 rfl rfl rfl mbX3_clear rfl wI_X3_clear wS_X3_clear rfl wM_X2_19 ⟨Nat.le_of_ble_eq_true rfl, Nat.le_of_ble_eq_true rfl⟩ rfl (Nat.le_of_ble_eq_true rfl) (av_C.mono (fun v s1 hh => ?_) h)
  obtain ⟨rfl, h⟩ := hh
  change av_W E cSH mX2_firstFault 4 [some (av_r 1), some (av_r 3), none, none] [] s1 Q
  refine av_aload_n dX2_firstFault_4 rfl rfl ?_
  refine av_iconst dX2_firstFault_5 ?_
  refine av_put (k := 2) tyX2 dX2_firstFault_6 rfl rfl iuX2 tyX2_ok nmX2 (by decide) rfl wF_X2_24 rfl rfl rfl ?_
  refine av_iconst dX2_firstFault_9 ?_
  refine av_istore_n (L' := [some (av_r 1), some (av_r 3), some (av_i 0), none]) dX2_firstFault_10 rfl (by decide) rfl ?_
  exact h

theorem uX2_firstFault_3_11 {E : av_E} {σ : av_M} {Q : Option av_V → av_M → Prop} {x2 : Int} (h : (rg x2) ∧ (((200 ≤ x2) → Q (some (av_i (-4))) σ) ∧ ((x2 < 200) → (rg (σ 1 2)) ∧ ((rg (σ 1 1)) ∧ ((((σ 1 1) ≤ (σ 1 2)) → Q (some (av_i (-4))) σ) ∧ (((σ 1 2) < (σ 1 1)) → av_C E cSH mX2_readItem [av_r 1, av_r 3] σ (fun v s1 => ∃ r1 : Int, v = some (av_i r1) ∧ ((rg r1) ∧ (((¬ r1 = 0) → av_W E cSH mX2_firstFault 11 [some (av_r 1), some (av_r 3), some (av_i (x2 + 1)), none] [] s1 Q) ∧ ((r1 = 0) → Q (some (av_i (σ 1 2))) s1)))))))))) :
    av_W E cSH mX2_firstFault 11 [some (av_r 1), some (av_r 3), some (av_i x2), none] [] σ Q := by
  refine av_iload_n dX2_firstFault_11 rfl rfl ?_
  refine av_sipush dX2_firstFault_12 rfl ?_
  refine av_icmp_ge (tgt := 50) dX2_firstFault_15 (by decide) h.1 (by decide) (fun c => ?_) (fun c => ?_)
  · have h := h.2.1 c
    refine av_bipush dX2_firstFault_50 rfl ?_
    exact av_ireturn dX2_firstFault_52 rfl h
  · have h := h.2.2 c
    refine av_aload_n dX2_firstFault_18 rfl rfl ?_
    refine av_get (k := 2) (x := (σ 1 2)) dX2_firstFault_19 rfl rfl iuX2 (by decide) rfl wF_X2_24 rfl rfl ?_
    refine av_aload_n dX2_firstFault_22 rfl rfl ?_
    refine av_get (k := 1) (x := (σ 1 1)) dX2_firstFault_23 rfl rfl iuX2 (by decide) rfl wF_X2_15 rfl rfl ?_
    refine av_icmp_ge (tgt := 50) dX2_firstFault_26 (by decide) h.1 h.2.1 (fun c => ?_) (fun c => ?_)
    · have h := h.2.2.1 c
      refine av_bipush dX2_firstFault_50 rfl ?_
      exact av_ireturn dX2_firstFault_52 rfl h
    · have h := h.2.2.2 c
      refine av_aload_n dX2_firstFault_29 rfl rfl ?_
      refine av_get (k := 2) (x := (σ 1 2)) dX2_firstFault_30 rfl rfl iuX2 (by decide) rfl wF_X2_24 rfl rfl ?_
      refine av_istore_n (L' := [some (av_r 1), some (av_r 3), some (av_i x2), some (av_i (σ 1 2))]) dX2_firstFault_33 rfl (by decide) rfl ?_
      refine av_aload_n dX2_firstFault_34 rfl rfl ?_
      refine av_aload_n dX2_firstFault_35 rfl rfl ?_
      refine av_callV mX2_readItem [av_r 3] [] dX2_firstFault_36 rfl rfl rfl mbX2_readItem rfl wI_X2_readItem wS_X2_readItem rfl wM_X2_27 ⟨Nat.le_of_ble_eq_true rfl, Nat.le_of_ble_eq_true rfl⟩ rfl (Nat.le_of_ble_eq_true rfl) (av_C.mono (fun v s1 hh => ?_) h)
      obtain ⟨r1, rfl, h⟩ := hh
      change av_W E cSH mX2_firstFault 39 [some (av_r 1), some (av_r 3), some (av_i x2), some (av_i (σ 1 2))] [av_i r1] s1 Q
      refine av_if_ne (tgt := 44) dX2_firstFault_39 (by decide) h.1 (fun c => ?_) (fun c => ?_)
      · have h := h.2.1 c
        refine av_iinc (L' := [some (av_r 1), some (av_r 3), some (av_i (x2 + 1)), some (av_i (σ 1 2))]) dX2_firstFault_44 rfl (by decide) rfl rfl ?_
        refine av_goto (tgt := 11) dX2_firstFault_47 (by decide) ?_
        refine av_res [true, true, true, false] (L' := [some (av_r 1), some (av_r 3), some (av_i (x2 + 1)), none]) rfl ?_
        exact h
      · have h := h.2.2 c
        refine av_iload_n dX2_firstFault_42 rfl rfl ?_
        exact av_ireturn dX2_firstFault_43 rfl h

theorem uX2_firstFault_12 {E : av_E} {σ : av_M} {Q : Option av_V → av_M → Prop} (h : av_C E cSH mX3_clear [av_r 12] σ (fun v s1 => v = none ∧ (av_W E cSH mX2_firstFault 11 [some (av_r 1), some (av_r 12), some (av_i 0), none] [] (av_st s1 1 2 0) Q))) :
    av_C E cSH mX2_firstFault [av_r 1, av_r 12] σ Q := by
  refine av_C.ofW (L := [some (av_r 1), some (av_r 12), none, none]) (by decide) (Nat.le_of_ble_eq_true rfl) rfl ?_
  refine av_aload_n dX2_firstFault_0 rfl rfl ?_
  refine av_callV mX3_clear [] [] dX2_firstFault_1 rfl rfl rfl mbX3_clear rfl wI_X3_clear wS_X3_clear rfl wM_X2_19 ⟨Nat.le_of_ble_eq_true rfl, Nat.le_of_ble_eq_true rfl⟩ rfl (Nat.le_of_ble_eq_true rfl) (av_C.mono (fun v s1 hh => ?_) h)
  obtain ⟨rfl, h⟩ := hh
  change av_W E cSH mX2_firstFault 4 [some (av_r 1), some (av_r 12), none, none] [] s1 Q
  refine av_aload_n dX2_firstFault_4 rfl rfl ?_
  refine av_iconst dX2_firstFault_5 ?_
  refine av_put (k := 2) tyX2 dX2_firstFault_6 rfl rfl iuX2 tyX2_ok nmX2 (by decide) rfl wF_X2_24 rfl rfl rfl ?_
  refine av_iconst dX2_firstFault_9 ?_
  refine av_istore_n (L' := [some (av_r 1), some (av_r 12), some (av_i 0), none]) dX2_firstFault_10 rfl (by decide) rfl ?_
  exact h

theorem uX2_firstFault_12_11 {E : av_E} {σ : av_M} {Q : Option av_V → av_M → Prop} {x2 : Int} (h : (rg x2) ∧ (((200 ≤ x2) → Q (some (av_i (-4))) σ) ∧ ((x2 < 200) → (rg (σ 1 2)) ∧ ((rg (σ 1 1)) ∧ ((((σ 1 1) ≤ (σ 1 2)) → Q (some (av_i (-4))) σ) ∧ (((σ 1 2) < (σ 1 1)) → av_C E cSH mX2_readItem [av_r 1, av_r 12] σ (fun v s1 => ∃ r1 : Int, v = some (av_i r1) ∧ ((rg r1) ∧ (((¬ r1 = 0) → av_W E cSH mX2_firstFault 11 [some (av_r 1), some (av_r 12), some (av_i (x2 + 1)), none] [] s1 Q) ∧ ((r1 = 0) → Q (some (av_i (σ 1 2))) s1)))))))))) :
    av_W E cSH mX2_firstFault 11 [some (av_r 1), some (av_r 12), some (av_i x2), none] [] σ Q := by
  refine av_iload_n dX2_firstFault_11 rfl rfl ?_
  refine av_sipush dX2_firstFault_12 rfl ?_
  refine av_icmp_ge (tgt := 50) dX2_firstFault_15 (by decide) h.1 (by decide) (fun c => ?_) (fun c => ?_)
  · have h := h.2.1 c
    refine av_bipush dX2_firstFault_50 rfl ?_
    exact av_ireturn dX2_firstFault_52 rfl h
  · have h := h.2.2 c
    refine av_aload_n dX2_firstFault_18 rfl rfl ?_
    refine av_get (k := 2) (x := (σ 1 2)) dX2_firstFault_19 rfl rfl iuX2 (by decide) rfl wF_X2_24 rfl rfl ?_
    refine av_aload_n dX2_firstFault_22 rfl rfl ?_
    refine av_get (k := 1) (x := (σ 1 1)) dX2_firstFault_23 rfl rfl iuX2 (by decide) rfl wF_X2_15 rfl rfl ?_
    refine av_icmp_ge (tgt := 50) dX2_firstFault_26 (by decide) h.1 h.2.1 (fun c => ?_) (fun c => ?_)
    · have h := h.2.2.1 c
      refine av_bipush dX2_firstFault_50 rfl ?_
      exact av_ireturn dX2_firstFault_52 rfl h
    · have h := h.2.2.2 c
      refine av_aload_n dX2_firstFault_29 rfl rfl ?_
      refine av_get (k := 2) (x := (σ 1 2)) dX2_firstFault_30 rfl rfl iuX2 (by decide) rfl wF_X2_24 rfl rfl ?_
      refine av_istore_n (L' := [some (av_r 1), some (av_r 12), some (av_i x2), some (av_i (σ 1 2))]) dX2_firstFault_33 rfl (by decide) rfl ?_
      refine av_aload_n dX2_firstFault_34 rfl rfl ?_
      refine av_aload_n dX2_firstFault_35 rfl rfl ?_
      refine av_callV mX2_readItem [av_r 12] [] dX2_firstFault_36 rfl rfl rfl mbX2_readItem rfl wI_X2_readItem wS_X2_readItem rfl wM_X2_27 ⟨Nat.le_of_ble_eq_true rfl, Nat.le_of_ble_eq_true rfl⟩ rfl (Nat.le_of_ble_eq_true rfl) (av_C.mono (fun v s1 hh => ?_) h)
      obtain ⟨r1, rfl, h⟩ := hh
      change av_W E cSH mX2_firstFault 39 [some (av_r 1), some (av_r 12), some (av_i x2), some (av_i (σ 1 2))] [av_i r1] s1 Q
      refine av_if_ne (tgt := 44) dX2_firstFault_39 (by decide) h.1 (fun c => ?_) (fun c => ?_)
      · have h := h.2.1 c
        refine av_iinc (L' := [some (av_r 1), some (av_r 12), some (av_i (x2 + 1)), some (av_i (σ 1 2))]) dX2_firstFault_44 rfl (by decide) rfl rfl ?_
        refine av_goto (tgt := 11) dX2_firstFault_47 (by decide) ?_
        refine av_res [true, true, true, false] (L' := [some (av_r 1), some (av_r 12), some (av_i (x2 + 1)), none]) rfl ?_
        exact h
      · have h := h.2.2 c
        refine av_iload_n dX2_firstFault_42 rfl rfl ?_
        exact av_ireturn dX2_firstFault_43 rfl h

theorem uX2_readItem_3 {E : av_E} {σ : av_M} {Q : Option av_V → av_M → Prop} (h : av_C E cSH mX2_sign [av_r 1] σ (fun v s1 => ∃ r1 : Int, v = some (av_i r1) ∧ ((rg r1) ∧ ((r1 = 103 → av_C E cSH mX2_readGold [av_r 1, av_r 3] (av_st s1 1 2 ((s1 1 2) + 1)) (fun v s2 => ∃ r2 : Int, v = some (av_i r2) ∧ ((r2 = 0 ∨ r2 = 1) ∧ (Q (some (av_i r2)) s2)))) ∧ (r1 = 107 → av_C E cSH mX2_readReader [av_r 1, av_r 3] (av_st s1 1 2 ((s1 1 2) + 1)) (fun v s3 => ∃ r3 : Int, v = some (av_i r3) ∧ ((r3 = 0 ∨ r3 = 1) ∧ (Q (some (av_i r3)) s3)))) ∧ (r1 = 114 → av_C E cSH mX2_readRoot [av_r 1, av_r 3] (av_st s1 1 2 ((s1 1 2) + 1)) (fun v s4 => ∃ r4 : Int, v = some (av_i r4) ∧ ((r4 = 0 ∨ r4 = 1) ∧ (Q (some (av_i r4)) s4)))) ∧ (r1 = 118 → av_C E cSH mX2_readRiver [av_r 1, av_r 3] (av_st s1 1 2 ((s1 1 2) + 1)) (fun v s5 => ∃ r5 : Int, v = some (av_i r5) ∧ ((r5 = 0 ∨ r5 = 1) ∧ (Q (some (av_i r5)) s5)))) ∧ (r1 = 119 → av_C E cSH mX2_readWriting [av_r 1, av_r 3] (av_st s1 1 2 ((s1 1 2) + 1)) (fun v s6 => ∃ r6 : Int, v = some (av_i r6) ∧ ((r6 = 0 ∨ r6 = 1) ∧ (Q (some (av_i r6)) s6)))) ∧ ((¬ r1 = 103 ∧ ¬ r1 = 107 ∧ ¬ r1 = 114 ∧ ¬ r1 = 118 ∧ ¬ r1 = 119) → Q (some (av_i 0)) (av_st s1 1 2 ((s1 1 2) + 1))))))) :
    av_C E cSH mX2_readItem [av_r 1, av_r 3] σ Q := by
  refine av_C.ofW (L := [some (av_r 1), some (av_r 3), none]) (by decide) (Nat.le_of_ble_eq_true rfl) rfl ?_
  refine av_aload_n dX2_readItem_0 rfl rfl ?_
  refine av_callV mX2_sign [] [] dX2_readItem_1 rfl rfl rfl mbX2_sign rfl wI_X2_sign wS_X2_sign rfl wM_X2_31 ⟨Nat.le_of_ble_eq_true rfl, Nat.le_of_ble_eq_true rfl⟩ rfl (Nat.le_of_ble_eq_true rfl) (av_C.mono (fun v s1 hh => ?_) h)
  obtain ⟨r1, rfl, h⟩ := hh
  change av_W E cSH mX2_readItem 4 [some (av_r 1), some (av_r 3), none] [av_i r1] s1 Q
  refine av_istore_n (L' := [some (av_r 1), some (av_r 3), some (av_i r1)]) dX2_readItem_4 rfl (by decide) rfl ?_
  refine av_aload_n dX2_readItem_5 rfl rfl ?_
  refine av_dup dX2_readItem_6 (fun _ h9 => nomatch h9) ?_
  refine av_get (k := 2) (x := (s1 1 2)) dX2_readItem_7 rfl rfl iuX2 (by decide) rfl wF_X2_24 rfl rfl ?_
  refine av_iconst dX2_readItem_10 ?_
  refine av_iadd dX2_readItem_11 ?_
  refine av_put (k := 2) tyX2 dX2_readItem_12 rfl rfl iuX2 tyX2_ok nmX2 (by decide) rfl wF_X2_24 rfl rfl rfl ?_
  refine av_iload_n dX2_readItem_15 rfl rfl ?_
  have hrg := h.1
  by_cases c0 : r1 = 103
  · have h := h.2.1 c0
    refine av_lookup (tgt := 92) (off := 76) dX2_readItem_16 (by decide) (by simp [Op.lookupswitch.offset, c0]) hrg (by decide) ?_
    refine av_aload_n dX2_readItem_92 rfl rfl ?_
    refine av_aload_n dX2_readItem_93 rfl rfl ?_
    refine av_callV mX2_readGold [av_r 3] [] dX2_readItem_94 rfl rfl rfl mbX2_readGold rfl wI_X2_readGold wS_X2_readGold rfl wM_X2_47 ⟨Nat.le_of_ble_eq_true rfl, Nat.le_of_ble_eq_true rfl⟩ rfl (Nat.le_of_ble_eq_true rfl) (av_C.mono (fun v s2 hh => ?_) h)
    obtain ⟨r2, rfl, h⟩ := hh
    change av_W E cSH mX2_readItem 97 [some (av_r 1), some (av_r 3), some (av_i r1)] [av_i r2] s2 Q
    exact av_zreturn dX2_readItem_97 rfl h.1 h.2
  by_cases c1 : r1 = 107
  · have h := h.2.2.1 c1
    refine av_lookup (tgt := 74) (off := 58) dX2_readItem_16 (by decide) (by simp [Op.lookupswitch.offset, c1]) hrg (by decide) ?_
    refine av_aload_n dX2_readItem_74 rfl rfl ?_
    refine av_aload_n dX2_readItem_75 rfl rfl ?_
    refine av_callV mX2_readReader [av_r 3] [] dX2_readItem_76 rfl rfl rfl mbX2_readReader rfl wI_X2_readReader wS_X2_readReader rfl wM_X2_38 ⟨Nat.le_of_ble_eq_true rfl, Nat.le_of_ble_eq_true rfl⟩ rfl (Nat.le_of_ble_eq_true rfl) (av_C.mono (fun v s3 hh => ?_) h)
    obtain ⟨r3, rfl, h⟩ := hh
    change av_W E cSH mX2_readItem 79 [some (av_r 1), some (av_r 3), some (av_i r1)] [av_i r3] s3 Q
    exact av_zreturn dX2_readItem_79 rfl h.1 h.2
  by_cases c2 : r1 = 114
  · have h := h.2.2.2.1 c2
    refine av_lookup (tgt := 68) (off := 52) dX2_readItem_16 (by decide) (by simp [Op.lookupswitch.offset, c2]) hrg (by decide) ?_
    refine av_aload_n dX2_readItem_68 rfl rfl ?_
    refine av_aload_n dX2_readItem_69 rfl rfl ?_
    refine av_callV mX2_readRoot [av_r 3] [] dX2_readItem_70 rfl rfl rfl mbX2_readRoot rfl wI_X2_readRoot wS_X2_readRoot rfl wM_X2_35 ⟨Nat.le_of_ble_eq_true rfl, Nat.le_of_ble_eq_true rfl⟩ rfl (Nat.le_of_ble_eq_true rfl) (av_C.mono (fun v s4 hh => ?_) h)
    obtain ⟨r4, rfl, h⟩ := hh
    change av_W E cSH mX2_readItem 73 [some (av_r 1), some (av_r 3), some (av_i r1)] [av_i r4] s4 Q
    exact av_zreturn dX2_readItem_73 rfl h.1 h.2
  by_cases c3 : r1 = 118
  · have h := h.2.2.2.2.1 c3
    refine av_lookup (tgt := 86) (off := 70) dX2_readItem_16 (by decide) (by simp [Op.lookupswitch.offset, c3]) hrg (by decide) ?_
    refine av_aload_n dX2_readItem_86 rfl rfl ?_
    refine av_aload_n dX2_readItem_87 rfl rfl ?_
    refine av_callV mX2_readRiver [av_r 3] [] dX2_readItem_88 rfl rfl rfl mbX2_readRiver rfl wI_X2_readRiver wS_X2_readRiver rfl wM_X2_44 ⟨Nat.le_of_ble_eq_true rfl, Nat.le_of_ble_eq_true rfl⟩ rfl (Nat.le_of_ble_eq_true rfl) (av_C.mono (fun v s5 hh => ?_) h)
    obtain ⟨r5, rfl, h⟩ := hh
    change av_W E cSH mX2_readItem 91 [some (av_r 1), some (av_r 3), some (av_i r1)] [av_i r5] s5 Q
    exact av_zreturn dX2_readItem_91 rfl h.1 h.2
  by_cases c4 : r1 = 119
  · have h := h.2.2.2.2.2.1 c4
    refine av_lookup (tgt := 80) (off := 64) dX2_readItem_16 (by decide) (by simp [Op.lookupswitch.offset, c4]) hrg (by decide) ?_
    refine av_aload_n dX2_readItem_80 rfl rfl ?_
    refine av_aload_n dX2_readItem_81 rfl rfl ?_
    refine av_callV mX2_readWriting [av_r 3] [] dX2_readItem_82 rfl rfl rfl mbX2_readWriting rfl wI_X2_readWriting wS_X2_readWriting rfl wM_X2_41 ⟨Nat.le_of_ble_eq_true rfl, Nat.le_of_ble_eq_true rfl⟩ rfl (Nat.le_of_ble_eq_true rfl) (av_C.mono (fun v s6 hh => ?_) h)
    obtain ⟨r6, rfl, h⟩ := hh
    change av_W E cSH mX2_readItem 85 [some (av_r 1), some (av_r 3), some (av_i r1)] [av_i r6] s6 Q
    exact av_zreturn dX2_readItem_85 rfl h.1 h.2
  have h := h.2.2.2.2.2.2 ⟨c0, c1, c2, c3, c4⟩
  refine av_lookup (tgt := 98) (off := 82) dX2_readItem_16 (by decide) (by simp only [Op.lookupswitch.offset]; rw [if_neg (fun e => c0 (Eq.symm e)), if_neg (fun e => c1 (Eq.symm e)), if_neg (fun e => c2 (Eq.symm e)), if_neg (fun e => c3 (Eq.symm e)), if_neg (fun e => c4 (Eq.symm e))]) hrg (by decide) ?_
  refine av_iconst dX2_readItem_98 ?_
  exact av_zreturn dX2_readItem_99 rfl (by decide) h

theorem uX2_readItem_12 {E : av_E} {σ : av_M} {Q : Option av_V → av_M → Prop} (h : av_C E cSH mX2_sign [av_r 1] σ (fun v s1 => ∃ r1 : Int, v = some (av_i r1) ∧ ((rg r1) ∧ ((r1 = 103 → av_C E cSH mX2_readGold [av_r 1, av_r 12] (av_st s1 1 2 ((s1 1 2) + 1)) (fun v s2 => ∃ r2 : Int, v = some (av_i r2) ∧ ((r2 = 0 ∨ r2 = 1) ∧ (Q (some (av_i r2)) s2)))) ∧ (r1 = 107 → av_C E cSH mX2_readReader [av_r 1, av_r 12] (av_st s1 1 2 ((s1 1 2) + 1)) (fun v s3 => ∃ r3 : Int, v = some (av_i r3) ∧ ((r3 = 0 ∨ r3 = 1) ∧ (Q (some (av_i r3)) s3)))) ∧ (r1 = 114 → av_C E cSH mX2_readRoot [av_r 1, av_r 12] (av_st s1 1 2 ((s1 1 2) + 1)) (fun v s4 => ∃ r4 : Int, v = some (av_i r4) ∧ ((r4 = 0 ∨ r4 = 1) ∧ (Q (some (av_i r4)) s4)))) ∧ (r1 = 118 → av_C E cSH mX2_readRiver [av_r 1, av_r 12] (av_st s1 1 2 ((s1 1 2) + 1)) (fun v s5 => ∃ r5 : Int, v = some (av_i r5) ∧ ((r5 = 0 ∨ r5 = 1) ∧ (Q (some (av_i r5)) s5)))) ∧ (r1 = 119 → av_C E cSH mX2_readWriting [av_r 1, av_r 12] (av_st s1 1 2 ((s1 1 2) + 1)) (fun v s6 => ∃ r6 : Int, v = some (av_i r6) ∧ ((r6 = 0 ∨ r6 = 1) ∧ (Q (some (av_i r6)) s6)))) ∧ ((¬ r1 = 103 ∧ ¬ r1 = 107 ∧ ¬ r1 = 114 ∧ ¬ r1 = 118 ∧ ¬ r1 = 119) → Q (some (av_i 0)) (av_st s1 1 2 ((s1 1 2) + 1))))))) :
    av_C E cSH mX2_readItem [av_r 1, av_r 12] σ Q := by
  refine av_C.ofW (L := [some (av_r 1), some (av_r 12), none]) (by decide) (Nat.le_of_ble_eq_true rfl) rfl ?_
  refine av_aload_n dX2_readItem_0 rfl rfl ?_
  refine av_callV mX2_sign [] [] dX2_readItem_1 rfl rfl rfl mbX2_sign rfl wI_X2_sign wS_X2_sign rfl wM_X2_31 ⟨Nat.le_of_ble_eq_true rfl, Nat.le_of_ble_eq_true rfl⟩ rfl (Nat.le_of_ble_eq_true rfl) (av_C.mono (fun v s1 hh => ?_) h)
  obtain ⟨r1, rfl, h⟩ := hh
  change av_W E cSH mX2_readItem 4 [some (av_r 1), some (av_r 12), none] [av_i r1] s1 Q
  refine av_istore_n (L' := [some (av_r 1), some (av_r 12), some (av_i r1)]) dX2_readItem_4 rfl (by decide) rfl ?_
  refine av_aload_n dX2_readItem_5 rfl rfl ?_
  refine av_dup dX2_readItem_6 (fun _ h9 => nomatch h9) ?_
  refine av_get (k := 2) (x := (s1 1 2)) dX2_readItem_7 rfl rfl iuX2 (by decide) rfl wF_X2_24 rfl rfl ?_
  refine av_iconst dX2_readItem_10 ?_
  refine av_iadd dX2_readItem_11 ?_
  refine av_put (k := 2) tyX2 dX2_readItem_12 rfl rfl iuX2 tyX2_ok nmX2 (by decide) rfl wF_X2_24 rfl rfl rfl ?_
  refine av_iload_n dX2_readItem_15 rfl rfl ?_
  have hrg := h.1
  by_cases c0 : r1 = 103
  · have h := h.2.1 c0
    refine av_lookup (tgt := 92) (off := 76) dX2_readItem_16 (by decide) (by simp [Op.lookupswitch.offset, c0]) hrg (by decide) ?_
    refine av_aload_n dX2_readItem_92 rfl rfl ?_
    refine av_aload_n dX2_readItem_93 rfl rfl ?_
    refine av_callV mX2_readGold [av_r 12] [] dX2_readItem_94 rfl rfl rfl mbX2_readGold rfl wI_X2_readGold wS_X2_readGold rfl wM_X2_47 ⟨Nat.le_of_ble_eq_true rfl, Nat.le_of_ble_eq_true rfl⟩ rfl (Nat.le_of_ble_eq_true rfl) (av_C.mono (fun v s2 hh => ?_) h)
    obtain ⟨r2, rfl, h⟩ := hh
    change av_W E cSH mX2_readItem 97 [some (av_r 1), some (av_r 12), some (av_i r1)] [av_i r2] s2 Q
    exact av_zreturn dX2_readItem_97 rfl h.1 h.2
  by_cases c1 : r1 = 107
  · have h := h.2.2.1 c1
    refine av_lookup (tgt := 74) (off := 58) dX2_readItem_16 (by decide) (by simp [Op.lookupswitch.offset, c1]) hrg (by decide) ?_
    refine av_aload_n dX2_readItem_74 rfl rfl ?_
    refine av_aload_n dX2_readItem_75 rfl rfl ?_
    refine av_callV mX2_readReader [av_r 12] [] dX2_readItem_76 rfl rfl rfl mbX2_readReader rfl wI_X2_readReader wS_X2_readReader rfl wM_X2_38 ⟨Nat.le_of_ble_eq_true rfl, Nat.le_of_ble_eq_true rfl⟩ rfl (Nat.le_of_ble_eq_true rfl) (av_C.mono (fun v s3 hh => ?_) h)
    obtain ⟨r3, rfl, h⟩ := hh
    change av_W E cSH mX2_readItem 79 [some (av_r 1), some (av_r 12), some (av_i r1)] [av_i r3] s3 Q
    exact av_zreturn dX2_readItem_79 rfl h.1 h.2
  by_cases c2 : r1 = 114
  · have h := h.2.2.2.1 c2
    refine av_lookup (tgt := 68) (off := 52) dX2_readItem_16 (by decide) (by simp [Op.lookupswitch.offset, c2]) hrg (by decide) ?_
    refine av_aload_n dX2_readItem_68 rfl rfl ?_
    refine av_aload_n dX2_readItem_69 rfl rfl ?_
    refine av_callV mX2_readRoot [av_r 12] [] dX2_readItem_70 rfl rfl rfl mbX2_readRoot rfl wI_X2_readRoot wS_X2_readRoot rfl wM_X2_35 ⟨Nat.le_of_ble_eq_true rfl, Nat.le_of_ble_eq_true rfl⟩ rfl (Nat.le_of_ble_eq_true rfl) (av_C.mono (fun v s4 hh => ?_) h)
    obtain ⟨r4, rfl, h⟩ := hh
    change av_W E cSH mX2_readItem 73 [some (av_r 1), some (av_r 12), some (av_i r1)] [av_i r4] s4 Q
    exact av_zreturn dX2_readItem_73 rfl h.1 h.2
  by_cases c3 : r1 = 118
  · have h := h.2.2.2.2.1 c3
    refine av_lookup (tgt := 86) (off := 70) dX2_readItem_16 (by decide) (by simp [Op.lookupswitch.offset, c3]) hrg (by decide) ?_
    refine av_aload_n dX2_readItem_86 rfl rfl ?_
    refine av_aload_n dX2_readItem_87 rfl rfl ?_
    refine av_callV mX2_readRiver [av_r 12] [] dX2_readItem_88 rfl rfl rfl mbX2_readRiver rfl wI_X2_readRiver wS_X2_readRiver rfl wM_X2_44 ⟨Nat.le_of_ble_eq_true rfl, Nat.le_of_ble_eq_true rfl⟩ rfl (Nat.le_of_ble_eq_true rfl) (av_C.mono (fun v s5 hh => ?_) h)
    obtain ⟨r5, rfl, h⟩ := hh
    change av_W E cSH mX2_readItem 91 [some (av_r 1), some (av_r 12), some (av_i r1)] [av_i r5] s5 Q
    exact av_zreturn dX2_readItem_91 rfl h.1 h.2
  by_cases c4 : r1 = 119
  · have h := h.2.2.2.2.2.1 c4
    refine av_lookup (tgt := 80) (off := 64) dX2_readItem_16 (by decide) (by simp [Op.lookupswitch.offset, c4]) hrg (by decide) ?_
    refine av_aload_n dX2_readItem_80 rfl rfl ?_
    refine av_aload_n dX2_readItem_81 rfl rfl ?_
    refine av_callV mX2_readWriting [av_r 12] [] dX2_readItem_82 rfl rfl rfl mbX2_readWriting rfl wI_X2_readWriting wS_X2_readWriting rfl wM_X2_41 ⟨Nat.le_of_ble_eq_true rfl, Nat.le_of_ble_eq_true rfl⟩ rfl (Nat.le_of_ble_eq_true rfl) (av_C.mono (fun v s6 hh => ?_) h)
    obtain ⟨r6, rfl, h⟩ := hh
    change av_W E cSH mX2_readItem 85 [some (av_r 1), some (av_r 12), some (av_i r1)] [av_i r6] s6 Q
    exact av_zreturn dX2_readItem_85 rfl h.1 h.2
  have h := h.2.2.2.2.2.2 ⟨c0, c1, c2, c3, c4⟩
  refine av_lookup (tgt := 98) (off := 82) dX2_readItem_16 (by decide) (by simp only [Op.lookupswitch.offset]; rw [if_neg (fun e => c0 (Eq.symm e)), if_neg (fun e => c1 (Eq.symm e)), if_neg (fun e => c2 (Eq.symm e)), if_neg (fun e => c3 (Eq.symm e)), if_neg (fun e => c4 (Eq.symm e))]) hrg (by decide) ?_
  refine av_iconst dX2_readItem_98 ?_
  exact av_zreturn dX2_readItem_99 rfl (by decide) h

theorem uX2_readRoot_3 {E : av_E} {σ : av_M} {Q : Option av_V → av_M → Prop} (h : av_C E cSH mX2_readRow [av_r 1, av_i 3, av_i 44] σ (fun v s1 => ∃ r1 : Int, v = some (av_i r1) ∧ (av_C E cSH mX2_readNumber [av_r 1, av_i 0, av_i 60, av_i 44] s1 (fun v s2 => ∃ r2 : Int, v = some (av_i r2) ∧ (av_C E cSH mX2_readNumber [av_r 1, av_i 0, av_i 3, av_i 59] s2 (fun v s3 => ∃ r3 : Int, v = some (av_i r3) ∧ ((rg r1) ∧ (((r1 < 0) → Q (some (av_i 0)) s3) ∧ ((0 ≤ r1) → (rg r2) ∧ (((r2 < 0) → Q (some (av_i 0)) s3) ∧ ((0 ≤ r2) → (rg r3) ∧ (((r3 < 0) → Q (some (av_i 0)) s3) ∧ ((0 ≤ r3) → av_C E cSH mX3_addRoot [av_r 3, av_i r1, av_i r2, av_i r3] s3 (fun v s4 => ∃ r4 : Int, v = some (av_i r4) ∧ ((rg r4) ∧ (((r4 = 0) → Q (some (av_i 0)) s4) ∧ ((¬ r4 = 0) → Q (some (av_i 1)) s4))))))))))))))))) :
    av_C E cSH mX2_readRoot [av_r 1, av_r 3] σ Q := by
  refine av_C.ofW (L := [some (av_r 1), some (av_r 3), none, none, none]) (by decide) (Nat.le_of_ble_eq_true rfl) rfl ?_
  refine av_aload_n dX2_readRoot_0 rfl rfl ?_
  refine av_iconst dX2_readRoot_1 ?_
  refine av_bipush dX2_readRoot_2 rfl ?_
  refine av_callV mX2_readRow [av_i 3, av_i 44] [] dX2_readRoot_4 rfl rfl rfl mbX2_readRow rfl wI_X2_readRow wS_X2_readRow rfl wM_X2_50 ⟨Nat.le_of_ble_eq_true rfl, Nat.le_of_ble_eq_true rfl⟩ rfl (Nat.le_of_ble_eq_true rfl) (av_C.mono (fun v s1 hh => ?_) h)
  obtain ⟨r1, rfl, h⟩ := hh
  change av_W E cSH mX2_readRoot 7 [some (av_r 1), some (av_r 3), none, none, none] [av_i r1] s1 Q
  refine av_istore_n (L' := [some (av_r 1), some (av_r 3), some (av_i r1), none, none]) dX2_readRoot_7 rfl (by decide) rfl ?_
  refine av_aload_n dX2_readRoot_8 rfl rfl ?_
  refine av_iconst dX2_readRoot_9 ?_
  refine av_bipush dX2_readRoot_10 rfl ?_
  refine av_bipush dX2_readRoot_12 rfl ?_
  refine av_callV mX2_readNumber [av_i 0, av_i 60, av_i 44] [] dX2_readRoot_14 rfl rfl rfl mbX2_readNumber rfl wI_X2_readNumber wS_X2_readNumber rfl wM_X2_54 ⟨Nat.le_of_ble_eq_true rfl, Nat.le_of_ble_eq_true rfl⟩ rfl (Nat.le_of_ble_eq_true rfl) (av_C.mono (fun v s2 hh => ?_) h)
  obtain ⟨r2, rfl, h⟩ := hh
  change av_W E cSH mX2_readRoot 17 [some (av_r 1), some (av_r 3), some (av_i r1), none, none] [av_i r2] s2 Q
  refine av_istore_n (L' := [some (av_r 1), some (av_r 3), some (av_i r1), some (av_i r2), none]) dX2_readRoot_17 rfl (by decide) rfl ?_
  refine av_aload_n dX2_readRoot_18 rfl rfl ?_
  refine av_iconst dX2_readRoot_19 ?_
  refine av_iconst dX2_readRoot_20 ?_
  refine av_bipush dX2_readRoot_21 rfl ?_
  refine av_callV mX2_readNumber [av_i 0, av_i 3, av_i 59] [] dX2_readRoot_23 rfl rfl rfl mbX2_readNumber rfl wI_X2_readNumber wS_X2_readNumber rfl wM_X2_54 ⟨Nat.le_of_ble_eq_true rfl, Nat.le_of_ble_eq_true rfl⟩ rfl (Nat.le_of_ble_eq_true rfl) (av_C.mono (fun v s3 hh => ?_) h)
  obtain ⟨r3, rfl, h⟩ := hh
  change av_W E cSH mX2_readRoot 26 [some (av_r 1), some (av_r 3), some (av_i r1), some (av_i r2), none] [av_i r3] s3 Q
  refine av_istore (L' := [some (av_r 1), some (av_r 3), some (av_i r1), some (av_i r2), some (av_i r3)]) dX2_readRoot_26 (by decide) rfl ?_
  refine av_iload_n dX2_readRoot_28 rfl rfl ?_
  refine av_if_lt (tgt := 56) dX2_readRoot_29 (by decide) h.1 (fun c => ?_) (fun c => ?_)
  · have h := h.2.1 c
    refine av_iconst dX2_readRoot_56 ?_
    exact av_zreturn dX2_readRoot_57 rfl (by decide) h
  · have h := h.2.2 c
    refine av_iload_n dX2_readRoot_32 rfl rfl ?_
    refine av_if_lt (tgt := 56) dX2_readRoot_33 (by decide) h.1 (fun c => ?_) (fun c => ?_)
    · have h := h.2.1 c
      refine av_iconst dX2_readRoot_56 ?_
      exact av_zreturn dX2_readRoot_57 rfl (by decide) h
    · have h := h.2.2 c
      refine av_iload dX2_readRoot_36 rfl ?_
      refine av_if_lt (tgt := 56) dX2_readRoot_38 (by decide) h.1 (fun c => ?_) (fun c => ?_)
      · have h := h.2.1 c
        refine av_iconst dX2_readRoot_56 ?_
        exact av_zreturn dX2_readRoot_57 rfl (by decide) h
      · have h := h.2.2 c
        refine av_aload_n dX2_readRoot_41 rfl rfl ?_
        refine av_iload_n dX2_readRoot_42 rfl rfl ?_
        refine av_iload_n dX2_readRoot_43 rfl rfl ?_
        refine av_iload dX2_readRoot_44 rfl ?_
        refine av_callV mX3_addRoot [av_i r1, av_i r2, av_i r3] [] dX2_readRoot_46 rfl rfl rfl mbX3_addRoot rfl wI_X3_addRoot wS_X3_addRoot rfl wM_X2_58 ⟨Nat.le_of_ble_eq_true rfl, Nat.le_of_ble_eq_true rfl⟩ rfl (Nat.le_of_ble_eq_true rfl) (av_C.mono (fun v s4 hh => ?_) h)
        obtain ⟨r4, rfl, h⟩ := hh
        change av_W E cSH mX2_readRoot 49 [some (av_r 1), some (av_r 3), some (av_i r1), some (av_i r2), some (av_i r3)] [av_i r4] s4 Q
        refine av_if_eq (tgt := 56) dX2_readRoot_49 (by decide) h.1 (fun c => ?_) (fun c => ?_)
        · have h := h.2.1 c
          refine av_iconst dX2_readRoot_56 ?_
          exact av_zreturn dX2_readRoot_57 rfl (by decide) h
        · have h := h.2.2 c
          refine av_iconst dX2_readRoot_52 ?_
          refine av_goto (tgt := 57) dX2_readRoot_53 (by decide) ?_
          exact av_zreturn dX2_readRoot_57 rfl (by decide) h

theorem uX2_readRoot_12 {E : av_E} {σ : av_M} {Q : Option av_V → av_M → Prop} (h : av_C E cSH mX2_readRow [av_r 1, av_i 3, av_i 44] σ (fun v s1 => ∃ r1 : Int, v = some (av_i r1) ∧ (av_C E cSH mX2_readNumber [av_r 1, av_i 0, av_i 60, av_i 44] s1 (fun v s2 => ∃ r2 : Int, v = some (av_i r2) ∧ (av_C E cSH mX2_readNumber [av_r 1, av_i 0, av_i 3, av_i 59] s2 (fun v s3 => ∃ r3 : Int, v = some (av_i r3) ∧ ((rg r1) ∧ (((r1 < 0) → Q (some (av_i 0)) s3) ∧ ((0 ≤ r1) → (rg r2) ∧ (((r2 < 0) → Q (some (av_i 0)) s3) ∧ ((0 ≤ r2) → (rg r3) ∧ (((r3 < 0) → Q (some (av_i 0)) s3) ∧ ((0 ≤ r3) → av_C E cSH mX3_addRoot [av_r 12, av_i r1, av_i r2, av_i r3] s3 (fun v s4 => ∃ r4 : Int, v = some (av_i r4) ∧ ((rg r4) ∧ (((r4 = 0) → Q (some (av_i 0)) s4) ∧ ((¬ r4 = 0) → Q (some (av_i 1)) s4))))))))))))))))) :
    av_C E cSH mX2_readRoot [av_r 1, av_r 12] σ Q := by
  refine av_C.ofW (L := [some (av_r 1), some (av_r 12), none, none, none]) (by decide) (Nat.le_of_ble_eq_true rfl) rfl ?_
  refine av_aload_n dX2_readRoot_0 rfl rfl ?_
  refine av_iconst dX2_readRoot_1 ?_
  refine av_bipush dX2_readRoot_2 rfl ?_
  refine av_callV mX2_readRow [av_i 3, av_i 44] [] dX2_readRoot_4 rfl rfl rfl mbX2_readRow rfl wI_X2_readRow wS_X2_readRow rfl wM_X2_50 ⟨Nat.le_of_ble_eq_true rfl, Nat.le_of_ble_eq_true rfl⟩ rfl (Nat.le_of_ble_eq_true rfl) (av_C.mono (fun v s1 hh => ?_) h)
  obtain ⟨r1, rfl, h⟩ := hh
  change av_W E cSH mX2_readRoot 7 [some (av_r 1), some (av_r 12), none, none, none] [av_i r1] s1 Q
  refine av_istore_n (L' := [some (av_r 1), some (av_r 12), some (av_i r1), none, none]) dX2_readRoot_7 rfl (by decide) rfl ?_
  refine av_aload_n dX2_readRoot_8 rfl rfl ?_
  refine av_iconst dX2_readRoot_9 ?_
  refine av_bipush dX2_readRoot_10 rfl ?_
  refine av_bipush dX2_readRoot_12 rfl ?_
  refine av_callV mX2_readNumber [av_i 0, av_i 60, av_i 44] [] dX2_readRoot_14 rfl rfl rfl mbX2_readNumber rfl wI_X2_readNumber wS_X2_readNumber rfl wM_X2_54 ⟨Nat.le_of_ble_eq_true rfl, Nat.le_of_ble_eq_true rfl⟩ rfl (Nat.le_of_ble_eq_true rfl) (av_C.mono (fun v s2 hh => ?_) h)
  obtain ⟨r2, rfl, h⟩ := hh
  change av_W E cSH mX2_readRoot 17 [some (av_r 1), some (av_r 12), some (av_i r1), none, none] [av_i r2] s2 Q
  refine av_istore_n (L' := [some (av_r 1), some (av_r 12), some (av_i r1), some (av_i r2), none]) dX2_readRoot_17 rfl (by decide) rfl ?_
  refine av_aload_n dX2_readRoot_18 rfl rfl ?_
  refine av_iconst dX2_readRoot_19 ?_
  refine av_iconst dX2_readRoot_20 ?_
  refine av_bipush dX2_readRoot_21 rfl ?_
  refine av_callV mX2_readNumber [av_i 0, av_i 3, av_i 59] [] dX2_readRoot_23 rfl rfl rfl mbX2_readNumber rfl wI_X2_readNumber wS_X2_readNumber rfl wM_X2_54 ⟨Nat.le_of_ble_eq_true rfl, Nat.le_of_ble_eq_true rfl⟩ rfl (Nat.le_of_ble_eq_true rfl) (av_C.mono (fun v s3 hh => ?_) h)
  obtain ⟨r3, rfl, h⟩ := hh
  change av_W E cSH mX2_readRoot 26 [some (av_r 1), some (av_r 12), some (av_i r1), some (av_i r2), none] [av_i r3] s3 Q
  refine av_istore (L' := [some (av_r 1), some (av_r 12), some (av_i r1), some (av_i r2), some (av_i r3)]) dX2_readRoot_26 (by decide) rfl ?_
  refine av_iload_n dX2_readRoot_28 rfl rfl ?_
  refine av_if_lt (tgt := 56) dX2_readRoot_29 (by decide) h.1 (fun c => ?_) (fun c => ?_)
  · have h := h.2.1 c
    refine av_iconst dX2_readRoot_56 ?_
    exact av_zreturn dX2_readRoot_57 rfl (by decide) h
  · have h := h.2.2 c
    refine av_iload_n dX2_readRoot_32 rfl rfl ?_
    refine av_if_lt (tgt := 56) dX2_readRoot_33 (by decide) h.1 (fun c => ?_) (fun c => ?_)
    · have h := h.2.1 c
      refine av_iconst dX2_readRoot_56 ?_
      exact av_zreturn dX2_readRoot_57 rfl (by decide) h
    · have h := h.2.2 c
      refine av_iload dX2_readRoot_36 rfl ?_
      refine av_if_lt (tgt := 56) dX2_readRoot_38 (by decide) h.1 (fun c => ?_) (fun c => ?_)
      · have h := h.2.1 c
        refine av_iconst dX2_readRoot_56 ?_
        exact av_zreturn dX2_readRoot_57 rfl (by decide) h
      · have h := h.2.2 c
        refine av_aload_n dX2_readRoot_41 rfl rfl ?_
        refine av_iload_n dX2_readRoot_42 rfl rfl ?_
        refine av_iload_n dX2_readRoot_43 rfl rfl ?_
        refine av_iload dX2_readRoot_44 rfl ?_
        refine av_callV mX3_addRoot [av_i r1, av_i r2, av_i r3] [] dX2_readRoot_46 rfl rfl rfl mbX3_addRoot rfl wI_X3_addRoot wS_X3_addRoot rfl wM_X2_58 ⟨Nat.le_of_ble_eq_true rfl, Nat.le_of_ble_eq_true rfl⟩ rfl (Nat.le_of_ble_eq_true rfl) (av_C.mono (fun v s4 hh => ?_) h)
        obtain ⟨r4, rfl, h⟩ := hh
        change av_W E cSH mX2_readRoot 49 [some (av_r 1), some (av_r 12), some (av_i r1), some (av_i r2), some (av_i r3)] [av_i r4] s4 Q
        refine av_if_eq (tgt := 56) dX2_readRoot_49 (by decide) h.1 (fun c => ?_) (fun c => ?_)
        · have h := h.2.1 c
          refine av_iconst dX2_readRoot_56 ?_
          exact av_zreturn dX2_readRoot_57 rfl (by decide) h
        · have h := h.2.2 c
          refine av_iconst dX2_readRoot_52 ?_
          refine av_goto (tgt := 57) dX2_readRoot_53 (by decide) ?_
          exact av_zreturn dX2_readRoot_57 rfl (by decide) h

theorem uX2_readReader_3 {E : av_E} {σ : av_M} {Q : Option av_V → av_M → Prop} (h : av_C E cSH mX2_readNumber [av_r 1, av_i 0, av_i 4, av_i 44] σ (fun v s1 => ∃ r1 : Int, v = some (av_i r1) ∧ (av_C E cSH mX2_readNumber [av_r 1, av_i 1, av_i 12, av_i 44] s1 (fun v s2 => ∃ r2 : Int, v = some (av_i r2) ∧ (av_C E cSH mX2_readNumber [av_r 1, av_i 0, av_i 60, av_i 59] s2 (fun v s3 => ∃ r3 : Int, v = some (av_i r3) ∧ ((rg r1) ∧ (((r1 < 0) → Q (some (av_i 0)) s3) ∧ ((0 ≤ r1) → (rg r2) ∧ (((r2 < 0) → Q (some (av_i 0)) s3) ∧ ((0 ≤ r2) → (rg r3) ∧ (((r3 < 0) → Q (some (av_i 0)) s3) ∧ ((0 ≤ r3) → av_C E cSH mX3_addReader [av_r 3, av_i r1, av_i r2, av_i r3] s3 (fun v s4 => ∃ r4 : Int, v = some (av_i r4) ∧ ((rg r4) ∧ (((r4 = 0) → Q (some (av_i 0)) s4) ∧ ((¬ r4 = 0) → Q (some (av_i 1)) s4))))))))))))))))) :
    av_C E cSH mX2_readReader [av_r 1, av_r 3] σ Q := by
  refine av_C.ofW (L := [some (av_r 1), some (av_r 3), none, none, none]) (by decide) (Nat.le_of_ble_eq_true rfl) rfl ?_
  refine av_aload_n dX2_readReader_0 rfl rfl ?_
  refine av_iconst dX2_readReader_1 ?_
  refine av_iconst dX2_readReader_2 ?_
  refine av_bipush dX2_readReader_3 rfl ?_
  refine av_callV mX2_readNumber [av_i 0, av_i 4, av_i 44] [] dX2_readReader_5 rfl rfl rfl mbX2_readNumber rfl wI_X2_readNumber wS_X2_readNumber rfl wM_X2_54 ⟨Nat.le_of_ble_eq_true rfl, Nat.le_of_ble_eq_true rfl⟩ rfl (Nat.le_of_ble_eq_true rfl) (av_C.mono (fun v s1 hh => ?_) h)
  obtain ⟨r1, rfl, h⟩ := hh
  change av_W E cSH mX2_readReader 8 [some (av_r 1), some (av_r 3), none, none, none] [av_i r1] s1 Q
  refine av_istore_n (L' := [some (av_r 1), some (av_r 3), some (av_i r1), none, none]) dX2_readReader_8 rfl (by decide) rfl ?_
  refine av_aload_n dX2_readReader_9 rfl rfl ?_
  refine av_iconst dX2_readReader_10 ?_
  refine av_bipush dX2_readReader_11 rfl ?_
  refine av_bipush dX2_readReader_13 rfl ?_
  refine av_callV mX2_readNumber [av_i 1, av_i 12, av_i 44] [] dX2_readReader_15 rfl rfl rfl mbX2_readNumber rfl wI_X2_readNumber wS_X2_readNumber rfl wM_X2_54 ⟨Nat.le_of_ble_eq_true rfl, Nat.le_of_ble_eq_true rfl⟩ rfl (Nat.le_of_ble_eq_true rfl) (av_C.mono (fun v s2 hh => ?_) h)
  obtain ⟨r2, rfl, h⟩ := hh
  change av_W E cSH mX2_readReader 18 [some (av_r 1), some (av_r 3), some (av_i r1), none, none] [av_i r2] s2 Q
  refine av_istore_n (L' := [some (av_r 1), some (av_r 3), some (av_i r1), some (av_i r2), none]) dX2_readReader_18 rfl (by decide) rfl ?_
  refine av_aload_n dX2_readReader_19 rfl rfl ?_
  refine av_iconst dX2_readReader_20 ?_
  refine av_bipush dX2_readReader_21 rfl ?_
  refine av_bipush dX2_readReader_23 rfl ?_
  refine av_callV mX2_readNumber [av_i 0, av_i 60, av_i 59] [] dX2_readReader_25 rfl rfl rfl mbX2_readNumber rfl wI_X2_readNumber wS_X2_readNumber rfl wM_X2_54 ⟨Nat.le_of_ble_eq_true rfl, Nat.le_of_ble_eq_true rfl⟩ rfl (Nat.le_of_ble_eq_true rfl) (av_C.mono (fun v s3 hh => ?_) h)
  obtain ⟨r3, rfl, h⟩ := hh
  change av_W E cSH mX2_readReader 28 [some (av_r 1), some (av_r 3), some (av_i r1), some (av_i r2), none] [av_i r3] s3 Q
  refine av_istore (L' := [some (av_r 1), some (av_r 3), some (av_i r1), some (av_i r2), some (av_i r3)]) dX2_readReader_28 (by decide) rfl ?_
  refine av_iload_n dX2_readReader_30 rfl rfl ?_
  refine av_if_lt (tgt := 58) dX2_readReader_31 (by decide) h.1 (fun c => ?_) (fun c => ?_)
  · have h := h.2.1 c
    refine av_iconst dX2_readReader_58 ?_
    exact av_zreturn dX2_readReader_59 rfl (by decide) h
  · have h := h.2.2 c
    refine av_iload_n dX2_readReader_34 rfl rfl ?_
    refine av_if_lt (tgt := 58) dX2_readReader_35 (by decide) h.1 (fun c => ?_) (fun c => ?_)
    · have h := h.2.1 c
      refine av_iconst dX2_readReader_58 ?_
      exact av_zreturn dX2_readReader_59 rfl (by decide) h
    · have h := h.2.2 c
      refine av_iload dX2_readReader_38 rfl ?_
      refine av_if_lt (tgt := 58) dX2_readReader_40 (by decide) h.1 (fun c => ?_) (fun c => ?_)
      · have h := h.2.1 c
        refine av_iconst dX2_readReader_58 ?_
        exact av_zreturn dX2_readReader_59 rfl (by decide) h
      · have h := h.2.2 c
        refine av_aload_n dX2_readReader_43 rfl rfl ?_
        refine av_iload_n dX2_readReader_44 rfl rfl ?_
        refine av_iload_n dX2_readReader_45 rfl rfl ?_
        refine av_iload dX2_readReader_46 rfl ?_
        refine av_callV mX3_addReader [av_i r1, av_i r2, av_i r3] [] dX2_readReader_48 rfl rfl rfl mbX3_addReader rfl wI_X3_addReader wS_X3_addReader rfl wM_X2_62 ⟨Nat.le_of_ble_eq_true rfl, Nat.le_of_ble_eq_true rfl⟩ rfl (Nat.le_of_ble_eq_true rfl) (av_C.mono (fun v s4 hh => ?_) h)
        obtain ⟨r4, rfl, h⟩ := hh
        change av_W E cSH mX2_readReader 51 [some (av_r 1), some (av_r 3), some (av_i r1), some (av_i r2), some (av_i r3)] [av_i r4] s4 Q
        refine av_if_eq (tgt := 58) dX2_readReader_51 (by decide) h.1 (fun c => ?_) (fun c => ?_)
        · have h := h.2.1 c
          refine av_iconst dX2_readReader_58 ?_
          exact av_zreturn dX2_readReader_59 rfl (by decide) h
        · have h := h.2.2 c
          refine av_iconst dX2_readReader_54 ?_
          refine av_goto (tgt := 59) dX2_readReader_55 (by decide) ?_
          exact av_zreturn dX2_readReader_59 rfl (by decide) h

theorem uX2_readReader_12 {E : av_E} {σ : av_M} {Q : Option av_V → av_M → Prop} (h : av_C E cSH mX2_readNumber [av_r 1, av_i 0, av_i 4, av_i 44] σ (fun v s1 => ∃ r1 : Int, v = some (av_i r1) ∧ (av_C E cSH mX2_readNumber [av_r 1, av_i 1, av_i 12, av_i 44] s1 (fun v s2 => ∃ r2 : Int, v = some (av_i r2) ∧ (av_C E cSH mX2_readNumber [av_r 1, av_i 0, av_i 60, av_i 59] s2 (fun v s3 => ∃ r3 : Int, v = some (av_i r3) ∧ ((rg r1) ∧ (((r1 < 0) → Q (some (av_i 0)) s3) ∧ ((0 ≤ r1) → (rg r2) ∧ (((r2 < 0) → Q (some (av_i 0)) s3) ∧ ((0 ≤ r2) → (rg r3) ∧ (((r3 < 0) → Q (some (av_i 0)) s3) ∧ ((0 ≤ r3) → av_C E cSH mX3_addReader [av_r 12, av_i r1, av_i r2, av_i r3] s3 (fun v s4 => ∃ r4 : Int, v = some (av_i r4) ∧ ((rg r4) ∧ (((r4 = 0) → Q (some (av_i 0)) s4) ∧ ((¬ r4 = 0) → Q (some (av_i 1)) s4))))))))))))))))) :
    av_C E cSH mX2_readReader [av_r 1, av_r 12] σ Q := by
  refine av_C.ofW (L := [some (av_r 1), some (av_r 12), none, none, none]) (by decide) (Nat.le_of_ble_eq_true rfl) rfl ?_
  refine av_aload_n dX2_readReader_0 rfl rfl ?_
  refine av_iconst dX2_readReader_1 ?_
  refine av_iconst dX2_readReader_2 ?_
  refine av_bipush dX2_readReader_3 rfl ?_
  refine av_callV mX2_readNumber [av_i 0, av_i 4, av_i 44] [] dX2_readReader_5 rfl rfl rfl mbX2_readNumber rfl wI_X2_readNumber wS_X2_readNumber rfl wM_X2_54 ⟨Nat.le_of_ble_eq_true rfl, Nat.le_of_ble_eq_true rfl⟩ rfl (Nat.le_of_ble_eq_true rfl) (av_C.mono (fun v s1 hh => ?_) h)
  obtain ⟨r1, rfl, h⟩ := hh
  change av_W E cSH mX2_readReader 8 [some (av_r 1), some (av_r 12), none, none, none] [av_i r1] s1 Q
  refine av_istore_n (L' := [some (av_r 1), some (av_r 12), some (av_i r1), none, none]) dX2_readReader_8 rfl (by decide) rfl ?_
  refine av_aload_n dX2_readReader_9 rfl rfl ?_
  refine av_iconst dX2_readReader_10 ?_
  refine av_bipush dX2_readReader_11 rfl ?_
  refine av_bipush dX2_readReader_13 rfl ?_
  refine av_callV mX2_readNumber [av_i 1, av_i 12, av_i 44] [] dX2_readReader_15 rfl rfl rfl mbX2_readNumber rfl wI_X2_readNumber wS_X2_readNumber rfl wM_X2_54 ⟨Nat.le_of_ble_eq_true rfl, Nat.le_of_ble_eq_true rfl⟩ rfl (Nat.le_of_ble_eq_true rfl) (av_C.mono (fun v s2 hh => ?_) h)
  obtain ⟨r2, rfl, h⟩ := hh
  change av_W E cSH mX2_readReader 18 [some (av_r 1), some (av_r 12), some (av_i r1), none, none] [av_i r2] s2 Q
  refine av_istore_n (L' := [some (av_r 1), some (av_r 12), some (av_i r1), some (av_i r2), none]) dX2_readReader_18 rfl (by decide) rfl ?_
  refine av_aload_n dX2_readReader_19 rfl rfl ?_
  refine av_iconst dX2_readReader_20 ?_
  refine av_bipush dX2_readReader_21 rfl ?_
  refine av_bipush dX2_readReader_23 rfl ?_
  refine av_callV mX2_readNumber [av_i 0, av_i 60, av_i 59] [] dX2_readReader_25 rfl rfl rfl mbX2_readNumber rfl wI_X2_readNumber wS_X2_readNumber rfl wM_X2_54 ⟨Nat.le_of_ble_eq_true rfl, Nat.le_of_ble_eq_true rfl⟩ rfl (Nat.le_of_ble_eq_true rfl) (av_C.mono (fun v s3 hh => ?_) h)
  obtain ⟨r3, rfl, h⟩ := hh
  change av_W E cSH mX2_readReader 28 [some (av_r 1), some (av_r 12), some (av_i r1), some (av_i r2), none] [av_i r3] s3 Q
  refine av_istore (L' := [some (av_r 1), some (av_r 12), some (av_i r1), some (av_i r2), some (av_i r3)]) dX2_readReader_28 (by decide) rfl ?_
  refine av_iload_n dX2_readReader_30 rfl rfl ?_
  refine av_if_lt (tgt := 58) dX2_readReader_31 (by decide) h.1 (fun c => ?_) (fun c => ?_)
  · have h := h.2.1 c
    refine av_iconst dX2_readReader_58 ?_
    exact av_zreturn dX2_readReader_59 rfl (by decide) h
  · have h := h.2.2 c
    refine av_iload_n dX2_readReader_34 rfl rfl ?_
    refine av_if_lt (tgt := 58) dX2_readReader_35 (by decide) h.1 (fun c => ?_) (fun c => ?_)
    · have h := h.2.1 c
      refine av_iconst dX2_readReader_58 ?_
      exact av_zreturn dX2_readReader_59 rfl (by decide) h
    · have h := h.2.2 c
      refine av_iload dX2_readReader_38 rfl ?_
      refine av_if_lt (tgt := 58) dX2_readReader_40 (by decide) h.1 (fun c => ?_) (fun c => ?_)
      · have h := h.2.1 c
        refine av_iconst dX2_readReader_58 ?_
        exact av_zreturn dX2_readReader_59 rfl (by decide) h
      · have h := h.2.2 c
        refine av_aload_n dX2_readReader_43 rfl rfl ?_
        refine av_iload_n dX2_readReader_44 rfl rfl ?_
        refine av_iload_n dX2_readReader_45 rfl rfl ?_
        refine av_iload dX2_readReader_46 rfl ?_
        refine av_callV mX3_addReader [av_i r1, av_i r2, av_i r3] [] dX2_readReader_48 rfl rfl rfl mbX3_addReader rfl wI_X3_addReader wS_X3_addReader rfl wM_X2_62 ⟨Nat.le_of_ble_eq_true rfl, Nat.le_of_ble_eq_true rfl⟩ rfl (Nat.le_of_ble_eq_true rfl) (av_C.mono (fun v s4 hh => ?_) h)
        obtain ⟨r4, rfl, h⟩ := hh
        change av_W E cSH mX2_readReader 51 [some (av_r 1), some (av_r 12), some (av_i r1), some (av_i r2), some (av_i r3)] [av_i r4] s4 Q
        refine av_if_eq (tgt := 58) dX2_readReader_51 (by decide) h.1 (fun c => ?_) (fun c => ?_)
        · have h := h.2.1 c
          refine av_iconst dX2_readReader_58 ?_
          exact av_zreturn dX2_readReader_59 rfl (by decide) h
        · have h := h.2.2 c
          refine av_iconst dX2_readReader_54 ?_
          refine av_goto (tgt := 59) dX2_readReader_55 (by decide) ?_
          exact av_zreturn dX2_readReader_59 rfl (by decide) h

theorem uX2_readWriting_3 {E : av_E} {σ : av_M} {Q : Option av_V → av_M → Prop} (h : av_C E cSH mX2_readRow [av_r 1, av_i 9, av_i 59] σ (fun v s1 => ∃ r1 : Int, v = some (av_i r1) ∧ ((rg r1) ∧ (((r1 < 0) → Q (some (av_i 0)) (av_st s1 3 10 r1)) ∧ ((0 ≤ r1) → Q (some (av_i 1)) (av_st s1 3 10 r1)))))) :
    av_C E cSH mX2_readWriting [av_r 1, av_r 3] σ Q := by
  refine av_C.ofW (L := [some (av_r 1), some (av_r 3)]) (by decide) (Nat.le_of_ble_eq_true rfl) rfl ?_
  refine av_aload_n dX2_readWriting_0 rfl rfl ?_
  refine av_aload_n dX2_readWriting_1 rfl rfl ?_
  refine av_bipush dX2_readWriting_2 rfl ?_
  refine av_bipush dX2_readWriting_4 rfl ?_
  refine av_callV mX2_readRow [av_i 9, av_i 59] [av_r 3] dX2_readWriting_6 rfl rfl rfl mbX2_readRow rfl wI_X2_readRow wS_X2_readRow rfl wM_X2_50 ⟨Nat.le_of_ble_eq_true rfl, Nat.le_of_ble_eq_true rfl⟩ rfl (Nat.le_of_ble_eq_true rfl) (av_C.mono (fun v s1 hh => ?_) h)
  obtain ⟨r1, rfl, h⟩ := hh
  change av_W E cSH mX2_readWriting 9 [some (av_r 1), some (av_r 3)] [av_i r1, av_r 3] s1 Q
  refine av_put (k := 10) tyX3 dX2_readWriting_9 rfl rfl iuX3 tyX3_ok nmX3 (by decide) rfl wF_X2_65 rfl rfl rfl ?_
  refine av_aload_n dX2_readWriting_12 rfl rfl ?_
  refine av_get (k := 10) (x := r1) dX2_readWriting_13 rfl rfl iuX3 (by decide) rfl wF_X2_65 rfl rfl ?_
  refine av_if_lt (tgt := 23) dX2_readWriting_16 (by decide) h.1 (fun c => ?_) (fun c => ?_)
  · have h := h.2.1 c
    refine av_iconst dX2_readWriting_23 ?_
    exact av_zreturn dX2_readWriting_24 rfl (by decide) h
  · have h := h.2.2 c
    refine av_iconst dX2_readWriting_19 ?_
    refine av_goto (tgt := 24) dX2_readWriting_20 (by decide) ?_
    exact av_zreturn dX2_readWriting_24 rfl (by decide) h

theorem uX2_readWriting_12 {E : av_E} {σ : av_M} {Q : Option av_V → av_M → Prop} (h : av_C E cSH mX2_readRow [av_r 1, av_i 9, av_i 59] σ (fun v s1 => ∃ r1 : Int, v = some (av_i r1) ∧ ((rg r1) ∧ (((r1 < 0) → Q (some (av_i 0)) (av_st s1 12 10 r1)) ∧ ((0 ≤ r1) → Q (some (av_i 1)) (av_st s1 12 10 r1)))))) :
    av_C E cSH mX2_readWriting [av_r 1, av_r 12] σ Q := by
  refine av_C.ofW (L := [some (av_r 1), some (av_r 12)]) (by decide) (Nat.le_of_ble_eq_true rfl) rfl ?_
  refine av_aload_n dX2_readWriting_0 rfl rfl ?_
  refine av_aload_n dX2_readWriting_1 rfl rfl ?_
  refine av_bipush dX2_readWriting_2 rfl ?_
  refine av_bipush dX2_readWriting_4 rfl ?_
  refine av_callV mX2_readRow [av_i 9, av_i 59] [av_r 12] dX2_readWriting_6 rfl rfl rfl mbX2_readRow rfl wI_X2_readRow wS_X2_readRow rfl wM_X2_50 ⟨Nat.le_of_ble_eq_true rfl, Nat.le_of_ble_eq_true rfl⟩ rfl (Nat.le_of_ble_eq_true rfl) (av_C.mono (fun v s1 hh => ?_) h)
  obtain ⟨r1, rfl, h⟩ := hh
  change av_W E cSH mX2_readWriting 9 [some (av_r 1), some (av_r 12)] [av_i r1, av_r 12] s1 Q
  refine av_put (k := 10) tyX3 dX2_readWriting_9 rfl rfl iuX3 tyX3_ok nmX3 (by decide) rfl wF_X2_65 rfl rfl rfl ?_
  refine av_aload_n dX2_readWriting_12 rfl rfl ?_
  refine av_get (k := 10) (x := r1) dX2_readWriting_13 rfl rfl iuX3 (by decide) rfl wF_X2_65 rfl rfl ?_
  refine av_if_lt (tgt := 23) dX2_readWriting_16 (by decide) h.1 (fun c => ?_) (fun c => ?_)
  · have h := h.2.1 c
    refine av_iconst dX2_readWriting_23 ?_
    exact av_zreturn dX2_readWriting_24 rfl (by decide) h
  · have h := h.2.2 c
    refine av_iconst dX2_readWriting_19 ?_
    refine av_goto (tgt := 24) dX2_readWriting_20 (by decide) ?_
    exact av_zreturn dX2_readWriting_24 rfl (by decide) h

theorem uX2_readRiver_3 {E : av_E} {σ : av_M} {Q : Option av_V → av_M → Prop} (h : av_C E cSH mX2_readNumber [av_r 1, av_i 3, av_i 60, av_i 44] σ (fun v s1 => ∃ r1 : Int, v = some (av_i r1) ∧ (av_C E cSH mX2_readNumber [av_r 1, av_i 0, av_i 24, av_i 44] s1 (fun v s2 => ∃ r2 : Int, v = some (av_i r2) ∧ (av_C E cSH mX2_readNumber [av_r 1, av_i 1, av_i 20, av_i 59] s2 (fun v s3 => ∃ r3 : Int, v = some (av_i r3) ∧ (av_C E cSH mX3_setRiver [av_r 3, av_i r1, av_i r2, av_i r3] s3 (fun v s4 => v = none ∧ ((rg r1) ∧ (((r1 < 0) → Q (some (av_i 0)) s4) ∧ ((0 ≤ r1) → (rg r2) ∧ (((r2 < 0) → Q (some (av_i 0)) s4) ∧ ((0 ≤ r2) → (rg r3) ∧ (((r3 < 0) → Q (some (av_i 0)) s4) ∧ ((0 ≤ r3) → Q (some (av_i 1)) s4))))))))))))))) :
    av_C E cSH mX2_readRiver [av_r 1, av_r 3] σ Q := by
  refine av_C.ofW (L := [some (av_r 1), some (av_r 3), none, none, none]) (by decide) (Nat.le_of_ble_eq_true rfl) rfl ?_
  refine av_aload_n dX2_readRiver_0 rfl rfl ?_
  refine av_iconst dX2_readRiver_1 ?_
  refine av_bipush dX2_readRiver_2 rfl ?_
  refine av_bipush dX2_readRiver_4 rfl ?_
  refine av_callV mX2_readNumber [av_i 3, av_i 60, av_i 44] [] dX2_readRiver_6 rfl rfl rfl mbX2_readNumber rfl wI_X2_readNumber wS_X2_readNumber rfl wM_X2_54 ⟨Nat.le_of_ble_eq_true rfl, Nat.le_of_ble_eq_true rfl⟩ rfl (Nat.le_of_ble_eq_true rfl) (av_C.mono (fun v s1 hh => ?_) h)
  obtain ⟨r1, rfl, h⟩ := hh
  change av_W E cSH mX2_readRiver 9 [some (av_r 1), some (av_r 3), none, none, none] [av_i r1] s1 Q
  refine av_istore_n (L' := [some (av_r 1), some (av_r 3), some (av_i r1), none, none]) dX2_readRiver_9 rfl (by decide) rfl ?_
  refine av_aload_n dX2_readRiver_10 rfl rfl ?_
  refine av_iconst dX2_readRiver_11 ?_
  refine av_bipush dX2_readRiver_12 rfl ?_
  refine av_bipush dX2_readRiver_14 rfl ?_
  refine av_callV mX2_readNumber [av_i 0, av_i 24, av_i 44] [] dX2_readRiver_16 rfl rfl rfl mbX2_readNumber rfl wI_X2_readNumber wS_X2_readNumber rfl wM_X2_54 ⟨Nat.le_of_ble_eq_true rfl, Nat.le_of_ble_eq_true rfl⟩ rfl (Nat.le_of_ble_eq_true rfl) (av_C.mono (fun v s2 hh => ?_) h)
  obtain ⟨r2, rfl, h⟩ := hh
  change av_W E cSH mX2_readRiver 19 [some (av_r 1), some (av_r 3), some (av_i r1), none, none] [av_i r2] s2 Q
  refine av_istore_n (L' := [some (av_r 1), some (av_r 3), some (av_i r1), some (av_i r2), none]) dX2_readRiver_19 rfl (by decide) rfl ?_
  refine av_aload_n dX2_readRiver_20 rfl rfl ?_
  refine av_iconst dX2_readRiver_21 ?_
  refine av_bipush dX2_readRiver_22 rfl ?_
  refine av_bipush dX2_readRiver_24 rfl ?_
  refine av_callV mX2_readNumber [av_i 1, av_i 20, av_i 59] [] dX2_readRiver_26 rfl rfl rfl mbX2_readNumber rfl wI_X2_readNumber wS_X2_readNumber rfl wM_X2_54 ⟨Nat.le_of_ble_eq_true rfl, Nat.le_of_ble_eq_true rfl⟩ rfl (Nat.le_of_ble_eq_true rfl) (av_C.mono (fun v s3 hh => ?_) h)
  obtain ⟨r3, rfl, h⟩ := hh
  change av_W E cSH mX2_readRiver 29 [some (av_r 1), some (av_r 3), some (av_i r1), some (av_i r2), none] [av_i r3] s3 Q
  refine av_istore (L' := [some (av_r 1), some (av_r 3), some (av_i r1), some (av_i r2), some (av_i r3)]) dX2_readRiver_29 (by decide) rfl ?_
  refine av_aload_n dX2_readRiver_31 rfl rfl ?_
  refine av_iload_n dX2_readRiver_32 rfl rfl ?_
  refine av_iload_n dX2_readRiver_33 rfl rfl ?_
  refine av_iload dX2_readRiver_34 rfl ?_
  refine av_callV mX3_setRiver [av_i r1, av_i r2, av_i r3] [] dX2_readRiver_36 rfl rfl rfl mbX3_setRiver rfl wI_X3_setRiver wS_X3_setRiver rfl wM_X2_68 ⟨Nat.le_of_ble_eq_true rfl, Nat.le_of_ble_eq_true rfl⟩ rfl (Nat.le_of_ble_eq_true rfl) (av_C.mono (fun v s4 hh => ?_) h)
  obtain ⟨rfl, h⟩ := hh
  change av_W E cSH mX2_readRiver 39 [some (av_r 1), some (av_r 3), some (av_i r1), some (av_i r2), some (av_i r3)] [] s4 Q
  refine av_iload_n dX2_readRiver_39 rfl rfl ?_
  refine av_if_lt (tgt := 56) dX2_readRiver_40 (by decide) h.1 (fun c => ?_) (fun c => ?_)
  · have h := h.2.1 c
    refine av_iconst dX2_readRiver_56 ?_
    exact av_zreturn dX2_readRiver_57 rfl (by decide) h
  · have h := h.2.2 c
    refine av_iload_n dX2_readRiver_43 rfl rfl ?_
    refine av_if_lt (tgt := 56) dX2_readRiver_44 (by decide) h.1 (fun c => ?_) (fun c => ?_)
    · have h := h.2.1 c
      refine av_iconst dX2_readRiver_56 ?_
      exact av_zreturn dX2_readRiver_57 rfl (by decide) h
    · have h := h.2.2 c
      refine av_iload dX2_readRiver_47 rfl ?_
      refine av_if_lt (tgt := 56) dX2_readRiver_49 (by decide) h.1 (fun c => ?_) (fun c => ?_)
      · have h := h.2.1 c
        refine av_iconst dX2_readRiver_56 ?_
        exact av_zreturn dX2_readRiver_57 rfl (by decide) h
      · have h := h.2.2 c
        refine av_iconst dX2_readRiver_52 ?_
        refine av_goto (tgt := 57) dX2_readRiver_53 (by decide) ?_
        exact av_zreturn dX2_readRiver_57 rfl (by decide) h

theorem uX2_readRiver_12 {E : av_E} {σ : av_M} {Q : Option av_V → av_M → Prop} (h : av_C E cSH mX2_readNumber [av_r 1, av_i 3, av_i 60, av_i 44] σ (fun v s1 => ∃ r1 : Int, v = some (av_i r1) ∧ (av_C E cSH mX2_readNumber [av_r 1, av_i 0, av_i 24, av_i 44] s1 (fun v s2 => ∃ r2 : Int, v = some (av_i r2) ∧ (av_C E cSH mX2_readNumber [av_r 1, av_i 1, av_i 20, av_i 59] s2 (fun v s3 => ∃ r3 : Int, v = some (av_i r3) ∧ (av_C E cSH mX3_setRiver [av_r 12, av_i r1, av_i r2, av_i r3] s3 (fun v s4 => v = none ∧ ((rg r1) ∧ (((r1 < 0) → Q (some (av_i 0)) s4) ∧ ((0 ≤ r1) → (rg r2) ∧ (((r2 < 0) → Q (some (av_i 0)) s4) ∧ ((0 ≤ r2) → (rg r3) ∧ (((r3 < 0) → Q (some (av_i 0)) s4) ∧ ((0 ≤ r3) → Q (some (av_i 1)) s4))))))))))))))) :
    av_C E cSH mX2_readRiver [av_r 1, av_r 12] σ Q := by
  refine av_C.ofW (L := [some (av_r 1), some (av_r 12), none, none, none]) (by decide) (Nat.le_of_ble_eq_true rfl) rfl ?_
  refine av_aload_n dX2_readRiver_0 rfl rfl ?_
  refine av_iconst dX2_readRiver_1 ?_
  refine av_bipush dX2_readRiver_2 rfl ?_
  refine av_bipush dX2_readRiver_4 rfl ?_
  refine av_callV mX2_readNumber [av_i 3, av_i 60, av_i 44] [] dX2_readRiver_6 rfl rfl rfl mbX2_readNumber rfl wI_X2_readNumber wS_X2_readNumber rfl wM_X2_54 ⟨Nat.le_of_ble_eq_true rfl, Nat.le_of_ble_eq_true rfl⟩ rfl (Nat.le_of_ble_eq_true rfl) (av_C.mono (fun v s1 hh => ?_) h)
  obtain ⟨r1, rfl, h⟩ := hh
  change av_W E cSH mX2_readRiver 9 [some (av_r 1), some (av_r 12), none, none, none] [av_i r1] s1 Q
  refine av_istore_n (L' := [some (av_r 1), some (av_r 12), some (av_i r1), none, none]) dX2_readRiver_9 rfl (by decide) rfl ?_
  refine av_aload_n dX2_readRiver_10 rfl rfl ?_
  refine av_iconst dX2_readRiver_11 ?_
  refine av_bipush dX2_readRiver_12 rfl ?_
  refine av_bipush dX2_readRiver_14 rfl ?_
  refine av_callV mX2_readNumber [av_i 0, av_i 24, av_i 44] [] dX2_readRiver_16 rfl rfl rfl mbX2_readNumber rfl wI_X2_readNumber wS_X2_readNumber rfl wM_X2_54 ⟨Nat.le_of_ble_eq_true rfl, Nat.le_of_ble_eq_true rfl⟩ rfl (Nat.le_of_ble_eq_true rfl) (av_C.mono (fun v s2 hh => ?_) h)
  obtain ⟨r2, rfl, h⟩ := hh
  change av_W E cSH mX2_readRiver 19 [some (av_r 1), some (av_r 12), some (av_i r1), none, none] [av_i r2] s2 Q
  refine av_istore_n (L' := [some (av_r 1), some (av_r 12), some (av_i r1), some (av_i r2), none]) dX2_readRiver_19 rfl (by decide) rfl ?_
  refine av_aload_n dX2_readRiver_20 rfl rfl ?_
  refine av_iconst dX2_readRiver_21 ?_
  refine av_bipush dX2_readRiver_22 rfl ?_
  refine av_bipush dX2_readRiver_24 rfl ?_
  refine av_callV mX2_readNumber [av_i 1, av_i 20, av_i 59] [] dX2_readRiver_26 rfl rfl rfl mbX2_readNumber rfl wI_X2_readNumber wS_X2_readNumber rfl wM_X2_54 ⟨Nat.le_of_ble_eq_true rfl, Nat.le_of_ble_eq_true rfl⟩ rfl (Nat.le_of_ble_eq_true rfl) (av_C.mono (fun v s3 hh => ?_) h)
  obtain ⟨r3, rfl, h⟩ := hh
  change av_W E cSH mX2_readRiver 29 [some (av_r 1), some (av_r 12), some (av_i r1), some (av_i r2), none] [av_i r3] s3 Q
  refine av_istore (L' := [some (av_r 1), some (av_r 12), some (av_i r1), some (av_i r2), some (av_i r3)]) dX2_readRiver_29 (by decide) rfl ?_
  refine av_aload_n dX2_readRiver_31 rfl rfl ?_
  refine av_iload_n dX2_readRiver_32 rfl rfl ?_
  refine av_iload_n dX2_readRiver_33 rfl rfl ?_
  refine av_iload dX2_readRiver_34 rfl ?_
  refine av_callV mX3_setRiver [av_i r1, av_i r2, av_i r3] [] dX2_readRiver_36 rfl rfl rfl mbX3_setRiver rfl wI_X3_setRiver wS_X3_setRiver rfl wM_X2_68 ⟨Nat.le_of_ble_eq_true rfl, Nat.le_of_ble_eq_true rfl⟩ rfl (Nat.le_of_ble_eq_true rfl) (av_C.mono (fun v s4 hh => ?_) h)
  obtain ⟨rfl, h⟩ := hh
  change av_W E cSH mX2_readRiver 39 [some (av_r 1), some (av_r 12), some (av_i r1), some (av_i r2), some (av_i r3)] [] s4 Q
  refine av_iload_n dX2_readRiver_39 rfl rfl ?_
  refine av_if_lt (tgt := 56) dX2_readRiver_40 (by decide) h.1 (fun c => ?_) (fun c => ?_)
  · have h := h.2.1 c
    refine av_iconst dX2_readRiver_56 ?_
    exact av_zreturn dX2_readRiver_57 rfl (by decide) h
  · have h := h.2.2 c
    refine av_iload_n dX2_readRiver_43 rfl rfl ?_
    refine av_if_lt (tgt := 56) dX2_readRiver_44 (by decide) h.1 (fun c => ?_) (fun c => ?_)
    · have h := h.2.1 c
      refine av_iconst dX2_readRiver_56 ?_
      exact av_zreturn dX2_readRiver_57 rfl (by decide) h
    · have h := h.2.2 c
      refine av_iload dX2_readRiver_47 rfl ?_
      refine av_if_lt (tgt := 56) dX2_readRiver_49 (by decide) h.1 (fun c => ?_) (fun c => ?_)
      · have h := h.2.1 c
        refine av_iconst dX2_readRiver_56 ?_
        exact av_zreturn dX2_readRiver_57 rfl (by decide) h
      · have h := h.2.2 c
        refine av_iconst dX2_readRiver_52 ?_
        refine av_goto (tgt := 57) dX2_readRiver_53 (by decide) ?_
        exact av_zreturn dX2_readRiver_57 rfl (by decide) h

theorem uX2_readGold_3 {E : av_E} {σ : av_M} {Q : Option av_V → av_M → Prop} (h : av_C E cSH mX2_readNumber [av_r 1, av_i 0, av_i 99, av_i 59] σ (fun v s1 => ∃ r1 : Int, v = some (av_i r1) ∧ ((rg r1) ∧ (((r1 < 0) → Q (some (av_i 0)) (av_st s1 3 14 r1)) ∧ ((0 ≤ r1) → Q (some (av_i 1)) (av_st s1 3 14 r1)))))) :
    av_C E cSH mX2_readGold [av_r 1, av_r 3] σ Q := by
  refine av_C.ofW (L := [some (av_r 1), some (av_r 3)]) (by decide) (Nat.le_of_ble_eq_true rfl) rfl ?_
  refine av_aload_n dX2_readGold_0 rfl rfl ?_
  refine av_aload_n dX2_readGold_1 rfl rfl ?_
  refine av_iconst dX2_readGold_2 ?_
  refine av_bipush dX2_readGold_3 rfl ?_
  refine av_bipush dX2_readGold_5 rfl ?_
  refine av_callV mX2_readNumber [av_i 0, av_i 99, av_i 59] [av_r 3] dX2_readGold_7 rfl rfl rfl mbX2_readNumber rfl wI_X2_readNumber wS_X2_readNumber rfl wM_X2_54 ⟨Nat.le_of_ble_eq_true rfl, Nat.le_of_ble_eq_true rfl⟩ rfl (Nat.le_of_ble_eq_true rfl) (av_C.mono (fun v s1 hh => ?_) h)
  obtain ⟨r1, rfl, h⟩ := hh
  change av_W E cSH mX2_readGold 10 [some (av_r 1), some (av_r 3)] [av_i r1, av_r 3] s1 Q
  refine av_put (k := 14) tyX3 dX2_readGold_10 rfl rfl iuX3 tyX3_ok nmX3 (by decide) rfl wF_X2_72 rfl rfl rfl ?_
  refine av_aload_n dX2_readGold_13 rfl rfl ?_
  refine av_get (k := 14) (x := r1) dX2_readGold_14 rfl rfl iuX3 (by decide) rfl wF_X2_72 rfl rfl ?_
  refine av_if_lt (tgt := 24) dX2_readGold_17 (by decide) h.1 (fun c => ?_) (fun c => ?_)
  · have h := h.2.1 c
    refine av_iconst dX2_readGold_24 ?_
    exact av_zreturn dX2_readGold_25 rfl (by decide) h
  · have h := h.2.2 c
    refine av_iconst dX2_readGold_20 ?_
    refine av_goto (tgt := 25) dX2_readGold_21 (by decide) ?_
    exact av_zreturn dX2_readGold_25 rfl (by decide) h

theorem uX2_readGold_12 {E : av_E} {σ : av_M} {Q : Option av_V → av_M → Prop} (h : av_C E cSH mX2_readNumber [av_r 1, av_i 0, av_i 99, av_i 59] σ (fun v s1 => ∃ r1 : Int, v = some (av_i r1) ∧ ((rg r1) ∧ (((r1 < 0) → Q (some (av_i 0)) (av_st s1 12 14 r1)) ∧ ((0 ≤ r1) → Q (some (av_i 1)) (av_st s1 12 14 r1)))))) :
    av_C E cSH mX2_readGold [av_r 1, av_r 12] σ Q := by
  refine av_C.ofW (L := [some (av_r 1), some (av_r 12)]) (by decide) (Nat.le_of_ble_eq_true rfl) rfl ?_
  refine av_aload_n dX2_readGold_0 rfl rfl ?_
  refine av_aload_n dX2_readGold_1 rfl rfl ?_
  refine av_iconst dX2_readGold_2 ?_
  refine av_bipush dX2_readGold_3 rfl ?_
  refine av_bipush dX2_readGold_5 rfl ?_
  refine av_callV mX2_readNumber [av_i 0, av_i 99, av_i 59] [av_r 12] dX2_readGold_7 rfl rfl rfl mbX2_readNumber rfl wI_X2_readNumber wS_X2_readNumber rfl wM_X2_54 ⟨Nat.le_of_ble_eq_true rfl, Nat.le_of_ble_eq_true rfl⟩ rfl (Nat.le_of_ble_eq_true rfl) (av_C.mono (fun v s1 hh => ?_) h)
  obtain ⟨r1, rfl, h⟩ := hh
  change av_W E cSH mX2_readGold 10 [some (av_r 1), some (av_r 12)] [av_i r1, av_r 12] s1 Q
  refine av_put (k := 14) tyX3 dX2_readGold_10 rfl rfl iuX3 tyX3_ok nmX3 (by decide) rfl wF_X2_72 rfl rfl rfl ?_
  refine av_aload_n dX2_readGold_13 rfl rfl ?_
  refine av_get (k := 14) (x := r1) dX2_readGold_14 rfl rfl iuX3 (by decide) rfl wF_X2_72 rfl rfl ?_
  refine av_if_lt (tgt := 24) dX2_readGold_17 (by decide) h.1 (fun c => ?_) (fun c => ?_)
  · have h := h.2.1 c
    refine av_iconst dX2_readGold_24 ?_
    exact av_zreturn dX2_readGold_25 rfl (by decide) h
  · have h := h.2.2 c
    refine av_iconst dX2_readGold_20 ?_
    refine av_goto (tgt := 25) dX2_readGold_21 (by decide) ?_
    exact av_zreturn dX2_readGold_25 rfl (by decide) h

theorem uX2_readRow {E : av_E} {σ : av_M} {Q : Option av_V → av_M → Prop} {a1 a2 : Int} (h : av_W E cSH mX2_readRow 5 [some (av_r 1), some (av_i a1), some (av_i a2), some (av_i 0), some (av_i 0)] [] σ Q) :
    av_C E cSH mX2_readRow [av_r 1, av_i a1, av_i a2] σ Q := by
  refine av_C.ofW (L := [some (av_r 1), some (av_i a1), some (av_i a2), none, none]) (by decide) (Nat.le_of_ble_eq_true rfl) rfl ?_
  refine av_iconst dX2_readRow_0 ?_
  refine av_istore_n (L' := [some (av_r 1), some (av_i a1), some (av_i a2), some (av_i 0), none]) dX2_readRow_1 rfl (by decide) rfl ?_
  refine av_iconst dX2_readRow_2 ?_
  refine av_istore (L' := [some (av_r 1), some (av_i a1), some (av_i a2), some (av_i 0), some (av_i 0)]) dX2_readRow_3 (by decide) rfl ?_
  exact h

theorem uX2_readRow_5 {E : av_E} {σ : av_M} {Q : Option av_V → av_M → Prop} {x1 x2 x3 x4 : Int} (h : (rg x4) ∧ ((rg x1) ∧ (((x1 ≤ x4) → (rg x3) ∧ (((x3 ≤ 0) → Q (some (av_i (-1))) σ) ∧ ((0 < x3) → av_C E cSH mX2_isNext [av_r 1, av_i x2] σ (fun v s1 => ∃ r1 : Int, v = some (av_i r1) ∧ ((rg r1) ∧ (((r1 = 0) → Q (some (av_i (-1))) s1) ∧ ((¬ r1 = 0) → Q (some (av_i x3)) s1))))))) ∧ ((x4 < x1) → av_C E cSH mX2_sign [av_r 1] σ (fun v s2 => ∃ r2 : Int, v = some (av_i r2) ∧ ((rg r2) ∧ (((r2 < 97) → (rg x3) ∧ (((x3 ≤ 0) → Q (some (av_i (-1))) s2) ∧ ((0 < x3) → av_C E cSH mX2_isNext [av_r 1, av_i x2] s2 (fun v s3 => ∃ r3 : Int, v = some (av_i r3) ∧ ((rg r3) ∧ (((r3 = 0) → Q (some (av_i (-1))) s3) ∧ ((¬ r3 = 0) → Q (some (av_i x3)) s3))))))) ∧ ((97 ≤ r2) → av_C E cSH mX2_sign [av_r 1] s2 (fun v s4 => ∃ r4 : Int, v = some (av_i r4) ∧ ((rg r4) ∧ (((101 < r4) → (rg x3) ∧ (((x3 ≤ 0) → Q (some (av_i (-1))) s4) ∧ ((0 < x3) → av_C E cSH mX2_isNext [av_r 1, av_i x2] s4 (fun v s5 => ∃ r5 : Int, v = some (av_i r5) ∧ ((rg r5) ∧ (((r5 = 0) → Q (some (av_i (-1))) s5) ∧ ((¬ r5 = 0) → Q (some (av_i x3)) s5))))))) ∧ ((r4 ≤ 101) → av_C E cSH mX2_sign [av_r 1] s4 (fun v s6 => ∃ r6 : Int, v = some (av_i r6) ∧ (av_W E cSH mX2_readRow 5 [some (av_r 1), some (av_i x1), some (av_i x2), some (av_i ((((x3 * 6) + r6) - 97) + 1)), some (av_i (x4 + 1))] [] (av_st s6 1 2 ((s6 1 2) + 1)) Q)))))))))))))) :
    av_W E cSH mX2_readRow 5 [some (av_r 1), some (av_i x1), some (av_i x2), some (av_i x3), some (av_i x4)] [] σ Q := by
  refine av_iload dX2_readRow_5 rfl ?_
  refine av_iload_n dX2_readRow_7 rfl rfl ?_
  refine av_icmp_ge (tgt := 60) dX2_readRow_8 (by decide) h.1 h.2.1 (fun c => ?_) (fun c => ?_)
  · have h := h.2.2.1 c
    refine av_iload_n dX2_readRow_60 rfl rfl ?_
    refine av_if_le (tgt := 76) dX2_readRow_61 (by decide) h.1 (fun c => ?_) (fun c => ?_)
    · have h := h.2.1 c
      refine av_iconst dX2_readRow_76 ?_
      exact av_ireturn dX2_readRow_77 rfl h
    · have h := h.2.2 c
      refine av_aload_n dX2_readRow_64 rfl rfl ?_
      refine av_iload_n dX2_readRow_65 rfl rfl ?_
      refine av_callV mX2_isNext [av_i x2] [] dX2_readRow_66 rfl rfl rfl mbX2_isNext rfl wI_X2_isNext wS_X2_isNext rfl wM_X2_75 ⟨Nat.le_of_ble_eq_true rfl, Nat.le_of_ble_eq_true rfl⟩ rfl (Nat.le_of_ble_eq_true rfl) (av_C.mono (fun v s1 hh => ?_) h)
      obtain ⟨r1, rfl, h⟩ := hh
      change av_W E cSH mX2_readRow 69 [some (av_r 1), some (av_i x1), some (av_i x2), some (av_i x3), some (av_i x4)] [av_i r1] s1 Q
      refine av_if_eq (tgt := 76) dX2_readRow_69 (by decide) h.1 (fun c => ?_) (fun c => ?_)
      · have h := h.2.1 c
        refine av_iconst dX2_readRow_76 ?_
        exact av_ireturn dX2_readRow_77 rfl h
      · have h := h.2.2 c
        refine av_iload_n dX2_readRow_72 rfl rfl ?_
        refine av_goto (tgt := 77) dX2_readRow_73 (by decide) ?_
        exact av_ireturn dX2_readRow_77 rfl h
  · have h := h.2.2.2 c
    refine av_aload_n dX2_readRow_11 rfl rfl ?_
    refine av_callV mX2_sign [] [] dX2_readRow_12 rfl rfl rfl mbX2_sign rfl wI_X2_sign wS_X2_sign rfl wM_X2_31 ⟨Nat.le_of_ble_eq_true rfl, Nat.le_of_ble_eq_true rfl⟩ rfl (Nat.le_of_ble_eq_true rfl) (av_C.mono (fun v s2 hh => ?_) h)
    obtain ⟨r2, rfl, h⟩ := hh
    change av_W E cSH mX2_readRow 15 [some (av_r 1), some (av_i x1), some (av_i x2), some (av_i x3), some (av_i x4)] [av_i r2] s2 Q
    refine av_bipush dX2_readRow_15 rfl ?_
    refine av_icmp_lt (tgt := 60) dX2_readRow_17 (by decide) h.1 (by decide) (fun c => ?_) (fun c => ?_)
    · have h := h.2.1 c
      refine av_iload_n dX2_readRow_60 rfl rfl ?_
      refine av_if_le (tgt := 76) dX2_readRow_61 (by decide) h.1 (fun c => ?_) (fun c => ?_)
      · have h := h.2.1 c
        refine av_iconst dX2_readRow_76 ?_
        exact av_ireturn dX2_readRow_77 rfl h
      · have h := h.2.2 c
        refine av_aload_n dX2_readRow_64 rfl rfl ?_
        refine av_iload_n dX2_readRow_65 rfl rfl ?_
        refine av_callV mX2_isNext [av_i x2] [] dX2_readRow_66 rfl rfl rfl mbX2_isNext rfl wI_X2_isNext wS_X2_isNext rfl wM_X2_75 ⟨Nat.le_of_ble_eq_true rfl, Nat.le_of_ble_eq_true rfl⟩ rfl (Nat.le_of_ble_eq_true rfl) (av_C.mono (fun v s3 hh => ?_) h)
        obtain ⟨r3, rfl, h⟩ := hh
        change av_W E cSH mX2_readRow 69 [some (av_r 1), some (av_i x1), some (av_i x2), some (av_i x3), some (av_i x4)] [av_i r3] s3 Q
        refine av_if_eq (tgt := 76) dX2_readRow_69 (by decide) h.1 (fun c => ?_) (fun c => ?_)
        · have h := h.2.1 c
          refine av_iconst dX2_readRow_76 ?_
          exact av_ireturn dX2_readRow_77 rfl h
        · have h := h.2.2 c
          refine av_iload_n dX2_readRow_72 rfl rfl ?_
          refine av_goto (tgt := 77) dX2_readRow_73 (by decide) ?_
          exact av_ireturn dX2_readRow_77 rfl h
    · have h := h.2.2 c
      refine av_aload_n dX2_readRow_20 rfl rfl ?_
      refine av_callV mX2_sign [] [] dX2_readRow_21 rfl rfl rfl mbX2_sign rfl wI_X2_sign wS_X2_sign rfl wM_X2_31 ⟨Nat.le_of_ble_eq_true rfl, Nat.le_of_ble_eq_true rfl⟩ rfl (Nat.le_of_ble_eq_true rfl) (av_C.mono (fun v s4 hh => ?_) h)
      obtain ⟨r4, rfl, h⟩ := hh
      change av_W E cSH mX2_readRow 24 [some (av_r 1), some (av_i x1), some (av_i x2), some (av_i x3), some (av_i x4)] [av_i r4] s4 Q
      refine av_bipush dX2_readRow_24 rfl ?_
      refine av_icmp_gt (tgt := 60) dX2_readRow_26 (by decide) h.1 (by decide) (fun c => ?_) (fun c => ?_)
      · have h := h.2.1 c
        refine av_iload_n dX2_readRow_60 rfl rfl ?_
        refine av_if_le (tgt := 76) dX2_readRow_61 (by decide) h.1 (fun c => ?_) (fun c => ?_)
        · have h := h.2.1 c
          refine av_iconst dX2_readRow_76 ?_
          exact av_ireturn dX2_readRow_77 rfl h
        · have h := h.2.2 c
          refine av_aload_n dX2_readRow_64 rfl rfl ?_
          refine av_iload_n dX2_readRow_65 rfl rfl ?_
          refine av_callV mX2_isNext [av_i x2] [] dX2_readRow_66 rfl rfl rfl mbX2_isNext rfl wI_X2_isNext wS_X2_isNext rfl wM_X2_75 ⟨Nat.le_of_ble_eq_true rfl, Nat.le_of_ble_eq_true rfl⟩ rfl (Nat.le_of_ble_eq_true rfl) (av_C.mono (fun v s5 hh => ?_) h)
          obtain ⟨r5, rfl, h⟩ := hh
          change av_W E cSH mX2_readRow 69 [some (av_r 1), some (av_i x1), some (av_i x2), some (av_i x3), some (av_i x4)] [av_i r5] s5 Q
          refine av_if_eq (tgt := 76) dX2_readRow_69 (by decide) h.1 (fun c => ?_) (fun c => ?_)
          · have h := h.2.1 c
            refine av_iconst dX2_readRow_76 ?_
            exact av_ireturn dX2_readRow_77 rfl h
          · have h := h.2.2 c
            refine av_iload_n dX2_readRow_72 rfl rfl ?_
            refine av_goto (tgt := 77) dX2_readRow_73 (by decide) ?_
            exact av_ireturn dX2_readRow_77 rfl h
      · have h := h.2.2 c
        refine av_iload_n dX2_readRow_29 rfl rfl ?_
        refine av_bipush dX2_readRow_30 rfl ?_
        refine av_imul dX2_readRow_32 ?_
        refine av_aload_n dX2_readRow_33 rfl rfl ?_
        refine av_callV mX2_sign [] [av_i (x3 * 6)] dX2_readRow_34 rfl rfl rfl mbX2_sign rfl wI_X2_sign wS_X2_sign rfl wM_X2_31 ⟨Nat.le_of_ble_eq_true rfl, Nat.le_of_ble_eq_true rfl⟩ rfl (Nat.le_of_ble_eq_true rfl) (av_C.mono (fun v s6 hh => ?_) h)
        obtain ⟨r6, rfl, h⟩ := hh
        change av_W E cSH mX2_readRow 37 [some (av_r 1), some (av_i x1), some (av_i x2), some (av_i x3), some (av_i x4)] [av_i r6, av_i (x3 * 6)] s6 Q
        refine av_iadd dX2_readRow_37 ?_
        refine av_bipush dX2_readRow_38 rfl ?_
        refine av_isub dX2_readRow_40 ?_
        refine av_iconst dX2_readRow_41 ?_
        refine av_iadd dX2_readRow_42 ?_
        refine av_istore_n (L' := [some (av_r 1), some (av_i x1), some (av_i x2), some (av_i ((((x3 * 6) + r6) - 97) + 1)), some (av_i x4)]) dX2_readRow_43 rfl (by decide) rfl ?_
        refine av_aload_n dX2_readRow_44 rfl rfl ?_
        refine av_dup dX2_readRow_45 (fun _ h9 => nomatch h9) ?_
        refine av_get (k := 2) (x := (s6 1 2)) dX2_readRow_46 rfl rfl iuX2 (by decide) rfl wF_X2_24 rfl rfl ?_
        refine av_iconst dX2_readRow_49 ?_
        refine av_iadd dX2_readRow_50 ?_
        refine av_put (k := 2) tyX2 dX2_readRow_51 rfl rfl iuX2 tyX2_ok nmX2 (by decide) rfl wF_X2_24 rfl rfl rfl ?_
        refine av_iinc (L' := [some (av_r 1), some (av_i x1), some (av_i x2), some (av_i ((((x3 * 6) + r6) - 97) + 1)), some (av_i (x4 + 1))]) dX2_readRow_54 rfl (by decide) rfl rfl ?_
        refine av_goto (tgt := 5) dX2_readRow_57 (by decide) ?_
        exact h

theorem uX2_readNumber {E : av_E} {σ : av_M} {Q : Option av_V → av_M → Prop} {a1 a2 a3 : Int} (h : av_W E cSH mX2_readNumber 6 [some (av_r 1), some (av_i a1), some (av_i a2), some (av_i a3), some (av_i (-1)), some (av_i 0)] [] σ Q) :
    av_C E cSH mX2_readNumber [av_r 1, av_i a1, av_i a2, av_i a3] σ Q := by
  refine av_C.ofW (L := [some (av_r 1), some (av_i a1), some (av_i a2), some (av_i a3), none, none]) (by decide) (Nat.le_of_ble_eq_true rfl) rfl ?_
  refine av_iconst dX2_readNumber_0 ?_
  refine av_istore (L' := [some (av_r 1), some (av_i a1), some (av_i a2), some (av_i a3), some (av_i (-1)), none]) dX2_readNumber_1 (by decide) rfl ?_
  refine av_iconst dX2_readNumber_3 ?_
  refine av_istore (L' := [some (av_r 1), some (av_i a1), some (av_i a2), some (av_i a3), some (av_i (-1)), some (av_i 0)]) dX2_readNumber_4 (by decide) rfl ?_
  exact h

theorem uX2_readNumber_6 {E : av_E} {σ : av_M} {Q : Option av_V → av_M → Prop} {x1 x2 x3 x4 x5 : Int} (h : (rg x5) ∧ (((2 ≤ x5) → (rg x4) ∧ ((rg x1) ∧ (((x4 < x1) → Q (some (av_i (-1))) σ) ∧ ((x1 ≤ x4) → (rg x4) ∧ ((rg x2) ∧ (((x2 < x4) → Q (some (av_i (-1))) σ) ∧ ((x4 ≤ x2) → av_C E cSH mX2_isNext [av_r 1, av_i x3] σ (fun v s1 => ∃ r1 : Int, v = some (av_i r1) ∧ ((rg r1) ∧ (((r1 = 0) → Q (some (av_i (-1))) s1) ∧ ((¬ r1 = 0) → Q (some (av_i x4)) s1))))))))))) ∧ ((x5 < 2) → av_C E cSH mX2_sign [av_r 1] σ (fun v s2 => ∃ r2 : Int, v = some (av_i r2) ∧ ((rg r2) ∧ (((r2 < 48) → (rg x4) ∧ ((rg x1) ∧ (((x4 < x1) → Q (some (av_i (-1))) s2) ∧ ((x1 ≤ x4) → (rg x4) ∧ ((rg x2) ∧ (((x2 < x4) → Q (some (av_i (-1))) s2) ∧ ((x4 ≤ x2) → av_C E cSH mX2_isNext [av_r 1, av_i x3] s2 (fun v s3 => ∃ r3 : Int, v = some (av_i r3) ∧ ((rg r3) ∧ (((r3 = 0) → Q (some (av_i (-1))) s3) ∧ ((¬ r3 = 0) → Q (some (av_i x4)) s3))))))))))) ∧ ((48 ≤ r2) → av_C E cSH mX2_sign [av_r 1] s2 (fun v s4 => ∃ r4 : Int, v = some (av_i r4) ∧ ((rg r4) ∧ (((57 < r4) → (rg x4) ∧ ((rg x1) ∧ (((x4 < x1) → Q (some (av_i (-1))) s4) ∧ ((x1 ≤ x4) → (rg x4) ∧ ((rg x2) ∧ (((x2 < x4) → Q (some (av_i (-1))) s4) ∧ ((x4 ≤ x2) → av_C E cSH mX2_isNext [av_r 1, av_i x3] s4 (fun v s5 => ∃ r5 : Int, v = some (av_i r5) ∧ ((rg r5) ∧ (((r5 = 0) → Q (some (av_i (-1))) s5) ∧ ((¬ r5 = 0) → Q (some (av_i x4)) s5))))))))))) ∧ ((r4 ≤ 57) → (rg x4) ∧ (av_C E cSH mX2_sign [av_r 1] s4 (fun v s6 => ∃ r6 : Int, v = some (av_i r6) ∧ (av_W E cSH mX2_readNumber 6 [some (av_r 1), some (av_i x1), some (av_i x2), some (av_i x3), some (av_i ((((max 0 x4) * 10) + r6) - 48)), some (av_i (x5 + 1))] [] (av_st s6 1 2 ((s6 1 2) + 1)) Q)))))))))))))) :
    av_W E cSH mX2_readNumber 6 [some (av_r 1), some (av_i x1), some (av_i x2), some (av_i x3), some (av_i x4), some (av_i x5)] [] σ Q := by
  refine av_iload dX2_readNumber_6 rfl ?_
  refine av_iconst dX2_readNumber_8 ?_
  refine av_icmp_ge (tgt := 65) dX2_readNumber_9 (by decide) h.1 (by decide) (fun c => ?_) (fun c => ?_)
  · have h := h.2.1 c
    refine av_iload dX2_readNumber_65 rfl ?_
    refine av_iload_n dX2_readNumber_67 rfl rfl ?_
    refine av_icmp_lt (tgt := 90) dX2_readNumber_68 (by decide) h.1 h.2.1 (fun c => ?_) (fun c => ?_)
    · have h := h.2.2.1 c
      refine av_iconst dX2_readNumber_90 ?_
      exact av_ireturn dX2_readNumber_91 rfl h
    · have h := h.2.2.2 c
      refine av_iload dX2_readNumber_71 rfl ?_
      refine av_iload_n dX2_readNumber_73 rfl rfl ?_
      refine av_icmp_gt (tgt := 90) dX2_readNumber_74 (by decide) h.1 h.2.1 (fun c => ?_) (fun c => ?_)
      · have h := h.2.2.1 c
        refine av_iconst dX2_readNumber_90 ?_
        exact av_ireturn dX2_readNumber_91 rfl h
      · have h := h.2.2.2 c
        refine av_aload_n dX2_readNumber_77 rfl rfl ?_
        refine av_iload_n dX2_readNumber_78 rfl rfl ?_
        refine av_callV mX2_isNext [av_i x3] [] dX2_readNumber_79 rfl rfl rfl mbX2_isNext rfl wI_X2_isNext wS_X2_isNext rfl wM_X2_75 ⟨Nat.le_of_ble_eq_true rfl, Nat.le_of_ble_eq_true rfl⟩ rfl (Nat.le_of_ble_eq_true rfl) (av_C.mono (fun v s1 hh => ?_) h)
        obtain ⟨r1, rfl, h⟩ := hh
        change av_W E cSH mX2_readNumber 82 [some (av_r 1), some (av_i x1), some (av_i x2), some (av_i x3), some (av_i x4), some (av_i x5)] [av_i r1] s1 Q
        refine av_if_eq (tgt := 90) dX2_readNumber_82 (by decide) h.1 (fun c => ?_) (fun c => ?_)
        · have h := h.2.1 c
          refine av_iconst dX2_readNumber_90 ?_
          exact av_ireturn dX2_readNumber_91 rfl h
        · have h := h.2.2 c
          refine av_iload dX2_readNumber_85 rfl ?_
          refine av_goto (tgt := 91) dX2_readNumber_87 (by decide) ?_
          exact av_ireturn dX2_readNumber_91 rfl h
  · have h := h.2.2 c
    refine av_aload_n dX2_readNumber_12 rfl rfl ?_
    refine av_callV mX2_sign [] [] dX2_readNumber_13 rfl rfl rfl mbX2_sign rfl wI_X2_sign wS_X2_sign rfl wM_X2_31 ⟨Nat.le_of_ble_eq_true rfl, Nat.le_of_ble_eq_true rfl⟩ rfl (Nat.le_of_ble_eq_true rfl) (av_C.mono (fun v s2 hh => ?_) h)
    obtain ⟨r2, rfl, h⟩ := hh
    change av_W E cSH mX2_readNumber 16 [some (av_r 1), some (av_i x1), some (av_i x2), some (av_i x3), some (av_i x4), some (av_i x5)] [av_i r2] s2 Q
    refine av_bipush dX2_readNumber_16 rfl ?_
    refine av_icmp_lt (tgt := 65) dX2_readNumber_18 (by decide) h.1 (by decide) (fun c => ?_) (fun c => ?_)
    · have h := h.2.1 c
      refine av_iload dX2_readNumber_65 rfl ?_
      refine av_iload_n dX2_readNumber_67 rfl rfl ?_
      refine av_icmp_lt (tgt := 90) dX2_readNumber_68 (by decide) h.1 h.2.1 (fun c => ?_) (fun c => ?_)
      · have h := h.2.2.1 c
        refine av_iconst dX2_readNumber_90 ?_
        exact av_ireturn dX2_readNumber_91 rfl h
      · have h := h.2.2.2 c
        refine av_iload dX2_readNumber_71 rfl ?_
        refine av_iload_n dX2_readNumber_73 rfl rfl ?_
        refine av_icmp_gt (tgt := 90) dX2_readNumber_74 (by decide) h.1 h.2.1 (fun c => ?_) (fun c => ?_)
        · have h := h.2.2.1 c
          refine av_iconst dX2_readNumber_90 ?_
          exact av_ireturn dX2_readNumber_91 rfl h
        · have h := h.2.2.2 c
          refine av_aload_n dX2_readNumber_77 rfl rfl ?_
          refine av_iload_n dX2_readNumber_78 rfl rfl ?_
          refine av_callV mX2_isNext [av_i x3] [] dX2_readNumber_79 rfl rfl rfl mbX2_isNext rfl wI_X2_isNext wS_X2_isNext rfl wM_X2_75 ⟨Nat.le_of_ble_eq_true rfl, Nat.le_of_ble_eq_true rfl⟩ rfl (Nat.le_of_ble_eq_true rfl) (av_C.mono (fun v s3 hh => ?_) h)
          obtain ⟨r3, rfl, h⟩ := hh
          change av_W E cSH mX2_readNumber 82 [some (av_r 1), some (av_i x1), some (av_i x2), some (av_i x3), some (av_i x4), some (av_i x5)] [av_i r3] s3 Q
          refine av_if_eq (tgt := 90) dX2_readNumber_82 (by decide) h.1 (fun c => ?_) (fun c => ?_)
          · have h := h.2.1 c
            refine av_iconst dX2_readNumber_90 ?_
            exact av_ireturn dX2_readNumber_91 rfl h
          · have h := h.2.2 c
            refine av_iload dX2_readNumber_85 rfl ?_
            refine av_goto (tgt := 91) dX2_readNumber_87 (by decide) ?_
            exact av_ireturn dX2_readNumber_91 rfl h
    · have h := h.2.2 c
      refine av_aload_n dX2_readNumber_21 rfl rfl ?_
      refine av_callV mX2_sign [] [] dX2_readNumber_22 rfl rfl rfl mbX2_sign rfl wI_X2_sign wS_X2_sign rfl wM_X2_31 ⟨Nat.le_of_ble_eq_true rfl, Nat.le_of_ble_eq_true rfl⟩ rfl (Nat.le_of_ble_eq_true rfl) (av_C.mono (fun v s4 hh => ?_) h)
      obtain ⟨r4, rfl, h⟩ := hh
      change av_W E cSH mX2_readNumber 25 [some (av_r 1), some (av_i x1), some (av_i x2), some (av_i x3), some (av_i x4), some (av_i x5)] [av_i r4] s4 Q
      refine av_bipush dX2_readNumber_25 rfl ?_
      refine av_icmp_gt (tgt := 65) dX2_readNumber_27 (by decide) h.1 (by decide) (fun c => ?_) (fun c => ?_)
      · have h := h.2.1 c
        refine av_iload dX2_readNumber_65 rfl ?_
        refine av_iload_n dX2_readNumber_67 rfl rfl ?_
        refine av_icmp_lt (tgt := 90) dX2_readNumber_68 (by decide) h.1 h.2.1 (fun c => ?_) (fun c => ?_)
        · have h := h.2.2.1 c
          refine av_iconst dX2_readNumber_90 ?_
          exact av_ireturn dX2_readNumber_91 rfl h
        · have h := h.2.2.2 c
          refine av_iload dX2_readNumber_71 rfl ?_
          refine av_iload_n dX2_readNumber_73 rfl rfl ?_
          refine av_icmp_gt (tgt := 90) dX2_readNumber_74 (by decide) h.1 h.2.1 (fun c => ?_) (fun c => ?_)
          · have h := h.2.2.1 c
            refine av_iconst dX2_readNumber_90 ?_
            exact av_ireturn dX2_readNumber_91 rfl h
          · have h := h.2.2.2 c
            refine av_aload_n dX2_readNumber_77 rfl rfl ?_
            refine av_iload_n dX2_readNumber_78 rfl rfl ?_
            refine av_callV mX2_isNext [av_i x3] [] dX2_readNumber_79 rfl rfl rfl mbX2_isNext rfl wI_X2_isNext wS_X2_isNext rfl wM_X2_75 ⟨Nat.le_of_ble_eq_true rfl, Nat.le_of_ble_eq_true rfl⟩ rfl (Nat.le_of_ble_eq_true rfl) (av_C.mono (fun v s5 hh => ?_) h)
            obtain ⟨r5, rfl, h⟩ := hh
            change av_W E cSH mX2_readNumber 82 [some (av_r 1), some (av_i x1), some (av_i x2), some (av_i x3), some (av_i x4), some (av_i x5)] [av_i r5] s5 Q
            refine av_if_eq (tgt := 90) dX2_readNumber_82 (by decide) h.1 (fun c => ?_) (fun c => ?_)
            · have h := h.2.1 c
              refine av_iconst dX2_readNumber_90 ?_
              exact av_ireturn dX2_readNumber_91 rfl h
            · have h := h.2.2 c
              refine av_iload dX2_readNumber_85 rfl ?_
              refine av_goto (tgt := 91) dX2_readNumber_87 (by decide) ?_
              exact av_ireturn dX2_readNumber_91 rfl h
      · have h := h.2.2 c
        refine av_iconst dX2_readNumber_30 ?_
        refine av_iload dX2_readNumber_31 rfl ?_
        refine av_max dX2_readNumber_33 rfl wM_X2_79 wT_J9_max_7cf53 wN_J9 mbJ9_max_7cf53.2.2.2.2 (by decide) (by decide) (Nat.le_of_ble_eq_true rfl) (by decide) h.1 ?_
        refine av_bipush dX2_readNumber_36 rfl ?_
        refine av_imul dX2_readNumber_38 ?_
        refine av_aload_n dX2_readNumber_39 rfl rfl ?_
        refine av_callV mX2_sign [] [av_i ((max 0 x4) * 10)] dX2_readNumber_40 rfl rfl rfl mbX2_sign rfl wI_X2_sign wS_X2_sign rfl wM_X2_31 ⟨Nat.le_of_ble_eq_true rfl, Nat.le_of_ble_eq_true rfl⟩ rfl (Nat.le_of_ble_eq_true rfl) (av_C.mono (fun v s6 hh => ?_) h.2)
        obtain ⟨r6, rfl, h⟩ := hh
        change av_W E cSH mX2_readNumber 43 [some (av_r 1), some (av_i x1), some (av_i x2), some (av_i x3), some (av_i x4), some (av_i x5)] [av_i r6, av_i ((max 0 x4) * 10)] s6 Q
        refine av_iadd dX2_readNumber_43 ?_
        refine av_bipush dX2_readNumber_44 rfl ?_
        refine av_isub dX2_readNumber_46 ?_
        refine av_istore (L' := [some (av_r 1), some (av_i x1), some (av_i x2), some (av_i x3), some (av_i ((((max 0 x4) * 10) + r6) - 48)), some (av_i x5)]) dX2_readNumber_47 (by decide) rfl ?_
        refine av_aload_n dX2_readNumber_49 rfl rfl ?_
        refine av_dup dX2_readNumber_50 (fun _ h9 => nomatch h9) ?_
        refine av_get (k := 2) (x := (s6 1 2)) dX2_readNumber_51 rfl rfl iuX2 (by decide) rfl wF_X2_24 rfl rfl ?_
        refine av_iconst dX2_readNumber_54 ?_
        refine av_iadd dX2_readNumber_55 ?_
        refine av_put (k := 2) tyX2 dX2_readNumber_56 rfl rfl iuX2 tyX2_ok nmX2 (by decide) rfl wF_X2_24 rfl rfl rfl ?_
        refine av_iinc (L' := [some (av_r 1), some (av_i x1), some (av_i x2), some (av_i x3), some (av_i ((((max 0 x4) * 10) + r6) - 48)), some (av_i (x5 + 1))]) dX2_readNumber_59 rfl (by decide) rfl rfl ?_
        refine av_goto (tgt := 6) dX2_readNumber_62 (by decide) ?_
        exact h

theorem uX2_isNext {E : av_E} {σ : av_M} {Q : Option av_V → av_M → Prop} {a1 : Int} (h : av_C E cSH mX2_sign [av_r 1] σ (fun v s1 => ∃ r1 : Int, v = some (av_i r1) ∧ ((rg r1) ∧ ((rg a1) ∧ (((¬ r1 = a1) → Q (some (av_i 0)) (av_st s1 1 2 ((s1 1 2) + 1))) ∧ ((r1 = a1) → Q (some (av_i 1)) (av_st s1 1 2 ((s1 1 2) + 1)))))))) :
    av_C E cSH mX2_isNext [av_r 1, av_i a1] σ Q := by
  refine av_C.ofW (L := [some (av_r 1), some (av_i a1), none]) (by decide) (Nat.le_of_ble_eq_true rfl) rfl ?_
  refine av_aload_n dX2_isNext_0 rfl rfl ?_
  refine av_callV mX2_sign [] [] dX2_isNext_1 rfl rfl rfl mbX2_sign rfl wI_X2_sign wS_X2_sign rfl wM_X2_31 ⟨Nat.le_of_ble_eq_true rfl, Nat.le_of_ble_eq_true rfl⟩ rfl (Nat.le_of_ble_eq_true rfl) (av_C.mono (fun v s1 hh => ?_) h)
  obtain ⟨r1, rfl, h⟩ := hh
  change av_W E cSH mX2_isNext 4 [some (av_r 1), some (av_i a1), none] [av_i r1] s1 Q
  refine av_iload_n dX2_isNext_4 rfl rfl ?_
  refine av_icmp_ne (tgt := 12) dX2_isNext_5 (by decide) h.1 h.2.1 (fun c => ?_) (fun c => ?_)
  · have h := h.2.2.1 c
    refine av_iconst dX2_isNext_12 ?_
    refine av_istore_n (L' := [some (av_r 1), some (av_i a1), some (av_i 0)]) dX2_isNext_13 rfl (by decide) rfl ?_
    refine av_aload_n dX2_isNext_14 rfl rfl ?_
    refine av_dup dX2_isNext_15 (fun _ h9 => nomatch h9) ?_
    refine av_get (k := 2) (x := (s1 1 2)) dX2_isNext_16 rfl rfl iuX2 (by decide) rfl wF_X2_24 rfl rfl ?_
    refine av_iconst dX2_isNext_19 ?_
    refine av_iadd dX2_isNext_20 ?_
    refine av_put (k := 2) tyX2 dX2_isNext_21 rfl rfl iuX2 tyX2_ok nmX2 (by decide) rfl wF_X2_24 rfl rfl rfl ?_
    refine av_iload_n dX2_isNext_24 rfl rfl ?_
    exact av_zreturn dX2_isNext_25 rfl (by decide) h
  · have h := h.2.2.2 c
    refine av_iconst dX2_isNext_8 ?_
    refine av_goto (tgt := 13) dX2_isNext_9 (by decide) ?_
    refine av_istore_n (L' := [some (av_r 1), some (av_i a1), some (av_i 1)]) dX2_isNext_13 rfl (by decide) rfl ?_
    refine av_aload_n dX2_isNext_14 rfl rfl ?_
    refine av_dup dX2_isNext_15 (fun _ h9 => nomatch h9) ?_
    refine av_get (k := 2) (x := (s1 1 2)) dX2_isNext_16 rfl rfl iuX2 (by decide) rfl wF_X2_24 rfl rfl ?_
    refine av_iconst dX2_isNext_19 ?_
    refine av_iadd dX2_isNext_20 ?_
    refine av_put (k := 2) tyX2 dX2_isNext_21 rfl rfl iuX2 tyX2_ok nmX2 (by decide) rfl wF_X2_24 rfl rfl rfl ?_
    refine av_iload_n dX2_isNext_24 rfl rfl ?_
    exact av_zreturn dX2_isNext_25 rfl (by decide) h

theorem uX2_sign {E : av_E} {σ : av_M} {Q : Option av_V → av_M → Prop} (h : (rg (σ 1 2)) ∧ ((rg (σ 1 1)) ∧ ((((σ 1 1) ≤ (σ 1 2)) → Q (some (av_i 0)) σ) ∧ (((σ 1 2) < (σ 1 1)) → (rg (σ 1 2)) ∧ (((200 ≤ (σ 1 2)) → Q (some (av_i 0)) σ) ∧ (((σ 1 2) < 200) → (0 ≤ (σ 1 2) ∧ (σ 1 2) < 200) ∧ ((0 ≤ (σ 2 ((σ 1 2)).toNat) ∧ (σ 2 ((σ 1 2)).toNat) < 65536) ∧ (Q (some (av_i (σ 2 ((σ 1 2)).toNat))) σ)))))))) :
    av_C E cSH mX2_sign [av_r 1] σ Q := by
  refine av_C.ofW (L := [some (av_r 1)]) (by decide) (Nat.le_of_ble_eq_true rfl) rfl ?_
  refine av_aload_n dX2_sign_0 rfl rfl ?_
  refine av_get (k := 2) (x := (σ 1 2)) dX2_sign_1 rfl rfl iuX2 (by decide) rfl wF_X2_24 rfl rfl ?_
  refine av_aload_n dX2_sign_4 rfl rfl ?_
  refine av_get (k := 1) (x := (σ 1 1)) dX2_sign_5 rfl rfl iuX2 (by decide) rfl wF_X2_15 rfl rfl ?_
  refine av_icmp_ge (tgt := 33) dX2_sign_8 (by decide) h.1 h.2.1 (fun c => ?_) (fun c => ?_)
  · have h := h.2.2.1 c
    refine av_iconst dX2_sign_33 ?_
    exact av_creturn dX2_sign_34 rfl (by decide) (by decide) h
  · have h := h.2.2.2 c
    refine av_aload_n dX2_sign_11 rfl rfl ?_
    refine av_get (k := 2) (x := (σ 1 2)) dX2_sign_12 rfl rfl iuX2 (by decide) rfl wF_X2_24 rfl rfl ?_
    refine av_sipush dX2_sign_15 rfl ?_
    refine av_icmp_ge (tgt := 33) dX2_sign_18 (by decide) h.1 (by decide) (fun c => ?_) (fun c => ?_)
    · have h := h.2.1 c
      refine av_iconst dX2_sign_33 ?_
      exact av_creturn dX2_sign_34 rfl (by decide) (by decide) h
    · have h := h.2.2 c
      refine av_aload_n dX2_sign_21 rfl rfl ?_
      refine av_getr (k := 0) dX2_sign_22 rfl rfl iuX2 (by decide) rfl wF_X2_9 rfl ?_
      refine av_aload_n dX2_sign_25 rfl rfl ?_
      refine av_get (k := 2) (x := (σ 1 2)) dX2_sign_26 rfl rfl iuX2 (by decide) rfl wF_X2_24 rfl rfl ?_
      refine av_cald (x := (σ 2 ((σ 1 2)).toNat)) dX2_sign_29 rfl (by decide) h.1 rfl ?_
      refine av_goto (tgt := 34) dX2_sign_30 (by decide) ?_
      exact av_creturn dX2_sign_34 rfl h.2.1.1 h.2.1.2 h.2.2

theorem uX3_clear_3 {E : av_E} {σ : av_M} {Q : Option av_V → av_M → Prop} (h : av_W E cSH mX3_clear 2 [some (av_r 3), some (av_i 0)] [] σ Q) :
    av_C E cSH mX3_clear [av_r 3] σ Q := by
  refine av_C.ofW (L := [some (av_r 3), none]) (by decide) (Nat.le_of_ble_eq_true rfl) rfl ?_
  refine av_iconst dX3_clear_0 ?_
  refine av_istore_n (L' := [some (av_r 3), some (av_i 0)]) dX3_clear_1 rfl (by decide) rfl ?_
  exact h

theorem uX3_clear_3_2 {E : av_E} {σ : av_M} {Q : Option av_V → av_M → Prop} {x1 : Int} (h : (rg x1) ∧ ((rg (σ 3 8)) ∧ ((((σ 3 8) ≤ x1) → av_C E cSH mX3_setRiver [av_r 3, av_i 20, av_i 6, av_i 3] (av_st (av_st (av_st σ 3 8 0) 3 9 0) 3 10 0) (fun v s1 => v = none ∧ (Q none (av_st s1 3 14 30)))) ∧ ((x1 < (σ 3 8)) → (0 ≤ x1 ∧ x1 < 8) ∧ ((0 ≤ (σ 4 (x1).toNat) ∧ (σ 4 (x1).toNat) < 216) ∧ (av_W E cSH mX3_clear 2 [some (av_r 3), some (av_i (x1 + 1))] [] (av_st σ 11 ((σ 4 (x1).toNat)).toNat 0) Q)))))) :
    av_W E cSH mX3_clear 2 [some (av_r 3), some (av_i x1)] [] σ Q := by
  refine av_iload_n dX3_clear_2 rfl rfl ?_
  refine av_aload_n dX3_clear_3 rfl rfl ?_
  refine av_get (k := 8) (x := (σ 3 8)) dX3_clear_4 rfl rfl iuX3 (by decide) rfl wF_X3_36 rfl rfl ?_
  refine av_icmp_ge (tgt := 28) dX3_clear_7 (by decide) h.1 h.2.1 (fun c => ?_) (fun c => ?_)
  · have h := h.2.2.1 c
    refine av_aload_n dX3_clear_28 rfl rfl ?_
    refine av_iconst dX3_clear_29 ?_
    refine av_put (k := 8) tyX3 dX3_clear_30 rfl rfl iuX3 tyX3_ok nmX3 (by decide) rfl wF_X3_36 rfl rfl rfl ?_
    refine av_aload_n dX3_clear_33 rfl rfl ?_
    refine av_iconst dX3_clear_34 ?_
    refine av_put (k := 9) tyX3 dX3_clear_35 rfl rfl iuX3 tyX3_ok nmX3 (by decide) rfl wF_X3_40 rfl rfl rfl ?_
    refine av_aload_n dX3_clear_38 rfl rfl ?_
    refine av_iconst dX3_clear_39 ?_
    refine av_put (k := 10) tyX3 dX3_clear_40 rfl rfl iuX3 tyX3_ok nmX3 (by decide) rfl wF_X3_43 rfl rfl rfl ?_
    refine av_aload_n dX3_clear_43 rfl rfl ?_
    refine av_bipush dX3_clear_44 rfl ?_
    refine av_bipush dX3_clear_46 rfl ?_
    refine av_iconst dX3_clear_48 ?_
    refine av_callV mX3_setRiver [av_i 20, av_i 6, av_i 3] [] dX3_clear_49 rfl rfl rfl mbX3_setRiver rfl wI_X3_setRiver wS_X3_setRiver rfl wM_X3_46 ⟨Nat.le_of_ble_eq_true rfl, Nat.le_of_ble_eq_true rfl⟩ rfl (Nat.le_of_ble_eq_true rfl) (av_C.mono (fun v s1 hh => ?_) h)
    obtain ⟨rfl, h⟩ := hh
    change av_W E cSH mX3_clear 52 [some (av_r 3), some (av_i x1)] [] s1 Q
    refine av_aload_n dX3_clear_52 rfl rfl ?_
    refine av_bipush dX3_clear_53 rfl ?_
    refine av_put (k := 14) tyX3 dX3_clear_55 rfl rfl iuX3 tyX3_ok nmX3 (by decide) rfl wF_X3_50 rfl rfl rfl ?_
    exact av_return dX3_clear_58 rfl h
  · have h := h.2.2.2 c
    refine av_aload_n dX3_clear_10 rfl rfl ?_
    refine av_getr (k := 7) dX3_clear_11 rfl rfl iuX3 (by decide) rfl wF_X3_33 rfl ?_
    refine av_aload_n dX3_clear_14 rfl rfl ?_
    refine av_getr (k := 0) dX3_clear_15 rfl rfl iuX3 (by decide) rfl wF_X3_9 rfl ?_
    refine av_iload_n dX3_clear_18 rfl rfl ?_
    refine av_iald (x := (σ 4 (x1).toNat)) dX3_clear_19 rfl (by decide) h.1 rfl ?_
    refine av_iconst dX3_clear_20 ?_
    refine av_iast dX3_clear_21 rfl (by decide) h.2.1 ?_
    refine av_iinc (L' := [some (av_r 3), some (av_i (x1 + 1))]) dX3_clear_22 rfl (by decide) rfl rfl ?_
    refine av_goto (tgt := 2) dX3_clear_25 (by decide) ?_
    exact h.2.2

theorem uX3_clear_12 {E : av_E} {σ : av_M} {Q : Option av_V → av_M → Prop} (h : av_W E cSH mX3_clear 2 [some (av_r 12), some (av_i 0)] [] σ Q) :
    av_C E cSH mX3_clear [av_r 12] σ Q := by
  refine av_C.ofW (L := [some (av_r 12), none]) (by decide) (Nat.le_of_ble_eq_true rfl) rfl ?_
  refine av_iconst dX3_clear_0 ?_
  refine av_istore_n (L' := [some (av_r 12), some (av_i 0)]) dX3_clear_1 rfl (by decide) rfl ?_
  exact h

theorem uX3_clear_12_2 {E : av_E} {σ : av_M} {Q : Option av_V → av_M → Prop} {x1 : Int} (h : (rg x1) ∧ ((rg (σ 12 8)) ∧ ((((σ 12 8) ≤ x1) → av_C E cSH mX3_setRiver [av_r 12, av_i 20, av_i 6, av_i 3] (av_st (av_st (av_st σ 12 8 0) 12 9 0) 12 10 0) (fun v s1 => v = none ∧ (Q none (av_st s1 12 14 30)))) ∧ ((x1 < (σ 12 8)) → (0 ≤ x1 ∧ x1 < 8) ∧ ((0 ≤ (σ 13 (x1).toNat) ∧ (σ 13 (x1).toNat) < 216) ∧ (av_W E cSH mX3_clear 2 [some (av_r 12), some (av_i (x1 + 1))] [] (av_st σ 20 ((σ 13 (x1).toNat)).toNat 0) Q)))))) :
    av_W E cSH mX3_clear 2 [some (av_r 12), some (av_i x1)] [] σ Q := by
  refine av_iload_n dX3_clear_2 rfl rfl ?_
  refine av_aload_n dX3_clear_3 rfl rfl ?_
  refine av_get (k := 8) (x := (σ 12 8)) dX3_clear_4 rfl rfl iuX3 (by decide) rfl wF_X3_36 rfl rfl ?_
  refine av_icmp_ge (tgt := 28) dX3_clear_7 (by decide) h.1 h.2.1 (fun c => ?_) (fun c => ?_)
  · have h := h.2.2.1 c
    refine av_aload_n dX3_clear_28 rfl rfl ?_
    refine av_iconst dX3_clear_29 ?_
    refine av_put (k := 8) tyX3 dX3_clear_30 rfl rfl iuX3 tyX3_ok nmX3 (by decide) rfl wF_X3_36 rfl rfl rfl ?_
    refine av_aload_n dX3_clear_33 rfl rfl ?_
    refine av_iconst dX3_clear_34 ?_
    refine av_put (k := 9) tyX3 dX3_clear_35 rfl rfl iuX3 tyX3_ok nmX3 (by decide) rfl wF_X3_40 rfl rfl rfl ?_
    refine av_aload_n dX3_clear_38 rfl rfl ?_
    refine av_iconst dX3_clear_39 ?_
    refine av_put (k := 10) tyX3 dX3_clear_40 rfl rfl iuX3 tyX3_ok nmX3 (by decide) rfl wF_X3_43 rfl rfl rfl ?_
    refine av_aload_n dX3_clear_43 rfl rfl ?_
    refine av_bipush dX3_clear_44 rfl ?_
    refine av_bipush dX3_clear_46 rfl ?_
    refine av_iconst dX3_clear_48 ?_
    refine av_callV mX3_setRiver [av_i 20, av_i 6, av_i 3] [] dX3_clear_49 rfl rfl rfl mbX3_setRiver rfl wI_X3_setRiver wS_X3_setRiver rfl wM_X3_46 ⟨Nat.le_of_ble_eq_true rfl, Nat.le_of_ble_eq_true rfl⟩ rfl (Nat.le_of_ble_eq_true rfl) (av_C.mono (fun v s1 hh => ?_) h)
    obtain ⟨rfl, h⟩ := hh
    change av_W E cSH mX3_clear 52 [some (av_r 12), some (av_i x1)] [] s1 Q
    refine av_aload_n dX3_clear_52 rfl rfl ?_
    refine av_bipush dX3_clear_53 rfl ?_
    refine av_put (k := 14) tyX3 dX3_clear_55 rfl rfl iuX3 tyX3_ok nmX3 (by decide) rfl wF_X3_50 rfl rfl rfl ?_
    exact av_return dX3_clear_58 rfl h
  · have h := h.2.2.2 c
    refine av_aload_n dX3_clear_10 rfl rfl ?_
    refine av_getr (k := 7) dX3_clear_11 rfl rfl iuX3 (by decide) rfl wF_X3_33 rfl ?_
    refine av_aload_n dX3_clear_14 rfl rfl ?_
    refine av_getr (k := 0) dX3_clear_15 rfl rfl iuX3 (by decide) rfl wF_X3_9 rfl ?_
    refine av_iload_n dX3_clear_18 rfl rfl ?_
    refine av_iald (x := (σ 13 (x1).toNat)) dX3_clear_19 rfl (by decide) h.1 rfl ?_
    refine av_iconst dX3_clear_20 ?_
    refine av_iast dX3_clear_21 rfl (by decide) h.2.1 ?_
    refine av_iinc (L' := [some (av_r 12), some (av_i (x1 + 1))]) dX3_clear_22 rfl (by decide) rfl rfl ?_
    refine av_goto (tgt := 2) dX3_clear_25 (by decide) ?_
    exact h.2.2

theorem uX3_addRoot_3 {E : av_E} {σ : av_M} {Q : Option av_V → av_M → Prop} {a1 a2 a3 : Int} (h : (rg a1) ∧ (((a1 ≤ 0) → Q (some (av_i 0)) σ) ∧ ((0 < a1) → (rg a1) ∧ (((216 ≤ a1) → Q (some (av_i 0)) σ) ∧ ((a1 < 216) → (rg a2) ∧ (((0 < a2) → (rg (σ 3 8)) ∧ (((8 ≤ (σ 3 8)) → Q (some (av_i 0)) σ) ∧ (((σ 3 8) < 8) → (0 ≤ a1 ∧ a1 < 216) ∧ ((rg (σ 11 (a1).toNat)) ∧ ((((σ 11 (a1).toNat) = 0) → (0 ≤ (σ 3 8) ∧ (σ 3 8) < 8) ∧ (av_C E cSH mX4_lettersIn [av_i a1] (av_st σ 4 ((σ 3 8)).toNat a1) (fun v s1 => ∃ r1 : Int, v = some (av_i r1) ∧ ((0 ≤ (σ 3 8) ∧ (σ 3 8) < 8) ∧ ((0 ≤ (s1 3 8) ∧ (s1 3 8) < 8) ∧ ((0 ≤ (s1 3 8) ∧ (s1 3 8) < 8) ∧ ((rg a2) ∧ (((a2 ≤ 0) → (rg a3) ∧ (((a3 ≤ 0) → (0 ≤ a1 ∧ a1 < 216) ∧ (Q (some (av_i 1)) (av_st (av_st (av_st (av_st (av_st s1 5 ((σ 3 8)).toNat r1) 6 ((s1 3 8)).toNat a2) 7 ((s1 3 8)).toNat a3) 11 (a1).toNat (i_or 0 0)) 3 8 ((s1 3 8) + 1)))) ∧ ((0 < a3) → (0 ≤ a1 ∧ a1 < 216) ∧ (Q (some (av_i 1)) (av_st (av_st (av_st (av_st (av_st s1 5 ((σ 3 8)).toNat r1) 6 ((s1 3 8)).toNat a2) 7 ((s1 3 8)).toNat a3) 11 (a1).toNat (i_or 0 (i_shl 2 (2 * (s1 3 8))))) 3 8 ((s1 3 8) + 1)))))) ∧ ((0 < a2) → (rg a3) ∧ (((a3 ≤ 0) → (0 ≤ a1 ∧ a1 < 216) ∧ (Q (some (av_i 1)) (av_st (av_st (av_st (av_st (av_st s1 5 ((σ 3 8)).toNat r1) 6 ((s1 3 8)).toNat a2) 7 ((s1 3 8)).toNat a3) 11 (a1).toNat (i_or (i_shl 1 (2 * (s1 3 8))) 0)) 3 8 ((s1 3 8) + 1)))) ∧ ((0 < a3) → (0 ≤ a1 ∧ a1 < 216) ∧ (Q (some (av_i 1)) (av_st (av_st (av_st (av_st (av_st s1 5 ((σ 3 8)).toNat r1) 6 ((s1 3 8)).toNat a2) 7 ((s1 3 8)).toNat a3) 11 (a1).toNat (i_or (i_shl 1 (2 * (s1 3 8))) (i_shl 2 (2 * (s1 3 8))))) 3 8 ((s1 3 8) + 1)))))))))))))) ∧ ((¬ (σ 11 (a1).toNat) = 0) → Q (some (av_i 0)) σ)))))) ∧ ((a2 ≤ 0) → (rg a3) ∧ (((a3 ≤ 0) → Q (some (av_i 0)) σ) ∧ ((0 < a3) → (rg (σ 3 8)) ∧ (((8 ≤ (σ 3 8)) → Q (some (av_i 0)) σ) ∧ (((σ 3 8) < 8) → (0 ≤ a1 ∧ a1 < 216) ∧ ((rg (σ 11 (a1).toNat)) ∧ ((((σ 11 (a1).toNat) = 0) → (0 ≤ (σ 3 8) ∧ (σ 3 8) < 8) ∧ (av_C E cSH mX4_lettersIn [av_i a1] (av_st σ 4 ((σ 3 8)).toNat a1) (fun v s2 => ∃ r2 : Int, v = some (av_i r2) ∧ ((0 ≤ (σ 3 8) ∧ (σ 3 8) < 8) ∧ ((0 ≤ (s2 3 8) ∧ (s2 3 8) < 8) ∧ ((0 ≤ (s2 3 8) ∧ (s2 3 8) < 8) ∧ ((rg a2) ∧ (((a2 ≤ 0) → (rg a3) ∧ (((a3 ≤ 0) → (0 ≤ a1 ∧ a1 < 216) ∧ (Q (some (av_i 1)) (av_st (av_st (av_st (av_st (av_st s2 5 ((σ 3 8)).toNat r2) 6 ((s2 3 8)).toNat a2) 7 ((s2 3 8)).toNat a3) 11 (a1).toNat (i_or 0 0)) 3 8 ((s2 3 8) + 1)))) ∧ ((0 < a3) → (0 ≤ a1 ∧ a1 < 216) ∧ (Q (some (av_i 1)) (av_st (av_st (av_st (av_st (av_st s2 5 ((σ 3 8)).toNat r2) 6 ((s2 3 8)).toNat a2) 7 ((s2 3 8)).toNat a3) 11 (a1).toNat (i_or 0 (i_shl 2 (2 * (s2 3 8))))) 3 8 ((s2 3 8) + 1)))))) ∧ ((0 < a2) → (rg a3) ∧ (((a3 ≤ 0) → (0 ≤ a1 ∧ a1 < 216) ∧ (Q (some (av_i 1)) (av_st (av_st (av_st (av_st (av_st s2 5 ((σ 3 8)).toNat r2) 6 ((s2 3 8)).toNat a2) 7 ((s2 3 8)).toNat a3) 11 (a1).toNat (i_or (i_shl 1 (2 * (s2 3 8))) 0)) 3 8 ((s2 3 8) + 1)))) ∧ ((0 < a3) → (0 ≤ a1 ∧ a1 < 216) ∧ (Q (some (av_i 1)) (av_st (av_st (av_st (av_st (av_st s2 5 ((σ 3 8)).toNat r2) 6 ((s2 3 8)).toNat a2) 7 ((s2 3 8)).toNat a3) 11 (a1).toNat (i_or (i_shl 1 (2 * (s2 3 8))) (i_shl 2 (2 * (s2 3 8))))) 3 8 ((s2 3 8) + 1)))))))))))))) ∧ ((¬ (σ 11 (a1).toNat) = 0) → Q (some (av_i 0)) σ)))))))))))))) :
    av_C E cSH mX3_addRoot [av_r 3, av_i a1, av_i a2, av_i a3] σ Q := by
  refine av_C.ofW (L := [some (av_r 3), some (av_i a1), some (av_i a2), some (av_i a3), none]) (by decide) (Nat.le_of_ble_eq_true rfl) rfl ?_
  refine av_iload_n dX3_addRoot_0 rfl rfl ?_
  refine av_if_le (tgt := 23) dX3_addRoot_1 (by decide) h.1 (fun c => ?_) (fun c => ?_)
  · have h := h.2.1 c
    refine av_iconst dX3_addRoot_23 ?_
    refine av_istore (L' := [some (av_r 3), some (av_i a1), some (av_i a2), some (av_i a3), some (av_i 0)]) dX3_addRoot_24 (by decide) rfl ?_
    refine av_iload dX3_addRoot_26 rfl ?_
    refine av_if_eq (tgt := 49) dX3_addRoot_28 (by decide) (by decide) (fun _ => ?_) (fun c => absurd c (by decide))
    refine av_iconst dX3_addRoot_49 ?_
    exact av_zreturn dX3_addRoot_50 rfl (by decide) h
  · have h := h.2.2 c
    refine av_iload_n dX3_addRoot_4 rfl rfl ?_
    refine av_sipush dX3_addRoot_5 rfl ?_
    refine av_icmp_ge (tgt := 23) dX3_addRoot_8 (by decide) h.1 (by decide) (fun c => ?_) (fun c => ?_)
    · have h := h.2.1 c
      refine av_iconst dX3_addRoot_23 ?_
      refine av_istore (L' := [some (av_r 3), some (av_i a1), some (av_i a2), some (av_i a3), some (av_i 0)]) dX3_addRoot_24 (by decide) rfl ?_
      refine av_iload dX3_addRoot_26 rfl ?_
      refine av_if_eq (tgt := 49) dX3_addRoot_28 (by decide) (by decide) (fun _ => ?_) (fun c => absurd c (by decide))
      refine av_iconst dX3_addRoot_49 ?_
      exact av_zreturn dX3_addRoot_50 rfl (by decide) h
    · have h := h.2.2 c
      refine av_iload_n dX3_addRoot_11 rfl rfl ?_
      refine av_if_gt (tgt := 19) dX3_addRoot_12 (by decide) h.1 (fun c => ?_) (fun c => ?_)
      · have h := h.2.1 c
        refine av_iconst dX3_addRoot_19 ?_
        refine av_goto (tgt := 24) dX3_addRoot_20 (by decide) ?_
        refine av_istore (L' := [some (av_r 3), some (av_i a1), some (av_i a2), some (av_i a3), some (av_i 1)]) dX3_addRoot_24 (by decide) rfl ?_
        refine av_iload dX3_addRoot_26 rfl ?_
        refine av_if_eq (tgt := 49) dX3_addRoot_28 (by decide) (by decide) (fun c => absurd c (by decide)) (fun _ => ?_)
        refine av_aload_n dX3_addRoot_31 rfl rfl ?_
        refine av_get (k := 8) (x := (σ 3 8)) dX3_addRoot_32 rfl rfl iuX3 (by decide) rfl wF_X3_36 rfl rfl ?_
        refine av_bipush dX3_addRoot_35 rfl ?_
        refine av_icmp_ge (tgt := 49) dX3_addRoot_37 (by decide) h.1 (by decide) (fun c => ?_) (fun c => ?_)
        · have h := h.2.1 c
          refine av_iconst dX3_addRoot_49 ?_
          exact av_zreturn dX3_addRoot_50 rfl (by decide) h
        · have h := h.2.2 c
          refine av_aload_n dX3_addRoot_40 rfl rfl ?_
          refine av_getr (k := 7) dX3_addRoot_41 rfl rfl iuX3 (by decide) rfl wF_X3_33 rfl ?_
          refine av_iload_n dX3_addRoot_44 rfl rfl ?_
          refine av_iald (x := (σ 11 (a1).toNat)) dX3_addRoot_45 rfl (by decide) h.1 rfl ?_
          refine av_if_eq (tgt := 51) dX3_addRoot_46 (by decide) h.2.1 (fun c => ?_) (fun c => ?_)
          · have h := h.2.2.1 c
            refine av_aload_n dX3_addRoot_51 rfl rfl ?_
            refine av_getr (k := 0) dX3_addRoot_52 rfl rfl iuX3 (by decide) rfl wF_X3_9 rfl ?_
            refine av_aload_n dX3_addRoot_55 rfl rfl ?_
            refine av_get (k := 8) (x := (σ 3 8)) dX3_addRoot_56 rfl rfl iuX3 (by decide) rfl wF_X3_36 rfl rfl ?_
            refine av_iload_n dX3_addRoot_59 rfl rfl ?_
            refine av_iast dX3_addRoot_60 rfl (by decide) h.1 ?_
            refine av_aload_n dX3_addRoot_61 rfl rfl ?_
            refine av_getr (k := 1) dX3_addRoot_62 rfl rfl iuX3 (by decide) rfl wF_X3_15 rfl ?_
            refine av_aload_n dX3_addRoot_65 rfl rfl ?_
            refine av_get (k := 8) (x := (σ 3 8)) dX3_addRoot_66 rfl rfl iuX3 (by decide) rfl wF_X3_36 rfl rfl ?_
            refine av_iload_n dX3_addRoot_69 rfl rfl ?_
            refine av_callN mX4_lettersIn [av_i a1] [av_i (σ 3 8), av_r 5] dX3_addRoot_70 mbX4_lettersIn rfl wT_X4_lettersIn rfl wNest_X3_53 ⟨Nat.le_of_ble_eq_true rfl, Nat.le_of_ble_eq_true rfl⟩ rfl (Nat.le_of_ble_eq_true rfl) (av_C.mono (fun v s1 hh => ?_) h.2)
            obtain ⟨r1, rfl, h⟩ := hh
            change av_W E cSH mX3_addRoot 73 [some (av_r 3), some (av_i a1), some (av_i a2), some (av_i a3), some (av_i 1)] [av_i r1, av_i (σ 3 8), av_r 5] s1 Q
            refine av_iast dX3_addRoot_73 rfl (by decide) h.1 ?_
            refine av_aload_n dX3_addRoot_74 rfl rfl ?_
            refine av_getr (k := 2) dX3_addRoot_75 rfl rfl iuX3 (by decide) rfl wF_X3_18 rfl ?_
            refine av_aload_n dX3_addRoot_78 rfl rfl ?_
            refine av_get (k := 8) (x := (s1 3 8)) dX3_addRoot_79 rfl rfl iuX3 (by decide) rfl wF_X3_36 rfl rfl ?_
            refine av_iload_n dX3_addRoot_82 rfl rfl ?_
            refine av_iast dX3_addRoot_83 rfl (by decide) h.2.1 ?_
            refine av_aload_n dX3_addRoot_84 rfl rfl ?_
            refine av_getr (k := 3) dX3_addRoot_85 rfl rfl iuX3 (by decide) rfl wF_X3_21 rfl ?_
            refine av_aload_n dX3_addRoot_88 rfl rfl ?_
            refine av_get (k := 8) (x := (s1 3 8)) dX3_addRoot_89 rfl rfl iuX3 (by decide) rfl wF_X3_36 rfl rfl ?_
            refine av_iload_n dX3_addRoot_92 rfl rfl ?_
            refine av_iast dX3_addRoot_93 rfl (by decide) h.2.2.1 ?_
            refine av_aload_n dX3_addRoot_94 rfl rfl ?_
            refine av_getr (k := 7) dX3_addRoot_95 rfl rfl iuX3 (by decide) rfl wF_X3_33 rfl ?_
            refine av_iload_n dX3_addRoot_98 rfl rfl ?_
            refine av_iload_n dX3_addRoot_99 rfl rfl ?_
            refine av_if_le (tgt := 114) dX3_addRoot_100 (by decide) h.2.2.2.1 (fun c => ?_) (fun c => ?_)
            · have h := h.2.2.2.2.1 c
              refine av_iconst dX3_addRoot_114 ?_
              refine av_iload_n dX3_addRoot_115 rfl rfl ?_
              refine av_if_le (tgt := 130) dX3_addRoot_116 (by decide) h.1 (fun c => ?_) (fun c => ?_)
              · have h := h.2.1 c
                refine av_iconst dX3_addRoot_130 ?_
                refine av_ior dX3_addRoot_131 ?_
                refine av_iast dX3_addRoot_132 rfl (by decide) h.1 ?_
                refine av_aload_n dX3_addRoot_133 rfl rfl ?_
                refine av_dup dX3_addRoot_134 (fun _ h9 => nomatch h9) ?_
                refine av_get (k := 8) (x := (s1 3 8)) dX3_addRoot_135 rfl rfl iuX3 (by decide) rfl wF_X3_36 rfl rfl ?_
                refine av_iconst dX3_addRoot_138 ?_
                refine av_iadd dX3_addRoot_139 ?_
                refine av_put (k := 8) tyX3 dX3_addRoot_140 rfl rfl iuX3 tyX3_ok nmX3 (by decide) rfl wF_X3_36 rfl rfl rfl ?_
                refine av_iconst dX3_addRoot_143 ?_
                exact av_zreturn dX3_addRoot_144 rfl (by decide) h.2
              · have h := h.2.2 c
                refine av_iconst dX3_addRoot_119 ?_
                refine av_iconst dX3_addRoot_120 ?_
                refine av_aload_n dX3_addRoot_121 rfl rfl ?_
                refine av_get (k := 8) (x := (s1 3 8)) dX3_addRoot_122 rfl rfl iuX3 (by decide) rfl wF_X3_36 rfl rfl ?_
                refine av_imul dX3_addRoot_125 ?_
                refine av_ishl dX3_addRoot_126 ?_
                refine av_goto (tgt := 131) dX3_addRoot_127 (by decide) ?_
                refine av_ior dX3_addRoot_131 ?_
                refine av_iast dX3_addRoot_132 rfl (by decide) h.1 ?_
                refine av_aload_n dX3_addRoot_133 rfl rfl ?_
                refine av_dup dX3_addRoot_134 (fun _ h9 => nomatch h9) ?_
                refine av_get (k := 8) (x := (s1 3 8)) dX3_addRoot_135 rfl rfl iuX3 (by decide) rfl wF_X3_36 rfl rfl ?_
                refine av_iconst dX3_addRoot_138 ?_
                refine av_iadd dX3_addRoot_139 ?_
                refine av_put (k := 8) tyX3 dX3_addRoot_140 rfl rfl iuX3 tyX3_ok nmX3 (by decide) rfl wF_X3_36 rfl rfl rfl ?_
                refine av_iconst dX3_addRoot_143 ?_
                exact av_zreturn dX3_addRoot_144 rfl (by decide) h.2
            · have h := h.2.2.2.2.2 c
              refine av_iconst dX3_addRoot_103 ?_
              refine av_iconst dX3_addRoot_104 ?_
              refine av_aload_n dX3_addRoot_105 rfl rfl ?_
              refine av_get (k := 8) (x := (s1 3 8)) dX3_addRoot_106 rfl rfl iuX3 (by decide) rfl wF_X3_36 rfl rfl ?_
              refine av_imul dX3_addRoot_109 ?_
              refine av_ishl dX3_addRoot_110 ?_
              refine av_goto (tgt := 115) dX3_addRoot_111 (by decide) ?_
              refine av_iload_n dX3_addRoot_115 rfl rfl ?_
              refine av_if_le (tgt := 130) dX3_addRoot_116 (by decide) h.1 (fun c => ?_) (fun c => ?_)
              · have h := h.2.1 c
                refine av_iconst dX3_addRoot_130 ?_
                refine av_ior dX3_addRoot_131 ?_
                refine av_iast dX3_addRoot_132 rfl (by decide) h.1 ?_
                refine av_aload_n dX3_addRoot_133 rfl rfl ?_
                refine av_dup dX3_addRoot_134 (fun _ h9 => nomatch h9) ?_
                refine av_get (k := 8) (x := (s1 3 8)) dX3_addRoot_135 rfl rfl iuX3 (by decide) rfl wF_X3_36 rfl rfl ?_
                refine av_iconst dX3_addRoot_138 ?_
                refine av_iadd dX3_addRoot_139 ?_
                refine av_put (k := 8) tyX3 dX3_addRoot_140 rfl rfl iuX3 tyX3_ok nmX3 (by decide) rfl wF_X3_36 rfl rfl rfl ?_
                refine av_iconst dX3_addRoot_143 ?_
                exact av_zreturn dX3_addRoot_144 rfl (by decide) h.2
              · have h := h.2.2 c
                refine av_iconst dX3_addRoot_119 ?_
                refine av_iconst dX3_addRoot_120 ?_
                refine av_aload_n dX3_addRoot_121 rfl rfl ?_
                refine av_get (k := 8) (x := (s1 3 8)) dX3_addRoot_122 rfl rfl iuX3 (by decide) rfl wF_X3_36 rfl rfl ?_
                refine av_imul dX3_addRoot_125 ?_
                refine av_ishl dX3_addRoot_126 ?_
                refine av_goto (tgt := 131) dX3_addRoot_127 (by decide) ?_
                refine av_ior dX3_addRoot_131 ?_
                refine av_iast dX3_addRoot_132 rfl (by decide) h.1 ?_
                refine av_aload_n dX3_addRoot_133 rfl rfl ?_
                refine av_dup dX3_addRoot_134 (fun _ h9 => nomatch h9) ?_
                refine av_get (k := 8) (x := (s1 3 8)) dX3_addRoot_135 rfl rfl iuX3 (by decide) rfl wF_X3_36 rfl rfl ?_
                refine av_iconst dX3_addRoot_138 ?_
                refine av_iadd dX3_addRoot_139 ?_
                refine av_put (k := 8) tyX3 dX3_addRoot_140 rfl rfl iuX3 tyX3_ok nmX3 (by decide) rfl wF_X3_36 rfl rfl rfl ?_
                refine av_iconst dX3_addRoot_143 ?_
                exact av_zreturn dX3_addRoot_144 rfl (by decide) h.2
          · have h := h.2.2.2 c
            refine av_iconst dX3_addRoot_49 ?_
            exact av_zreturn dX3_addRoot_50 rfl (by decide) h
      · have h := h.2.2 c
        refine av_iload_n dX3_addRoot_15 rfl rfl ?_
        refine av_if_le (tgt := 23) dX3_addRoot_16 (by decide) h.1 (fun c => ?_) (fun c => ?_)
        · have h := h.2.1 c
          refine av_iconst dX3_addRoot_23 ?_
          refine av_istore (L' := [some (av_r 3), some (av_i a1), some (av_i a2), some (av_i a3), some (av_i 0)]) dX3_addRoot_24 (by decide) rfl ?_
          refine av_iload dX3_addRoot_26 rfl ?_
          refine av_if_eq (tgt := 49) dX3_addRoot_28 (by decide) (by decide) (fun _ => ?_) (fun c => absurd c (by decide))
          refine av_iconst dX3_addRoot_49 ?_
          exact av_zreturn dX3_addRoot_50 rfl (by decide) h
        · have h := h.2.2 c
          refine av_iconst dX3_addRoot_19 ?_
          refine av_goto (tgt := 24) dX3_addRoot_20 (by decide) ?_
          refine av_istore (L' := [some (av_r 3), some (av_i a1), some (av_i a2), some (av_i a3), some (av_i 1)]) dX3_addRoot_24 (by decide) rfl ?_
          refine av_iload dX3_addRoot_26 rfl ?_
          refine av_if_eq (tgt := 49) dX3_addRoot_28 (by decide) (by decide) (fun c => absurd c (by decide)) (fun _ => ?_)
          refine av_aload_n dX3_addRoot_31 rfl rfl ?_
          refine av_get (k := 8) (x := (σ 3 8)) dX3_addRoot_32 rfl rfl iuX3 (by decide) rfl wF_X3_36 rfl rfl ?_
          refine av_bipush dX3_addRoot_35 rfl ?_
          refine av_icmp_ge (tgt := 49) dX3_addRoot_37 (by decide) h.1 (by decide) (fun c => ?_) (fun c => ?_)
          · have h := h.2.1 c
            refine av_iconst dX3_addRoot_49 ?_
            exact av_zreturn dX3_addRoot_50 rfl (by decide) h
          · have h := h.2.2 c
            refine av_aload_n dX3_addRoot_40 rfl rfl ?_
            refine av_getr (k := 7) dX3_addRoot_41 rfl rfl iuX3 (by decide) rfl wF_X3_33 rfl ?_
            refine av_iload_n dX3_addRoot_44 rfl rfl ?_
            refine av_iald (x := (σ 11 (a1).toNat)) dX3_addRoot_45 rfl (by decide) h.1 rfl ?_
            refine av_if_eq (tgt := 51) dX3_addRoot_46 (by decide) h.2.1 (fun c => ?_) (fun c => ?_)
            · have h := h.2.2.1 c
              refine av_aload_n dX3_addRoot_51 rfl rfl ?_
              refine av_getr (k := 0) dX3_addRoot_52 rfl rfl iuX3 (by decide) rfl wF_X3_9 rfl ?_
              refine av_aload_n dX3_addRoot_55 rfl rfl ?_
              refine av_get (k := 8) (x := (σ 3 8)) dX3_addRoot_56 rfl rfl iuX3 (by decide) rfl wF_X3_36 rfl rfl ?_
              refine av_iload_n dX3_addRoot_59 rfl rfl ?_
              refine av_iast dX3_addRoot_60 rfl (by decide) h.1 ?_
              refine av_aload_n dX3_addRoot_61 rfl rfl ?_
              refine av_getr (k := 1) dX3_addRoot_62 rfl rfl iuX3 (by decide) rfl wF_X3_15 rfl ?_
              refine av_aload_n dX3_addRoot_65 rfl rfl ?_
              refine av_get (k := 8) (x := (σ 3 8)) dX3_addRoot_66 rfl rfl iuX3 (by decide) rfl wF_X3_36 rfl rfl ?_
              refine av_iload_n dX3_addRoot_69 rfl rfl ?_
              refine av_callN mX4_lettersIn [av_i a1] [av_i (σ 3 8), av_r 5] dX3_addRoot_70 mbX4_lettersIn rfl wT_X4_lettersIn rfl wNest_X3_53 ⟨Nat.le_of_ble_eq_true rfl, Nat.le_of_ble_eq_true rfl⟩ rfl (Nat.le_of_ble_eq_true rfl) (av_C.mono (fun v s2 hh => ?_) h.2)
              obtain ⟨r2, rfl, h⟩ := hh
              change av_W E cSH mX3_addRoot 73 [some (av_r 3), some (av_i a1), some (av_i a2), some (av_i a3), some (av_i 1)] [av_i r2, av_i (σ 3 8), av_r 5] s2 Q
              refine av_iast dX3_addRoot_73 rfl (by decide) h.1 ?_
              refine av_aload_n dX3_addRoot_74 rfl rfl ?_
              refine av_getr (k := 2) dX3_addRoot_75 rfl rfl iuX3 (by decide) rfl wF_X3_18 rfl ?_
              refine av_aload_n dX3_addRoot_78 rfl rfl ?_
              refine av_get (k := 8) (x := (s2 3 8)) dX3_addRoot_79 rfl rfl iuX3 (by decide) rfl wF_X3_36 rfl rfl ?_
              refine av_iload_n dX3_addRoot_82 rfl rfl ?_
              refine av_iast dX3_addRoot_83 rfl (by decide) h.2.1 ?_
              refine av_aload_n dX3_addRoot_84 rfl rfl ?_
              refine av_getr (k := 3) dX3_addRoot_85 rfl rfl iuX3 (by decide) rfl wF_X3_21 rfl ?_
              refine av_aload_n dX3_addRoot_88 rfl rfl ?_
              refine av_get (k := 8) (x := (s2 3 8)) dX3_addRoot_89 rfl rfl iuX3 (by decide) rfl wF_X3_36 rfl rfl ?_
              refine av_iload_n dX3_addRoot_92 rfl rfl ?_
              refine av_iast dX3_addRoot_93 rfl (by decide) h.2.2.1 ?_
              refine av_aload_n dX3_addRoot_94 rfl rfl ?_
              refine av_getr (k := 7) dX3_addRoot_95 rfl rfl iuX3 (by decide) rfl wF_X3_33 rfl ?_
              refine av_iload_n dX3_addRoot_98 rfl rfl ?_
              refine av_iload_n dX3_addRoot_99 rfl rfl ?_
              refine av_if_le (tgt := 114) dX3_addRoot_100 (by decide) h.2.2.2.1 (fun c => ?_) (fun c => ?_)
              · have h := h.2.2.2.2.1 c
                refine av_iconst dX3_addRoot_114 ?_
                refine av_iload_n dX3_addRoot_115 rfl rfl ?_
                refine av_if_le (tgt := 130) dX3_addRoot_116 (by decide) h.1 (fun c => ?_) (fun c => ?_)
                · have h := h.2.1 c
                  refine av_iconst dX3_addRoot_130 ?_
                  refine av_ior dX3_addRoot_131 ?_
                  refine av_iast dX3_addRoot_132 rfl (by decide) h.1 ?_
                  refine av_aload_n dX3_addRoot_133 rfl rfl ?_
                  refine av_dup dX3_addRoot_134 (fun _ h9 => nomatch h9) ?_
                  refine av_get (k := 8) (x := (s2 3 8)) dX3_addRoot_135 rfl rfl iuX3 (by decide) rfl wF_X3_36 rfl rfl ?_
                  refine av_iconst dX3_addRoot_138 ?_
                  refine av_iadd dX3_addRoot_139 ?_
                  refine av_put (k := 8) tyX3 dX3_addRoot_140 rfl rfl iuX3 tyX3_ok nmX3 (by decide) rfl wF_X3_36 rfl rfl rfl ?_
                  refine av_iconst dX3_addRoot_143 ?_
                  exact av_zreturn dX3_addRoot_144 rfl (by decide) h.2
                · have h := h.2.2 c
                  refine av_iconst dX3_addRoot_119 ?_
                  refine av_iconst dX3_addRoot_120 ?_
                  refine av_aload_n dX3_addRoot_121 rfl rfl ?_
                  refine av_get (k := 8) (x := (s2 3 8)) dX3_addRoot_122 rfl rfl iuX3 (by decide) rfl wF_X3_36 rfl rfl ?_
                  refine av_imul dX3_addRoot_125 ?_
                  refine av_ishl dX3_addRoot_126 ?_
                  refine av_goto (tgt := 131) dX3_addRoot_127 (by decide) ?_
                  refine av_ior dX3_addRoot_131 ?_
                  refine av_iast dX3_addRoot_132 rfl (by decide) h.1 ?_
                  refine av_aload_n dX3_addRoot_133 rfl rfl ?_
                  refine av_dup dX3_addRoot_134 (fun _ h9 => nomatch h9) ?_
                  refine av_get (k := 8) (x := (s2 3 8)) dX3_addRoot_135 rfl rfl iuX3 (by decide) rfl wF_X3_36 rfl rfl ?_
                  refine av_iconst dX3_addRoot_138 ?_
                  refine av_iadd dX3_addRoot_139 ?_
                  refine av_put (k := 8) tyX3 dX3_addRoot_140 rfl rfl iuX3 tyX3_ok nmX3 (by decide) rfl wF_X3_36 rfl rfl rfl ?_
                  refine av_iconst dX3_addRoot_143 ?_
                  exact av_zreturn dX3_addRoot_144 rfl (by decide) h.2
              · have h := h.2.2.2.2.2 c
                refine av_iconst dX3_addRoot_103 ?_
                refine av_iconst dX3_addRoot_104 ?_
                refine av_aload_n dX3_addRoot_105 rfl rfl ?_
                refine av_get (k := 8) (x := (s2 3 8)) dX3_addRoot_106 rfl rfl iuX3 (by decide) rfl wF_X3_36 rfl rfl ?_
                refine av_imul dX3_addRoot_109 ?_
                refine av_ishl dX3_addRoot_110 ?_
                refine av_goto (tgt := 115) dX3_addRoot_111 (by decide) ?_
                refine av_iload_n dX3_addRoot_115 rfl rfl ?_
                refine av_if_le (tgt := 130) dX3_addRoot_116 (by decide) h.1 (fun c => ?_) (fun c => ?_)
                · have h := h.2.1 c
                  refine av_iconst dX3_addRoot_130 ?_
                  refine av_ior dX3_addRoot_131 ?_
                  refine av_iast dX3_addRoot_132 rfl (by decide) h.1 ?_
                  refine av_aload_n dX3_addRoot_133 rfl rfl ?_
                  refine av_dup dX3_addRoot_134 (fun _ h9 => nomatch h9) ?_
                  refine av_get (k := 8) (x := (s2 3 8)) dX3_addRoot_135 rfl rfl iuX3 (by decide) rfl wF_X3_36 rfl rfl ?_
                  refine av_iconst dX3_addRoot_138 ?_
                  refine av_iadd dX3_addRoot_139 ?_
                  refine av_put (k := 8) tyX3 dX3_addRoot_140 rfl rfl iuX3 tyX3_ok nmX3 (by decide) rfl wF_X3_36 rfl rfl rfl ?_
                  refine av_iconst dX3_addRoot_143 ?_
                  exact av_zreturn dX3_addRoot_144 rfl (by decide) h.2
                · have h := h.2.2 c
                  refine av_iconst dX3_addRoot_119 ?_
                  refine av_iconst dX3_addRoot_120 ?_
                  refine av_aload_n dX3_addRoot_121 rfl rfl ?_
                  refine av_get (k := 8) (x := (s2 3 8)) dX3_addRoot_122 rfl rfl iuX3 (by decide) rfl wF_X3_36 rfl rfl ?_
                  refine av_imul dX3_addRoot_125 ?_
                  refine av_ishl dX3_addRoot_126 ?_
                  refine av_goto (tgt := 131) dX3_addRoot_127 (by decide) ?_
                  refine av_ior dX3_addRoot_131 ?_
                  refine av_iast dX3_addRoot_132 rfl (by decide) h.1 ?_
                  refine av_aload_n dX3_addRoot_133 rfl rfl ?_
                  refine av_dup dX3_addRoot_134 (fun _ h9 => nomatch h9) ?_
                  refine av_get (k := 8) (x := (s2 3 8)) dX3_addRoot_135 rfl rfl iuX3 (by decide) rfl wF_X3_36 rfl rfl ?_
                  refine av_iconst dX3_addRoot_138 ?_
                  refine av_iadd dX3_addRoot_139 ?_
                  refine av_put (k := 8) tyX3 dX3_addRoot_140 rfl rfl iuX3 tyX3_ok nmX3 (by decide) rfl wF_X3_36 rfl rfl rfl ?_
                  refine av_iconst dX3_addRoot_143 ?_
                  exact av_zreturn dX3_addRoot_144 rfl (by decide) h.2
            · have h := h.2.2.2 c
              refine av_iconst dX3_addRoot_49 ?_
              exact av_zreturn dX3_addRoot_50 rfl (by decide) h

theorem uX3_addRoot_12 {E : av_E} {σ : av_M} {Q : Option av_V → av_M → Prop} {a1 a2 a3 : Int} (h : (rg a1) ∧ (((a1 ≤ 0) → Q (some (av_i 0)) σ) ∧ ((0 < a1) → (rg a1) ∧ (((216 ≤ a1) → Q (some (av_i 0)) σ) ∧ ((a1 < 216) → (rg a2) ∧ (((0 < a2) → (rg (σ 12 8)) ∧ (((8 ≤ (σ 12 8)) → Q (some (av_i 0)) σ) ∧ (((σ 12 8) < 8) → (0 ≤ a1 ∧ a1 < 216) ∧ ((rg (σ 20 (a1).toNat)) ∧ ((((σ 20 (a1).toNat) = 0) → (0 ≤ (σ 12 8) ∧ (σ 12 8) < 8) ∧ (av_C E cSH mX4_lettersIn [av_i a1] (av_st σ 13 ((σ 12 8)).toNat a1) (fun v s1 => ∃ r1 : Int, v = some (av_i r1) ∧ ((0 ≤ (σ 12 8) ∧ (σ 12 8) < 8) ∧ ((0 ≤ (s1 12 8) ∧ (s1 12 8) < 8) ∧ ((0 ≤ (s1 12 8) ∧ (s1 12 8) < 8) ∧ ((rg a2) ∧ (((a2 ≤ 0) → (rg a3) ∧ (((a3 ≤ 0) → (0 ≤ a1 ∧ a1 < 216) ∧ (Q (some (av_i 1)) (av_st (av_st (av_st (av_st (av_st s1 14 ((σ 12 8)).toNat r1) 15 ((s1 12 8)).toNat a2) 16 ((s1 12 8)).toNat a3) 20 (a1).toNat (i_or 0 0)) 12 8 ((s1 12 8) + 1)))) ∧ ((0 < a3) → (0 ≤ a1 ∧ a1 < 216) ∧ (Q (some (av_i 1)) (av_st (av_st (av_st (av_st (av_st s1 14 ((σ 12 8)).toNat r1) 15 ((s1 12 8)).toNat a2) 16 ((s1 12 8)).toNat a3) 20 (a1).toNat (i_or 0 (i_shl 2 (2 * (s1 12 8))))) 12 8 ((s1 12 8) + 1)))))) ∧ ((0 < a2) → (rg a3) ∧ (((a3 ≤ 0) → (0 ≤ a1 ∧ a1 < 216) ∧ (Q (some (av_i 1)) (av_st (av_st (av_st (av_st (av_st s1 14 ((σ 12 8)).toNat r1) 15 ((s1 12 8)).toNat a2) 16 ((s1 12 8)).toNat a3) 20 (a1).toNat (i_or (i_shl 1 (2 * (s1 12 8))) 0)) 12 8 ((s1 12 8) + 1)))) ∧ ((0 < a3) → (0 ≤ a1 ∧ a1 < 216) ∧ (Q (some (av_i 1)) (av_st (av_st (av_st (av_st (av_st s1 14 ((σ 12 8)).toNat r1) 15 ((s1 12 8)).toNat a2) 16 ((s1 12 8)).toNat a3) 20 (a1).toNat (i_or (i_shl 1 (2 * (s1 12 8))) (i_shl 2 (2 * (s1 12 8))))) 12 8 ((s1 12 8) + 1)))))))))))))) ∧ ((¬ (σ 20 (a1).toNat) = 0) → Q (some (av_i 0)) σ)))))) ∧ ((a2 ≤ 0) → (rg a3) ∧ (((a3 ≤ 0) → Q (some (av_i 0)) σ) ∧ ((0 < a3) → (rg (σ 12 8)) ∧ (((8 ≤ (σ 12 8)) → Q (some (av_i 0)) σ) ∧ (((σ 12 8) < 8) → (0 ≤ a1 ∧ a1 < 216) ∧ ((rg (σ 20 (a1).toNat)) ∧ ((((σ 20 (a1).toNat) = 0) → (0 ≤ (σ 12 8) ∧ (σ 12 8) < 8) ∧ (av_C E cSH mX4_lettersIn [av_i a1] (av_st σ 13 ((σ 12 8)).toNat a1) (fun v s2 => ∃ r2 : Int, v = some (av_i r2) ∧ ((0 ≤ (σ 12 8) ∧ (σ 12 8) < 8) ∧ ((0 ≤ (s2 12 8) ∧ (s2 12 8) < 8) ∧ ((0 ≤ (s2 12 8) ∧ (s2 12 8) < 8) ∧ ((rg a2) ∧ (((a2 ≤ 0) → (rg a3) ∧ (((a3 ≤ 0) → (0 ≤ a1 ∧ a1 < 216) ∧ (Q (some (av_i 1)) (av_st (av_st (av_st (av_st (av_st s2 14 ((σ 12 8)).toNat r2) 15 ((s2 12 8)).toNat a2) 16 ((s2 12 8)).toNat a3) 20 (a1).toNat (i_or 0 0)) 12 8 ((s2 12 8) + 1)))) ∧ ((0 < a3) → (0 ≤ a1 ∧ a1 < 216) ∧ (Q (some (av_i 1)) (av_st (av_st (av_st (av_st (av_st s2 14 ((σ 12 8)).toNat r2) 15 ((s2 12 8)).toNat a2) 16 ((s2 12 8)).toNat a3) 20 (a1).toNat (i_or 0 (i_shl 2 (2 * (s2 12 8))))) 12 8 ((s2 12 8) + 1)))))) ∧ ((0 < a2) → (rg a3) ∧ (((a3 ≤ 0) → (0 ≤ a1 ∧ a1 < 216) ∧ (Q (some (av_i 1)) (av_st (av_st (av_st (av_st (av_st s2 14 ((σ 12 8)).toNat r2) 15 ((s2 12 8)).toNat a2) 16 ((s2 12 8)).toNat a3) 20 (a1).toNat (i_or (i_shl 1 (2 * (s2 12 8))) 0)) 12 8 ((s2 12 8) + 1)))) ∧ ((0 < a3) → (0 ≤ a1 ∧ a1 < 216) ∧ (Q (some (av_i 1)) (av_st (av_st (av_st (av_st (av_st s2 14 ((σ 12 8)).toNat r2) 15 ((s2 12 8)).toNat a2) 16 ((s2 12 8)).toNat a3) 20 (a1).toNat (i_or (i_shl 1 (2 * (s2 12 8))) (i_shl 2 (2 * (s2 12 8))))) 12 8 ((s2 12 8) + 1)))))))))))))) ∧ ((¬ (σ 20 (a1).toNat) = 0) → Q (some (av_i 0)) σ)))))))))))))) :
    av_C E cSH mX3_addRoot [av_r 12, av_i a1, av_i a2, av_i a3] σ Q := by
  refine av_C.ofW (L := [some (av_r 12), some (av_i a1), some (av_i a2), some (av_i a3), none]) (by decide) (Nat.le_of_ble_eq_true rfl) rfl ?_
  refine av_iload_n dX3_addRoot_0 rfl rfl ?_
  refine av_if_le (tgt := 23) dX3_addRoot_1 (by decide) h.1 (fun c => ?_) (fun c => ?_)
  · have h := h.2.1 c
    refine av_iconst dX3_addRoot_23 ?_
    refine av_istore (L' := [some (av_r 12), some (av_i a1), some (av_i a2), some (av_i a3), some (av_i 0)]) dX3_addRoot_24 (by decide) rfl ?_
    refine av_iload dX3_addRoot_26 rfl ?_
    refine av_if_eq (tgt := 49) dX3_addRoot_28 (by decide) (by decide) (fun _ => ?_) (fun c => absurd c (by decide))
    refine av_iconst dX3_addRoot_49 ?_
    exact av_zreturn dX3_addRoot_50 rfl (by decide) h
  · have h := h.2.2 c
    refine av_iload_n dX3_addRoot_4 rfl rfl ?_
    refine av_sipush dX3_addRoot_5 rfl ?_
    refine av_icmp_ge (tgt := 23) dX3_addRoot_8 (by decide) h.1 (by decide) (fun c => ?_) (fun c => ?_)
    · have h := h.2.1 c
      refine av_iconst dX3_addRoot_23 ?_
      refine av_istore (L' := [some (av_r 12), some (av_i a1), some (av_i a2), some (av_i a3), some (av_i 0)]) dX3_addRoot_24 (by decide) rfl ?_
      refine av_iload dX3_addRoot_26 rfl ?_
      refine av_if_eq (tgt := 49) dX3_addRoot_28 (by decide) (by decide) (fun _ => ?_) (fun c => absurd c (by decide))
      refine av_iconst dX3_addRoot_49 ?_
      exact av_zreturn dX3_addRoot_50 rfl (by decide) h
    · have h := h.2.2 c
      refine av_iload_n dX3_addRoot_11 rfl rfl ?_
      refine av_if_gt (tgt := 19) dX3_addRoot_12 (by decide) h.1 (fun c => ?_) (fun c => ?_)
      · have h := h.2.1 c
        refine av_iconst dX3_addRoot_19 ?_
        refine av_goto (tgt := 24) dX3_addRoot_20 (by decide) ?_
        refine av_istore (L' := [some (av_r 12), some (av_i a1), some (av_i a2), some (av_i a3), some (av_i 1)]) dX3_addRoot_24 (by decide) rfl ?_
        refine av_iload dX3_addRoot_26 rfl ?_
        refine av_if_eq (tgt := 49) dX3_addRoot_28 (by decide) (by decide) (fun c => absurd c (by decide)) (fun _ => ?_)
        refine av_aload_n dX3_addRoot_31 rfl rfl ?_
        refine av_get (k := 8) (x := (σ 12 8)) dX3_addRoot_32 rfl rfl iuX3 (by decide) rfl wF_X3_36 rfl rfl ?_
        refine av_bipush dX3_addRoot_35 rfl ?_
        refine av_icmp_ge (tgt := 49) dX3_addRoot_37 (by decide) h.1 (by decide) (fun c => ?_) (fun c => ?_)
        · have h := h.2.1 c
          refine av_iconst dX3_addRoot_49 ?_
          exact av_zreturn dX3_addRoot_50 rfl (by decide) h
        · have h := h.2.2 c
          refine av_aload_n dX3_addRoot_40 rfl rfl ?_
          refine av_getr (k := 7) dX3_addRoot_41 rfl rfl iuX3 (by decide) rfl wF_X3_33 rfl ?_
          refine av_iload_n dX3_addRoot_44 rfl rfl ?_
          refine av_iald (x := (σ 20 (a1).toNat)) dX3_addRoot_45 rfl (by decide) h.1 rfl ?_
          refine av_if_eq (tgt := 51) dX3_addRoot_46 (by decide) h.2.1 (fun c => ?_) (fun c => ?_)
          · have h := h.2.2.1 c
            refine av_aload_n dX3_addRoot_51 rfl rfl ?_
            refine av_getr (k := 0) dX3_addRoot_52 rfl rfl iuX3 (by decide) rfl wF_X3_9 rfl ?_
            refine av_aload_n dX3_addRoot_55 rfl rfl ?_
            refine av_get (k := 8) (x := (σ 12 8)) dX3_addRoot_56 rfl rfl iuX3 (by decide) rfl wF_X3_36 rfl rfl ?_
            refine av_iload_n dX3_addRoot_59 rfl rfl ?_
            refine av_iast dX3_addRoot_60 rfl (by decide) h.1 ?_
            refine av_aload_n dX3_addRoot_61 rfl rfl ?_
            refine av_getr (k := 1) dX3_addRoot_62 rfl rfl iuX3 (by decide) rfl wF_X3_15 rfl ?_
            refine av_aload_n dX3_addRoot_65 rfl rfl ?_
            refine av_get (k := 8) (x := (σ 12 8)) dX3_addRoot_66 rfl rfl iuX3 (by decide) rfl wF_X3_36 rfl rfl ?_
            refine av_iload_n dX3_addRoot_69 rfl rfl ?_
            refine av_callN mX4_lettersIn [av_i a1] [av_i (σ 12 8), av_r 14] dX3_addRoot_70 mbX4_lettersIn rfl wT_X4_lettersIn rfl wNest_X3_53 ⟨Nat.le_of_ble_eq_true rfl, Nat.le_of_ble_eq_true rfl⟩ rfl (Nat.le_of_ble_eq_true rfl) (av_C.mono (fun v s1 hh => ?_) h.2)
            obtain ⟨r1, rfl, h⟩ := hh
            change av_W E cSH mX3_addRoot 73 [some (av_r 12), some (av_i a1), some (av_i a2), some (av_i a3), some (av_i 1)] [av_i r1, av_i (σ 12 8), av_r 14] s1 Q
            refine av_iast dX3_addRoot_73 rfl (by decide) h.1 ?_
            refine av_aload_n dX3_addRoot_74 rfl rfl ?_
            refine av_getr (k := 2) dX3_addRoot_75 rfl rfl iuX3 (by decide) rfl wF_X3_18 rfl ?_
            refine av_aload_n dX3_addRoot_78 rfl rfl ?_
            refine av_get (k := 8) (x := (s1 12 8)) dX3_addRoot_79 rfl rfl iuX3 (by decide) rfl wF_X3_36 rfl rfl ?_
            refine av_iload_n dX3_addRoot_82 rfl rfl ?_
            refine av_iast dX3_addRoot_83 rfl (by decide) h.2.1 ?_
            refine av_aload_n dX3_addRoot_84 rfl rfl ?_
            refine av_getr (k := 3) dX3_addRoot_85 rfl rfl iuX3 (by decide) rfl wF_X3_21 rfl ?_
            refine av_aload_n dX3_addRoot_88 rfl rfl ?_
            refine av_get (k := 8) (x := (s1 12 8)) dX3_addRoot_89 rfl rfl iuX3 (by decide) rfl wF_X3_36 rfl rfl ?_
            refine av_iload_n dX3_addRoot_92 rfl rfl ?_
            refine av_iast dX3_addRoot_93 rfl (by decide) h.2.2.1 ?_
            refine av_aload_n dX3_addRoot_94 rfl rfl ?_
            refine av_getr (k := 7) dX3_addRoot_95 rfl rfl iuX3 (by decide) rfl wF_X3_33 rfl ?_
            refine av_iload_n dX3_addRoot_98 rfl rfl ?_
            refine av_iload_n dX3_addRoot_99 rfl rfl ?_
            refine av_if_le (tgt := 114) dX3_addRoot_100 (by decide) h.2.2.2.1 (fun c => ?_) (fun c => ?_)
            · have h := h.2.2.2.2.1 c
              refine av_iconst dX3_addRoot_114 ?_
              refine av_iload_n dX3_addRoot_115 rfl rfl ?_
              refine av_if_le (tgt := 130) dX3_addRoot_116 (by decide) h.1 (fun c => ?_) (fun c => ?_)
              · have h := h.2.1 c
                refine av_iconst dX3_addRoot_130 ?_
                refine av_ior dX3_addRoot_131 ?_
                refine av_iast dX3_addRoot_132 rfl (by decide) h.1 ?_
                refine av_aload_n dX3_addRoot_133 rfl rfl ?_
                refine av_dup dX3_addRoot_134 (fun _ h9 => nomatch h9) ?_
                refine av_get (k := 8) (x := (s1 12 8)) dX3_addRoot_135 rfl rfl iuX3 (by decide) rfl wF_X3_36 rfl rfl ?_
                refine av_iconst dX3_addRoot_138 ?_
                refine av_iadd dX3_addRoot_139 ?_
                refine av_put (k := 8) tyX3 dX3_addRoot_140 rfl rfl iuX3 tyX3_ok nmX3 (by decide) rfl wF_X3_36 rfl rfl rfl ?_
                refine av_iconst dX3_addRoot_143 ?_
                exact av_zreturn dX3_addRoot_144 rfl (by decide) h.2
              · have h := h.2.2 c
                refine av_iconst dX3_addRoot_119 ?_
                refine av_iconst dX3_addRoot_120 ?_
                refine av_aload_n dX3_addRoot_121 rfl rfl ?_
                refine av_get (k := 8) (x := (s1 12 8)) dX3_addRoot_122 rfl rfl iuX3 (by decide) rfl wF_X3_36 rfl rfl ?_
                refine av_imul dX3_addRoot_125 ?_
                refine av_ishl dX3_addRoot_126 ?_
                refine av_goto (tgt := 131) dX3_addRoot_127 (by decide) ?_
                refine av_ior dX3_addRoot_131 ?_
                refine av_iast dX3_addRoot_132 rfl (by decide) h.1 ?_
                refine av_aload_n dX3_addRoot_133 rfl rfl ?_
                refine av_dup dX3_addRoot_134 (fun _ h9 => nomatch h9) ?_
                refine av_get (k := 8) (x := (s1 12 8)) dX3_addRoot_135 rfl rfl iuX3 (by decide) rfl wF_X3_36 rfl rfl ?_
                refine av_iconst dX3_addRoot_138 ?_
                refine av_iadd dX3_addRoot_139 ?_
                refine av_put (k := 8) tyX3 dX3_addRoot_140 rfl rfl iuX3 tyX3_ok nmX3 (by decide) rfl wF_X3_36 rfl rfl rfl ?_
                refine av_iconst dX3_addRoot_143 ?_
                exact av_zreturn dX3_addRoot_144 rfl (by decide) h.2
            · have h := h.2.2.2.2.2 c
              refine av_iconst dX3_addRoot_103 ?_
              refine av_iconst dX3_addRoot_104 ?_
              refine av_aload_n dX3_addRoot_105 rfl rfl ?_
              refine av_get (k := 8) (x := (s1 12 8)) dX3_addRoot_106 rfl rfl iuX3 (by decide) rfl wF_X3_36 rfl rfl ?_
              refine av_imul dX3_addRoot_109 ?_
              refine av_ishl dX3_addRoot_110 ?_
              refine av_goto (tgt := 115) dX3_addRoot_111 (by decide) ?_
              refine av_iload_n dX3_addRoot_115 rfl rfl ?_
              refine av_if_le (tgt := 130) dX3_addRoot_116 (by decide) h.1 (fun c => ?_) (fun c => ?_)
              · have h := h.2.1 c
                refine av_iconst dX3_addRoot_130 ?_
                refine av_ior dX3_addRoot_131 ?_
                refine av_iast dX3_addRoot_132 rfl (by decide) h.1 ?_
                refine av_aload_n dX3_addRoot_133 rfl rfl ?_
                refine av_dup dX3_addRoot_134 (fun _ h9 => nomatch h9) ?_
                refine av_get (k := 8) (x := (s1 12 8)) dX3_addRoot_135 rfl rfl iuX3 (by decide) rfl wF_X3_36 rfl rfl ?_
                refine av_iconst dX3_addRoot_138 ?_
                refine av_iadd dX3_addRoot_139 ?_
                refine av_put (k := 8) tyX3 dX3_addRoot_140 rfl rfl iuX3 tyX3_ok nmX3 (by decide) rfl wF_X3_36 rfl rfl rfl ?_
                refine av_iconst dX3_addRoot_143 ?_
                exact av_zreturn dX3_addRoot_144 rfl (by decide) h.2
              · have h := h.2.2 c
                refine av_iconst dX3_addRoot_119 ?_
                refine av_iconst dX3_addRoot_120 ?_
                refine av_aload_n dX3_addRoot_121 rfl rfl ?_
                refine av_get (k := 8) (x := (s1 12 8)) dX3_addRoot_122 rfl rfl iuX3 (by decide) rfl wF_X3_36 rfl rfl ?_
                refine av_imul dX3_addRoot_125 ?_
                refine av_ishl dX3_addRoot_126 ?_
                refine av_goto (tgt := 131) dX3_addRoot_127 (by decide) ?_
                refine av_ior dX3_addRoot_131 ?_
                refine av_iast dX3_addRoot_132 rfl (by decide) h.1 ?_
                refine av_aload_n dX3_addRoot_133 rfl rfl ?_
                refine av_dup dX3_addRoot_134 (fun _ h9 => nomatch h9) ?_
                refine av_get (k := 8) (x := (s1 12 8)) dX3_addRoot_135 rfl rfl iuX3 (by decide) rfl wF_X3_36 rfl rfl ?_
                refine av_iconst dX3_addRoot_138 ?_
                refine av_iadd dX3_addRoot_139 ?_
                refine av_put (k := 8) tyX3 dX3_addRoot_140 rfl rfl iuX3 tyX3_ok nmX3 (by decide) rfl wF_X3_36 rfl rfl rfl ?_
                refine av_iconst dX3_addRoot_143 ?_
                exact av_zreturn dX3_addRoot_144 rfl (by decide) h.2
          · have h := h.2.2.2 c
            refine av_iconst dX3_addRoot_49 ?_
            exact av_zreturn dX3_addRoot_50 rfl (by decide) h
      · have h := h.2.2 c
        refine av_iload_n dX3_addRoot_15 rfl rfl ?_
        refine av_if_le (tgt := 23) dX3_addRoot_16 (by decide) h.1 (fun c => ?_) (fun c => ?_)
        · have h := h.2.1 c
          refine av_iconst dX3_addRoot_23 ?_
          refine av_istore (L' := [some (av_r 12), some (av_i a1), some (av_i a2), some (av_i a3), some (av_i 0)]) dX3_addRoot_24 (by decide) rfl ?_
          refine av_iload dX3_addRoot_26 rfl ?_
          refine av_if_eq (tgt := 49) dX3_addRoot_28 (by decide) (by decide) (fun _ => ?_) (fun c => absurd c (by decide))
          refine av_iconst dX3_addRoot_49 ?_
          exact av_zreturn dX3_addRoot_50 rfl (by decide) h
        · have h := h.2.2 c
          refine av_iconst dX3_addRoot_19 ?_
          refine av_goto (tgt := 24) dX3_addRoot_20 (by decide) ?_
          refine av_istore (L' := [some (av_r 12), some (av_i a1), some (av_i a2), some (av_i a3), some (av_i 1)]) dX3_addRoot_24 (by decide) rfl ?_
          refine av_iload dX3_addRoot_26 rfl ?_
          refine av_if_eq (tgt := 49) dX3_addRoot_28 (by decide) (by decide) (fun c => absurd c (by decide)) (fun _ => ?_)
          refine av_aload_n dX3_addRoot_31 rfl rfl ?_
          refine av_get (k := 8) (x := (σ 12 8)) dX3_addRoot_32 rfl rfl iuX3 (by decide) rfl wF_X3_36 rfl rfl ?_
          refine av_bipush dX3_addRoot_35 rfl ?_
          refine av_icmp_ge (tgt := 49) dX3_addRoot_37 (by decide) h.1 (by decide) (fun c => ?_) (fun c => ?_)
          · have h := h.2.1 c
            refine av_iconst dX3_addRoot_49 ?_
            exact av_zreturn dX3_addRoot_50 rfl (by decide) h
          · have h := h.2.2 c
            refine av_aload_n dX3_addRoot_40 rfl rfl ?_
            refine av_getr (k := 7) dX3_addRoot_41 rfl rfl iuX3 (by decide) rfl wF_X3_33 rfl ?_
            refine av_iload_n dX3_addRoot_44 rfl rfl ?_
            refine av_iald (x := (σ 20 (a1).toNat)) dX3_addRoot_45 rfl (by decide) h.1 rfl ?_
            refine av_if_eq (tgt := 51) dX3_addRoot_46 (by decide) h.2.1 (fun c => ?_) (fun c => ?_)
            · have h := h.2.2.1 c
              refine av_aload_n dX3_addRoot_51 rfl rfl ?_
              refine av_getr (k := 0) dX3_addRoot_52 rfl rfl iuX3 (by decide) rfl wF_X3_9 rfl ?_
              refine av_aload_n dX3_addRoot_55 rfl rfl ?_
              refine av_get (k := 8) (x := (σ 12 8)) dX3_addRoot_56 rfl rfl iuX3 (by decide) rfl wF_X3_36 rfl rfl ?_
              refine av_iload_n dX3_addRoot_59 rfl rfl ?_
              refine av_iast dX3_addRoot_60 rfl (by decide) h.1 ?_
              refine av_aload_n dX3_addRoot_61 rfl rfl ?_
              refine av_getr (k := 1) dX3_addRoot_62 rfl rfl iuX3 (by decide) rfl wF_X3_15 rfl ?_
              refine av_aload_n dX3_addRoot_65 rfl rfl ?_
              refine av_get (k := 8) (x := (σ 12 8)) dX3_addRoot_66 rfl rfl iuX3 (by decide) rfl wF_X3_36 rfl rfl ?_
              refine av_iload_n dX3_addRoot_69 rfl rfl ?_
              refine av_callN mX4_lettersIn [av_i a1] [av_i (σ 12 8), av_r 14] dX3_addRoot_70 mbX4_lettersIn rfl wT_X4_lettersIn rfl wNest_X3_53 ⟨Nat.le_of_ble_eq_true rfl, Nat.le_of_ble_eq_true rfl⟩ rfl (Nat.le_of_ble_eq_true rfl) (av_C.mono (fun v s2 hh => ?_) h.2)
              obtain ⟨r2, rfl, h⟩ := hh
              change av_W E cSH mX3_addRoot 73 [some (av_r 12), some (av_i a1), some (av_i a2), some (av_i a3), some (av_i 1)] [av_i r2, av_i (σ 12 8), av_r 14] s2 Q
              refine av_iast dX3_addRoot_73 rfl (by decide) h.1 ?_
              refine av_aload_n dX3_addRoot_74 rfl rfl ?_
              refine av_getr (k := 2) dX3_addRoot_75 rfl rfl iuX3 (by decide) rfl wF_X3_18 rfl ?_
              refine av_aload_n dX3_addRoot_78 rfl rfl ?_
              refine av_get (k := 8) (x := (s2 12 8)) dX3_addRoot_79 rfl rfl iuX3 (by decide) rfl wF_X3_36 rfl rfl ?_
              refine av_iload_n dX3_addRoot_82 rfl rfl ?_
              refine av_iast dX3_addRoot_83 rfl (by decide) h.2.1 ?_
              refine av_aload_n dX3_addRoot_84 rfl rfl ?_
              refine av_getr (k := 3) dX3_addRoot_85 rfl rfl iuX3 (by decide) rfl wF_X3_21 rfl ?_
              refine av_aload_n dX3_addRoot_88 rfl rfl ?_
              refine av_get (k := 8) (x := (s2 12 8)) dX3_addRoot_89 rfl rfl iuX3 (by decide) rfl wF_X3_36 rfl rfl ?_
              refine av_iload_n dX3_addRoot_92 rfl rfl ?_
              refine av_iast dX3_addRoot_93 rfl (by decide) h.2.2.1 ?_
              refine av_aload_n dX3_addRoot_94 rfl rfl ?_
              refine av_getr (k := 7) dX3_addRoot_95 rfl rfl iuX3 (by decide) rfl wF_X3_33 rfl ?_
              refine av_iload_n dX3_addRoot_98 rfl rfl ?_
              refine av_iload_n dX3_addRoot_99 rfl rfl ?_
              refine av_if_le (tgt := 114) dX3_addRoot_100 (by decide) h.2.2.2.1 (fun c => ?_) (fun c => ?_)
              · have h := h.2.2.2.2.1 c
                refine av_iconst dX3_addRoot_114 ?_
                refine av_iload_n dX3_addRoot_115 rfl rfl ?_
                refine av_if_le (tgt := 130) dX3_addRoot_116 (by decide) h.1 (fun c => ?_) (fun c => ?_)
                · have h := h.2.1 c
                  refine av_iconst dX3_addRoot_130 ?_
                  refine av_ior dX3_addRoot_131 ?_
                  refine av_iast dX3_addRoot_132 rfl (by decide) h.1 ?_
                  refine av_aload_n dX3_addRoot_133 rfl rfl ?_
                  refine av_dup dX3_addRoot_134 (fun _ h9 => nomatch h9) ?_
                  refine av_get (k := 8) (x := (s2 12 8)) dX3_addRoot_135 rfl rfl iuX3 (by decide) rfl wF_X3_36 rfl rfl ?_
                  refine av_iconst dX3_addRoot_138 ?_
                  refine av_iadd dX3_addRoot_139 ?_
                  refine av_put (k := 8) tyX3 dX3_addRoot_140 rfl rfl iuX3 tyX3_ok nmX3 (by decide) rfl wF_X3_36 rfl rfl rfl ?_
                  refine av_iconst dX3_addRoot_143 ?_
                  exact av_zreturn dX3_addRoot_144 rfl (by decide) h.2
                · have h := h.2.2 c
                  refine av_iconst dX3_addRoot_119 ?_
                  refine av_iconst dX3_addRoot_120 ?_
                  refine av_aload_n dX3_addRoot_121 rfl rfl ?_
                  refine av_get (k := 8) (x := (s2 12 8)) dX3_addRoot_122 rfl rfl iuX3 (by decide) rfl wF_X3_36 rfl rfl ?_
                  refine av_imul dX3_addRoot_125 ?_
                  refine av_ishl dX3_addRoot_126 ?_
                  refine av_goto (tgt := 131) dX3_addRoot_127 (by decide) ?_
                  refine av_ior dX3_addRoot_131 ?_
                  refine av_iast dX3_addRoot_132 rfl (by decide) h.1 ?_
                  refine av_aload_n dX3_addRoot_133 rfl rfl ?_
                  refine av_dup dX3_addRoot_134 (fun _ h9 => nomatch h9) ?_
                  refine av_get (k := 8) (x := (s2 12 8)) dX3_addRoot_135 rfl rfl iuX3 (by decide) rfl wF_X3_36 rfl rfl ?_
                  refine av_iconst dX3_addRoot_138 ?_
                  refine av_iadd dX3_addRoot_139 ?_
                  refine av_put (k := 8) tyX3 dX3_addRoot_140 rfl rfl iuX3 tyX3_ok nmX3 (by decide) rfl wF_X3_36 rfl rfl rfl ?_
                  refine av_iconst dX3_addRoot_143 ?_
                  exact av_zreturn dX3_addRoot_144 rfl (by decide) h.2
              · have h := h.2.2.2.2.2 c
                refine av_iconst dX3_addRoot_103 ?_
                refine av_iconst dX3_addRoot_104 ?_
                refine av_aload_n dX3_addRoot_105 rfl rfl ?_
                refine av_get (k := 8) (x := (s2 12 8)) dX3_addRoot_106 rfl rfl iuX3 (by decide) rfl wF_X3_36 rfl rfl ?_
                refine av_imul dX3_addRoot_109 ?_
                refine av_ishl dX3_addRoot_110 ?_
                refine av_goto (tgt := 115) dX3_addRoot_111 (by decide) ?_
                refine av_iload_n dX3_addRoot_115 rfl rfl ?_
                refine av_if_le (tgt := 130) dX3_addRoot_116 (by decide) h.1 (fun c => ?_) (fun c => ?_)
                · have h := h.2.1 c
                  refine av_iconst dX3_addRoot_130 ?_
                  refine av_ior dX3_addRoot_131 ?_
                  refine av_iast dX3_addRoot_132 rfl (by decide) h.1 ?_
                  refine av_aload_n dX3_addRoot_133 rfl rfl ?_
                  refine av_dup dX3_addRoot_134 (fun _ h9 => nomatch h9) ?_
                  refine av_get (k := 8) (x := (s2 12 8)) dX3_addRoot_135 rfl rfl iuX3 (by decide) rfl wF_X3_36 rfl rfl ?_
                  refine av_iconst dX3_addRoot_138 ?_
                  refine av_iadd dX3_addRoot_139 ?_
                  refine av_put (k := 8) tyX3 dX3_addRoot_140 rfl rfl iuX3 tyX3_ok nmX3 (by decide) rfl wF_X3_36 rfl rfl rfl ?_
                  refine av_iconst dX3_addRoot_143 ?_
                  exact av_zreturn dX3_addRoot_144 rfl (by decide) h.2
                · have h := h.2.2 c
                  refine av_iconst dX3_addRoot_119 ?_
                  refine av_iconst dX3_addRoot_120 ?_
                  refine av_aload_n dX3_addRoot_121 rfl rfl ?_
                  refine av_get (k := 8) (x := (s2 12 8)) dX3_addRoot_122 rfl rfl iuX3 (by decide) rfl wF_X3_36 rfl rfl ?_
                  refine av_imul dX3_addRoot_125 ?_
                  refine av_ishl dX3_addRoot_126 ?_
                  refine av_goto (tgt := 131) dX3_addRoot_127 (by decide) ?_
                  refine av_ior dX3_addRoot_131 ?_
                  refine av_iast dX3_addRoot_132 rfl (by decide) h.1 ?_
                  refine av_aload_n dX3_addRoot_133 rfl rfl ?_
                  refine av_dup dX3_addRoot_134 (fun _ h9 => nomatch h9) ?_
                  refine av_get (k := 8) (x := (s2 12 8)) dX3_addRoot_135 rfl rfl iuX3 (by decide) rfl wF_X3_36 rfl rfl ?_
                  refine av_iconst dX3_addRoot_138 ?_
                  refine av_iadd dX3_addRoot_139 ?_
                  refine av_put (k := 8) tyX3 dX3_addRoot_140 rfl rfl iuX3 tyX3_ok nmX3 (by decide) rfl wF_X3_36 rfl rfl rfl ?_
                  refine av_iconst dX3_addRoot_143 ?_
                  exact av_zreturn dX3_addRoot_144 rfl (by decide) h.2
            · have h := h.2.2.2 c
              refine av_iconst dX3_addRoot_49 ?_
              exact av_zreturn dX3_addRoot_50 rfl (by decide) h
