theorem uX5_tellsRoot {E : av_E} {σ : av_M} {Q : Option av_V → av_M → Prop} {a1 a2 a3 a4 : Int} (h : (0 ≤ (σ 0 19) ∧ (σ 0 19) < 8) ∧ (av_W E mSH mX5_tellsRoot 13 [some (av_r 0), some (av_i a1), some (av_i a2), some (av_i a3), some (av_i a4), some (av_i 0)] [] (av_st σ 13 ((σ 0 19)).toNat a1) Q)) :
    av_C E mSH mX5_tellsRoot [av_r 0, av_i a1, av_i a2, av_i a3, av_i a4] σ Q := by
  refine av_C.ofW (L := [some (av_r 0), some (av_i a1), some (av_i a2), some (av_i a3), some (av_i a4), none]) (by decide) (Nat.le_of_ble_eq_true rfl) rfl ?_
  refine av_aload_n dX5_tellsRoot_0 rfl rfl ?_
  refine av_getr (k := 20) dX5_tellsRoot_1 rfl rfl iuX5 (by decide) rfl wF_X5_46 rfl ?_
  refine av_aload_n dX5_tellsRoot_4 rfl rfl ?_
  refine av_get (k := 19) (x := (σ 0 19)) dX5_tellsRoot_5 rfl rfl iuX5 (by decide) rfl wF_X5_85 rfl rfl ?_
  refine av_iload_n dX5_tellsRoot_8 rfl rfl ?_
  refine av_iast dX5_tellsRoot_9 rfl (by decide) h.1 ?_
  refine av_iconst dX5_tellsRoot_10 ?_
  refine av_istore (L' := [some (av_r 0), some (av_i a1), some (av_i a2), some (av_i a3), some (av_i a4), some (av_i 0)]) dX5_tellsRoot_11 (by decide) rfl ?_
  exact h.2

theorem uX5_tellsRoot_13 {E : av_E} {σ : av_M} {Q : Option av_V → av_M → Prop} {x1 x2 x3 x4 x5 : Int} (h : (rg x5) ∧ (((3 ≤ x5) → (0 ≤ (σ 0 19) ∧ (σ 0 19) < 8) ∧ ((0 ≤ (σ 0 19) ∧ (σ 0 19) < 8) ∧ (Q none (av_st (av_st (av_st σ 15 ((σ 0 19)).toNat x3) 16 ((σ 0 19)).toNat x4) 0 19 ((σ 0 19) + 1))))) ∧ ((x5 < 3) → (0 ≤ ((3 * (σ 0 19)) + x5) ∧ ((3 * (σ 0 19)) + x5) < 24) ∧ (av_W E mSH mX5_tellsRoot 13 [some (av_r 0), some (av_i x1), some (av_i x2), some (av_i x3), some (av_i x4), some (av_i (x5 + 1))] [] (av_st σ 14 (((3 * (σ 0 19)) + x5)).toNat (i_and (i_shr x2 (3 * x5)) 7)) Q)))) :
    av_W E mSH mX5_tellsRoot 13 [some (av_r 0), some (av_i x1), some (av_i x2), some (av_i x3), some (av_i x4), some (av_i x5)] [] σ Q := by
  refine av_iload dX5_tellsRoot_13 rfl ?_
  refine av_iconst dX5_tellsRoot_15 ?_
  refine av_icmp_ge (tgt := 48) dX5_tellsRoot_16 (by decide) h.1 (by decide) (fun c => ?_) (fun c => ?_)
  · have h := h.2.1 c
    refine av_aload_n dX5_tellsRoot_48 rfl rfl ?_
    refine av_getr (k := 22) dX5_tellsRoot_49 rfl rfl iuX5 (by decide) rfl wF_X5_52 rfl ?_
    refine av_aload_n dX5_tellsRoot_52 rfl rfl ?_
    refine av_get (k := 19) (x := (σ 0 19)) dX5_tellsRoot_53 rfl rfl iuX5 (by decide) rfl wF_X5_85 rfl rfl ?_
    refine av_iload_n dX5_tellsRoot_56 rfl rfl ?_
    refine av_iast dX5_tellsRoot_57 rfl (by decide) h.1 ?_
    refine av_aload_n dX5_tellsRoot_58 rfl rfl ?_
    refine av_getr (k := 23) dX5_tellsRoot_59 rfl rfl iuX5 (by decide) rfl wF_X5_55 rfl ?_
    refine av_aload_n dX5_tellsRoot_62 rfl rfl ?_
    refine av_get (k := 19) (x := (σ 0 19)) dX5_tellsRoot_63 rfl rfl iuX5 (by decide) rfl wF_X5_85 rfl rfl ?_
    refine av_iload dX5_tellsRoot_66 rfl ?_
    refine av_iast dX5_tellsRoot_68 rfl (by decide) h.2.1 ?_
    refine av_aload_n dX5_tellsRoot_69 rfl rfl ?_
    refine av_dup dX5_tellsRoot_70 (fun _ h9 => nomatch h9) ?_
    refine av_get (k := 19) (x := (σ 0 19)) dX5_tellsRoot_71 rfl rfl iuX5 (by decide) rfl wF_X5_85 rfl rfl ?_
    refine av_iconst dX5_tellsRoot_74 ?_
    refine av_iadd dX5_tellsRoot_75 ?_
    refine av_put (k := 19) tyX5 dX5_tellsRoot_76 rfl rfl iuX5 tyX5_ok nmX5 (by decide) rfl wF_X5_85 rfl rfl rfl ?_
    exact av_return dX5_tellsRoot_79 rfl h.2.2
  · have h := h.2.2 c
    refine av_aload_n dX5_tellsRoot_19 rfl rfl ?_
    refine av_getr (k := 21) dX5_tellsRoot_20 rfl rfl iuX5 (by decide) rfl wF_X5_49 rfl ?_
    refine av_iconst dX5_tellsRoot_23 ?_
    refine av_aload_n dX5_tellsRoot_24 rfl rfl ?_
    refine av_get (k := 19) (x := (σ 0 19)) dX5_tellsRoot_25 rfl rfl iuX5 (by decide) rfl wF_X5_85 rfl rfl ?_
    refine av_imul dX5_tellsRoot_28 ?_
    refine av_iload dX5_tellsRoot_29 rfl ?_
    refine av_iadd dX5_tellsRoot_31 ?_
    refine av_iload_n dX5_tellsRoot_32 rfl rfl ?_
    refine av_iconst dX5_tellsRoot_33 ?_
    refine av_iload dX5_tellsRoot_34 rfl ?_
    refine av_imul dX5_tellsRoot_36 ?_
    refine av_ishr dX5_tellsRoot_37 ?_
    refine av_bipush dX5_tellsRoot_38 rfl ?_
    refine av_iand dX5_tellsRoot_40 ?_
    refine av_iast dX5_tellsRoot_41 rfl (by decide) h.1 ?_
    refine av_iinc (L' := [some (av_r 0), some (av_i x1), some (av_i x2), some (av_i x3), some (av_i x4), some (av_i (x5 + 1))]) dX5_tellsRoot_42 rfl (by decide) rfl rfl ?_
    refine av_goto (tgt := 13) dX5_tellsRoot_45 (by decide) ?_
    exact h.2

theorem uX5_tellsReader {E : av_E} {σ : av_M} {Q : Option av_V → av_M → Prop} {a1 a2 a3 : Int} (h : (0 ≤ (3 * (σ 0 24)) ∧ (3 * (σ 0 24)) < 15) ∧ ((0 ≤ ((3 * (σ 0 24)) + 1) ∧ ((3 * (σ 0 24)) + 1) < 15) ∧ ((0 ≤ ((3 * (σ 0 24)) + 2) ∧ ((3 * (σ 0 24)) + 2) < 15) ∧ (Q none (av_st (av_st (av_st (av_st σ 17 ((3 * (σ 0 24))).toNat a1) 17 (((3 * (σ 0 24)) + 1)).toNat a2) 17 (((3 * (σ 0 24)) + 2)).toNat a3) 0 24 ((σ 0 24) + 1)))))) :
    av_C E mSH mX5_tellsReader [av_r 0, av_i a1, av_i a2, av_i a3] σ Q := by
  refine av_C.ofW (L := [some (av_r 0), some (av_i a1), some (av_i a2), some (av_i a3)]) (by decide) (Nat.le_of_ble_eq_true rfl) rfl ?_
  refine av_aload_n dX5_tellsReader_0 rfl rfl ?_
  refine av_getr (k := 25) dX5_tellsReader_1 rfl rfl iuX5 (by decide) rfl wF_X5_58 rfl ?_
  refine av_iconst dX5_tellsReader_4 ?_
  refine av_aload_n dX5_tellsReader_5 rfl rfl ?_
  refine av_get (k := 24) (x := (σ 0 24)) dX5_tellsReader_6 rfl rfl iuX5 (by decide) rfl wF_X5_89 rfl rfl ?_
  refine av_imul dX5_tellsReader_9 ?_
  refine av_iload_n dX5_tellsReader_10 rfl rfl ?_
  refine av_iast dX5_tellsReader_11 rfl (by decide) h.1 ?_
  refine av_aload_n dX5_tellsReader_12 rfl rfl ?_
  refine av_getr (k := 25) dX5_tellsReader_13 rfl rfl iuX5 (by decide) rfl wF_X5_58 rfl ?_
  refine av_iconst dX5_tellsReader_16 ?_
  refine av_aload_n dX5_tellsReader_17 rfl rfl ?_
  refine av_get (k := 24) (x := (σ 0 24)) dX5_tellsReader_18 rfl rfl iuX5 (by decide) rfl wF_X5_89 rfl rfl ?_
  refine av_imul dX5_tellsReader_21 ?_
  refine av_iconst dX5_tellsReader_22 ?_
  refine av_iadd dX5_tellsReader_23 ?_
  refine av_iload_n dX5_tellsReader_24 rfl rfl ?_
  refine av_iast dX5_tellsReader_25 rfl (by decide) h.2.1 ?_
  refine av_aload_n dX5_tellsReader_26 rfl rfl ?_
  refine av_getr (k := 25) dX5_tellsReader_27 rfl rfl iuX5 (by decide) rfl wF_X5_58 rfl ?_
  refine av_iconst dX5_tellsReader_30 ?_
  refine av_aload_n dX5_tellsReader_31 rfl rfl ?_
  refine av_get (k := 24) (x := (σ 0 24)) dX5_tellsReader_32 rfl rfl iuX5 (by decide) rfl wF_X5_89 rfl rfl ?_
  refine av_imul dX5_tellsReader_35 ?_
  refine av_iconst dX5_tellsReader_36 ?_
  refine av_iadd dX5_tellsReader_37 ?_
  refine av_iload_n dX5_tellsReader_38 rfl rfl ?_
  refine av_iast dX5_tellsReader_39 rfl (by decide) h.2.2.1 ?_
  refine av_aload_n dX5_tellsReader_40 rfl rfl ?_
  refine av_dup dX5_tellsReader_41 (fun _ h9 => nomatch h9) ?_
  refine av_get (k := 24) (x := (σ 0 24)) dX5_tellsReader_42 rfl rfl iuX5 (by decide) rfl wF_X5_89 rfl rfl ?_
  refine av_iconst dX5_tellsReader_45 ?_
  refine av_iadd dX5_tellsReader_46 ?_
  refine av_put (k := 24) tyX5 dX5_tellsReader_47 rfl rfl iuX5 tyX5_ok nmX5 (by decide) rfl wF_X5_89 rfl rfl rfl ?_
  exact av_return dX5_tellsReader_50 rfl h.2.2.2

theorem uX5_tellsAll {E : av_E} {σ : av_M} {Q : Option av_V → av_M → Prop} (h : av_C E mSH mX5_tellsRoot [av_r 0, av_i 1, av_i 0, av_i 5, av_i 1] σ (fun v s1 => v = none ∧ (av_C E mSH mX5_tellsRoot [av_r 0, av_i 1, av_i 1, av_i 0, av_i 2] s1 (fun v s2 => v = none ∧ (av_C E mSH mX5_tellsRoot [av_r 0, av_i 2, av_i 8, av_i 12, av_i 0] s2 (fun v s3 => v = none ∧ (av_C E mSH mX5_tellsRoot [av_r 0, av_i 2, av_i 1, av_i 7, av_i 3] s3 (fun v s4 => v = none ∧ (av_C E mSH mX5_tellsRoot [av_r 0, av_i 1, av_i 2, av_i 3, av_i 0] s4 (fun v s5 => v = none ∧ (av_C E mSH mX5_tellsRoot [av_r 0, av_i 2, av_i 26, av_i 20, av_i 2] s5 (fun v s6 => v = none ∧ (av_C E mSH mX5_tellsRoot [av_r 0, av_i 1, av_i 3, av_i 1, av_i 1] s6 (fun v s7 => v = none ∧ (av_C E mSH mX5_tellsRoot [av_r 0, av_i 3, av_i 67, av_i 40, av_i 0] s7 (fun v s8 => v = none ∧ (av_C E mSH mX5_tellsReader [av_r 0, av_i 0, av_i 2, av_i 5] s8 (fun v s9 => v = none ∧ (av_C E mSH mX5_tellsReader [av_r 0, av_i 1, av_i 1, av_i 3] s9 (fun v s10 => v = none ∧ (av_C E mSH mX5_tellsReader [av_r 0, av_i 2, av_i 3, av_i 12] s10 (fun v s11 => v = none ∧ (av_C E mSH mX5_tellsReader [av_r 0, av_i 3, av_i 1, av_i 0] s11 (fun v s12 => v = none ∧ (av_C E mSH mX5_tellsReader [av_r 0, av_i 4, av_i 4, av_i 8] s12 (fun v s13 => v = none ∧ (Q none (av_st (av_st (av_st (av_st (av_st (av_st (av_st (av_st (av_st (av_st (av_st (av_st s13 0 26 7) 18 0 0) 18 1 1) 18 2 0) 18 3 2) 18 4 3) 18 5 0) 18 6 1) 19 0 18) 19 1 4) 19 2 3) 0 29 25)))))))))))))))))))))))))))) :
    av_C E mSH mX5_tellsAll [av_r 0] σ Q := by
  refine av_C.ofW (L := [some (av_r 0)]) (by decide) (Nat.le_of_ble_eq_true rfl) rfl ?_
  refine av_aload_n dX5_tellsAll_0 rfl rfl ?_
  refine av_iconst dX5_tellsAll_1 ?_
  refine av_iconst dX5_tellsAll_2 ?_
  refine av_iconst dX5_tellsAll_3 ?_
  refine av_iconst dX5_tellsAll_4 ?_
  refine av_callV mX5_tellsRoot [av_i 1, av_i 0, av_i 5, av_i 1] [] dX5_tellsAll_5 rfl rfl rfl mbX5_tellsRoot rfl wI_X5_tellsRoot wS_X5_tellsRoot rfl wM_X5_92 ⟨Nat.le_of_ble_eq_true rfl, Nat.le_of_ble_eq_true rfl⟩ rfl (Nat.le_of_ble_eq_true rfl) (av_C.mono (fun v s1 hh => ?_) h)
  obtain ⟨rfl, h⟩ := hh
  change av_W E mSH mX5_tellsAll 8 [some (av_r 0)] [] s1 Q
  refine av_aload_n dX5_tellsAll_8 rfl rfl ?_
  refine av_iconst dX5_tellsAll_9 ?_
  refine av_iconst dX5_tellsAll_10 ?_
  refine av_iconst dX5_tellsAll_11 ?_
  refine av_iconst dX5_tellsAll_12 ?_
  refine av_callV mX5_tellsRoot [av_i 1, av_i 1, av_i 0, av_i 2] [] dX5_tellsAll_13 rfl rfl rfl mbX5_tellsRoot rfl wI_X5_tellsRoot wS_X5_tellsRoot rfl wM_X5_92 ⟨Nat.le_of_ble_eq_true rfl, Nat.le_of_ble_eq_true rfl⟩ rfl (Nat.le_of_ble_eq_true rfl) (av_C.mono (fun v s2 hh => ?_) h)
  obtain ⟨rfl, h⟩ := hh
  change av_W E mSH mX5_tellsAll 16 [some (av_r 0)] [] s2 Q
  refine av_aload_n dX5_tellsAll_16 rfl rfl ?_
  refine av_iconst dX5_tellsAll_17 ?_
  refine av_bipush dX5_tellsAll_18 rfl ?_
  refine av_bipush dX5_tellsAll_20 rfl ?_
  refine av_iconst dX5_tellsAll_22 ?_
  refine av_callV mX5_tellsRoot [av_i 2, av_i 8, av_i 12, av_i 0] [] dX5_tellsAll_23 rfl rfl rfl mbX5_tellsRoot rfl wI_X5_tellsRoot wS_X5_tellsRoot rfl wM_X5_92 ⟨Nat.le_of_ble_eq_true rfl, Nat.le_of_ble_eq_true rfl⟩ rfl (Nat.le_of_ble_eq_true rfl) (av_C.mono (fun v s3 hh => ?_) h)
  obtain ⟨rfl, h⟩ := hh
  change av_W E mSH mX5_tellsAll 26 [some (av_r 0)] [] s3 Q
  refine av_aload_n dX5_tellsAll_26 rfl rfl ?_
  refine av_iconst dX5_tellsAll_27 ?_
  refine av_iconst dX5_tellsAll_28 ?_
  refine av_bipush dX5_tellsAll_29 rfl ?_
  refine av_iconst dX5_tellsAll_31 ?_
  refine av_callV mX5_tellsRoot [av_i 2, av_i 1, av_i 7, av_i 3] [] dX5_tellsAll_32 rfl rfl rfl mbX5_tellsRoot rfl wI_X5_tellsRoot wS_X5_tellsRoot rfl wM_X5_92 ⟨Nat.le_of_ble_eq_true rfl, Nat.le_of_ble_eq_true rfl⟩ rfl (Nat.le_of_ble_eq_true rfl) (av_C.mono (fun v s4 hh => ?_) h)
  obtain ⟨rfl, h⟩ := hh
  change av_W E mSH mX5_tellsAll 35 [some (av_r 0)] [] s4 Q
  refine av_aload_n dX5_tellsAll_35 rfl rfl ?_
  refine av_iconst dX5_tellsAll_36 ?_
  refine av_iconst dX5_tellsAll_37 ?_
  refine av_iconst dX5_tellsAll_38 ?_
  refine av_iconst dX5_tellsAll_39 ?_
  refine av_callV mX5_tellsRoot [av_i 1, av_i 2, av_i 3, av_i 0] [] dX5_tellsAll_40 rfl rfl rfl mbX5_tellsRoot rfl wI_X5_tellsRoot wS_X5_tellsRoot rfl wM_X5_92 ⟨Nat.le_of_ble_eq_true rfl, Nat.le_of_ble_eq_true rfl⟩ rfl (Nat.le_of_ble_eq_true rfl) (av_C.mono (fun v s5 hh => ?_) h)
  obtain ⟨rfl, h⟩ := hh
  change av_W E mSH mX5_tellsAll 43 [some (av_r 0)] [] s5 Q
  refine av_aload_n dX5_tellsAll_43 rfl rfl ?_
  refine av_iconst dX5_tellsAll_44 ?_
  refine av_bipush dX5_tellsAll_45 rfl ?_
  refine av_bipush dX5_tellsAll_47 rfl ?_
  refine av_iconst dX5_tellsAll_49 ?_
  refine av_callV mX5_tellsRoot [av_i 2, av_i 26, av_i 20, av_i 2] [] dX5_tellsAll_50 rfl rfl rfl mbX5_tellsRoot rfl wI_X5_tellsRoot wS_X5_tellsRoot rfl wM_X5_92 ⟨Nat.le_of_ble_eq_true rfl, Nat.le_of_ble_eq_true rfl⟩ rfl (Nat.le_of_ble_eq_true rfl) (av_C.mono (fun v s6 hh => ?_) h)
  obtain ⟨rfl, h⟩ := hh
  change av_W E mSH mX5_tellsAll 53 [some (av_r 0)] [] s6 Q
  refine av_aload_n dX5_tellsAll_53 rfl rfl ?_
  refine av_iconst dX5_tellsAll_54 ?_
  refine av_iconst dX5_tellsAll_55 ?_
  refine av_iconst dX5_tellsAll_56 ?_
  refine av_iconst dX5_tellsAll_57 ?_
  refine av_callV mX5_tellsRoot [av_i 1, av_i 3, av_i 1, av_i 1] [] dX5_tellsAll_58 rfl rfl rfl mbX5_tellsRoot rfl wI_X5_tellsRoot wS_X5_tellsRoot rfl wM_X5_92 ⟨Nat.le_of_ble_eq_true rfl, Nat.le_of_ble_eq_true rfl⟩ rfl (Nat.le_of_ble_eq_true rfl) (av_C.mono (fun v s7 hh => ?_) h)
  obtain ⟨rfl, h⟩ := hh
  change av_W E mSH mX5_tellsAll 61 [some (av_r 0)] [] s7 Q
  refine av_aload_n dX5_tellsAll_61 rfl rfl ?_
  refine av_iconst dX5_tellsAll_62 ?_
  refine av_bipush dX5_tellsAll_63 rfl ?_
  refine av_bipush dX5_tellsAll_65 rfl ?_
  refine av_iconst dX5_tellsAll_67 ?_
  refine av_callV mX5_tellsRoot [av_i 3, av_i 67, av_i 40, av_i 0] [] dX5_tellsAll_68 rfl rfl rfl mbX5_tellsRoot rfl wI_X5_tellsRoot wS_X5_tellsRoot rfl wM_X5_92 ⟨Nat.le_of_ble_eq_true rfl, Nat.le_of_ble_eq_true rfl⟩ rfl (Nat.le_of_ble_eq_true rfl) (av_C.mono (fun v s8 hh => ?_) h)
  obtain ⟨rfl, h⟩ := hh
  change av_W E mSH mX5_tellsAll 71 [some (av_r 0)] [] s8 Q
  refine av_aload_n dX5_tellsAll_71 rfl rfl ?_
  refine av_iconst dX5_tellsAll_72 ?_
  refine av_iconst dX5_tellsAll_73 ?_
  refine av_iconst dX5_tellsAll_74 ?_
  refine av_callV mX5_tellsReader [av_i 0, av_i 2, av_i 5] [] dX5_tellsAll_75 rfl rfl rfl mbX5_tellsReader rfl wI_X5_tellsReader wS_X5_tellsReader rfl wM_X5_96 ⟨Nat.le_of_ble_eq_true rfl, Nat.le_of_ble_eq_true rfl⟩ rfl (Nat.le_of_ble_eq_true rfl) (av_C.mono (fun v s9 hh => ?_) h)
  obtain ⟨rfl, h⟩ := hh
  change av_W E mSH mX5_tellsAll 78 [some (av_r 0)] [] s9 Q
  refine av_aload_n dX5_tellsAll_78 rfl rfl ?_
  refine av_iconst dX5_tellsAll_79 ?_
  refine av_iconst dX5_tellsAll_80 ?_
  refine av_iconst dX5_tellsAll_81 ?_
  refine av_callV mX5_tellsReader [av_i 1, av_i 1, av_i 3] [] dX5_tellsAll_82 rfl rfl rfl mbX5_tellsReader rfl wI_X5_tellsReader wS_X5_tellsReader rfl wM_X5_96 ⟨Nat.le_of_ble_eq_true rfl, Nat.le_of_ble_eq_true rfl⟩ rfl (Nat.le_of_ble_eq_true rfl) (av_C.mono (fun v s10 hh => ?_) h)
  obtain ⟨rfl, h⟩ := hh
  change av_W E mSH mX5_tellsAll 85 [some (av_r 0)] [] s10 Q
  refine av_aload_n dX5_tellsAll_85 rfl rfl ?_
  refine av_iconst dX5_tellsAll_86 ?_
  refine av_iconst dX5_tellsAll_87 ?_
  refine av_bipush dX5_tellsAll_88 rfl ?_
  refine av_callV mX5_tellsReader [av_i 2, av_i 3, av_i 12] [] dX5_tellsAll_90 rfl rfl rfl mbX5_tellsReader rfl wI_X5_tellsReader wS_X5_tellsReader rfl wM_X5_96 ⟨Nat.le_of_ble_eq_true rfl, Nat.le_of_ble_eq_true rfl⟩ rfl (Nat.le_of_ble_eq_true rfl) (av_C.mono (fun v s11 hh => ?_) h)
  obtain ⟨rfl, h⟩ := hh
  change av_W E mSH mX5_tellsAll 93 [some (av_r 0)] [] s11 Q
  refine av_aload_n dX5_tellsAll_93 rfl rfl ?_
  refine av_iconst dX5_tellsAll_94 ?_
  refine av_iconst dX5_tellsAll_95 ?_
  refine av_iconst dX5_tellsAll_96 ?_
  refine av_callV mX5_tellsReader [av_i 3, av_i 1, av_i 0] [] dX5_tellsAll_97 rfl rfl rfl mbX5_tellsReader rfl wI_X5_tellsReader wS_X5_tellsReader rfl wM_X5_96 ⟨Nat.le_of_ble_eq_true rfl, Nat.le_of_ble_eq_true rfl⟩ rfl (Nat.le_of_ble_eq_true rfl) (av_C.mono (fun v s12 hh => ?_) h)
  obtain ⟨rfl, h⟩ := hh
  change av_W E mSH mX5_tellsAll 100 [some (av_r 0)] [] s12 Q
  refine av_aload_n dX5_tellsAll_100 rfl rfl ?_
  refine av_iconst dX5_tellsAll_101 ?_
  refine av_iconst dX5_tellsAll_102 ?_
  refine av_bipush dX5_tellsAll_103 rfl ?_
  refine av_callV mX5_tellsReader [av_i 4, av_i 4, av_i 8] [] dX5_tellsAll_105 rfl rfl rfl mbX5_tellsReader rfl wI_X5_tellsReader wS_X5_tellsReader rfl wM_X5_96 ⟨Nat.le_of_ble_eq_true rfl, Nat.le_of_ble_eq_true rfl⟩ rfl (Nat.le_of_ble_eq_true rfl) (av_C.mono (fun v s13 hh => ?_) h)
  obtain ⟨rfl, h⟩ := hh
  change av_W E mSH mX5_tellsAll 108 [some (av_r 0)] [] s13 Q
  refine av_aload_n dX5_tellsAll_108 rfl rfl ?_
  refine av_bipush dX5_tellsAll_109 rfl ?_
  refine av_put (k := 26) tyX5 dX5_tellsAll_111 rfl rfl iuX5 tyX5_ok nmX5 (by decide) rfl wF_X5_100 rfl rfl rfl ?_
  refine av_aload_n dX5_tellsAll_114 rfl rfl ?_
  refine av_getr (k := 27) dX5_tellsAll_115 rfl rfl iuX5 (by decide) rfl wF_X5_61 rfl ?_
  refine av_iconst dX5_tellsAll_118 ?_
  refine av_iconst dX5_tellsAll_119 ?_
  refine av_iast dX5_tellsAll_120 rfl (by decide) (by decide) ?_
  refine av_aload_n dX5_tellsAll_121 rfl rfl ?_
  refine av_getr (k := 27) dX5_tellsAll_122 rfl rfl iuX5 (by decide) rfl wF_X5_61 rfl ?_
  refine av_iconst dX5_tellsAll_125 ?_
  refine av_iconst dX5_tellsAll_126 ?_
  refine av_iast dX5_tellsAll_127 rfl (by decide) (by decide) ?_
  refine av_aload_n dX5_tellsAll_128 rfl rfl ?_
  refine av_getr (k := 27) dX5_tellsAll_129 rfl rfl iuX5 (by decide) rfl wF_X5_61 rfl ?_
  refine av_iconst dX5_tellsAll_132 ?_
  refine av_iconst dX5_tellsAll_133 ?_
  refine av_iast dX5_tellsAll_134 rfl (by decide) (by decide) ?_
  refine av_aload_n dX5_tellsAll_135 rfl rfl ?_
  refine av_getr (k := 27) dX5_tellsAll_136 rfl rfl iuX5 (by decide) rfl wF_X5_61 rfl ?_
  refine av_iconst dX5_tellsAll_139 ?_
  refine av_iconst dX5_tellsAll_140 ?_
  refine av_iast dX5_tellsAll_141 rfl (by decide) (by decide) ?_
  refine av_aload_n dX5_tellsAll_142 rfl rfl ?_
  refine av_getr (k := 27) dX5_tellsAll_143 rfl rfl iuX5 (by decide) rfl wF_X5_61 rfl ?_
  refine av_iconst dX5_tellsAll_146 ?_
  refine av_iconst dX5_tellsAll_147 ?_
  refine av_iast dX5_tellsAll_148 rfl (by decide) (by decide) ?_
  refine av_aload_n dX5_tellsAll_149 rfl rfl ?_
  refine av_getr (k := 27) dX5_tellsAll_150 rfl rfl iuX5 (by decide) rfl wF_X5_61 rfl ?_
  refine av_iconst dX5_tellsAll_153 ?_
  refine av_iconst dX5_tellsAll_154 ?_
  refine av_iast dX5_tellsAll_155 rfl (by decide) (by decide) ?_
  refine av_aload_n dX5_tellsAll_156 rfl rfl ?_
  refine av_getr (k := 27) dX5_tellsAll_157 rfl rfl iuX5 (by decide) rfl wF_X5_61 rfl ?_
  refine av_bipush dX5_tellsAll_160 rfl ?_
  refine av_iconst dX5_tellsAll_162 ?_
  refine av_iast dX5_tellsAll_163 rfl (by decide) (by decide) ?_
  refine av_aload_n dX5_tellsAll_164 rfl rfl ?_
  refine av_getr (k := 28) dX5_tellsAll_165 rfl rfl iuX5 (by decide) rfl wF_X5_64 rfl ?_
  refine av_iconst dX5_tellsAll_168 ?_
  refine av_bipush dX5_tellsAll_169 rfl ?_
  refine av_iast dX5_tellsAll_171 rfl (by decide) (by decide) ?_
  refine av_aload_n dX5_tellsAll_172 rfl rfl ?_
  refine av_getr (k := 28) dX5_tellsAll_173 rfl rfl iuX5 (by decide) rfl wF_X5_64 rfl ?_
  refine av_iconst dX5_tellsAll_176 ?_
  refine av_iconst dX5_tellsAll_177 ?_
  refine av_iast dX5_tellsAll_178 rfl (by decide) (by decide) ?_
  refine av_aload_n dX5_tellsAll_179 rfl rfl ?_
  refine av_getr (k := 28) dX5_tellsAll_180 rfl rfl iuX5 (by decide) rfl wF_X5_64 rfl ?_
  refine av_iconst dX5_tellsAll_183 ?_
  refine av_iconst dX5_tellsAll_184 ?_
  refine av_iast dX5_tellsAll_185 rfl (by decide) (by decide) ?_
  refine av_aload_n dX5_tellsAll_186 rfl rfl ?_
  refine av_bipush dX5_tellsAll_187 rfl ?_
  refine av_put (k := 29) tyX5 dX5_tellsAll_189 rfl rfl iuX5 tyX5_ok nmX5 (by decide) rfl wF_X5_103 rfl rfl rfl ?_
  exact av_return dX5_tellsAll_192 rfl h

theorem uX5_in {E : av_E} {σ : av_M} {Q : Option av_V → av_M → Prop} {a1 a2 a3 : Int} (h : (rg a1) ∧ ((rg a2) ∧ (((a1 < a2) → Q (some (av_i 0)) σ) ∧ ((a2 ≤ a1) → (rg a1) ∧ ((rg a3) ∧ (((a3 < a1) → Q (some (av_i 0)) σ) ∧ ((a1 ≤ a3) → Q (some (av_i 1)) σ))))))) :
    av_C E mSH mX5_in [av_i a1, av_i a2, av_i a3] σ Q := by
  refine av_C.ofW (L := [some (av_i a1), some (av_i a2), some (av_i a3)]) (by decide) (Nat.le_of_ble_eq_true rfl) rfl ?_
  refine av_iload_n dX5_in_0 rfl rfl ?_
  refine av_iload_n dX5_in_1 rfl rfl ?_
  refine av_icmp_lt (tgt := 14) dX5_in_2 (by decide) h.1 h.2.1 (fun c => ?_) (fun c => ?_)
  · have h := h.2.2.1 c
    refine av_iconst dX5_in_14 ?_
    exact av_zreturn dX5_in_15 rfl (by decide) h
  · have h := h.2.2.2 c
    refine av_iload_n dX5_in_5 rfl rfl ?_
    refine av_iload_n dX5_in_6 rfl rfl ?_
    refine av_icmp_gt (tgt := 14) dX5_in_7 (by decide) h.1 h.2.1 (fun c => ?_) (fun c => ?_)
    · have h := h.2.2.1 c
      refine av_iconst dX5_in_14 ?_
      exact av_zreturn dX5_in_15 rfl (by decide) h
    · have h := h.2.2.2 c
      refine av_iconst dX5_in_10 ?_
      refine av_goto (tgt := 15) dX5_in_11 (by decide) ?_
      exact av_zreturn dX5_in_15 rfl (by decide) h

theorem uX5_has {E : av_E} {σ : av_M} {Q : Option av_V → av_M → Prop} {a1 a2 : Int} (h : (rg (i_and (i_shr a1 a2) 1)) ∧ (((¬ (i_and (i_shr a1 a2) 1) = 1) → Q (some (av_i 0)) σ) ∧ (((i_and (i_shr a1 a2) 1) = 1) → Q (some (av_i 1)) σ))) :
    av_C E mSH mX5_has [av_i a1, av_i a2] σ Q := by
  refine av_C.ofW (L := [some (av_i a1), some (av_i a2)]) (by decide) (Nat.le_of_ble_eq_true rfl) rfl ?_
  refine av_iload_n dX5_has_0 rfl rfl ?_
  refine av_iload_n dX5_has_1 rfl rfl ?_
  refine av_ishr dX5_has_2 ?_
  refine av_iconst dX5_has_3 ?_
  refine av_iand dX5_has_4 ?_
  refine av_iconst dX5_has_5 ?_
  refine av_icmp_ne (tgt := 13) dX5_has_6 (by decide) h.1 (by decide) (fun c => ?_) (fun c => ?_)
  · have h := h.2.1 c
    refine av_iconst dX5_has_13 ?_
    exact av_zreturn dX5_has_14 rfl (by decide) h
  · have h := h.2.2 c
    refine av_iconst dX5_has_9 ?_
    refine av_goto (tgt := 14) dX5_has_10 (by decide) ?_
    exact av_zreturn dX5_has_14 rfl (by decide) h

theorem uX5_isReader {E : av_E} {σ : av_M} {Q : Option av_V → av_M → Prop} {a1 : Int} (h : av_C E mSH mX5_in [av_i a1, av_i 0, av_i ((σ 0 5) - 1)] σ (fun v s1 => ∃ r1 : Int, v = some (av_i r1) ∧ ((r1 = 0 ∨ r1 = 1) ∧ (Q (some (av_i r1)) s1)))) :
    av_C E mSH mX5_isReader [av_r 0, av_i a1] σ Q := by
  refine av_C.ofW (L := [some (av_r 0), some (av_i a1)]) (by decide) (Nat.le_of_ble_eq_true rfl) rfl ?_
  refine av_iload_n dX5_isReader_0 rfl rfl ?_
  refine av_iconst dX5_isReader_1 ?_
  refine av_aload_n dX5_isReader_2 rfl rfl ?_
  refine av_get (k := 5) (x := (σ 0 5)) dX5_isReader_3 rfl rfl iuX5 (by decide) rfl wF_X5_106 rfl rfl ?_
  refine av_iconst dX5_isReader_6 ?_
  refine av_isub dX5_isReader_7 ?_
  refine av_callS mX5_in [av_i a1, av_i 0, av_i ((σ 0 5) - 1)] [] dX5_isReader_8 mbX5_in rfl wT_X5_in rfl wM_X5_109 ⟨Nat.le_of_ble_eq_true rfl, Nat.le_of_ble_eq_true rfl⟩ rfl (Nat.le_of_ble_eq_true rfl) (av_C.mono (fun v s1 hh => ?_) h)
  obtain ⟨r1, rfl, h⟩ := hh
  change av_W E mSH mX5_isReader 11 [some (av_r 0), some (av_i a1)] [av_i r1] s1 Q
  exact av_zreturn dX5_isReader_11 rfl h.1 h.2

theorem uX5_write {E : av_E} {σ : av_M} {Q : Option av_V → av_M → Prop} {a1 : Int} (h : av_C E mSH mX5_in [av_i a1, av_i 32, av_i 126] σ (fun v s1 => ∃ r1 : Int, v = some (av_i r1) ∧ ((rg r1) ∧ (((¬ r1 = 0) → (rg (s1 0 16)) ∧ (((¬ (s1 0 16) = 200) → (0 ≤ (s1 0 16) ∧ (s1 0 16) < 200) ∧ (Q (some (av_i ((s1 0 16) + 1))) (av_st (av_st s1 11 ((s1 0 16)).toNat a1) 0 16 ((s1 0 16) + 1)))) ∧ (((s1 0 16) = 200) → Q (some (av_i (-3))) s1))) ∧ ((r1 = 0) → Q (some (av_i (-1))) s1))))) :
    av_C E mSH mX5_write [av_r 0, av_i a1] σ Q := by
  refine av_C.ofW (L := [some (av_r 0), some (av_i a1)]) (by decide) (Nat.le_of_ble_eq_true rfl) rfl ?_
  refine av_iload_n dX5_write_0 rfl rfl ?_
  refine av_bipush dX5_write_1 rfl ?_
  refine av_bipush dX5_write_3 rfl ?_
  refine av_callS mX5_in [av_i a1, av_i 32, av_i 126] [] dX5_write_5 mbX5_in rfl wT_X5_in rfl wM_X5_109 ⟨Nat.le_of_ble_eq_true rfl, Nat.le_of_ble_eq_true rfl⟩ rfl (Nat.le_of_ble_eq_true rfl) (av_C.mono (fun v s1 hh => ?_) h)
  obtain ⟨r1, rfl, h⟩ := hh
  change av_W E mSH mX5_write 8 [some (av_r 0), some (av_i a1)] [av_i r1] s1 Q
  refine av_if_ne (tgt := 13) dX5_write_8 (by decide) h.1 (fun c => ?_) (fun c => ?_)
  · have h := h.2.1 c
    refine av_aload_n dX5_write_13 rfl rfl ?_
    refine av_get (k := 16) (x := (s1 0 16)) dX5_write_14 rfl rfl iuX5 (by decide) rfl wF_X5_113 rfl rfl ?_
    refine av_sipush dX5_write_17 rfl ?_
    refine av_icmp_ne (tgt := 26) dX5_write_20 (by decide) h.1 (by decide) (fun c => ?_) (fun c => ?_)
    · have h := h.2.1 c
      refine av_aload_n dX5_write_26 rfl rfl ?_
      refine av_getr (k := 15) dX5_write_27 rfl rfl iuX5 (by decide) rfl wF_X5_40 rfl ?_
      refine av_aload_n dX5_write_30 rfl rfl ?_
      refine av_get (k := 16) (x := (s1 0 16)) dX5_write_31 rfl rfl iuX5 (by decide) rfl wF_X5_113 rfl rfl ?_
      refine av_iload_n dX5_write_34 rfl rfl ?_
      refine av_iast dX5_write_35 rfl (by decide) h.1 ?_
      refine av_aload_n dX5_write_36 rfl rfl ?_
      refine av_dup dX5_write_37 (fun _ h9 => nomatch h9) ?_
      refine av_get (k := 16) (x := (s1 0 16)) dX5_write_38 rfl rfl iuX5 (by decide) rfl wF_X5_113 rfl rfl ?_
      refine av_iconst dX5_write_41 ?_
      refine av_iadd dX5_write_42 ?_
      refine av_put (k := 16) tyX5 dX5_write_43 rfl rfl iuX5 tyX5_ok nmX5 (by decide) rfl wF_X5_113 rfl rfl rfl ?_
      refine av_aload_n dX5_write_46 rfl rfl ?_
      refine av_get (k := 16) (x := ((s1 0 16) + 1)) dX5_write_47 rfl rfl iuX5 (by decide) rfl wF_X5_113 rfl rfl ?_
      exact av_ireturn dX5_write_50 rfl h.2
    · have h := h.2.2 c
      refine av_bipush dX5_write_23 rfl ?_
      exact av_ireturn dX5_write_25 rfl h
  · have h := h.2.2 c
    refine av_iconst dX5_write_11 ?_
    exact av_ireturn dX5_write_12 rfl h

theorem uX5_wipe {E : av_E} {σ : av_M} {Q : Option av_V → av_M → Prop} (h : Q (some (av_i (σ 0 16))) (av_st σ 0 16 0)) :
    av_C E mSH mX5_wipe [av_r 0] σ Q := by
  refine av_C.ofW (L := [some (av_r 0), none]) (by decide) (Nat.le_of_ble_eq_true rfl) rfl ?_
  refine av_aload_n dX5_wipe_0 rfl rfl ?_
  refine av_get (k := 16) (x := (σ 0 16)) dX5_wipe_1 rfl rfl iuX5 (by decide) rfl wF_X5_113 rfl rfl ?_
  refine av_istore_n (L' := [some (av_r 0), some (av_i (σ 0 16))]) dX5_wipe_4 rfl (by decide) rfl ?_
  refine av_aload_n dX5_wipe_5 rfl rfl ?_
  refine av_iconst dX5_wipe_6 ?_
  refine av_put (k := 16) tyX5 dX5_wipe_7 rfl rfl iuX5 tyX5_ok nmX5 (by decide) rfl wF_X5_113 rfl rfl rfl ?_
  refine av_iload_n dX5_wipe_10 rfl rfl ?_
  exact av_ireturn dX5_wipe_11 rfl h

theorem uX5_letterAt {E : av_E} {σ : av_M} {Q : Option av_V → av_M → Prop} {a1 : Int} (h : (rg a1) ∧ ((rg (σ 0 16)) ∧ ((((σ 0 16) ≤ a1) → Q (some (av_i (-1))) σ) ∧ ((a1 < (σ 0 16)) → (0 ≤ a1 ∧ a1 < 200) ∧ (Q (some (av_i (σ 11 (a1).toNat))) σ))))) :
    av_C E mSH mX5_letterAt [av_r 0, av_i a1] σ Q := by
  refine av_C.ofW (L := [some (av_r 0), some (av_i a1)]) (by decide) (Nat.le_of_ble_eq_true rfl) rfl ?_
  refine av_iload_n dX5_letterAt_0 rfl rfl ?_
  refine av_aload_n dX5_letterAt_1 rfl rfl ?_
  refine av_get (k := 16) (x := (σ 0 16)) dX5_letterAt_2 rfl rfl iuX5 (by decide) rfl wF_X5_113 rfl rfl ?_
  refine av_icmp_ge (tgt := 17) dX5_letterAt_5 (by decide) h.1 h.2.1 (fun c => ?_) (fun c => ?_)
  · have h := h.2.2.1 c
    refine av_iconst dX5_letterAt_17 ?_
    exact av_ireturn dX5_letterAt_18 rfl h
  · have h := h.2.2.2 c
    refine av_aload_n dX5_letterAt_8 rfl rfl ?_
    refine av_getr (k := 15) dX5_letterAt_9 rfl rfl iuX5 (by decide) rfl wF_X5_40 rfl ?_
    refine av_iload_n dX5_letterAt_12 rfl rfl ?_
    refine av_iald (x := (σ 11 (a1).toNat)) dX5_letterAt_13 rfl (by decide) h.1 rfl ?_
    refine av_goto (tgt := 18) dX5_letterAt_14 (by decide) ?_
    exact av_ireturn dX5_letterAt_18 rfl h.2

theorem uX5_isFigure {E : av_E} {σ : av_M} {Q : Option av_V → av_M → Prop} {a1 : Int} (h : av_C E mSH mX5_in [av_i a1, av_i 48, av_i 57] σ (fun v s1 => ∃ r1 : Int, v = some (av_i r1) ∧ ((r1 = 0 ∨ r1 = 1) ∧ (Q (some (av_i r1)) s1)))) :
    av_C E mSH mX5_isFigure [av_i a1] σ Q := by
  refine av_C.ofW (L := [some (av_i a1)]) (by decide) (Nat.le_of_ble_eq_true rfl) rfl ?_
  refine av_iload_n dX5_isFigure_0 rfl rfl ?_
  refine av_bipush dX5_isFigure_1 rfl ?_
  refine av_bipush dX5_isFigure_3 rfl ?_
  refine av_callS mX5_in [av_i a1, av_i 48, av_i 57] [] dX5_isFigure_5 mbX5_in rfl wT_X5_in rfl wM_X5_109 ⟨Nat.le_of_ble_eq_true rfl, Nat.le_of_ble_eq_true rfl⟩ rfl (Nat.le_of_ble_eq_true rfl) (av_C.mono (fun v s1 hh => ?_) h)
  obtain ⟨r1, rfl, h⟩ := hh
  change av_W E mSH mX5_isFigure 8 [some (av_i a1)] [av_i r1] s1 Q
  exact av_zreturn dX5_isFigure_8 rfl h.1 h.2

theorem uX5_readNumbers {E : av_E} {σ : av_M} {Q : Option av_V → av_M → Prop} {a1 : Int} (h : av_W E mSH mX5_readNumbers 2 [some (av_r 0), some (av_i a1), some (av_i 0)] [] σ Q) :
    av_C E mSH mX5_readNumbers [av_r 0, av_i a1] σ Q := by
  refine av_C.ofW (L := [some (av_r 0), some (av_i a1), none]) (by decide) (Nat.le_of_ble_eq_true rfl) rfl ?_
  refine av_iconst dX5_readNumbers_0 ?_
  refine av_istore_n (L' := [some (av_r 0), some (av_i a1), some (av_i 0)]) dX5_readNumbers_1 rfl (by decide) rfl ?_
  exact h

theorem uX5_readNumbers_2 {E : av_E} {σ : av_M} {Q : Option av_V → av_M → Prop} {x1 x2 : Int} (h : (rg x2) ∧ ((rg x1) ∧ (((x1 ≤ x2) → Q (some (av_i 1)) σ) ∧ ((x2 < x1) → av_C E mSH mX5_letterAt [av_r 0, av_i (σ 0 17)] σ (fun v s1 => ∃ r1 : Int, v = some (av_i r1) ∧ (av_C E mSH mX5_isFigure [av_i r1] s1 (fun v s2 => ∃ r2 : Int, v = some (av_i r2) ∧ ((rg r2) ∧ (((¬ r2 = 0) → av_C E mSH mX5_letterAt [av_r 0, av_i (s2 0 17)] s2 (fun v s3 => ∃ r3 : Int, v = some (av_i r3) ∧ ((0 ≤ x2 ∧ x2 < 3) ∧ (av_C E mSH mX5_letterAt [av_r 0, av_i ((s3 0 17) + 1)] (av_st (av_st s3 12 (x2).toNat (r3 - 48)) 0 17 ((s3 0 17) + 1)) (fun v s4 => ∃ r4 : Int, v = some (av_i r4) ∧ (av_C E mSH mX5_isFigure [av_i r4] s4 (fun v s5 => ∃ r5 : Int, v = some (av_i r5) ∧ ((rg r5) ∧ (((r5 = 0) → av_C E mSH mX5_letterAt [av_r 0, av_i (s5 0 17)] s5 (fun v s6 => ∃ r6 : Int, v = some (av_i r6) ∧ ((rg x2) ∧ ((rg (x1 - 1)) ∧ ((((x1 - 1) ≤ x2) → (rg r6) ∧ (((r6 = 59) → av_W E mSH mX5_readNumbers 2 [some (av_r 0), some (av_i x1), some (av_i (x2 + 1))] [] (av_st s6 0 17 ((s6 0 17) + 1)) Q) ∧ ((¬ r6 = 59) → Q (some (av_i 0)) s6))) ∧ ((x2 < (x1 - 1)) → (rg r6) ∧ (((r6 = 44) → av_W E mSH mX5_readNumbers 2 [some (av_r 0), some (av_i x1), some (av_i (x2 + 1))] [] (av_st s6 0 17 ((s6 0 17) + 1)) Q) ∧ ((¬ r6 = 44) → Q (some (av_i 0)) s6)))))))) ∧ ((¬ r5 = 0) → (0 ≤ x2 ∧ x2 < 3) ∧ (av_C E mSH mX5_letterAt [av_r 0, av_i (s5 0 17)] s5 (fun v s7 => ∃ r7 : Int, v = some (av_i r7) ∧ ((0 ≤ x2 ∧ x2 < 3) ∧ (av_C E mSH mX5_letterAt [av_r 0, av_i ((s7 0 17) + 1)] (av_st (av_st s7 12 (x2).toNat (((10 * (s5 12 (x2).toNat)) + r7) - 48)) 0 17 ((s7 0 17) + 1)) (fun v s8 => ∃ r8 : Int, v = some (av_i r8) ∧ ((rg x2) ∧ ((rg (x1 - 1)) ∧ ((((x1 - 1) ≤ x2) → (rg r8) ∧ (((r8 = 59) → av_W E mSH mX5_readNumbers 2 [some (av_r 0), some (av_i x1), some (av_i (x2 + 1))] [] (av_st s8 0 17 ((s8 0 17) + 1)) Q) ∧ ((¬ r8 = 59) → Q (some (av_i 0)) s8))) ∧ ((x2 < (x1 - 1)) → (rg r8) ∧ (((r8 = 44) → av_W E mSH mX5_readNumbers 2 [some (av_r 0), some (av_i x1), some (av_i (x2 + 1))] [] (av_st s8 0 17 ((s8 0 17) + 1)) Q) ∧ ((¬ r8 = 44) → Q (some (av_i 0)) s8))))))))))))))))))))) ∧ ((r2 = 0) → Q (some (av_i 0)) s2)))))))))) :
    av_W E mSH mX5_readNumbers 2 [some (av_r 0), some (av_i x1), some (av_i x2)] [] σ Q := by
  refine av_iload_n dX5_readNumbers_2 rfl rfl ?_
  refine av_iload_n dX5_readNumbers_3 rfl rfl ?_
  refine av_icmp_ge (tgt := 144) dX5_readNumbers_4 (by decide) h.1 h.2.1 (fun c => ?_) (fun c => ?_)
  · have h := h.2.2.1 c
    refine av_iconst dX5_readNumbers_144 ?_
    exact av_zreturn dX5_readNumbers_145 rfl (by decide) h
  · have h := h.2.2.2 c
    refine av_aload_n dX5_readNumbers_7 rfl rfl ?_
    refine av_aload_n dX5_readNumbers_8 rfl rfl ?_
    refine av_get (k := 17) (x := (σ 0 17)) dX5_readNumbers_9 rfl rfl iuX5 (by decide) rfl wF_X5_116 rfl rfl ?_
    refine av_callV mX5_letterAt [av_i (σ 0 17)] [] dX5_readNumbers_12 rfl rfl rfl mbX5_letterAt rfl wI_X5_letterAt wS_X5_letterAt rfl wM_X5_119 ⟨Nat.le_of_ble_eq_true rfl, Nat.le_of_ble_eq_true rfl⟩ rfl (Nat.le_of_ble_eq_true rfl) (av_C.mono (fun v s1 hh => ?_) h)
    obtain ⟨r1, rfl, h⟩ := hh
    change av_W E mSH mX5_readNumbers 15 [some (av_r 0), some (av_i x1), some (av_i x2)] [av_i r1] s1 Q
    refine av_callS mX5_isFigure [av_i r1] [] dX5_readNumbers_15 mbX5_isFigure rfl wT_X5_isFigure rfl wM_X5_123 ⟨Nat.le_of_ble_eq_true rfl, Nat.le_of_ble_eq_true rfl⟩ rfl (Nat.le_of_ble_eq_true rfl) (av_C.mono (fun v s2 hh => ?_) h)
    obtain ⟨r2, rfl, h⟩ := hh
    change av_W E mSH mX5_readNumbers 18 [some (av_r 0), some (av_i x1), some (av_i x2)] [av_i r2] s2 Q
    refine av_if_ne (tgt := 23) dX5_readNumbers_18 (by decide) h.1 (fun c => ?_) (fun c => ?_)
    · have h := h.2.1 c
      refine av_aload_n dX5_readNumbers_23 rfl rfl ?_
      refine av_getr (k := 18) dX5_readNumbers_24 rfl rfl iuX5 (by decide) rfl wF_X5_43 rfl ?_
      refine av_iload_n dX5_readNumbers_27 rfl rfl ?_
      refine av_aload_n dX5_readNumbers_28 rfl rfl ?_
      refine av_aload_n dX5_readNumbers_29 rfl rfl ?_
      refine av_get (k := 17) (x := (s2 0 17)) dX5_readNumbers_30 rfl rfl iuX5 (by decide) rfl wF_X5_116 rfl rfl ?_
      refine av_callV mX5_letterAt [av_i (s2 0 17)] [av_i x2, av_r 12] dX5_readNumbers_33 rfl rfl rfl mbX5_letterAt rfl wI_X5_letterAt wS_X5_letterAt rfl wM_X5_119 ⟨Nat.le_of_ble_eq_true rfl, Nat.le_of_ble_eq_true rfl⟩ rfl (Nat.le_of_ble_eq_true rfl) (av_C.mono (fun v s3 hh => ?_) h)
      obtain ⟨r3, rfl, h⟩ := hh
      change av_W E mSH mX5_readNumbers 36 [some (av_r 0), some (av_i x1), some (av_i x2)] [av_i r3, av_i x2, av_r 12] s3 Q
      refine av_bipush dX5_readNumbers_36 rfl ?_
      refine av_isub dX5_readNumbers_38 ?_
      refine av_iast dX5_readNumbers_39 rfl (by decide) h.1 ?_
      refine av_aload_n dX5_readNumbers_40 rfl rfl ?_
      refine av_dup dX5_readNumbers_41 (fun _ h9 => nomatch h9) ?_
      refine av_get (k := 17) (x := (s3 0 17)) dX5_readNumbers_42 rfl rfl iuX5 (by decide) rfl wF_X5_116 rfl rfl ?_
      refine av_iconst dX5_readNumbers_45 ?_
      refine av_iadd dX5_readNumbers_46 ?_
      refine av_put (k := 17) tyX5 dX5_readNumbers_47 rfl rfl iuX5 tyX5_ok nmX5 (by decide) rfl wF_X5_116 rfl rfl rfl ?_
      refine av_aload_n dX5_readNumbers_50 rfl rfl ?_
      refine av_aload_n dX5_readNumbers_51 rfl rfl ?_
      refine av_get (k := 17) (x := ((s3 0 17) + 1)) dX5_readNumbers_52 rfl rfl iuX5 (by decide) rfl wF_X5_116 rfl rfl ?_
      refine av_callV mX5_letterAt [av_i ((s3 0 17) + 1)] [] dX5_readNumbers_55 rfl rfl rfl mbX5_letterAt rfl wI_X5_letterAt wS_X5_letterAt rfl wM_X5_119 ⟨Nat.le_of_ble_eq_true rfl, Nat.le_of_ble_eq_true rfl⟩ rfl (Nat.le_of_ble_eq_true rfl) (av_C.mono (fun v s4 hh => ?_) h.2)
      obtain ⟨r4, rfl, h⟩ := hh
      change av_W E mSH mX5_readNumbers 58 [some (av_r 0), some (av_i x1), some (av_i x2)] [av_i r4] s4 Q
      refine av_callS mX5_isFigure [av_i r4] [] dX5_readNumbers_58 mbX5_isFigure rfl wT_X5_isFigure rfl wM_X5_123 ⟨Nat.le_of_ble_eq_true rfl, Nat.le_of_ble_eq_true rfl⟩ rfl (Nat.le_of_ble_eq_true rfl) (av_C.mono (fun v s5 hh => ?_) h)
      obtain ⟨r5, rfl, h⟩ := hh
      change av_W E mSH mX5_readNumbers 61 [some (av_r 0), some (av_i x1), some (av_i x2)] [av_i r5] s5 Q
      refine av_if_eq (tgt := 101) dX5_readNumbers_61 (by decide) h.1 (fun c => ?_) (fun c => ?_)
      · have h := h.2.1 c
        refine av_aload_n dX5_readNumbers_101 rfl rfl ?_
        refine av_aload_n dX5_readNumbers_102 rfl rfl ?_
        refine av_get (k := 17) (x := (s5 0 17)) dX5_readNumbers_103 rfl rfl iuX5 (by decide) rfl wF_X5_116 rfl rfl ?_
        refine av_callV mX5_letterAt [av_i (s5 0 17)] [] dX5_readNumbers_106 rfl rfl rfl mbX5_letterAt rfl wI_X5_letterAt wS_X5_letterAt rfl wM_X5_119 ⟨Nat.le_of_ble_eq_true rfl, Nat.le_of_ble_eq_true rfl⟩ rfl (Nat.le_of_ble_eq_true rfl) (av_C.mono (fun v s6 hh => ?_) h)
        obtain ⟨r6, rfl, h⟩ := hh
        change av_W E mSH mX5_readNumbers 109 [some (av_r 0), some (av_i x1), some (av_i x2)] [av_i r6] s6 Q
        refine av_iload_n dX5_readNumbers_109 rfl rfl ?_
        refine av_iload_n dX5_readNumbers_110 rfl rfl ?_
        refine av_iconst dX5_readNumbers_111 ?_
        refine av_isub dX5_readNumbers_112 ?_
        refine av_icmp_ge (tgt := 121) dX5_readNumbers_113 (by decide) h.1 h.2.1 (fun c => ?_) (fun c => ?_)
        · have h := h.2.2.1 c
          refine av_bipush dX5_readNumbers_121 rfl ?_
          refine av_icmp_eq (tgt := 128) dX5_readNumbers_123 (by decide) h.1 (by decide) (fun c => ?_) (fun c => ?_)
          · have h := h.2.1 c
            refine av_aload_n dX5_readNumbers_128 rfl rfl ?_
            refine av_dup dX5_readNumbers_129 (fun _ h9 => nomatch h9) ?_
            refine av_get (k := 17) (x := (s6 0 17)) dX5_readNumbers_130 rfl rfl iuX5 (by decide) rfl wF_X5_116 rfl rfl ?_
            refine av_iconst dX5_readNumbers_133 ?_
            refine av_iadd dX5_readNumbers_134 ?_
            refine av_put (k := 17) tyX5 dX5_readNumbers_135 rfl rfl iuX5 tyX5_ok nmX5 (by decide) rfl wF_X5_116 rfl rfl rfl ?_
            refine av_iinc (L' := [some (av_r 0), some (av_i x1), some (av_i (x2 + 1))]) dX5_readNumbers_138 rfl (by decide) rfl rfl ?_
            refine av_goto (tgt := 2) dX5_readNumbers_141 (by decide) ?_
            exact h
          · have h := h.2.2 c
            refine av_iconst dX5_readNumbers_126 ?_
            exact av_zreturn dX5_readNumbers_127 rfl (by decide) h
        · have h := h.2.2.2 c
          refine av_bipush dX5_readNumbers_116 rfl ?_
          refine av_goto (tgt := 123) dX5_readNumbers_118 (by decide) ?_
          refine av_icmp_eq (tgt := 128) dX5_readNumbers_123 (by decide) h.1 (by decide) (fun c => ?_) (fun c => ?_)
          · have h := h.2.1 c
            refine av_aload_n dX5_readNumbers_128 rfl rfl ?_
            refine av_dup dX5_readNumbers_129 (fun _ h9 => nomatch h9) ?_
            refine av_get (k := 17) (x := (s6 0 17)) dX5_readNumbers_130 rfl rfl iuX5 (by decide) rfl wF_X5_116 rfl rfl ?_
            refine av_iconst dX5_readNumbers_133 ?_
            refine av_iadd dX5_readNumbers_134 ?_
            refine av_put (k := 17) tyX5 dX5_readNumbers_135 rfl rfl iuX5 tyX5_ok nmX5 (by decide) rfl wF_X5_116 rfl rfl rfl ?_
            refine av_iinc (L' := [some (av_r 0), some (av_i x1), some (av_i (x2 + 1))]) dX5_readNumbers_138 rfl (by decide) rfl rfl ?_
            refine av_goto (tgt := 2) dX5_readNumbers_141 (by decide) ?_
            exact h
          · have h := h.2.2 c
            refine av_iconst dX5_readNumbers_126 ?_
            exact av_zreturn dX5_readNumbers_127 rfl (by decide) h
      · have h := h.2.2 c
        refine av_aload_n dX5_readNumbers_64 rfl rfl ?_
        refine av_getr (k := 18) dX5_readNumbers_65 rfl rfl iuX5 (by decide) rfl wF_X5_43 rfl ?_
        refine av_iload_n dX5_readNumbers_68 rfl rfl ?_
        refine av_bipush dX5_readNumbers_69 rfl ?_
        refine av_aload_n dX5_readNumbers_71 rfl rfl ?_
        refine av_getr (k := 18) dX5_readNumbers_72 rfl rfl iuX5 (by decide) rfl wF_X5_43 rfl ?_
        refine av_iload_n dX5_readNumbers_75 rfl rfl ?_
        refine av_iald (x := (s5 12 (x2).toNat)) dX5_readNumbers_76 rfl (by decide) h.1 rfl ?_
        refine av_imul dX5_readNumbers_77 ?_
        refine av_aload_n dX5_readNumbers_78 rfl rfl ?_
        refine av_aload_n dX5_readNumbers_79 rfl rfl ?_
        refine av_get (k := 17) (x := (s5 0 17)) dX5_readNumbers_80 rfl rfl iuX5 (by decide) rfl wF_X5_116 rfl rfl ?_
        refine av_callV mX5_letterAt [av_i (s5 0 17)] [av_i (10 * (s5 12 (x2).toNat)), av_i x2, av_r 12] dX5_readNumbers_83 rfl rfl rfl mbX5_letterAt rfl wI_X5_letterAt wS_X5_letterAt rfl wM_X5_119 ⟨Nat.le_of_ble_eq_true rfl, Nat.le_of_ble_eq_true rfl⟩ rfl (Nat.le_of_ble_eq_true rfl) (av_C.mono (fun v s7 hh => ?_) h.2)
        obtain ⟨r7, rfl, h⟩ := hh
        change av_W E mSH mX5_readNumbers 86 [some (av_r 0), some (av_i x1), some (av_i x2)] [av_i r7, av_i (10 * (s5 12 (x2).toNat)), av_i x2, av_r 12] s7 Q
        refine av_iadd dX5_readNumbers_86 ?_
        refine av_bipush dX5_readNumbers_87 rfl ?_
        refine av_isub dX5_readNumbers_89 ?_
        refine av_iast dX5_readNumbers_90 rfl (by decide) h.1 ?_
        refine av_aload_n dX5_readNumbers_91 rfl rfl ?_
        refine av_dup dX5_readNumbers_92 (fun _ h9 => nomatch h9) ?_
        refine av_get (k := 17) (x := (s7 0 17)) dX5_readNumbers_93 rfl rfl iuX5 (by decide) rfl wF_X5_116 rfl rfl ?_
        refine av_iconst dX5_readNumbers_96 ?_
        refine av_iadd dX5_readNumbers_97 ?_
        refine av_put (k := 17) tyX5 dX5_readNumbers_98 rfl rfl iuX5 tyX5_ok nmX5 (by decide) rfl wF_X5_116 rfl rfl rfl ?_
        refine av_aload_n dX5_readNumbers_101 rfl rfl ?_
        refine av_aload_n dX5_readNumbers_102 rfl rfl ?_
        refine av_get (k := 17) (x := ((s7 0 17) + 1)) dX5_readNumbers_103 rfl rfl iuX5 (by decide) rfl wF_X5_116 rfl rfl ?_
        refine av_callV mX5_letterAt [av_i ((s7 0 17) + 1)] [] dX5_readNumbers_106 rfl rfl rfl mbX5_letterAt rfl wI_X5_letterAt wS_X5_letterAt rfl wM_X5_119 ⟨Nat.le_of_ble_eq_true rfl, Nat.le_of_ble_eq_true rfl⟩ rfl (Nat.le_of_ble_eq_true rfl) (av_C.mono (fun v s8 hh => ?_) h.2)
        obtain ⟨r8, rfl, h⟩ := hh
        change av_W E mSH mX5_readNumbers 109 [some (av_r 0), some (av_i x1), some (av_i x2)] [av_i r8] s8 Q
        refine av_iload_n dX5_readNumbers_109 rfl rfl ?_
        refine av_iload_n dX5_readNumbers_110 rfl rfl ?_
        refine av_iconst dX5_readNumbers_111 ?_
        refine av_isub dX5_readNumbers_112 ?_
        refine av_icmp_ge (tgt := 121) dX5_readNumbers_113 (by decide) h.1 h.2.1 (fun c => ?_) (fun c => ?_)
        · have h := h.2.2.1 c
          refine av_bipush dX5_readNumbers_121 rfl ?_
          refine av_icmp_eq (tgt := 128) dX5_readNumbers_123 (by decide) h.1 (by decide) (fun c => ?_) (fun c => ?_)
          · have h := h.2.1 c
            refine av_aload_n dX5_readNumbers_128 rfl rfl ?_
            refine av_dup dX5_readNumbers_129 (fun _ h9 => nomatch h9) ?_
            refine av_get (k := 17) (x := (s8 0 17)) dX5_readNumbers_130 rfl rfl iuX5 (by decide) rfl wF_X5_116 rfl rfl ?_
            refine av_iconst dX5_readNumbers_133 ?_
            refine av_iadd dX5_readNumbers_134 ?_
            refine av_put (k := 17) tyX5 dX5_readNumbers_135 rfl rfl iuX5 tyX5_ok nmX5 (by decide) rfl wF_X5_116 rfl rfl rfl ?_
            refine av_iinc (L' := [some (av_r 0), some (av_i x1), some (av_i (x2 + 1))]) dX5_readNumbers_138 rfl (by decide) rfl rfl ?_
            refine av_goto (tgt := 2) dX5_readNumbers_141 (by decide) ?_
            exact h
          · have h := h.2.2 c
            refine av_iconst dX5_readNumbers_126 ?_
            exact av_zreturn dX5_readNumbers_127 rfl (by decide) h
        · have h := h.2.2.2 c
          refine av_bipush dX5_readNumbers_116 rfl ?_
          refine av_goto (tgt := 123) dX5_readNumbers_118 (by decide) ?_
          refine av_icmp_eq (tgt := 128) dX5_readNumbers_123 (by decide) h.1 (by decide) (fun c => ?_) (fun c => ?_)
          · have h := h.2.1 c
            refine av_aload_n dX5_readNumbers_128 rfl rfl ?_
            refine av_dup dX5_readNumbers_129 (fun _ h9 => nomatch h9) ?_
            refine av_get (k := 17) (x := (s8 0 17)) dX5_readNumbers_130 rfl rfl iuX5 (by decide) rfl wF_X5_116 rfl rfl ?_
            refine av_iconst dX5_readNumbers_133 ?_
            refine av_iadd dX5_readNumbers_134 ?_
            refine av_put (k := 17) tyX5 dX5_readNumbers_135 rfl rfl iuX5 tyX5_ok nmX5 (by decide) rfl wF_X5_116 rfl rfl rfl ?_
            refine av_iinc (L' := [some (av_r 0), some (av_i x1), some (av_i (x2 + 1))]) dX5_readNumbers_138 rfl (by decide) rfl rfl ?_
            refine av_goto (tgt := 2) dX5_readNumbers_141 (by decide) ?_
            exact h
          · have h := h.2.2 c
            refine av_iconst dX5_readNumbers_126 ?_
            exact av_zreturn dX5_readNumbers_127 rfl (by decide) h
    · have h := h.2.2 c
      refine av_iconst dX5_readNumbers_21 ?_
      exact av_zreturn dX5_readNumbers_22 rfl (by decide) h

theorem uX5_isTold {E : av_E} {σ : av_M} {Q : Option av_V → av_M → Prop} {a1 a2 a3 : Int} (h : (0 ≤ a1 ∧ a1 < 3) ∧ (av_C E mSH mX5_in [av_i (σ 12 (a1).toNat), av_i a2, av_i a3] σ (fun v s1 => ∃ r1 : Int, v = some (av_i r1) ∧ ((r1 = 0 ∨ r1 = 1) ∧ (Q (some (av_i r1)) s1))))) :
    av_C E mSH mX5_isTold [av_r 0, av_i a1, av_i a2, av_i a3] σ Q := by
  refine av_C.ofW (L := [some (av_r 0), some (av_i a1), some (av_i a2), some (av_i a3)]) (by decide) (Nat.le_of_ble_eq_true rfl) rfl ?_
  refine av_aload_n dX5_isTold_0 rfl rfl ?_
  refine av_getr (k := 18) dX5_isTold_1 rfl rfl iuX5 (by decide) rfl wF_X5_43 rfl ?_
  refine av_iload_n dX5_isTold_4 rfl rfl ?_
  refine av_iald (x := (σ 12 (a1).toNat)) dX5_isTold_5 rfl (by decide) h.1 rfl ?_
  refine av_iload_n dX5_isTold_6 rfl rfl ?_
  refine av_iload_n dX5_isTold_7 rfl rfl ?_
  refine av_callS mX5_in [av_i (σ 12 (a1).toNat), av_i a2, av_i a3] [] dX5_isTold_8 mbX5_in rfl wT_X5_in rfl wM_X5_109 ⟨Nat.le_of_ble_eq_true rfl, Nat.le_of_ble_eq_true rfl⟩ rfl (Nat.le_of_ble_eq_true rfl) (av_C.mono (fun v s1 hh => ?_) h.2)
  obtain ⟨r1, rfl, h⟩ := hh
  change av_W E mSH mX5_isTold 11 [some (av_r 0), some (av_i a1), some (av_i a2), some (av_i a3)] [av_i r1] s1 Q
  exact av_zreturn dX5_isTold_11 rfl h.1 h.2

theorem uX5_clearTold {E : av_E} {σ : av_M} {Q : Option av_V → av_M → Prop} (h : Q none (av_st (av_st (av_st (av_st (av_st (av_st (av_st σ 0 19 0) 0 24 0) 0 26 0) 19 0 20) 19 1 6) 19 2 3) 0 29 30)) :
    av_C E mSH mX5_clearTold [av_r 0] σ Q := by
  refine av_C.ofW (L := [some (av_r 0)]) (by decide) (Nat.le_of_ble_eq_true rfl) rfl ?_
  refine av_aload_n dX5_clearTold_0 rfl rfl ?_
  refine av_iconst dX5_clearTold_1 ?_
  refine av_put (k := 19) tyX5 dX5_clearTold_2 rfl rfl iuX5 tyX5_ok nmX5 (by decide) rfl wF_X5_85 rfl rfl rfl ?_
  refine av_aload_n dX5_clearTold_5 rfl rfl ?_
  refine av_iconst dX5_clearTold_6 ?_
  refine av_put (k := 24) tyX5 dX5_clearTold_7 rfl rfl iuX5 tyX5_ok nmX5 (by decide) rfl wF_X5_89 rfl rfl rfl ?_
  refine av_aload_n dX5_clearTold_10 rfl rfl ?_
  refine av_iconst dX5_clearTold_11 ?_
  refine av_put (k := 26) tyX5 dX5_clearTold_12 rfl rfl iuX5 tyX5_ok nmX5 (by decide) rfl wF_X5_100 rfl rfl rfl ?_
  refine av_aload_n dX5_clearTold_15 rfl rfl ?_
  refine av_getr (k := 28) dX5_clearTold_16 rfl rfl iuX5 (by decide) rfl wF_X5_64 rfl ?_
  refine av_iconst dX5_clearTold_19 ?_
  refine av_bipush dX5_clearTold_20 rfl ?_
  refine av_iast dX5_clearTold_22 rfl (by decide) (by decide) ?_
  refine av_aload_n dX5_clearTold_23 rfl rfl ?_
  refine av_getr (k := 28) dX5_clearTold_24 rfl rfl iuX5 (by decide) rfl wF_X5_64 rfl ?_
  refine av_iconst dX5_clearTold_27 ?_
  refine av_bipush dX5_clearTold_28 rfl ?_
  refine av_iast dX5_clearTold_30 rfl (by decide) (by decide) ?_
  refine av_aload_n dX5_clearTold_31 rfl rfl ?_
  refine av_getr (k := 28) dX5_clearTold_32 rfl rfl iuX5 (by decide) rfl wF_X5_64 rfl ?_
  refine av_iconst dX5_clearTold_35 ?_
  refine av_iconst dX5_clearTold_36 ?_
  refine av_iast dX5_clearTold_37 rfl (by decide) (by decide) ?_
  refine av_aload_n dX5_clearTold_38 rfl rfl ?_
  refine av_bipush dX5_clearTold_39 rfl ?_
  refine av_put (k := 29) tyX5 dX5_clearTold_41 rfl rfl iuX5 tyX5_ok nmX5 (by decide) rfl wF_X5_103 rfl rfl rfl ?_
  exact av_return dX5_clearTold_44 rfl h

theorem uX5_readLetters_14 {E : av_E} {σ : av_M} {Q : Option av_V → av_M → Prop} {a2 a3 a4 : Int} (h : av_W E mSH mX5_readLetters 3 [some (av_r 0), some (av_r 14), some (av_i a2), some (av_i a3), some (av_i a4), some (av_i 0), none] [] σ Q) :
    av_C E mSH mX5_readLetters [av_r 0, av_r 14, av_i a2, av_i a3, av_i a4] σ Q := by
  refine av_C.ofW (L := [some (av_r 0), some (av_r 14), some (av_i a2), some (av_i a3), some (av_i a4), none, none]) (by decide) (Nat.le_of_ble_eq_true rfl) rfl ?_
  refine av_iconst dX5_readLetters_0 ?_
  refine av_istore (L' := [some (av_r 0), some (av_r 14), some (av_i a2), some (av_i a3), some (av_i a4), some (av_i 0), none]) dX5_readLetters_1 (by decide) rfl ?_
  exact h

theorem uX5_readLetters_14_3 {E : av_E} {σ : av_M} {Q : Option av_V → av_M → Prop} {x2 x3 x4 x5 : Int} (h : av_C E mSH mX5_letterAt [av_r 0, av_i (σ 0 17)] σ (fun v s1 => ∃ r1 : Int, v = some (av_i r1) ∧ (av_C E mSH mX5_in [av_i r1, av_i 97, av_i 101] s1 (fun v s2 => ∃ r2 : Int, v = some (av_i r2) ∧ ((rg r2) ∧ (((r2 = 0) → (rg x5) ∧ (((x5 ≤ 0) → Q (some (av_i (-1))) (av_st s2 0 17 ((s2 0 17) + 1))) ∧ ((0 < x5) → av_C E mSH mX5_letterAt [av_r 0, av_i (s2 0 17)] s2 (fun v s3 => ∃ r3 : Int, v = some (av_i r3) ∧ ((rg r3) ∧ ((rg x4) ∧ (((¬ r3 = x4) → Q (some (av_i (-1))) (av_st s3 0 17 ((s3 0 17) + 1))) ∧ ((r3 = x4) → Q (some (av_i x5)) (av_st s3 0 17 ((s3 0 17) + 1)))))))))) ∧ ((¬ r2 = 0) → (rg x5) ∧ ((rg x3) ∧ (((x3 ≤ x5) → (rg x5) ∧ (((x5 ≤ 0) → Q (some (av_i (-1))) (av_st s2 0 17 ((s2 0 17) + 1))) ∧ ((0 < x5) → av_C E mSH mX5_letterAt [av_r 0, av_i (s2 0 17)] s2 (fun v s4 => ∃ r4 : Int, v = some (av_i r4) ∧ ((rg r4) ∧ ((rg x4) ∧ (((¬ r4 = x4) → Q (some (av_i (-1))) (av_st s4 0 17 ((s4 0 17) + 1))) ∧ ((r4 = x4) → Q (some (av_i x5)) (av_st s4 0 17 ((s4 0 17) + 1)))))))))) ∧ ((x5 < x3) → av_C E mSH mX5_letterAt [av_r 0, av_i (s2 0 17)] s2 (fun v s5 => ∃ r5 : Int, v = some (av_i r5) ∧ ((0 ≤ (x2 + x5) ∧ (x2 + x5) < 24) ∧ (av_W E mSH mX5_readLetters 3 [some (av_r 0), some (av_r 14), some (av_i x2), some (av_i x3), some (av_i x4), some (av_i (x5 + 1)), none] [] (av_st (av_st s5 14 ((x2 + x5)).toNat (r5 - 97)) 0 17 ((s5 0 17) + 1)) Q))))))))))))) :
    av_W E mSH mX5_readLetters 3 [some (av_r 0), some (av_r 14), some (av_i x2), some (av_i x3), some (av_i x4), some (av_i x5), none] [] σ Q := by
  refine av_aload_n dX5_readLetters_3 rfl rfl ?_
  refine av_aload_n dX5_readLetters_4 rfl rfl ?_
  refine av_get (k := 17) (x := (σ 0 17)) dX5_readLetters_5 rfl rfl iuX5 (by decide) rfl wF_X5_116 rfl rfl ?_
  refine av_callV mX5_letterAt [av_i (σ 0 17)] [] dX5_readLetters_8 rfl rfl rfl mbX5_letterAt rfl wI_X5_letterAt wS_X5_letterAt rfl wM_X5_119 ⟨Nat.le_of_ble_eq_true rfl, Nat.le_of_ble_eq_true rfl⟩ rfl (Nat.le_of_ble_eq_true rfl) (av_C.mono (fun v s1 hh => ?_) h)
  obtain ⟨r1, rfl, h⟩ := hh
  change av_W E mSH mX5_readLetters 11 [some (av_r 0), some (av_r 14), some (av_i x2), some (av_i x3), some (av_i x4), some (av_i x5), none] [av_i r1] s1 Q
  refine av_bipush dX5_readLetters_11 rfl ?_
  refine av_bipush dX5_readLetters_13 rfl ?_
  refine av_callS mX5_in [av_i r1, av_i 97, av_i 101] [] dX5_readLetters_15 mbX5_in rfl wT_X5_in rfl wM_X5_109 ⟨Nat.le_of_ble_eq_true rfl, Nat.le_of_ble_eq_true rfl⟩ rfl (Nat.le_of_ble_eq_true rfl) (av_C.mono (fun v s2 hh => ?_) h)
  obtain ⟨r2, rfl, h⟩ := hh
  change av_W E mSH mX5_readLetters 18 [some (av_r 0), some (av_r 14), some (av_i x2), some (av_i x3), some (av_i x4), some (av_i x5), none] [av_i r2] s2 Q
  refine av_if_eq (tgt := 60) dX5_readLetters_18 (by decide) h.1 (fun c => ?_) (fun c => ?_)
  · have h := h.2.1 c
    refine av_iload dX5_readLetters_60 rfl ?_
    refine av_if_le (tgt := 82) dX5_readLetters_62 (by decide) h.1 (fun c => ?_) (fun c => ?_)
    · have h := h.2.1 c
      refine av_iconst dX5_readLetters_82 ?_
      refine av_istore (L' := [some (av_r 0), some (av_r 14), some (av_i x2), some (av_i x3), some (av_i x4), some (av_i x5), some (av_i 0)]) dX5_readLetters_83 (by decide) rfl ?_
      refine av_aload_n dX5_readLetters_85 rfl rfl ?_
      refine av_dup dX5_readLetters_86 (fun _ h9 => nomatch h9) ?_
      refine av_get (k := 17) (x := (s2 0 17)) dX5_readLetters_87 rfl rfl iuX5 (by decide) rfl wF_X5_116 rfl rfl ?_
      refine av_iconst dX5_readLetters_90 ?_
      refine av_iadd dX5_readLetters_91 ?_
      refine av_put (k := 17) tyX5 dX5_readLetters_92 rfl rfl iuX5 tyX5_ok nmX5 (by decide) rfl wF_X5_116 rfl rfl rfl ?_
      refine av_iload dX5_readLetters_95 rfl ?_
      refine av_if_eq (tgt := 105) dX5_readLetters_97 (by decide) (by decide) (fun _ => ?_) (fun c => absurd c (by decide))
      refine av_iconst dX5_readLetters_105 ?_
      exact av_ireturn dX5_readLetters_106 rfl h
    · have h := h.2.2 c
      refine av_aload_n dX5_readLetters_65 rfl rfl ?_
      refine av_aload_n dX5_readLetters_66 rfl rfl ?_
      refine av_get (k := 17) (x := (s2 0 17)) dX5_readLetters_67 rfl rfl iuX5 (by decide) rfl wF_X5_116 rfl rfl ?_
      refine av_callV mX5_letterAt [av_i (s2 0 17)] [] dX5_readLetters_70 rfl rfl rfl mbX5_letterAt rfl wI_X5_letterAt wS_X5_letterAt rfl wM_X5_119 ⟨Nat.le_of_ble_eq_true rfl, Nat.le_of_ble_eq_true rfl⟩ rfl (Nat.le_of_ble_eq_true rfl) (av_C.mono (fun v s3 hh => ?_) h)
      obtain ⟨r3, rfl, h⟩ := hh
      change av_W E mSH mX5_readLetters 73 [some (av_r 0), some (av_r 14), some (av_i x2), some (av_i x3), some (av_i x4), some (av_i x5), none] [av_i r3] s3 Q
      refine av_iload dX5_readLetters_73 rfl ?_
      refine av_icmp_ne (tgt := 82) dX5_readLetters_75 (by decide) h.1 h.2.1 (fun c => ?_) (fun c => ?_)
      · have h := h.2.2.1 c
        refine av_iconst dX5_readLetters_82 ?_
        refine av_istore (L' := [some (av_r 0), some (av_r 14), some (av_i x2), some (av_i x3), some (av_i x4), some (av_i x5), some (av_i 0)]) dX5_readLetters_83 (by decide) rfl ?_
        refine av_aload_n dX5_readLetters_85 rfl rfl ?_
        refine av_dup dX5_readLetters_86 (fun _ h9 => nomatch h9) ?_
        refine av_get (k := 17) (x := (s3 0 17)) dX5_readLetters_87 rfl rfl iuX5 (by decide) rfl wF_X5_116 rfl rfl ?_
        refine av_iconst dX5_readLetters_90 ?_
        refine av_iadd dX5_readLetters_91 ?_
        refine av_put (k := 17) tyX5 dX5_readLetters_92 rfl rfl iuX5 tyX5_ok nmX5 (by decide) rfl wF_X5_116 rfl rfl rfl ?_
        refine av_iload dX5_readLetters_95 rfl ?_
        refine av_if_eq (tgt := 105) dX5_readLetters_97 (by decide) (by decide) (fun _ => ?_) (fun c => absurd c (by decide))
        refine av_iconst dX5_readLetters_105 ?_
        exact av_ireturn dX5_readLetters_106 rfl h
      · have h := h.2.2.2 c
        refine av_iconst dX5_readLetters_78 ?_
        refine av_goto (tgt := 83) dX5_readLetters_79 (by decide) ?_
        refine av_istore (L' := [some (av_r 0), some (av_r 14), some (av_i x2), some (av_i x3), some (av_i x4), some (av_i x5), some (av_i 1)]) dX5_readLetters_83 (by decide) rfl ?_
        refine av_aload_n dX5_readLetters_85 rfl rfl ?_
        refine av_dup dX5_readLetters_86 (fun _ h9 => nomatch h9) ?_
        refine av_get (k := 17) (x := (s3 0 17)) dX5_readLetters_87 rfl rfl iuX5 (by decide) rfl wF_X5_116 rfl rfl ?_
        refine av_iconst dX5_readLetters_90 ?_
        refine av_iadd dX5_readLetters_91 ?_
        refine av_put (k := 17) tyX5 dX5_readLetters_92 rfl rfl iuX5 tyX5_ok nmX5 (by decide) rfl wF_X5_116 rfl rfl rfl ?_
        refine av_iload dX5_readLetters_95 rfl ?_
        refine av_if_eq (tgt := 105) dX5_readLetters_97 (by decide) (by decide) (fun c => absurd c (by decide)) (fun _ => ?_)
        refine av_iload dX5_readLetters_100 rfl ?_
        refine av_goto (tgt := 106) dX5_readLetters_102 (by decide) ?_
        exact av_ireturn dX5_readLetters_106 rfl h
  · have h := h.2.2 c
    refine av_iload dX5_readLetters_21 rfl ?_
    refine av_iload_n dX5_readLetters_23 rfl rfl ?_
    refine av_icmp_ge (tgt := 60) dX5_readLetters_24 (by decide) h.1 h.2.1 (fun c => ?_) (fun c => ?_)
    · have h := h.2.2.1 c
      refine av_iload dX5_readLetters_60 rfl ?_
      refine av_if_le (tgt := 82) dX5_readLetters_62 (by decide) h.1 (fun c => ?_) (fun c => ?_)
      · have h := h.2.1 c
        refine av_iconst dX5_readLetters_82 ?_
        refine av_istore (L' := [some (av_r 0), some (av_r 14), some (av_i x2), some (av_i x3), some (av_i x4), some (av_i x5), some (av_i 0)]) dX5_readLetters_83 (by decide) rfl ?_
        refine av_aload_n dX5_readLetters_85 rfl rfl ?_
        refine av_dup dX5_readLetters_86 (fun _ h9 => nomatch h9) ?_
        refine av_get (k := 17) (x := (s2 0 17)) dX5_readLetters_87 rfl rfl iuX5 (by decide) rfl wF_X5_116 rfl rfl ?_
        refine av_iconst dX5_readLetters_90 ?_
        refine av_iadd dX5_readLetters_91 ?_
        refine av_put (k := 17) tyX5 dX5_readLetters_92 rfl rfl iuX5 tyX5_ok nmX5 (by decide) rfl wF_X5_116 rfl rfl rfl ?_
        refine av_iload dX5_readLetters_95 rfl ?_
        refine av_if_eq (tgt := 105) dX5_readLetters_97 (by decide) (by decide) (fun _ => ?_) (fun c => absurd c (by decide))
        refine av_iconst dX5_readLetters_105 ?_
        exact av_ireturn dX5_readLetters_106 rfl h
      · have h := h.2.2 c
        refine av_aload_n dX5_readLetters_65 rfl rfl ?_
        refine av_aload_n dX5_readLetters_66 rfl rfl ?_
        refine av_get (k := 17) (x := (s2 0 17)) dX5_readLetters_67 rfl rfl iuX5 (by decide) rfl wF_X5_116 rfl rfl ?_
        refine av_callV mX5_letterAt [av_i (s2 0 17)] [] dX5_readLetters_70 rfl rfl rfl mbX5_letterAt rfl wI_X5_letterAt wS_X5_letterAt rfl wM_X5_119 ⟨Nat.le_of_ble_eq_true rfl, Nat.le_of_ble_eq_true rfl⟩ rfl (Nat.le_of_ble_eq_true rfl) (av_C.mono (fun v s4 hh => ?_) h)
        obtain ⟨r4, rfl, h⟩ := hh
        change av_W E mSH mX5_readLetters 73 [some (av_r 0), some (av_r 14), some (av_i x2), some (av_i x3), some (av_i x4), some (av_i x5), none] [av_i r4] s4 Q
        refine av_iload dX5_readLetters_73 rfl ?_
        refine av_icmp_ne (tgt := 82) dX5_readLetters_75 (by decide) h.1 h.2.1 (fun c => ?_) (fun c => ?_)
        · have h := h.2.2.1 c
          refine av_iconst dX5_readLetters_82 ?_
          refine av_istore (L' := [some (av_r 0), some (av_r 14), some (av_i x2), some (av_i x3), some (av_i x4), some (av_i x5), some (av_i 0)]) dX5_readLetters_83 (by decide) rfl ?_
          refine av_aload_n dX5_readLetters_85 rfl rfl ?_
          refine av_dup dX5_readLetters_86 (fun _ h9 => nomatch h9) ?_
          refine av_get (k := 17) (x := (s4 0 17)) dX5_readLetters_87 rfl rfl iuX5 (by decide) rfl wF_X5_116 rfl rfl ?_
          refine av_iconst dX5_readLetters_90 ?_
          refine av_iadd dX5_readLetters_91 ?_
          refine av_put (k := 17) tyX5 dX5_readLetters_92 rfl rfl iuX5 tyX5_ok nmX5 (by decide) rfl wF_X5_116 rfl rfl rfl ?_
          refine av_iload dX5_readLetters_95 rfl ?_
          refine av_if_eq (tgt := 105) dX5_readLetters_97 (by decide) (by decide) (fun _ => ?_) (fun c => absurd c (by decide))
          refine av_iconst dX5_readLetters_105 ?_
          exact av_ireturn dX5_readLetters_106 rfl h
        · have h := h.2.2.2 c
          refine av_iconst dX5_readLetters_78 ?_
          refine av_goto (tgt := 83) dX5_readLetters_79 (by decide) ?_
          refine av_istore (L' := [some (av_r 0), some (av_r 14), some (av_i x2), some (av_i x3), some (av_i x4), some (av_i x5), some (av_i 1)]) dX5_readLetters_83 (by decide) rfl ?_
          refine av_aload_n dX5_readLetters_85 rfl rfl ?_
          refine av_dup dX5_readLetters_86 (fun _ h9 => nomatch h9) ?_
          refine av_get (k := 17) (x := (s4 0 17)) dX5_readLetters_87 rfl rfl iuX5 (by decide) rfl wF_X5_116 rfl rfl ?_
          refine av_iconst dX5_readLetters_90 ?_
          refine av_iadd dX5_readLetters_91 ?_
          refine av_put (k := 17) tyX5 dX5_readLetters_92 rfl rfl iuX5 tyX5_ok nmX5 (by decide) rfl wF_X5_116 rfl rfl rfl ?_
          refine av_iload dX5_readLetters_95 rfl ?_
          refine av_if_eq (tgt := 105) dX5_readLetters_97 (by decide) (by decide) (fun c => absurd c (by decide)) (fun _ => ?_)
          refine av_iload dX5_readLetters_100 rfl ?_
          refine av_goto (tgt := 106) dX5_readLetters_102 (by decide) ?_
          exact av_ireturn dX5_readLetters_106 rfl h
    · have h := h.2.2.2 c
      refine av_aload_n dX5_readLetters_27 rfl rfl ?_
      refine av_iload_n dX5_readLetters_28 rfl rfl ?_
      refine av_iload dX5_readLetters_29 rfl ?_
      refine av_iadd dX5_readLetters_31 ?_
      refine av_aload_n dX5_readLetters_32 rfl rfl ?_
      refine av_aload_n dX5_readLetters_33 rfl rfl ?_
      refine av_get (k := 17) (x := (s2 0 17)) dX5_readLetters_34 rfl rfl iuX5 (by decide) rfl wF_X5_116 rfl rfl ?_
      refine av_callV mX5_letterAt [av_i (s2 0 17)] [av_i (x2 + x5), av_r 14] dX5_readLetters_37 rfl rfl rfl mbX5_letterAt rfl wI_X5_letterAt wS_X5_letterAt rfl wM_X5_119 ⟨Nat.le_of_ble_eq_true rfl, Nat.le_of_ble_eq_true rfl⟩ rfl (Nat.le_of_ble_eq_true rfl) (av_C.mono (fun v s5 hh => ?_) h)
      obtain ⟨r5, rfl, h⟩ := hh
      change av_W E mSH mX5_readLetters 40 [some (av_r 0), some (av_r 14), some (av_i x2), some (av_i x3), some (av_i x4), some (av_i x5), none] [av_i r5, av_i (x2 + x5), av_r 14] s5 Q
      refine av_bipush dX5_readLetters_40 rfl ?_
      refine av_isub dX5_readLetters_42 ?_
      refine av_iast dX5_readLetters_43 rfl (by decide) h.1 ?_
      refine av_iinc (L' := [some (av_r 0), some (av_r 14), some (av_i x2), some (av_i x3), some (av_i x4), some (av_i (x5 + 1)), none]) dX5_readLetters_44 rfl (by decide) rfl rfl ?_
      refine av_aload_n dX5_readLetters_47 rfl rfl ?_
      refine av_dup dX5_readLetters_48 (fun _ h9 => nomatch h9) ?_
      refine av_get (k := 17) (x := (s5 0 17)) dX5_readLetters_49 rfl rfl iuX5 (by decide) rfl wF_X5_116 rfl rfl ?_
      refine av_iconst dX5_readLetters_52 ?_
      refine av_iadd dX5_readLetters_53 ?_
      refine av_put (k := 17) tyX5 dX5_readLetters_54 rfl rfl iuX5 tyX5_ok nmX5 (by decide) rfl wF_X5_116 rfl rfl rfl ?_
      refine av_goto (tgt := 3) dX5_readLetters_57 (by decide) ?_
      exact h.2

theorem uX5_readLetters_18 {E : av_E} {σ : av_M} {Q : Option av_V → av_M → Prop} {a2 a3 a4 : Int} (h : av_W E mSH mX5_readLetters 3 [some (av_r 0), some (av_r 18), some (av_i a2), some (av_i a3), some (av_i a4), some (av_i 0), none] [] σ Q) :
    av_C E mSH mX5_readLetters [av_r 0, av_r 18, av_i a2, av_i a3, av_i a4] σ Q := by
  refine av_C.ofW (L := [some (av_r 0), some (av_r 18), some (av_i a2), some (av_i a3), some (av_i a4), none, none]) (by decide) (Nat.le_of_ble_eq_true rfl) rfl ?_
  refine av_iconst dX5_readLetters_0 ?_
  refine av_istore (L' := [some (av_r 0), some (av_r 18), some (av_i a2), some (av_i a3), some (av_i a4), some (av_i 0), none]) dX5_readLetters_1 (by decide) rfl ?_
  exact h

theorem uX5_readLetters_18_3 {E : av_E} {σ : av_M} {Q : Option av_V → av_M → Prop} {x2 x3 x4 x5 : Int} (h : av_C E mSH mX5_letterAt [av_r 0, av_i (σ 0 17)] σ (fun v s1 => ∃ r1 : Int, v = some (av_i r1) ∧ (av_C E mSH mX5_in [av_i r1, av_i 97, av_i 101] s1 (fun v s2 => ∃ r2 : Int, v = some (av_i r2) ∧ ((rg r2) ∧ (((r2 = 0) → (rg x5) ∧ (((x5 ≤ 0) → Q (some (av_i (-1))) (av_st s2 0 17 ((s2 0 17) + 1))) ∧ ((0 < x5) → av_C E mSH mX5_letterAt [av_r 0, av_i (s2 0 17)] s2 (fun v s3 => ∃ r3 : Int, v = some (av_i r3) ∧ ((rg r3) ∧ ((rg x4) ∧ (((¬ r3 = x4) → Q (some (av_i (-1))) (av_st s3 0 17 ((s3 0 17) + 1))) ∧ ((r3 = x4) → Q (some (av_i x5)) (av_st s3 0 17 ((s3 0 17) + 1)))))))))) ∧ ((¬ r2 = 0) → (rg x5) ∧ ((rg x3) ∧ (((x3 ≤ x5) → (rg x5) ∧ (((x5 ≤ 0) → Q (some (av_i (-1))) (av_st s2 0 17 ((s2 0 17) + 1))) ∧ ((0 < x5) → av_C E mSH mX5_letterAt [av_r 0, av_i (s2 0 17)] s2 (fun v s4 => ∃ r4 : Int, v = some (av_i r4) ∧ ((rg r4) ∧ ((rg x4) ∧ (((¬ r4 = x4) → Q (some (av_i (-1))) (av_st s4 0 17 ((s4 0 17) + 1))) ∧ ((r4 = x4) → Q (some (av_i x5)) (av_st s4 0 17 ((s4 0 17) + 1)))))))))) ∧ ((x5 < x3) → av_C E mSH mX5_letterAt [av_r 0, av_i (s2 0 17)] s2 (fun v s5 => ∃ r5 : Int, v = some (av_i r5) ∧ ((0 ≤ (x2 + x5) ∧ (x2 + x5) < 9) ∧ (av_W E mSH mX5_readLetters 3 [some (av_r 0), some (av_r 18), some (av_i x2), some (av_i x3), some (av_i x4), some (av_i (x5 + 1)), none] [] (av_st (av_st s5 18 ((x2 + x5)).toNat (r5 - 97)) 0 17 ((s5 0 17) + 1)) Q))))))))))))) :
    av_W E mSH mX5_readLetters 3 [some (av_r 0), some (av_r 18), some (av_i x2), some (av_i x3), some (av_i x4), some (av_i x5), none] [] σ Q := by
  refine av_aload_n dX5_readLetters_3 rfl rfl ?_
  refine av_aload_n dX5_readLetters_4 rfl rfl ?_
  refine av_get (k := 17) (x := (σ 0 17)) dX5_readLetters_5 rfl rfl iuX5 (by decide) rfl wF_X5_116 rfl rfl ?_
  refine av_callV mX5_letterAt [av_i (σ 0 17)] [] dX5_readLetters_8 rfl rfl rfl mbX5_letterAt rfl wI_X5_letterAt wS_X5_letterAt rfl wM_X5_119 ⟨Nat.le_of_ble_eq_true rfl, Nat.le_of_ble_eq_true rfl⟩ rfl (Nat.le_of_ble_eq_true rfl) (av_C.mono (fun v s1 hh => ?_) h)
  obtain ⟨r1, rfl, h⟩ := hh
  change av_W E mSH mX5_readLetters 11 [some (av_r 0), some (av_r 18), some (av_i x2), some (av_i x3), some (av_i x4), some (av_i x5), none] [av_i r1] s1 Q
  refine av_bipush dX5_readLetters_11 rfl ?_
  refine av_bipush dX5_readLetters_13 rfl ?_
  refine av_callS mX5_in [av_i r1, av_i 97, av_i 101] [] dX5_readLetters_15 mbX5_in rfl wT_X5_in rfl wM_X5_109 ⟨Nat.le_of_ble_eq_true rfl, Nat.le_of_ble_eq_true rfl⟩ rfl (Nat.le_of_ble_eq_true rfl) (av_C.mono (fun v s2 hh => ?_) h)
  obtain ⟨r2, rfl, h⟩ := hh
  change av_W E mSH mX5_readLetters 18 [some (av_r 0), some (av_r 18), some (av_i x2), some (av_i x3), some (av_i x4), some (av_i x5), none] [av_i r2] s2 Q
  refine av_if_eq (tgt := 60) dX5_readLetters_18 (by decide) h.1 (fun c => ?_) (fun c => ?_)
  · have h := h.2.1 c
    refine av_iload dX5_readLetters_60 rfl ?_
    refine av_if_le (tgt := 82) dX5_readLetters_62 (by decide) h.1 (fun c => ?_) (fun c => ?_)
    · have h := h.2.1 c
      refine av_iconst dX5_readLetters_82 ?_
      refine av_istore (L' := [some (av_r 0), some (av_r 18), some (av_i x2), some (av_i x3), some (av_i x4), some (av_i x5), some (av_i 0)]) dX5_readLetters_83 (by decide) rfl ?_
      refine av_aload_n dX5_readLetters_85 rfl rfl ?_
      refine av_dup dX5_readLetters_86 (fun _ h9 => nomatch h9) ?_
      refine av_get (k := 17) (x := (s2 0 17)) dX5_readLetters_87 rfl rfl iuX5 (by decide) rfl wF_X5_116 rfl rfl ?_
      refine av_iconst dX5_readLetters_90 ?_
      refine av_iadd dX5_readLetters_91 ?_
      refine av_put (k := 17) tyX5 dX5_readLetters_92 rfl rfl iuX5 tyX5_ok nmX5 (by decide) rfl wF_X5_116 rfl rfl rfl ?_
      refine av_iload dX5_readLetters_95 rfl ?_
      refine av_if_eq (tgt := 105) dX5_readLetters_97 (by decide) (by decide) (fun _ => ?_) (fun c => absurd c (by decide))
      refine av_iconst dX5_readLetters_105 ?_
      exact av_ireturn dX5_readLetters_106 rfl h
    · have h := h.2.2 c
      refine av_aload_n dX5_readLetters_65 rfl rfl ?_
      refine av_aload_n dX5_readLetters_66 rfl rfl ?_
      refine av_get (k := 17) (x := (s2 0 17)) dX5_readLetters_67 rfl rfl iuX5 (by decide) rfl wF_X5_116 rfl rfl ?_
      refine av_callV mX5_letterAt [av_i (s2 0 17)] [] dX5_readLetters_70 rfl rfl rfl mbX5_letterAt rfl wI_X5_letterAt wS_X5_letterAt rfl wM_X5_119 ⟨Nat.le_of_ble_eq_true rfl, Nat.le_of_ble_eq_true rfl⟩ rfl (Nat.le_of_ble_eq_true rfl) (av_C.mono (fun v s3 hh => ?_) h)
      obtain ⟨r3, rfl, h⟩ := hh
      change av_W E mSH mX5_readLetters 73 [some (av_r 0), some (av_r 18), some (av_i x2), some (av_i x3), some (av_i x4), some (av_i x5), none] [av_i r3] s3 Q
      refine av_iload dX5_readLetters_73 rfl ?_
      refine av_icmp_ne (tgt := 82) dX5_readLetters_75 (by decide) h.1 h.2.1 (fun c => ?_) (fun c => ?_)
      · have h := h.2.2.1 c
        refine av_iconst dX5_readLetters_82 ?_
        refine av_istore (L' := [some (av_r 0), some (av_r 18), some (av_i x2), some (av_i x3), some (av_i x4), some (av_i x5), some (av_i 0)]) dX5_readLetters_83 (by decide) rfl ?_
        refine av_aload_n dX5_readLetters_85 rfl rfl ?_
        refine av_dup dX5_readLetters_86 (fun _ h9 => nomatch h9) ?_
        refine av_get (k := 17) (x := (s3 0 17)) dX5_readLetters_87 rfl rfl iuX5 (by decide) rfl wF_X5_116 rfl rfl ?_
        refine av_iconst dX5_readLetters_90 ?_
        refine av_iadd dX5_readLetters_91 ?_
        refine av_put (k := 17) tyX5 dX5_readLetters_92 rfl rfl iuX5 tyX5_ok nmX5 (by decide) rfl wF_X5_116 rfl rfl rfl ?_
        refine av_iload dX5_readLetters_95 rfl ?_
        refine av_if_eq (tgt := 105) dX5_readLetters_97 (by decide) (by decide) (fun _ => ?_) (fun c => absurd c (by decide))
        refine av_iconst dX5_readLetters_105 ?_
        exact av_ireturn dX5_readLetters_106 rfl h
      · have h := h.2.2.2 c
        refine av_iconst dX5_readLetters_78 ?_
        refine av_goto (tgt := 83) dX5_readLetters_79 (by decide) ?_
        refine av_istore (L' := [some (av_r 0), some (av_r 18), some (av_i x2), some (av_i x3), some (av_i x4), some (av_i x5), some (av_i 1)]) dX5_readLetters_83 (by decide) rfl ?_
        refine av_aload_n dX5_readLetters_85 rfl rfl ?_
        refine av_dup dX5_readLetters_86 (fun _ h9 => nomatch h9) ?_
        refine av_get (k := 17) (x := (s3 0 17)) dX5_readLetters_87 rfl rfl iuX5 (by decide) rfl wF_X5_116 rfl rfl ?_
        refine av_iconst dX5_readLetters_90 ?_
        refine av_iadd dX5_readLetters_91 ?_
        refine av_put (k := 17) tyX5 dX5_readLetters_92 rfl rfl iuX5 tyX5_ok nmX5 (by decide) rfl wF_X5_116 rfl rfl rfl ?_
        refine av_iload dX5_readLetters_95 rfl ?_
        refine av_if_eq (tgt := 105) dX5_readLetters_97 (by decide) (by decide) (fun c => absurd c (by decide)) (fun _ => ?_)
        refine av_iload dX5_readLetters_100 rfl ?_
        refine av_goto (tgt := 106) dX5_readLetters_102 (by decide) ?_
        exact av_ireturn dX5_readLetters_106 rfl h
  · have h := h.2.2 c
    refine av_iload dX5_readLetters_21 rfl ?_
    refine av_iload_n dX5_readLetters_23 rfl rfl ?_
    refine av_icmp_ge (tgt := 60) dX5_readLetters_24 (by decide) h.1 h.2.1 (fun c => ?_) (fun c => ?_)
    · have h := h.2.2.1 c
      refine av_iload dX5_readLetters_60 rfl ?_
      refine av_if_le (tgt := 82) dX5_readLetters_62 (by decide) h.1 (fun c => ?_) (fun c => ?_)
      · have h := h.2.1 c
        refine av_iconst dX5_readLetters_82 ?_
        refine av_istore (L' := [some (av_r 0), some (av_r 18), some (av_i x2), some (av_i x3), some (av_i x4), some (av_i x5), some (av_i 0)]) dX5_readLetters_83 (by decide) rfl ?_
        refine av_aload_n dX5_readLetters_85 rfl rfl ?_
        refine av_dup dX5_readLetters_86 (fun _ h9 => nomatch h9) ?_
        refine av_get (k := 17) (x := (s2 0 17)) dX5_readLetters_87 rfl rfl iuX5 (by decide) rfl wF_X5_116 rfl rfl ?_
        refine av_iconst dX5_readLetters_90 ?_
        refine av_iadd dX5_readLetters_91 ?_
        refine av_put (k := 17) tyX5 dX5_readLetters_92 rfl rfl iuX5 tyX5_ok nmX5 (by decide) rfl wF_X5_116 rfl rfl rfl ?_
        refine av_iload dX5_readLetters_95 rfl ?_
        refine av_if_eq (tgt := 105) dX5_readLetters_97 (by decide) (by decide) (fun _ => ?_) (fun c => absurd c (by decide))
        refine av_iconst dX5_readLetters_105 ?_
        exact av_ireturn dX5_readLetters_106 rfl h
      · have h := h.2.2 c
        refine av_aload_n dX5_readLetters_65 rfl rfl ?_
        refine av_aload_n dX5_readLetters_66 rfl rfl ?_
        refine av_get (k := 17) (x := (s2 0 17)) dX5_readLetters_67 rfl rfl iuX5 (by decide) rfl wF_X5_116 rfl rfl ?_
        refine av_callV mX5_letterAt [av_i (s2 0 17)] [] dX5_readLetters_70 rfl rfl rfl mbX5_letterAt rfl wI_X5_letterAt wS_X5_letterAt rfl wM_X5_119 ⟨Nat.le_of_ble_eq_true rfl, Nat.le_of_ble_eq_true rfl⟩ rfl (Nat.le_of_ble_eq_true rfl) (av_C.mono (fun v s4 hh => ?_) h)
        obtain ⟨r4, rfl, h⟩ := hh
        change av_W E mSH mX5_readLetters 73 [some (av_r 0), some (av_r 18), some (av_i x2), some (av_i x3), some (av_i x4), some (av_i x5), none] [av_i r4] s4 Q
        refine av_iload dX5_readLetters_73 rfl ?_
        refine av_icmp_ne (tgt := 82) dX5_readLetters_75 (by decide) h.1 h.2.1 (fun c => ?_) (fun c => ?_)
        · have h := h.2.2.1 c
          refine av_iconst dX5_readLetters_82 ?_
          refine av_istore (L' := [some (av_r 0), some (av_r 18), some (av_i x2), some (av_i x3), some (av_i x4), some (av_i x5), some (av_i 0)]) dX5_readLetters_83 (by decide) rfl ?_
          refine av_aload_n dX5_readLetters_85 rfl rfl ?_
          refine av_dup dX5_readLetters_86 (fun _ h9 => nomatch h9) ?_
          refine av_get (k := 17) (x := (s4 0 17)) dX5_readLetters_87 rfl rfl iuX5 (by decide) rfl wF_X5_116 rfl rfl ?_
          refine av_iconst dX5_readLetters_90 ?_
          refine av_iadd dX5_readLetters_91 ?_
          refine av_put (k := 17) tyX5 dX5_readLetters_92 rfl rfl iuX5 tyX5_ok nmX5 (by decide) rfl wF_X5_116 rfl rfl rfl ?_
          refine av_iload dX5_readLetters_95 rfl ?_
          refine av_if_eq (tgt := 105) dX5_readLetters_97 (by decide) (by decide) (fun _ => ?_) (fun c => absurd c (by decide))
          refine av_iconst dX5_readLetters_105 ?_
          exact av_ireturn dX5_readLetters_106 rfl h
        · have h := h.2.2.2 c
          refine av_iconst dX5_readLetters_78 ?_
          refine av_goto (tgt := 83) dX5_readLetters_79 (by decide) ?_
          refine av_istore (L' := [some (av_r 0), some (av_r 18), some (av_i x2), some (av_i x3), some (av_i x4), some (av_i x5), some (av_i 1)]) dX5_readLetters_83 (by decide) rfl ?_
          refine av_aload_n dX5_readLetters_85 rfl rfl ?_
          refine av_dup dX5_readLetters_86 (fun _ h9 => nomatch h9) ?_
          refine av_get (k := 17) (x := (s4 0 17)) dX5_readLetters_87 rfl rfl iuX5 (by decide) rfl wF_X5_116 rfl rfl ?_
          refine av_iconst dX5_readLetters_90 ?_
          refine av_iadd dX5_readLetters_91 ?_
          refine av_put (k := 17) tyX5 dX5_readLetters_92 rfl rfl iuX5 tyX5_ok nmX5 (by decide) rfl wF_X5_116 rfl rfl rfl ?_
          refine av_iload dX5_readLetters_95 rfl ?_
          refine av_if_eq (tgt := 105) dX5_readLetters_97 (by decide) (by decide) (fun c => absurd c (by decide)) (fun _ => ?_)
          refine av_iload dX5_readLetters_100 rfl ?_
          refine av_goto (tgt := 106) dX5_readLetters_102 (by decide) ?_
          exact av_ireturn dX5_readLetters_106 rfl h
    · have h := h.2.2.2 c
      refine av_aload_n dX5_readLetters_27 rfl rfl ?_
      refine av_iload_n dX5_readLetters_28 rfl rfl ?_
      refine av_iload dX5_readLetters_29 rfl ?_
      refine av_iadd dX5_readLetters_31 ?_
      refine av_aload_n dX5_readLetters_32 rfl rfl ?_
      refine av_aload_n dX5_readLetters_33 rfl rfl ?_
      refine av_get (k := 17) (x := (s2 0 17)) dX5_readLetters_34 rfl rfl iuX5 (by decide) rfl wF_X5_116 rfl rfl ?_
      refine av_callV mX5_letterAt [av_i (s2 0 17)] [av_i (x2 + x5), av_r 18] dX5_readLetters_37 rfl rfl rfl mbX5_letterAt rfl wI_X5_letterAt wS_X5_letterAt rfl wM_X5_119 ⟨Nat.le_of_ble_eq_true rfl, Nat.le_of_ble_eq_true rfl⟩ rfl (Nat.le_of_ble_eq_true rfl) (av_C.mono (fun v s5 hh => ?_) h)
      obtain ⟨r5, rfl, h⟩ := hh
      change av_W E mSH mX5_readLetters 40 [some (av_r 0), some (av_r 18), some (av_i x2), some (av_i x3), some (av_i x4), some (av_i x5), none] [av_i r5, av_i (x2 + x5), av_r 18] s5 Q
      refine av_bipush dX5_readLetters_40 rfl ?_
      refine av_isub dX5_readLetters_42 ?_
      refine av_iast dX5_readLetters_43 rfl (by decide) h.1 ?_
      refine av_iinc (L' := [some (av_r 0), some (av_r 18), some (av_i x2), some (av_i x3), some (av_i x4), some (av_i (x5 + 1)), none]) dX5_readLetters_44 rfl (by decide) rfl rfl ?_
      refine av_aload_n dX5_readLetters_47 rfl rfl ?_
      refine av_dup dX5_readLetters_48 (fun _ h9 => nomatch h9) ?_
      refine av_get (k := 17) (x := (s5 0 17)) dX5_readLetters_49 rfl rfl iuX5 (by decide) rfl wF_X5_116 rfl rfl ?_
      refine av_iconst dX5_readLetters_52 ?_
      refine av_iadd dX5_readLetters_53 ?_
      refine av_put (k := 17) tyX5 dX5_readLetters_54 rfl rfl iuX5 tyX5_ok nmX5 (by decide) rfl wF_X5_116 rfl rfl rfl ?_
      refine av_goto (tgt := 3) dX5_readLetters_57 (by decide) ?_
      exact h.2

theorem uX5_isNew {E : av_E} {σ : av_M} {Q : Option av_V → av_M → Prop} {a1 : Int} (h : av_W E mSH mX5_isNew 4 [some (av_r 0), some (av_i a1), some (av_i 1), some (av_i 0), none, none] [] σ Q) :
    av_C E mSH mX5_isNew [av_r 0, av_i a1] σ Q := by
  refine av_C.ofW (L := [some (av_r 0), some (av_i a1), none, none, none, none]) (by decide) (Nat.le_of_ble_eq_true rfl) rfl ?_
  refine av_iconst dX5_isNew_0 ?_
  refine av_istore_n (L' := [some (av_r 0), some (av_i a1), some (av_i 1), none, none, none]) dX5_isNew_1 rfl (by decide) rfl ?_
  refine av_iconst dX5_isNew_2 ?_
  refine av_istore_n (L' := [some (av_r 0), some (av_i a1), some (av_i 1), some (av_i 0), none, none]) dX5_isNew_3 rfl (by decide) rfl ?_
  exact h

theorem uX5_isNew_4 {E : av_E} {σ : av_M} {Q : Option av_V → av_M → Prop} {x1 x2 x3 : Int} (h : (rg x3) ∧ ((rg x1) ∧ (((x1 ≤ x3) → (x2 = 0 ∨ x2 = 1) ∧ (Q (some (av_i x2)) σ)) ∧ ((x3 < x1) → (0 ≤ x3 ∧ x3 < 8) ∧ ((0 ≤ x1 ∧ x1 < 8) ∧ ((rg (σ 13 (x3).toNat)) ∧ ((rg (σ 13 (x1).toNat)) ∧ (((¬ (σ 13 (x3).toNat) = (σ 13 (x1).toNat)) → av_W E mSH mX5_isNew 34 [some (av_r 0), some (av_i x1), some (av_i x2), some (av_i x3), some (av_i 0), some (av_i 0)] [] σ Q) ∧ (((σ 13 (x3).toNat) = (σ 13 (x1).toNat)) → av_W E mSH mX5_isNew 34 [some (av_r 0), some (av_i x1), some (av_i x2), some (av_i x3), some (av_i 1), some (av_i 0)] [] σ Q))))))))) :
    av_W E mSH mX5_isNew 4 [some (av_r 0), some (av_i x1), some (av_i x2), some (av_i x3), none, none] [] σ Q := by
  refine av_iload_n dX5_isNew_4 rfl rfl ?_
  refine av_iload_n dX5_isNew_5 rfl rfl ?_
  refine av_icmp_ge (tgt := 109) dX5_isNew_6 (by decide) h.1 h.2.1 (fun c => ?_) (fun c => ?_)
  · have h := h.2.2.1 c
    refine av_iload_n dX5_isNew_109 rfl rfl ?_
    exact av_zreturn dX5_isNew_110 rfl h.1 h.2
  · have h := h.2.2.2 c
    refine av_aload_n dX5_isNew_9 rfl rfl ?_
    refine av_getr (k := 20) dX5_isNew_10 rfl rfl iuX5 (by decide) rfl wF_X5_46 rfl ?_
    refine av_iload_n dX5_isNew_13 rfl rfl ?_
    refine av_iald (x := (σ 13 (x3).toNat)) dX5_isNew_14 rfl (by decide) h.1 rfl ?_
    refine av_aload_n dX5_isNew_15 rfl rfl ?_
    refine av_getr (k := 20) dX5_isNew_16 rfl rfl iuX5 (by decide) rfl wF_X5_46 rfl ?_
    refine av_iload_n dX5_isNew_19 rfl rfl ?_
    refine av_iald (x := (σ 13 (x1).toNat)) dX5_isNew_20 rfl (by decide) h.2.1 rfl ?_
    refine av_icmp_ne (tgt := 28) dX5_isNew_21 (by decide) h.2.2.1 h.2.2.2.1 (fun c => ?_) (fun c => ?_)
    · have h := h.2.2.2.2.1 c
      refine av_iconst dX5_isNew_28 ?_
      refine av_istore (L' := [some (av_r 0), some (av_i x1), some (av_i x2), some (av_i x3), some (av_i 0), none]) dX5_isNew_29 (by decide) rfl ?_
      refine av_iconst dX5_isNew_31 ?_
      refine av_istore (L' := [some (av_r 0), some (av_i x1), some (av_i x2), some (av_i x3), some (av_i 0), some (av_i 0)]) dX5_isNew_32 (by decide) rfl ?_
      exact h
    · have h := h.2.2.2.2.2 c
      refine av_iconst dX5_isNew_24 ?_
      refine av_goto (tgt := 29) dX5_isNew_25 (by decide) ?_
      refine av_istore (L' := [some (av_r 0), some (av_i x1), some (av_i x2), some (av_i x3), some (av_i 1), none]) dX5_isNew_29 (by decide) rfl ?_
      refine av_iconst dX5_isNew_31 ?_
      refine av_istore (L' := [some (av_r 0), some (av_i x1), some (av_i x2), some (av_i x3), some (av_i 1), some (av_i 0)]) dX5_isNew_32 (by decide) rfl ?_
      exact h

theorem uX5_isNew_34 {E : av_E} {σ : av_M} {Q : Option av_V → av_M → Prop} {x1 x2 x3 x4 x5 : Int} (h : (0 ≤ x1 ∧ x1 < 8) ∧ ((rg x5) ∧ ((rg (σ 13 (x1).toNat)) ∧ ((((σ 13 (x1).toNat) ≤ x5) → (rg x2) ∧ (((x2 = 0) → av_W E mSH mX5_isNew 4 [some (av_r 0), some (av_i x1), some (av_i 0), some (av_i (x3 + 1)), none, none] [] σ Q) ∧ ((¬ x2 = 0) → (rg x4) ∧ (((¬ x4 = 0) → av_W E mSH mX5_isNew 4 [some (av_r 0), some (av_i x1), some (av_i 0), some (av_i (x3 + 1)), none, none] [] σ Q) ∧ ((x4 = 0) → av_W E mSH mX5_isNew 4 [some (av_r 0), some (av_i x1), some (av_i 1), some (av_i (x3 + 1)), none, none] [] σ Q))))) ∧ ((x5 < (σ 13 (x1).toNat)) → (rg x4) ∧ (((x4 = 0) → av_W E mSH mX5_isNew 34 [some (av_r 0), some (av_i x1), some (av_i x2), some (av_i x3), some (av_i 0), some (av_i (x5 + 1))] [] σ Q) ∧ ((¬ x4 = 0) → (0 ≤ ((3 * x3) + x5) ∧ ((3 * x3) + x5) < 24) ∧ ((0 ≤ ((3 * x1) + x5) ∧ ((3 * x1) + x5) < 24) ∧ ((rg (σ 14 (((3 * x3) + x5)).toNat)) ∧ ((rg (σ 14 (((3 * x1) + x5)).toNat)) ∧ (((¬ (σ 14 (((3 * x3) + x5)).toNat) = (σ 14 (((3 * x1) + x5)).toNat)) → av_W E mSH mX5_isNew 34 [some (av_r 0), some (av_i x1), some (av_i x2), some (av_i x3), some (av_i 0), some (av_i (x5 + 1))] [] σ Q) ∧ (((σ 14 (((3 * x3) + x5)).toNat) = (σ 14 (((3 * x1) + x5)).toNat)) → av_W E mSH mX5_isNew 34 [some (av_r 0), some (av_i x1), some (av_i x2), some (av_i x3), some (av_i 1), some (av_i (x5 + 1))] [] σ Q)))))))))))) :
    av_W E mSH mX5_isNew 34 [some (av_r 0), some (av_i x1), some (av_i x2), some (av_i x3), some (av_i x4), some (av_i x5)] [] σ Q := by
  refine av_iload dX5_isNew_34 rfl ?_
  refine av_aload_n dX5_isNew_36 rfl rfl ?_
  refine av_getr (k := 20) dX5_isNew_37 rfl rfl iuX5 (by decide) rfl wF_X5_46 rfl ?_
  refine av_iload_n dX5_isNew_40 rfl rfl ?_
  refine av_iald (x := (σ 13 (x1).toNat)) dX5_isNew_41 rfl (by decide) h.1 rfl ?_
  refine av_icmp_ge (tgt := 88) dX5_isNew_42 (by decide) h.2.1 h.2.2.1 (fun c => ?_) (fun c => ?_)
  · have h := h.2.2.2.1 c
    refine av_iload_n dX5_isNew_88 rfl rfl ?_
    refine av_if_eq (tgt := 101) dX5_isNew_89 (by decide) h.1 (fun c => ?_) (fun c => ?_)
    · have h := h.2.1 c
      refine av_iconst dX5_isNew_101 ?_
      refine av_istore_n (L' := [some (av_r 0), some (av_i x1), some (av_i 0), some (av_i x3), some (av_i x4), some (av_i x5)]) dX5_isNew_102 rfl (by decide) rfl ?_
      refine av_iinc (L' := [some (av_r 0), some (av_i x1), some (av_i 0), some (av_i (x3 + 1)), some (av_i x4), some (av_i x5)]) dX5_isNew_103 rfl (by decide) rfl rfl ?_
      refine av_goto (tgt := 4) dX5_isNew_106 (by decide) ?_
      refine av_res [true, true, true, true, false, false] (L' := [some (av_r 0), some (av_i x1), some (av_i 0), some (av_i (x3 + 1)), none, none]) rfl ?_
      exact h
    · have h := h.2.2 c
      refine av_iload dX5_isNew_92 rfl ?_
      refine av_if_ne (tgt := 101) dX5_isNew_94 (by decide) h.1 (fun c => ?_) (fun c => ?_)
      · have h := h.2.1 c
        refine av_iconst dX5_isNew_101 ?_
        refine av_istore_n (L' := [some (av_r 0), some (av_i x1), some (av_i 0), some (av_i x3), some (av_i x4), some (av_i x5)]) dX5_isNew_102 rfl (by decide) rfl ?_
        refine av_iinc (L' := [some (av_r 0), some (av_i x1), some (av_i 0), some (av_i (x3 + 1)), some (av_i x4), some (av_i x5)]) dX5_isNew_103 rfl (by decide) rfl rfl ?_
        refine av_goto (tgt := 4) dX5_isNew_106 (by decide) ?_
        refine av_res [true, true, true, true, false, false] (L' := [some (av_r 0), some (av_i x1), some (av_i 0), some (av_i (x3 + 1)), none, none]) rfl ?_
        exact h
      · have h := h.2.2 c
        refine av_iconst dX5_isNew_97 ?_
        refine av_goto (tgt := 102) dX5_isNew_98 (by decide) ?_
        refine av_istore_n (L' := [some (av_r 0), some (av_i x1), some (av_i 1), some (av_i x3), some (av_i x4), some (av_i x5)]) dX5_isNew_102 rfl (by decide) rfl ?_
        refine av_iinc (L' := [some (av_r 0), some (av_i x1), some (av_i 1), some (av_i (x3 + 1)), some (av_i x4), some (av_i x5)]) dX5_isNew_103 rfl (by decide) rfl rfl ?_
        refine av_goto (tgt := 4) dX5_isNew_106 (by decide) ?_
        refine av_res [true, true, true, true, false, false] (L' := [some (av_r 0), some (av_i x1), some (av_i 1), some (av_i (x3 + 1)), none, none]) rfl ?_
        exact h
  · have h := h.2.2.2.2 c
    refine av_iload dX5_isNew_45 rfl ?_
    refine av_if_eq (tgt := 79) dX5_isNew_47 (by decide) h.1 (fun c => ?_) (fun c => ?_)
    · have h := h.2.1 c
      refine av_iconst dX5_isNew_79 ?_
      refine av_istore (L' := [some (av_r 0), some (av_i x1), some (av_i x2), some (av_i x3), some (av_i 0), some (av_i x5)]) dX5_isNew_80 (by decide) rfl ?_
      refine av_iinc (L' := [some (av_r 0), some (av_i x1), some (av_i x2), some (av_i x3), some (av_i 0), some (av_i (x5 + 1))]) dX5_isNew_82 rfl (by decide) rfl rfl ?_
      refine av_goto (tgt := 34) dX5_isNew_85 (by decide) ?_
      exact h
    · have h := h.2.2 c
      refine av_aload_n dX5_isNew_50 rfl rfl ?_
      refine av_getr (k := 21) dX5_isNew_51 rfl rfl iuX5 (by decide) rfl wF_X5_49 rfl ?_
      refine av_iconst dX5_isNew_54 ?_
      refine av_iload_n dX5_isNew_55 rfl rfl ?_
      refine av_imul dX5_isNew_56 ?_
      refine av_iload dX5_isNew_57 rfl ?_
      refine av_iadd dX5_isNew_59 ?_
      refine av_iald (x := (σ 14 (((3 * x3) + x5)).toNat)) dX5_isNew_60 rfl (by decide) h.1 rfl ?_
      refine av_aload_n dX5_isNew_61 rfl rfl ?_
      refine av_getr (k := 21) dX5_isNew_62 rfl rfl iuX5 (by decide) rfl wF_X5_49 rfl ?_
      refine av_iconst dX5_isNew_65 ?_
      refine av_iload_n dX5_isNew_66 rfl rfl ?_
      refine av_imul dX5_isNew_67 ?_
      refine av_iload dX5_isNew_68 rfl ?_
      refine av_iadd dX5_isNew_70 ?_
      refine av_iald (x := (σ 14 (((3 * x1) + x5)).toNat)) dX5_isNew_71 rfl (by decide) h.2.1 rfl ?_
      refine av_icmp_ne (tgt := 79) dX5_isNew_72 (by decide) h.2.2.1 h.2.2.2.1 (fun c => ?_) (fun c => ?_)
      · have h := h.2.2.2.2.1 c
        refine av_iconst dX5_isNew_79 ?_
        refine av_istore (L' := [some (av_r 0), some (av_i x1), some (av_i x2), some (av_i x3), some (av_i 0), some (av_i x5)]) dX5_isNew_80 (by decide) rfl ?_
        refine av_iinc (L' := [some (av_r 0), some (av_i x1), some (av_i x2), some (av_i x3), some (av_i 0), some (av_i (x5 + 1))]) dX5_isNew_82 rfl (by decide) rfl rfl ?_
        refine av_goto (tgt := 34) dX5_isNew_85 (by decide) ?_
        exact h
      · have h := h.2.2.2.2.2 c
        refine av_iconst dX5_isNew_75 ?_
        refine av_goto (tgt := 80) dX5_isNew_76 (by decide) ?_
        refine av_istore (L' := [some (av_r 0), some (av_i x1), some (av_i x2), some (av_i x3), some (av_i 1), some (av_i x5)]) dX5_isNew_80 (by decide) rfl ?_
        refine av_iinc (L' := [some (av_r 0), some (av_i x1), some (av_i x2), some (av_i x3), some (av_i 1), some (av_i (x5 + 1))]) dX5_isNew_82 rfl (by decide) rfl rfl ?_
        refine av_goto (tgt := 34) dX5_isNew_85 (by decide) ?_
        exact h

theorem uX5_readRootOf {E : av_E} {σ : av_M} {Q : Option av_V → av_M → Prop} (h : (rg (σ 0 19)) ∧ (((¬ (σ 0 19) = 8) → av_C E mSH mX5_readLetters [av_r 0, av_r 14, av_i (3 * (σ 0 19)), av_i 3, av_i 44] σ (fun v s1 => ∃ r1 : Int, v = some (av_i r1) ∧ ((rg r1) ∧ (((0 ≤ r1) → (0 ≤ (s1 0 19) ∧ (s1 0 19) < 8) ∧ (av_C E mSH mX5_isNew [av_r 0, av_i (s1 0 19)] (av_st s1 13 ((s1 0 19)).toNat r1) (fun v s2 => ∃ r2 : Int, v = some (av_i r2) ∧ ((rg r2) ∧ (((r2 = 0) → Q (some (av_i 0)) s2) ∧ ((¬ r2 = 0) → av_C E mSH mX5_readNumbers [av_r 0, av_i 2] s2 (fun v s3 => ∃ r3 : Int, v = some (av_i r3) ∧ ((rg r3) ∧ (((r3 = 0) → Q (some (av_i 0)) s3) ∧ ((¬ r3 = 0) → av_C E mSH mX5_isTold [av_r 0, av_i 0, av_i 0, av_i 60] s3 (fun v s4 => ∃ r4 : Int, v = some (av_i r4) ∧ ((rg r4) ∧ (((r4 = 0) → Q (some (av_i 0)) s4) ∧ ((¬ r4 = 0) → av_C E mSH mX5_isTold [av_r 0, av_i 1, av_i 0, av_i 3] s4 (fun v s5 => ∃ r5 : Int, v = some (av_i r5) ∧ ((rg r5) ∧ (((r5 = 0) → Q (some (av_i 0)) s5) ∧ ((¬ r5 = 0) → (rg ((s5 12 0) + (s5 12 1))) ∧ (((¬ ((s5 12 0) + (s5 12 1)) = 0) → (0 ≤ (s5 0 19) ∧ (s5 0 19) < 8) ∧ ((0 ≤ (s5 0 19) ∧ (s5 0 19) < 8) ∧ (Q (some (av_i 1)) (av_st (av_st (av_st s5 15 ((s5 0 19)).toNat (s5 12 0)) 16 ((s5 0 19)).toNat (s5 12 1)) 0 19 ((s5 0 19) + 1))))) ∧ ((((s5 12 0) + (s5 12 1)) = 0) → Q (some (av_i 0)) s5)))))))))))))))))))) ∧ ((r1 < 0) → Q (some (av_i 0)) s1))))) ∧ (((σ 0 19) = 8) → Q (some (av_i 0)) σ))) :
    av_C E mSH mX5_readRootOf [av_r 0] σ Q := by
  refine av_C.ofW (L := [some (av_r 0), none]) (by decide) (Nat.le_of_ble_eq_true rfl) rfl ?_
  refine av_aload_n dX5_readRootOf_0 rfl rfl ?_
  refine av_get (k := 19) (x := (σ 0 19)) dX5_readRootOf_1 rfl rfl iuX5 (by decide) rfl wF_X5_85 rfl rfl ?_
  refine av_bipush dX5_readRootOf_4 rfl ?_
  refine av_icmp_ne (tgt := 11) dX5_readRootOf_6 (by decide) h.1 (by decide) (fun c => ?_) (fun c => ?_)
  · have h := h.2.1 c
    refine av_aload_n dX5_readRootOf_11 rfl rfl ?_
    refine av_aload_n dX5_readRootOf_12 rfl rfl ?_
    refine av_getr (k := 21) dX5_readRootOf_13 rfl rfl iuX5 (by decide) rfl wF_X5_49 rfl ?_
    refine av_iconst dX5_readRootOf_16 ?_
    refine av_aload_n dX5_readRootOf_17 rfl rfl ?_
    refine av_get (k := 19) (x := (σ 0 19)) dX5_readRootOf_18 rfl rfl iuX5 (by decide) rfl wF_X5_85 rfl rfl ?_
    refine av_imul dX5_readRootOf_21 ?_
    refine av_iconst dX5_readRootOf_22 ?_
    refine av_bipush dX5_readRootOf_23 rfl ?_
    refine av_callV mX5_readLetters [av_r 14, av_i (3 * (σ 0 19)), av_i 3, av_i 44] [] dX5_readRootOf_25 rfl rfl rfl mbX5_readLetters rfl wI_X5_readLetters wS_X5_readLetters rfl wM_X5_127 ⟨Nat.le_of_ble_eq_true rfl, Nat.le_of_ble_eq_true rfl⟩ rfl (Nat.le_of_ble_eq_true rfl) (av_C.mono (fun v s1 hh => ?_) h)
    obtain ⟨r1, rfl, h⟩ := hh
    change av_W E mSH mX5_readRootOf 28 [some (av_r 0), none] [av_i r1] s1 Q
    refine av_istore_n (L' := [some (av_r 0), some (av_i r1)]) dX5_readRootOf_28 rfl (by decide) rfl ?_
    refine av_iload_n dX5_readRootOf_29 rfl rfl ?_
    refine av_if_ge (tgt := 35) dX5_readRootOf_30 (by decide) h.1 (fun c => ?_) (fun c => ?_)
    · have h := h.2.1 c
      refine av_aload_n dX5_readRootOf_35 rfl rfl ?_
      refine av_getr (k := 20) dX5_readRootOf_36 rfl rfl iuX5 (by decide) rfl wF_X5_46 rfl ?_
      refine av_aload_n dX5_readRootOf_39 rfl rfl ?_
      refine av_get (k := 19) (x := (s1 0 19)) dX5_readRootOf_40 rfl rfl iuX5 (by decide) rfl wF_X5_85 rfl rfl ?_
      refine av_iload_n dX5_readRootOf_43 rfl rfl ?_
      refine av_iast dX5_readRootOf_44 rfl (by decide) h.1 ?_
      refine av_aload_n dX5_readRootOf_45 rfl rfl ?_
      refine av_aload_n dX5_readRootOf_46 rfl rfl ?_
      refine av_get (k := 19) (x := (s1 0 19)) dX5_readRootOf_47 rfl rfl iuX5 (by decide) rfl wF_X5_85 rfl rfl ?_
      refine av_callV mX5_isNew [av_i (s1 0 19)] [] dX5_readRootOf_50 rfl rfl rfl mbX5_isNew rfl wI_X5_isNew wS_X5_isNew rfl wM_X5_131 ⟨Nat.le_of_ble_eq_true rfl, Nat.le_of_ble_eq_true rfl⟩ rfl (Nat.le_of_ble_eq_true rfl) (av_C.mono (fun v s2 hh => ?_) h.2)
      obtain ⟨r2, rfl, h⟩ := hh
      change av_W E mSH mX5_readRootOf 53 [some (av_r 0), some (av_i r1)] [av_i r2] s2 Q
      refine av_if_eq (tgt := 101) dX5_readRootOf_53 (by decide) h.1 (fun c => ?_) (fun c => ?_)
      · have h := h.2.1 c
        refine av_iconst dX5_readRootOf_101 ?_
        exact av_zreturn dX5_readRootOf_102 rfl (by decide) h
      · have h := h.2.2 c
        refine av_aload_n dX5_readRootOf_56 rfl rfl ?_
        refine av_iconst dX5_readRootOf_57 ?_
        refine av_callV mX5_readNumbers [av_i 2] [] dX5_readRootOf_58 rfl rfl rfl mbX5_readNumbers rfl wI_X5_readNumbers wS_X5_readNumbers rfl wM_X5_134 ⟨Nat.le_of_ble_eq_true rfl, Nat.le_of_ble_eq_true rfl⟩ rfl (Nat.le_of_ble_eq_true rfl) (av_C.mono (fun v s3 hh => ?_) h)
        obtain ⟨r3, rfl, h⟩ := hh
        change av_W E mSH mX5_readRootOf 61 [some (av_r 0), some (av_i r1)] [av_i r3] s3 Q
        refine av_if_eq (tgt := 101) dX5_readRootOf_61 (by decide) h.1 (fun c => ?_) (fun c => ?_)
        · have h := h.2.1 c
          refine av_iconst dX5_readRootOf_101 ?_
          exact av_zreturn dX5_readRootOf_102 rfl (by decide) h
        · have h := h.2.2 c
          refine av_aload_n dX5_readRootOf_64 rfl rfl ?_
          refine av_iconst dX5_readRootOf_65 ?_
          refine av_iconst dX5_readRootOf_66 ?_
          refine av_bipush dX5_readRootOf_67 rfl ?_
          refine av_callV mX5_isTold [av_i 0, av_i 0, av_i 60] [] dX5_readRootOf_69 rfl rfl rfl mbX5_isTold rfl wI_X5_isTold wS_X5_isTold rfl wM_X5_137 ⟨Nat.le_of_ble_eq_true rfl, Nat.le_of_ble_eq_true rfl⟩ rfl (Nat.le_of_ble_eq_true rfl) (av_C.mono (fun v s4 hh => ?_) h)
          obtain ⟨r4, rfl, h⟩ := hh
          change av_W E mSH mX5_readRootOf 72 [some (av_r 0), some (av_i r1)] [av_i r4] s4 Q
          refine av_if_eq (tgt := 101) dX5_readRootOf_72 (by decide) h.1 (fun c => ?_) (fun c => ?_)
          · have h := h.2.1 c
            refine av_iconst dX5_readRootOf_101 ?_
            exact av_zreturn dX5_readRootOf_102 rfl (by decide) h
          · have h := h.2.2 c
            refine av_aload_n dX5_readRootOf_75 rfl rfl ?_
            refine av_iconst dX5_readRootOf_76 ?_
            refine av_iconst dX5_readRootOf_77 ?_
            refine av_iconst dX5_readRootOf_78 ?_
            refine av_callV mX5_isTold [av_i 1, av_i 0, av_i 3] [] dX5_readRootOf_79 rfl rfl rfl mbX5_isTold rfl wI_X5_isTold wS_X5_isTold rfl wM_X5_137 ⟨Nat.le_of_ble_eq_true rfl, Nat.le_of_ble_eq_true rfl⟩ rfl (Nat.le_of_ble_eq_true rfl) (av_C.mono (fun v s5 hh => ?_) h)
            obtain ⟨r5, rfl, h⟩ := hh
            change av_W E mSH mX5_readRootOf 82 [some (av_r 0), some (av_i r1)] [av_i r5] s5 Q
            refine av_if_eq (tgt := 101) dX5_readRootOf_82 (by decide) h.1 (fun c => ?_) (fun c => ?_)
            · have h := h.2.1 c
              refine av_iconst dX5_readRootOf_101 ?_
              exact av_zreturn dX5_readRootOf_102 rfl (by decide) h
            · have h := h.2.2 c
              refine av_aload_n dX5_readRootOf_85 rfl rfl ?_
              refine av_getr (k := 18) dX5_readRootOf_86 rfl rfl iuX5 (by decide) rfl wF_X5_43 rfl ?_
              refine av_iconst dX5_readRootOf_89 ?_
              refine av_iald (x := (s5 12 0)) dX5_readRootOf_90 rfl (by decide) (by decide) rfl ?_
              refine av_aload_n dX5_readRootOf_91 rfl rfl ?_
              refine av_getr (k := 18) dX5_readRootOf_92 rfl rfl iuX5 (by decide) rfl wF_X5_43 rfl ?_
              refine av_iconst dX5_readRootOf_95 ?_
              refine av_iald (x := (s5 12 1)) dX5_readRootOf_96 rfl (by decide) (by decide) rfl ?_
              refine av_iadd dX5_readRootOf_97 ?_
              refine av_if_ne (tgt := 103) dX5_readRootOf_98 (by decide) h.1 (fun c => ?_) (fun c => ?_)
              · have h := h.2.1 c
                refine av_aload_n dX5_readRootOf_103 rfl rfl ?_
                refine av_getr (k := 22) dX5_readRootOf_104 rfl rfl iuX5 (by decide) rfl wF_X5_52 rfl ?_
                refine av_aload_n dX5_readRootOf_107 rfl rfl ?_
                refine av_get (k := 19) (x := (s5 0 19)) dX5_readRootOf_108 rfl rfl iuX5 (by decide) rfl wF_X5_85 rfl rfl ?_
                refine av_aload_n dX5_readRootOf_111 rfl rfl ?_
                refine av_getr (k := 18) dX5_readRootOf_112 rfl rfl iuX5 (by decide) rfl wF_X5_43 rfl ?_
                refine av_iconst dX5_readRootOf_115 ?_
                refine av_iald (x := (s5 12 0)) dX5_readRootOf_116 rfl (by decide) (by decide) rfl ?_
                refine av_iast dX5_readRootOf_117 rfl (by decide) h.1 ?_
                refine av_aload_n dX5_readRootOf_118 rfl rfl ?_
                refine av_getr (k := 23) dX5_readRootOf_119 rfl rfl iuX5 (by decide) rfl wF_X5_55 rfl ?_
                refine av_aload_n dX5_readRootOf_122 rfl rfl ?_
                refine av_get (k := 19) (x := (s5 0 19)) dX5_readRootOf_123 rfl rfl iuX5 (by decide) rfl wF_X5_85 rfl rfl ?_
                refine av_aload_n dX5_readRootOf_126 rfl rfl ?_
                refine av_getr (k := 18) dX5_readRootOf_127 rfl rfl iuX5 (by decide) rfl wF_X5_43 rfl ?_
                refine av_iconst dX5_readRootOf_130 ?_
                refine av_iald (x := (s5 12 1)) dX5_readRootOf_131 rfl (by decide) (by decide) rfl ?_
                refine av_iast dX5_readRootOf_132 rfl (by decide) h.2.1 ?_
                refine av_aload_n dX5_readRootOf_133 rfl rfl ?_
                refine av_dup dX5_readRootOf_134 (fun _ h9 => nomatch h9) ?_
                refine av_get (k := 19) (x := (s5 0 19)) dX5_readRootOf_135 rfl rfl iuX5 (by decide) rfl wF_X5_85 rfl rfl ?_
                refine av_iconst dX5_readRootOf_138 ?_
                refine av_iadd dX5_readRootOf_139 ?_
                refine av_put (k := 19) tyX5 dX5_readRootOf_140 rfl rfl iuX5 tyX5_ok nmX5 (by decide) rfl wF_X5_85 rfl rfl rfl ?_
                refine av_iconst dX5_readRootOf_143 ?_
                exact av_zreturn dX5_readRootOf_144 rfl (by decide) h.2.2
              · have h := h.2.2 c
                refine av_iconst dX5_readRootOf_101 ?_
                exact av_zreturn dX5_readRootOf_102 rfl (by decide) h
    · have h := h.2.2 c
      refine av_iconst dX5_readRootOf_33 ?_
      exact av_zreturn dX5_readRootOf_34 rfl (by decide) h
  · have h := h.2.2 c
    refine av_iconst dX5_readRootOf_9 ?_
    exact av_zreturn dX5_readRootOf_10 rfl (by decide) h

theorem uX5_readReaderOf {E : av_E} {σ : av_M} {Q : Option av_V → av_M → Prop} (h : (rg (σ 0 24)) ∧ ((((σ 0 24) = 5) → Q (some (av_i 0)) σ) ∧ ((¬ (σ 0 24) = 5) → av_C E mSH mX5_readNumbers [av_r 0, av_i 3] σ (fun v s1 => ∃ r1 : Int, v = some (av_i r1) ∧ ((rg r1) ∧ (((r1 = 0) → Q (some (av_i 0)) s1) ∧ ((¬ r1 = 0) → av_C E mSH mX5_isTold [av_r 0, av_i 0, av_i 0, av_i 4] s1 (fun v s2 => ∃ r2 : Int, v = some (av_i r2) ∧ ((rg r2) ∧ (((r2 = 0) → Q (some (av_i 0)) s2) ∧ ((¬ r2 = 0) → av_C E mSH mX5_isTold [av_r 0, av_i 1, av_i 1, av_i 12] s2 (fun v s3 => ∃ r3 : Int, v = some (av_i r3) ∧ ((rg r3) ∧ (((r3 = 0) → Q (some (av_i 0)) s3) ∧ ((¬ r3 = 0) → av_C E mSH mX5_isTold [av_r 0, av_i 2, av_i 0, av_i 60] s3 (fun v s4 => ∃ r4 : Int, v = some (av_i r4) ∧ ((rg r4) ∧ (((¬ r4 = 0) → av_C E mSH mX5_tellsReader [av_r 0, av_i (s4 12 0), av_i (s4 12 1), av_i (s4 12 2)] s4 (fun v s5 => v = none ∧ (Q (some (av_i 1)) s5))) ∧ ((r4 = 0) → Q (some (av_i 0)) s4))))))))))))))))))) :
    av_C E mSH mX5_readReaderOf [av_r 0] σ Q := by
  refine av_C.ofW (L := [some (av_r 0)]) (by decide) (Nat.le_of_ble_eq_true rfl) rfl ?_
  refine av_aload_n dX5_readReaderOf_0 rfl rfl ?_
  refine av_get (k := 24) (x := (σ 0 24)) dX5_readReaderOf_1 rfl rfl iuX5 (by decide) rfl wF_X5_89 rfl rfl ?_
  refine av_iconst dX5_readReaderOf_4 ?_
  refine av_icmp_eq (tgt := 48) dX5_readReaderOf_5 (by decide) h.1 (by decide) (fun c => ?_) (fun c => ?_)
  · have h := h.2.1 c
    refine av_iconst dX5_readReaderOf_48 ?_
    exact av_zreturn dX5_readReaderOf_49 rfl (by decide) h
  · have h := h.2.2 c
    refine av_aload_n dX5_readReaderOf_8 rfl rfl ?_
    refine av_iconst dX5_readReaderOf_9 ?_
    refine av_callV mX5_readNumbers [av_i 3] [] dX5_readReaderOf_10 rfl rfl rfl mbX5_readNumbers rfl wI_X5_readNumbers wS_X5_readNumbers rfl wM_X5_134 ⟨Nat.le_of_ble_eq_true rfl, Nat.le_of_ble_eq_true rfl⟩ rfl (Nat.le_of_ble_eq_true rfl) (av_C.mono (fun v s1 hh => ?_) h)
    obtain ⟨r1, rfl, h⟩ := hh
    change av_W E mSH mX5_readReaderOf 13 [some (av_r 0)] [av_i r1] s1 Q
    refine av_if_eq (tgt := 48) dX5_readReaderOf_13 (by decide) h.1 (fun c => ?_) (fun c => ?_)
    · have h := h.2.1 c
      refine av_iconst dX5_readReaderOf_48 ?_
      exact av_zreturn dX5_readReaderOf_49 rfl (by decide) h
    · have h := h.2.2 c
      refine av_aload_n dX5_readReaderOf_16 rfl rfl ?_
      refine av_iconst dX5_readReaderOf_17 ?_
      refine av_iconst dX5_readReaderOf_18 ?_
      refine av_iconst dX5_readReaderOf_19 ?_
      refine av_callV mX5_isTold [av_i 0, av_i 0, av_i 4] [] dX5_readReaderOf_20 rfl rfl rfl mbX5_isTold rfl wI_X5_isTold wS_X5_isTold rfl wM_X5_137 ⟨Nat.le_of_ble_eq_true rfl, Nat.le_of_ble_eq_true rfl⟩ rfl (Nat.le_of_ble_eq_true rfl) (av_C.mono (fun v s2 hh => ?_) h)
      obtain ⟨r2, rfl, h⟩ := hh
      change av_W E mSH mX5_readReaderOf 23 [some (av_r 0)] [av_i r2] s2 Q
      refine av_if_eq (tgt := 48) dX5_readReaderOf_23 (by decide) h.1 (fun c => ?_) (fun c => ?_)
      · have h := h.2.1 c
        refine av_iconst dX5_readReaderOf_48 ?_
        exact av_zreturn dX5_readReaderOf_49 rfl (by decide) h
      · have h := h.2.2 c
        refine av_aload_n dX5_readReaderOf_26 rfl rfl ?_
        refine av_iconst dX5_readReaderOf_27 ?_
        refine av_iconst dX5_readReaderOf_28 ?_
        refine av_bipush dX5_readReaderOf_29 rfl ?_
        refine av_callV mX5_isTold [av_i 1, av_i 1, av_i 12] [] dX5_readReaderOf_31 rfl rfl rfl mbX5_isTold rfl wI_X5_isTold wS_X5_isTold rfl wM_X5_137 ⟨Nat.le_of_ble_eq_true rfl, Nat.le_of_ble_eq_true rfl⟩ rfl (Nat.le_of_ble_eq_true rfl) (av_C.mono (fun v s3 hh => ?_) h)
        obtain ⟨r3, rfl, h⟩ := hh
        change av_W E mSH mX5_readReaderOf 34 [some (av_r 0)] [av_i r3] s3 Q
        refine av_if_eq (tgt := 48) dX5_readReaderOf_34 (by decide) h.1 (fun c => ?_) (fun c => ?_)
        · have h := h.2.1 c
          refine av_iconst dX5_readReaderOf_48 ?_
          exact av_zreturn dX5_readReaderOf_49 rfl (by decide) h
        · have h := h.2.2 c
          refine av_aload_n dX5_readReaderOf_37 rfl rfl ?_
          refine av_iconst dX5_readReaderOf_38 ?_
          refine av_iconst dX5_readReaderOf_39 ?_
          refine av_bipush dX5_readReaderOf_40 rfl ?_
          refine av_callV mX5_isTold [av_i 2, av_i 0, av_i 60] [] dX5_readReaderOf_42 rfl rfl rfl mbX5_isTold rfl wI_X5_isTold wS_X5_isTold rfl wM_X5_137 ⟨Nat.le_of_ble_eq_true rfl, Nat.le_of_ble_eq_true rfl⟩ rfl (Nat.le_of_ble_eq_true rfl) (av_C.mono (fun v s4 hh => ?_) h)
          obtain ⟨r4, rfl, h⟩ := hh
          change av_W E mSH mX5_readReaderOf 45 [some (av_r 0)] [av_i r4] s4 Q
          refine av_if_ne (tgt := 50) dX5_readReaderOf_45 (by decide) h.1 (fun c => ?_) (fun c => ?_)
          · have h := h.2.1 c
            refine av_aload_n dX5_readReaderOf_50 rfl rfl ?_
            refine av_aload_n dX5_readReaderOf_51 rfl rfl ?_
            refine av_getr (k := 18) dX5_readReaderOf_52 rfl rfl iuX5 (by decide) rfl wF_X5_43 rfl ?_
            refine av_iconst dX5_readReaderOf_55 ?_
            refine av_iald (x := (s4 12 0)) dX5_readReaderOf_56 rfl (by decide) (by decide) rfl ?_
            refine av_aload_n dX5_readReaderOf_57 rfl rfl ?_
            refine av_getr (k := 18) dX5_readReaderOf_58 rfl rfl iuX5 (by decide) rfl wF_X5_43 rfl ?_
            refine av_iconst dX5_readReaderOf_61 ?_
            refine av_iald (x := (s4 12 1)) dX5_readReaderOf_62 rfl (by decide) (by decide) rfl ?_
            refine av_aload_n dX5_readReaderOf_63 rfl rfl ?_
            refine av_getr (k := 18) dX5_readReaderOf_64 rfl rfl iuX5 (by decide) rfl wF_X5_43 rfl ?_
            refine av_iconst dX5_readReaderOf_67 ?_
            refine av_iald (x := (s4 12 2)) dX5_readReaderOf_68 rfl (by decide) (by decide) rfl ?_
            refine av_callV mX5_tellsReader [av_i (s4 12 0), av_i (s4 12 1), av_i (s4 12 2)] [] dX5_readReaderOf_69 rfl rfl rfl mbX5_tellsReader rfl wI_X5_tellsReader wS_X5_tellsReader rfl wM_X5_96 ⟨Nat.le_of_ble_eq_true rfl, Nat.le_of_ble_eq_true rfl⟩ rfl (Nat.le_of_ble_eq_true rfl) (av_C.mono (fun v s5 hh => ?_) h)
            obtain ⟨rfl, h⟩ := hh
            change av_W E mSH mX5_readReaderOf 72 [some (av_r 0)] [] s5 Q
            refine av_iconst dX5_readReaderOf_72 ?_
            exact av_zreturn dX5_readReaderOf_73 rfl (by decide) h
          · have h := h.2.2 c
            refine av_iconst dX5_readReaderOf_48 ?_
            exact av_zreturn dX5_readReaderOf_49 rfl (by decide) h

theorem uX5_readRiverOf {E : av_E} {σ : av_M} {Q : Option av_V → av_M → Prop} (h : av_C E mSH mX5_readNumbers [av_r 0, av_i 3] σ (fun v s1 => ∃ r1 : Int, v = some (av_i r1) ∧ ((rg r1) ∧ (((r1 = 0) → Q (some (av_i 0)) s1) ∧ ((¬ r1 = 0) → av_C E mSH mX5_isTold [av_r 0, av_i 0, av_i 3, av_i 60] s1 (fun v s2 => ∃ r2 : Int, v = some (av_i r2) ∧ ((rg r2) ∧ (((r2 = 0) → Q (some (av_i 0)) s2) ∧ ((¬ r2 = 0) → av_C E mSH mX5_isTold [av_r 0, av_i 1, av_i 0, av_i 24] s2 (fun v s3 => ∃ r3 : Int, v = some (av_i r3) ∧ ((rg r3) ∧ (((r3 = 0) → Q (some (av_i 0)) s3) ∧ ((¬ r3 = 0) → av_C E mSH mX5_isTold [av_r 0, av_i 2, av_i 1, av_i 20] s3 (fun v s4 => ∃ r4 : Int, v = some (av_i r4) ∧ ((rg r4) ∧ (((¬ r4 = 0) → av_W E mSH mX5_readRiverOf 45 [some (av_r 0), some (av_i 0)] [] s4 Q) ∧ ((r4 = 0) → Q (some (av_i 0)) s4))))))))))))))))) :
    av_C E mSH mX5_readRiverOf [av_r 0] σ Q := by
  refine av_C.ofW (L := [some (av_r 0), none]) (by decide) (Nat.le_of_ble_eq_true rfl) rfl ?_
  refine av_aload_n dX5_readRiverOf_0 rfl rfl ?_
  refine av_iconst dX5_readRiverOf_1 ?_
  refine av_callV mX5_readNumbers [av_i 3] [] dX5_readRiverOf_2 rfl rfl rfl mbX5_readNumbers rfl wI_X5_readNumbers wS_X5_readNumbers rfl wM_X5_134 ⟨Nat.le_of_ble_eq_true rfl, Nat.le_of_ble_eq_true rfl⟩ rfl (Nat.le_of_ble_eq_true rfl) (av_C.mono (fun v s1 hh => ?_) h)
  obtain ⟨r1, rfl, h⟩ := hh
  change av_W E mSH mX5_readRiverOf 5 [some (av_r 0), none] [av_i r1] s1 Q
  refine av_if_eq (tgt := 41) dX5_readRiverOf_5 (by decide) h.1 (fun c => ?_) (fun c => ?_)
  · have h := h.2.1 c
    refine av_iconst dX5_readRiverOf_41 ?_
    exact av_zreturn dX5_readRiverOf_42 rfl (by decide) h
  · have h := h.2.2 c
    refine av_aload_n dX5_readRiverOf_8 rfl rfl ?_
    refine av_iconst dX5_readRiverOf_9 ?_
    refine av_iconst dX5_readRiverOf_10 ?_
    refine av_bipush dX5_readRiverOf_11 rfl ?_
    refine av_callV mX5_isTold [av_i 0, av_i 3, av_i 60] [] dX5_readRiverOf_13 rfl rfl rfl mbX5_isTold rfl wI_X5_isTold wS_X5_isTold rfl wM_X5_137 ⟨Nat.le_of_ble_eq_true rfl, Nat.le_of_ble_eq_true rfl⟩ rfl (Nat.le_of_ble_eq_true rfl) (av_C.mono (fun v s2 hh => ?_) h)
    obtain ⟨r2, rfl, h⟩ := hh
    change av_W E mSH mX5_readRiverOf 16 [some (av_r 0), none] [av_i r2] s2 Q
    refine av_if_eq (tgt := 41) dX5_readRiverOf_16 (by decide) h.1 (fun c => ?_) (fun c => ?_)
    · have h := h.2.1 c
      refine av_iconst dX5_readRiverOf_41 ?_
      exact av_zreturn dX5_readRiverOf_42 rfl (by decide) h
    · have h := h.2.2 c
      refine av_aload_n dX5_readRiverOf_19 rfl rfl ?_
      refine av_iconst dX5_readRiverOf_20 ?_
      refine av_iconst dX5_readRiverOf_21 ?_
      refine av_bipush dX5_readRiverOf_22 rfl ?_
      refine av_callV mX5_isTold [av_i 1, av_i 0, av_i 24] [] dX5_readRiverOf_24 rfl rfl rfl mbX5_isTold rfl wI_X5_isTold wS_X5_isTold rfl wM_X5_137 ⟨Nat.le_of_ble_eq_true rfl, Nat.le_of_ble_eq_true rfl⟩ rfl (Nat.le_of_ble_eq_true rfl) (av_C.mono (fun v s3 hh => ?_) h)
      obtain ⟨r3, rfl, h⟩ := hh
      change av_W E mSH mX5_readRiverOf 27 [some (av_r 0), none] [av_i r3] s3 Q
      refine av_if_eq (tgt := 41) dX5_readRiverOf_27 (by decide) h.1 (fun c => ?_) (fun c => ?_)
      · have h := h.2.1 c
        refine av_iconst dX5_readRiverOf_41 ?_
        exact av_zreturn dX5_readRiverOf_42 rfl (by decide) h
      · have h := h.2.2 c
        refine av_aload_n dX5_readRiverOf_30 rfl rfl ?_
        refine av_iconst dX5_readRiverOf_31 ?_
        refine av_iconst dX5_readRiverOf_32 ?_
        refine av_bipush dX5_readRiverOf_33 rfl ?_
        refine av_callV mX5_isTold [av_i 2, av_i 1, av_i 20] [] dX5_readRiverOf_35 rfl rfl rfl mbX5_isTold rfl wI_X5_isTold wS_X5_isTold rfl wM_X5_137 ⟨Nat.le_of_ble_eq_true rfl, Nat.le_of_ble_eq_true rfl⟩ rfl (Nat.le_of_ble_eq_true rfl) (av_C.mono (fun v s4 hh => ?_) h)
        obtain ⟨r4, rfl, h⟩ := hh
        change av_W E mSH mX5_readRiverOf 38 [some (av_r 0), none] [av_i r4] s4 Q
        refine av_if_ne (tgt := 43) dX5_readRiverOf_38 (by decide) h.1 (fun c => ?_) (fun c => ?_)
        · have h := h.2.1 c
          refine av_iconst dX5_readRiverOf_43 ?_
          refine av_istore_n (L' := [some (av_r 0), some (av_i 0)]) dX5_readRiverOf_44 rfl (by decide) rfl ?_
          exact h
        · have h := h.2.2 c
          refine av_iconst dX5_readRiverOf_41 ?_
          exact av_zreturn dX5_readRiverOf_42 rfl (by decide) h

theorem uX5_readRiverOf_45 {E : av_E} {σ : av_M} {Q : Option av_V → av_M → Prop} {x1 : Int} (h : (rg x1) ∧ (((3 ≤ x1) → Q (some (av_i 1)) σ) ∧ ((x1 < 3) → (0 ≤ x1 ∧ x1 < 3) ∧ ((0 ≤ x1 ∧ x1 < 3) ∧ (av_W E mSH mX5_readRiverOf 45 [some (av_r 0), some (av_i (x1 + 1))] [] (av_st σ 19 (x1).toNat (σ 12 (x1).toNat)) Q))))) :
    av_W E mSH mX5_readRiverOf 45 [some (av_r 0), some (av_i x1)] [] σ Q := by
  refine av_iload_n dX5_readRiverOf_45 rfl rfl ?_
  refine av_iconst dX5_readRiverOf_46 ?_
  refine av_icmp_ge (tgt := 68) dX5_readRiverOf_47 (by decide) h.1 (by decide) (fun c => ?_) (fun c => ?_)
  · have h := h.2.1 c
    refine av_iconst dX5_readRiverOf_68 ?_
    exact av_zreturn dX5_readRiverOf_69 rfl (by decide) h
  · have h := h.2.2 c
    refine av_aload_n dX5_readRiverOf_50 rfl rfl ?_
    refine av_getr (k := 28) dX5_readRiverOf_51 rfl rfl iuX5 (by decide) rfl wF_X5_64 rfl ?_
    refine av_iload_n dX5_readRiverOf_54 rfl rfl ?_
    refine av_aload_n dX5_readRiverOf_55 rfl rfl ?_
    refine av_getr (k := 18) dX5_readRiverOf_56 rfl rfl iuX5 (by decide) rfl wF_X5_43 rfl ?_
    refine av_iload_n dX5_readRiverOf_59 rfl rfl ?_
    refine av_iald (x := (σ 12 (x1).toNat)) dX5_readRiverOf_60 rfl (by decide) h.1 rfl ?_
    refine av_iast dX5_readRiverOf_61 rfl (by decide) h.2.1 ?_
    refine av_iinc (L' := [some (av_r 0), some (av_i (x1 + 1))]) dX5_readRiverOf_62 rfl (by decide) rfl rfl ?_
    refine av_goto (tgt := 45) dX5_readRiverOf_65 (by decide) ?_
    exact h.2.2

theorem uX5_readItem {E : av_E} {σ : av_M} {Q : Option av_V → av_M → Prop} (h : av_C E mSH mX5_letterAt [av_r 0, av_i (σ 0 17)] σ (fun v s1 => ∃ r1 : Int, v = some (av_i r1) ∧ ((rg r1) ∧ ((r1 = 103 → av_C E mSH mX5_readNumbers [av_r 0, av_i 1] (av_st s1 0 17 ((s1 0 17) + 1)) (fun v s2 => ∃ r2 : Int, v = some (av_i r2) ∧ ((rg r2) ∧ (((r2 = 0) → (r2 = 0 ∨ r2 = 1) ∧ (Q (some (av_i r2)) (av_st s2 0 29 (s2 0 29)))) ∧ ((¬ r2 = 0) → (r2 = 0 ∨ r2 = 1) ∧ (Q (some (av_i r2)) (av_st s2 0 29 (s2 12 0)))))))) ∧ (r1 = 107 → av_C E mSH mX5_readReaderOf [av_r 0] (av_st s1 0 17 ((s1 0 17) + 1)) (fun v s3 => ∃ r3 : Int, v = some (av_i r3) ∧ ((r3 = 0 ∨ r3 = 1) ∧ (Q (some (av_i r3)) s3)))) ∧ (r1 = 114 → av_C E mSH mX5_readRootOf [av_r 0] (av_st s1 0 17 ((s1 0 17) + 1)) (fun v s4 => ∃ r4 : Int, v = some (av_i r4) ∧ ((r4 = 0 ∨ r4 = 1) ∧ (Q (some (av_i r4)) s4)))) ∧ (r1 = 118 → av_C E mSH mX5_readRiverOf [av_r 0] (av_st s1 0 17 ((s1 0 17) + 1)) (fun v s5 => ∃ r5 : Int, v = some (av_i r5) ∧ ((r5 = 0 ∨ r5 = 1) ∧ (Q (some (av_i r5)) s5)))) ∧ (r1 = 119 → av_C E mSH mX5_readLetters [av_r 0, av_r 18, av_i 0, av_i 9, av_i 59] (av_st s1 0 17 ((s1 0 17) + 1)) (fun v s6 => ∃ r6 : Int, v = some (av_i r6) ∧ ((rg r6) ∧ (((r6 ≤ 0) → Q (some (av_i 0)) (av_st s6 0 26 r6)) ∧ ((0 < r6) → Q (some (av_i 1)) (av_st s6 0 26 r6)))))) ∧ ((¬ r1 = 103 ∧ ¬ r1 = 107 ∧ ¬ r1 = 114 ∧ ¬ r1 = 118 ∧ ¬ r1 = 119) → Q (some (av_i 0)) (av_st s1 0 17 ((s1 0 17) + 1))))))) :
    av_C E mSH mX5_readItem [av_r 0] σ Q := by
  refine av_C.ofW (L := [some (av_r 0), none, none]) (by decide) (Nat.le_of_ble_eq_true rfl) rfl ?_
  refine av_aload_n dX5_readItem_0 rfl rfl ?_
  refine av_aload_n dX5_readItem_1 rfl rfl ?_
  refine av_get (k := 17) (x := (σ 0 17)) dX5_readItem_2 rfl rfl iuX5 (by decide) rfl wF_X5_116 rfl rfl ?_
  refine av_callV mX5_letterAt [av_i (σ 0 17)] [] dX5_readItem_5 rfl rfl rfl mbX5_letterAt rfl wI_X5_letterAt wS_X5_letterAt rfl wM_X5_119 ⟨Nat.le_of_ble_eq_true rfl, Nat.le_of_ble_eq_true rfl⟩ rfl (Nat.le_of_ble_eq_true rfl) (av_C.mono (fun v s1 hh => ?_) h)
  obtain ⟨r1, rfl, h⟩ := hh
  change av_W E mSH mX5_readItem 8 [some (av_r 0), none, none] [av_i r1] s1 Q
  refine av_istore_n (L' := [some (av_r 0), some (av_i r1), none]) dX5_readItem_8 rfl (by decide) rfl ?_
  refine av_aload_n dX5_readItem_9 rfl rfl ?_
  refine av_dup dX5_readItem_10 (fun _ h9 => nomatch h9) ?_
  refine av_get (k := 17) (x := (s1 0 17)) dX5_readItem_11 rfl rfl iuX5 (by decide) rfl wF_X5_116 rfl rfl ?_
  refine av_iconst dX5_readItem_14 ?_
  refine av_iadd dX5_readItem_15 ?_
  refine av_put (k := 17) tyX5 dX5_readItem_16 rfl rfl iuX5 tyX5_ok nmX5 (by decide) rfl wF_X5_116 rfl rfl rfl ?_
  refine av_iload_n dX5_readItem_19 rfl rfl ?_
  have hrg := h.1
  by_cases c0 : r1 = 103
  · have h := h.2.1 c0
    refine av_lookup (tgt := 117) (off := 97) dX5_readItem_20 (by decide) (by simp [Op.lookupswitch.offset, c0]) hrg (by decide) ?_
    refine av_aload_n dX5_readItem_117 rfl rfl ?_
    refine av_iconst dX5_readItem_118 ?_
    refine av_callV mX5_readNumbers [av_i 1] [] dX5_readItem_119 rfl rfl rfl mbX5_readNumbers rfl wI_X5_readNumbers wS_X5_readNumbers rfl wM_X5_134 ⟨Nat.le_of_ble_eq_true rfl, Nat.le_of_ble_eq_true rfl⟩ rfl (Nat.le_of_ble_eq_true rfl) (av_C.mono (fun v s2 hh => ?_) h)
    obtain ⟨r2, rfl, h⟩ := hh
    change av_W E mSH mX5_readItem 122 [some (av_r 0), some (av_i r1), none] [av_i r2] s2 Q
    refine av_istore_n (L' := [some (av_r 0), some (av_i r1), some (av_i r2)]) dX5_readItem_122 rfl (by decide) rfl ?_
    refine av_aload_n dX5_readItem_123 rfl rfl ?_
    refine av_iload_n dX5_readItem_124 rfl rfl ?_
    refine av_if_eq (tgt := 137) dX5_readItem_125 (by decide) h.1 (fun c => ?_) (fun c => ?_)
    · have h := h.2.1 c
      refine av_aload_n dX5_readItem_137 rfl rfl ?_
      refine av_get (k := 29) (x := (s2 0 29)) dX5_readItem_138 rfl rfl iuX5 (by decide) rfl wF_X5_103 rfl rfl ?_
      refine av_put (k := 29) tyX5 dX5_readItem_141 rfl rfl iuX5 tyX5_ok nmX5 (by decide) rfl wF_X5_103 rfl rfl rfl ?_
      refine av_iload_n dX5_readItem_144 rfl rfl ?_
      exact av_zreturn dX5_readItem_145 rfl h.1 h.2
    · have h := h.2.2 c
      refine av_aload_n dX5_readItem_128 rfl rfl ?_
      refine av_getr (k := 18) dX5_readItem_129 rfl rfl iuX5 (by decide) rfl wF_X5_43 rfl ?_
      refine av_iconst dX5_readItem_132 ?_
      refine av_iald (x := (s2 12 0)) dX5_readItem_133 rfl (by decide) (by decide) rfl ?_
      refine av_goto (tgt := 141) dX5_readItem_134 (by decide) ?_
      refine av_put (k := 29) tyX5 dX5_readItem_141 rfl rfl iuX5 tyX5_ok nmX5 (by decide) rfl wF_X5_103 rfl rfl rfl ?_
      refine av_iload_n dX5_readItem_144 rfl rfl ?_
      exact av_zreturn dX5_readItem_145 rfl h.1 h.2
  by_cases c1 : r1 = 107
  · have h := h.2.2.1 c1
    refine av_lookup (tgt := 77) (off := 57) dX5_readItem_20 (by decide) (by simp [Op.lookupswitch.offset, c1]) hrg (by decide) ?_
    refine av_aload_n dX5_readItem_77 rfl rfl ?_
    refine av_callV mX5_readReaderOf [] [] dX5_readItem_78 rfl rfl rfl mbX5_readReaderOf rfl wI_X5_readReaderOf wS_X5_readReaderOf rfl wM_X5_144 ⟨Nat.le_of_ble_eq_true rfl, Nat.le_of_ble_eq_true rfl⟩ rfl (Nat.le_of_ble_eq_true rfl) (av_C.mono (fun v s3 hh => ?_) h)
    obtain ⟨r3, rfl, h⟩ := hh
    change av_W E mSH mX5_readItem 81 [some (av_r 0), some (av_i r1), none] [av_i r3] s3 Q
    exact av_zreturn dX5_readItem_81 rfl h.1 h.2
  by_cases c2 : r1 = 114
  · have h := h.2.2.2.1 c2
    refine av_lookup (tgt := 72) (off := 52) dX5_readItem_20 (by decide) (by simp [Op.lookupswitch.offset, c2]) hrg (by decide) ?_
    refine av_aload_n dX5_readItem_72 rfl rfl ?_
    refine av_callV mX5_readRootOf [] [] dX5_readItem_73 rfl rfl rfl mbX5_readRootOf rfl wI_X5_readRootOf wS_X5_readRootOf rfl wM_X5_140 ⟨Nat.le_of_ble_eq_true rfl, Nat.le_of_ble_eq_true rfl⟩ rfl (Nat.le_of_ble_eq_true rfl) (av_C.mono (fun v s4 hh => ?_) h)
    obtain ⟨r4, rfl, h⟩ := hh
    change av_W E mSH mX5_readItem 76 [some (av_r 0), some (av_i r1), none] [av_i r4] s4 Q
    exact av_zreturn dX5_readItem_76 rfl h.1 h.2
  by_cases c3 : r1 = 118
  · have h := h.2.2.2.2.1 c3
    refine av_lookup (tgt := 112) (off := 92) dX5_readItem_20 (by decide) (by simp [Op.lookupswitch.offset, c3]) hrg (by decide) ?_
    refine av_aload_n dX5_readItem_112 rfl rfl ?_
    refine av_callV mX5_readRiverOf [] [] dX5_readItem_113 rfl rfl rfl mbX5_readRiverOf rfl wI_X5_readRiverOf wS_X5_readRiverOf rfl wM_X5_147 ⟨Nat.le_of_ble_eq_true rfl, Nat.le_of_ble_eq_true rfl⟩ rfl (Nat.le_of_ble_eq_true rfl) (av_C.mono (fun v s5 hh => ?_) h)
    obtain ⟨r5, rfl, h⟩ := hh
    change av_W E mSH mX5_readItem 116 [some (av_r 0), some (av_i r1), none] [av_i r5] s5 Q
    exact av_zreturn dX5_readItem_116 rfl h.1 h.2
  by_cases c4 : r1 = 119
  · have h := h.2.2.2.2.2.1 c4
    refine av_lookup (tgt := 82) (off := 62) dX5_readItem_20 (by decide) (by simp [Op.lookupswitch.offset, c4]) hrg (by decide) ?_
    refine av_aload_n dX5_readItem_82 rfl rfl ?_
    refine av_aload_n dX5_readItem_83 rfl rfl ?_
    refine av_aload_n dX5_readItem_84 rfl rfl ?_
    refine av_getr (k := 27) dX5_readItem_85 rfl rfl iuX5 (by decide) rfl wF_X5_61 rfl ?_
    refine av_iconst dX5_readItem_88 ?_
    refine av_bipush dX5_readItem_89 rfl ?_
    refine av_bipush dX5_readItem_91 rfl ?_
    refine av_callV mX5_readLetters [av_r 18, av_i 0, av_i 9, av_i 59] [av_r 0] dX5_readItem_93 rfl rfl rfl mbX5_readLetters rfl wI_X5_readLetters wS_X5_readLetters rfl wM_X5_127 ⟨Nat.le_of_ble_eq_true rfl, Nat.le_of_ble_eq_true rfl⟩ rfl (Nat.le_of_ble_eq_true rfl) (av_C.mono (fun v s6 hh => ?_) h)
    obtain ⟨r6, rfl, h⟩ := hh
    change av_W E mSH mX5_readItem 96 [some (av_r 0), some (av_i r1), none] [av_i r6, av_r 0] s6 Q
    refine av_put (k := 26) tyX5 dX5_readItem_96 rfl rfl iuX5 tyX5_ok nmX5 (by decide) rfl wF_X5_100 rfl rfl rfl ?_
    refine av_aload_n dX5_readItem_99 rfl rfl ?_
    refine av_get (k := 26) (x := r6) dX5_readItem_100 rfl rfl iuX5 (by decide) rfl wF_X5_100 rfl rfl ?_
    refine av_if_le (tgt := 110) dX5_readItem_103 (by decide) h.1 (fun c => ?_) (fun c => ?_)
    · have h := h.2.1 c
      refine av_iconst dX5_readItem_110 ?_
      exact av_zreturn dX5_readItem_111 rfl (by decide) h
    · have h := h.2.2 c
      refine av_iconst dX5_readItem_106 ?_
      refine av_goto (tgt := 111) dX5_readItem_107 (by decide) ?_
      exact av_zreturn dX5_readItem_111 rfl (by decide) h
  have h := h.2.2.2.2.2.2 ⟨c0, c1, c2, c3, c4⟩
  refine av_lookup (tgt := 146) (off := 126) dX5_readItem_20 (by decide) (by simp only [Op.lookupswitch.offset]; rw [if_neg (fun e => c0 (Eq.symm e)), if_neg (fun e => c1 (Eq.symm e)), if_neg (fun e => c2 (Eq.symm e)), if_neg (fun e => c3 (Eq.symm e)), if_neg (fun e => c4 (Eq.symm e))]) hrg (by decide) ?_
  refine av_iconst dX5_readItem_146 ?_
  exact av_zreturn dX5_readItem_147 rfl (by decide) h

theorem uX5_fault {E : av_E} {σ : av_M} {Q : Option av_V → av_M → Prop} (h : av_C E mSH mX5_clearTold [av_r 0] (av_st σ 0 17 0) (fun v s1 => v = none ∧ (av_W E mSH mX5_fault 9 [some (av_r 0), none] [] s1 Q))) :
    av_C E mSH mX5_fault [av_r 0] σ Q := by
  refine av_C.ofW (L := [some (av_r 0), none]) (by decide) (Nat.le_of_ble_eq_true rfl) rfl ?_
  refine av_aload_n dX5_fault_0 rfl rfl ?_
  refine av_iconst dX5_fault_1 ?_
  refine av_put (k := 17) tyX5 dX5_fault_2 rfl rfl iuX5 tyX5_ok nmX5 (by decide) rfl wF_X5_116 rfl rfl rfl ?_
  refine av_aload_n dX5_fault_5 rfl rfl ?_
  refine av_callV mX5_clearTold [] [] dX5_fault_6 rfl rfl rfl mbX5_clearTold rfl wI_X5_clearTold wS_X5_clearTold rfl wM_X5_76 ⟨Nat.le_of_ble_eq_true rfl, Nat.le_of_ble_eq_true rfl⟩ rfl (Nat.le_of_ble_eq_true rfl) (av_C.mono (fun v s1 hh => ?_) h)
  obtain ⟨rfl, h⟩ := hh
  change av_W E mSH mX5_fault 9 [some (av_r 0), none] [] s1 Q
  exact h

theorem uX5_fault_9 {E : av_E} {σ : av_M} {Q : Option av_V → av_M → Prop} (h : (rg (σ 0 17)) ∧ ((rg (σ 0 16)) ∧ ((((σ 0 16) ≤ (σ 0 17)) → Q (some (av_i (-4))) σ) ∧ (((σ 0 17) < (σ 0 16)) → av_C E mSH mX5_readItem [av_r 0] σ (fun v s1 => ∃ r1 : Int, v = some (av_i r1) ∧ ((rg r1) ∧ (((¬ r1 = 0) → av_W E mSH mX5_fault 9 [some (av_r 0), none] [] s1 Q) ∧ ((r1 = 0) → Q (some (av_i (σ 0 17))) s1)))))))) :
    av_W E mSH mX5_fault 9 [some (av_r 0), none] [] σ Q := by
  refine av_aload_n dX5_fault_9 rfl rfl ?_
  refine av_get (k := 17) (x := (σ 0 17)) dX5_fault_10 rfl rfl iuX5 (by decide) rfl wF_X5_116 rfl rfl ?_
  refine av_aload_n dX5_fault_13 rfl rfl ?_
  refine av_get (k := 16) (x := (σ 0 16)) dX5_fault_14 rfl rfl iuX5 (by decide) rfl wF_X5_113 rfl rfl ?_
  refine av_icmp_ge (tgt := 37) dX5_fault_17 (by decide) h.1 h.2.1 (fun c => ?_) (fun c => ?_)
  · have h := h.2.2.1 c
    refine av_bipush dX5_fault_37 rfl ?_
    exact av_ireturn dX5_fault_39 rfl h
  · have h := h.2.2.2 c
    refine av_aload_n dX5_fault_20 rfl rfl ?_
    refine av_get (k := 17) (x := (σ 0 17)) dX5_fault_21 rfl rfl iuX5 (by decide) rfl wF_X5_116 rfl rfl ?_
    refine av_istore_n (L' := [some (av_r 0), some (av_i (σ 0 17))]) dX5_fault_24 rfl (by decide) rfl ?_
    refine av_aload_n dX5_fault_25 rfl rfl ?_
    refine av_callV mX5_readItem [] [] dX5_fault_26 rfl rfl rfl mbX5_readItem rfl wI_X5_readItem wS_X5_readItem rfl wM_X5_150 ⟨Nat.le_of_ble_eq_true rfl, Nat.le_of_ble_eq_true rfl⟩ rfl (Nat.le_of_ble_eq_true rfl) (av_C.mono (fun v s1 hh => ?_) h)
    obtain ⟨r1, rfl, h⟩ := hh
    change av_W E mSH mX5_fault 29 [some (av_r 0), some (av_i (σ 0 17))] [av_i r1] s1 Q
    refine av_if_ne (tgt := 34) dX5_fault_29 (by decide) h.1 (fun c => ?_) (fun c => ?_)
    · have h := h.2.1 c
      refine av_goto (tgt := 9) dX5_fault_34 (by decide) ?_
      refine av_res [true, false] (L' := [some (av_r 0), none]) rfl ?_
      exact h
    · have h := h.2.2 c
      refine av_iload_n dX5_fault_32 rfl rfl ?_
      exact av_ireturn dX5_fault_33 rfl h

theorem uX5_lay {E : av_E} {σ : av_M} {Q : Option av_V → av_M → Prop} (h : av_C E mSH mX5_fault [av_r 0] σ (fun v s1 => ∃ r1 : Int, v = some (av_i r1) ∧ ((rg r1) ∧ (((¬ r1 = (-4)) → Q (some (av_i (-2))) s1) ∧ ((r1 = (-4)) → (rg (s1 0 19)) ∧ ((((s1 0 19) = 0) → Q (some (av_i (-2))) s1) ∧ ((¬ (s1 0 19) = 0) → (rg (s1 0 24)) ∧ (((¬ (s1 0 24) = 0) → av_C E mSH mX5_settles [av_r 0] s1 (fun v s2 => v = none ∧ (Q (some (av_i (s2 0 0))) s2))) ∧ (((s1 0 24) = 0) → Q (some (av_i (-2))) s1))))))))) :
    av_C E mSH mX5_lay [av_r 0] σ Q := by
  refine av_C.ofW (L := [some (av_r 0)]) (by decide) (Nat.le_of_ble_eq_true rfl) rfl ?_
  refine av_aload_n dX5_lay_0 rfl rfl ?_
  refine av_callV mX5_fault [] [] dX5_lay_1 rfl rfl rfl mbX5_fault rfl wI_X5_fault wS_X5_fault rfl wM_X5_153 ⟨Nat.le_of_ble_eq_true rfl, Nat.le_of_ble_eq_true rfl⟩ rfl (Nat.le_of_ble_eq_true rfl) (av_C.mono (fun v s1 hh => ?_) h)
  obtain ⟨r1, rfl, h⟩ := hh
  change av_W E mSH mX5_lay 4 [some (av_r 0)] [av_i r1] s1 Q
  refine av_bipush dX5_lay_4 rfl ?_
  refine av_icmp_ne (tgt := 23) dX5_lay_6 (by decide) h.1 (by decide) (fun c => ?_) (fun c => ?_)
  · have h := h.2.1 c
    refine av_bipush dX5_lay_23 rfl ?_
    exact av_ireturn dX5_lay_25 rfl h
  · have h := h.2.2 c
    refine av_aload_n dX5_lay_9 rfl rfl ?_
    refine av_get (k := 19) (x := (s1 0 19)) dX5_lay_10 rfl rfl iuX5 (by decide) rfl wF_X5_85 rfl rfl ?_
    refine av_if_eq (tgt := 23) dX5_lay_13 (by decide) h.1 (fun c => ?_) (fun c => ?_)
    · have h := h.2.1 c
      refine av_bipush dX5_lay_23 rfl ?_
      exact av_ireturn dX5_lay_25 rfl h
    · have h := h.2.2 c
      refine av_aload_n dX5_lay_16 rfl rfl ?_
      refine av_get (k := 24) (x := (s1 0 24)) dX5_lay_17 rfl rfl iuX5 (by decide) rfl wF_X5_89 rfl rfl ?_
      refine av_if_ne (tgt := 26) dX5_lay_20 (by decide) h.1 (fun c => ?_) (fun c => ?_)
      · have h := h.2.1 c
        refine av_aload_n dX5_lay_26 rfl rfl ?_
        refine av_callV mX5_settles [] [] dX5_lay_27 rfl rfl rfl mbX5_settles rfl wI_X5_settles wS_X5_settles rfl wM_X5_82 ⟨Nat.le_of_ble_eq_true rfl, Nat.le_of_ble_eq_true rfl⟩ rfl (Nat.le_of_ble_eq_true rfl) (av_C.mono (fun v s2 hh => ?_) h)
        obtain ⟨rfl, h⟩ := hh
        change av_W E mSH mX5_lay 30 [some (av_r 0)] [] s2 Q
        refine av_aload_n dX5_lay_30 rfl rfl ?_
        refine av_get (k := 0) (x := (s2 0 0)) dX5_lay_31 rfl rfl iuX5 (by decide) rfl wF_X5_157 rfl rfl ?_
        exact av_ireturn dX5_lay_34 rfl h
      · have h := h.2.2 c
        refine av_bipush dX5_lay_23 rfl ?_
        exact av_ireturn dX5_lay_25 rfl h

theorem uX5_copies {E : av_E} {σ : av_M} {Q : Option av_V → av_M → Prop} {i0 i1 n0 n1 : Nat} (hs0 : mSH[i0]? = some (.inl (0, n0))) (hs1 : mSH[i1]? = some (.inl (0, n1))) (hn0 : n0 ≤ 2147483647) (hn1 : n1 ≤ 2147483647) {a2 a4 a5 : Int} (h : av_W E mSH mX5_copies 3 [some (av_r i0), some (av_i a2), some (av_r i1), some (av_i a4), some (av_i a5), some (av_i 0)] [] σ Q) :
    av_C E mSH mX5_copies [av_r i0, av_i a2, av_r i1, av_i a4, av_i a5] σ Q := by
  refine av_C.ofW (L := [some (av_r i0), some (av_i a2), some (av_r i1), some (av_i a4), some (av_i a5), none]) (by decide) (Nat.le_of_ble_eq_true rfl) rfl ?_
  refine av_iconst dX5_copies_0 ?_
  refine av_istore (L' := [some (av_r i0), some (av_i a2), some (av_r i1), some (av_i a4), some (av_i a5), some (av_i 0)]) dX5_copies_1 (by decide) rfl ?_
  exact h

theorem uX5_copies_3 {E : av_E} {σ : av_M} {Q : Option av_V → av_M → Prop} {i0 i1 n0 n1 : Nat} (hs0 : mSH[i0]? = some (.inl (0, n0))) (hs1 : mSH[i1]? = some (.inl (0, n1))) (hn0 : n0 ≤ 2147483647) (hn1 : n1 ≤ 2147483647) {x1 x3 x4 x5 : Int} (h : (rg x5) ∧ ((rg x4) ∧ (((x4 ≤ x5) → Q none σ) ∧ ((x5 < x4) → (0 ≤ (x3 + x5) ∧ (x3 + x5) < (n1 : Int)) ∧ ((0 ≤ (x1 + x5) ∧ (x1 + x5) < (n0 : Int)) ∧ (av_W E mSH mX5_copies 3 [some (av_r i0), some (av_i x1), some (av_r i1), some (av_i x3), some (av_i x4), some (av_i (x5 + 1))] [] (av_st σ i0 ((x1 + x5)).toNat (σ i1 ((x3 + x5)).toNat)) Q)))))) :
    av_W E mSH mX5_copies 3 [some (av_r i0), some (av_i x1), some (av_r i1), some (av_i x3), some (av_i x4), some (av_i x5)] [] σ Q := by
  refine av_iload dX5_copies_3 rfl ?_
  refine av_iload dX5_copies_5 rfl ?_
  refine av_icmp_ge (tgt := 28) dX5_copies_7 (by decide) h.1 h.2.1 (fun c => ?_) (fun c => ?_)
  · have h := h.2.2.1 c
    exact av_return dX5_copies_28 rfl h
  · have h := h.2.2.2 c
    refine av_aload_n dX5_copies_10 rfl rfl ?_
    refine av_iload_n dX5_copies_11 rfl rfl ?_
    refine av_iload dX5_copies_12 rfl ?_
    refine av_iadd dX5_copies_14 ?_
    refine av_aload_n dX5_copies_15 rfl rfl ?_
    refine av_iload_n dX5_copies_16 rfl rfl ?_
    refine av_iload dX5_copies_17 rfl ?_
    refine av_iadd dX5_copies_19 ?_
    refine av_iald (x := (σ i1 ((x3 + x5)).toNat)) dX5_copies_20 hs1 hn1 h.1 rfl ?_
    refine av_iast dX5_copies_21 hs0 hn0 h.2.1 ?_
    refine av_iinc (L' := [some (av_r i0), some (av_i x1), some (av_r i1), some (av_i x3), some (av_i x4), some (av_i (x5 + 1))]) dX5_copies_22 rfl (by decide) rfl rfl ?_
    refine av_goto (tgt := 3) dX5_copies_25 (by decide) ?_
    exact h.2.2

theorem uX5_settles {E : av_E} {σ : av_M} {Q : Option av_V → av_M → Prop} (h : av_C E mSH mX5_copies [av_r 1, av_i 0, av_r 13, av_i 0, av_i 8] (av_st σ 0 0 (σ 0 19)) (fun v s1 => v = none ∧ (av_C E mSH mX5_copies [av_r 2, av_i 0, av_r 14, av_i 0, av_i 24] s1 (fun v s2 => v = none ∧ (av_C E mSH mX5_copies [av_r 3, av_i 0, av_r 15, av_i 0, av_i 8] s2 (fun v s3 => v = none ∧ (av_C E mSH mX5_copies [av_r 4, av_i 0, av_r 16, av_i 0, av_i 8] s3 (fun v s4 => v = none ∧ (av_C E mSH mX5_copies [av_r 5, av_i 0, av_r 17, av_i 0, av_i 15] (av_st s4 0 5 (s4 0 24)) (fun v s5 => v = none ∧ (av_C E mSH mX5_copies [av_r 6, av_i 0, av_r 19, av_i 0, av_i 3] s5 (fun v s6 => v = none ∧ (av_W E mSH mX5_settles 107 [some (av_r 0), some (av_i 0)] [] s6 Q))))))))))))) :
    av_C E mSH mX5_settles [av_r 0] σ Q := by
  refine av_C.ofW (L := [some (av_r 0), none]) (by decide) (Nat.le_of_ble_eq_true rfl) rfl ?_
  refine av_aload_n dX5_settles_0 rfl rfl ?_
  refine av_aload_n dX5_settles_1 rfl rfl ?_
  refine av_get (k := 19) (x := (σ 0 19)) dX5_settles_2 rfl rfl iuX5 (by decide) rfl wF_X5_85 rfl rfl ?_
  refine av_put (k := 0) tyX5 dX5_settles_5 rfl rfl iuX5 tyX5_ok nmX5 (by decide) rfl wF_X5_157 rfl rfl rfl ?_
  refine av_aload_n dX5_settles_8 rfl rfl ?_
  refine av_getr (k := 1) dX5_settles_9 rfl rfl iuX5 (by decide) rfl wF_X5_7 rfl ?_
  refine av_iconst dX5_settles_12 ?_
  refine av_aload_n dX5_settles_13 rfl rfl ?_
  refine av_getr (k := 20) dX5_settles_14 rfl rfl iuX5 (by decide) rfl wF_X5_46 rfl ?_
  refine av_iconst dX5_settles_17 ?_
  refine av_bipush dX5_settles_18 rfl ?_
  refine av_callS mX5_copies [av_r 1, av_i 0, av_r 13, av_i 0, av_i 8] [] dX5_settles_20 mbX5_copies rfl wT_X5_copies rfl wM_X5_160 ⟨Nat.le_of_ble_eq_true rfl, Nat.le_of_ble_eq_true rfl⟩ rfl (Nat.le_of_ble_eq_true rfl) (av_C.mono (fun v s1 hh => ?_) h)
  obtain ⟨rfl, h⟩ := hh
  change av_W E mSH mX5_settles 23 [some (av_r 0), none] [] s1 Q
  refine av_aload_n dX5_settles_23 rfl rfl ?_
  refine av_getr (k := 2) dX5_settles_24 rfl rfl iuX5 (by decide) rfl wF_X5_13 rfl ?_
  refine av_iconst dX5_settles_27 ?_
  refine av_aload_n dX5_settles_28 rfl rfl ?_
  refine av_getr (k := 21) dX5_settles_29 rfl rfl iuX5 (by decide) rfl wF_X5_49 rfl ?_
  refine av_iconst dX5_settles_32 ?_
  refine av_bipush dX5_settles_33 rfl ?_
  refine av_callS mX5_copies [av_r 2, av_i 0, av_r 14, av_i 0, av_i 24] [] dX5_settles_35 mbX5_copies rfl wT_X5_copies rfl wM_X5_160 ⟨Nat.le_of_ble_eq_true rfl, Nat.le_of_ble_eq_true rfl⟩ rfl (Nat.le_of_ble_eq_true rfl) (av_C.mono (fun v s2 hh => ?_) h)
  obtain ⟨rfl, h⟩ := hh
  change av_W E mSH mX5_settles 38 [some (av_r 0), none] [] s2 Q
  refine av_aload_n dX5_settles_38 rfl rfl ?_
  refine av_getr (k := 3) dX5_settles_39 rfl rfl iuX5 (by decide) rfl wF_X5_16 rfl ?_
  refine av_iconst dX5_settles_42 ?_
  refine av_aload_n dX5_settles_43 rfl rfl ?_
  refine av_getr (k := 22) dX5_settles_44 rfl rfl iuX5 (by decide) rfl wF_X5_52 rfl ?_
  refine av_iconst dX5_settles_47 ?_
  refine av_bipush dX5_settles_48 rfl ?_
  refine av_callS mX5_copies [av_r 3, av_i 0, av_r 15, av_i 0, av_i 8] [] dX5_settles_50 mbX5_copies rfl wT_X5_copies rfl wM_X5_160 ⟨Nat.le_of_ble_eq_true rfl, Nat.le_of_ble_eq_true rfl⟩ rfl (Nat.le_of_ble_eq_true rfl) (av_C.mono (fun v s3 hh => ?_) h)
  obtain ⟨rfl, h⟩ := hh
  change av_W E mSH mX5_settles 53 [some (av_r 0), none] [] s3 Q
  refine av_aload_n dX5_settles_53 rfl rfl ?_
  refine av_getr (k := 4) dX5_settles_54 rfl rfl iuX5 (by decide) rfl wF_X5_19 rfl ?_
  refine av_iconst dX5_settles_57 ?_
  refine av_aload_n dX5_settles_58 rfl rfl ?_
  refine av_getr (k := 23) dX5_settles_59 rfl rfl iuX5 (by decide) rfl wF_X5_55 rfl ?_
  refine av_iconst dX5_settles_62 ?_
  refine av_bipush dX5_settles_63 rfl ?_
  refine av_callS mX5_copies [av_r 4, av_i 0, av_r 16, av_i 0, av_i 8] [] dX5_settles_65 mbX5_copies rfl wT_X5_copies rfl wM_X5_160 ⟨Nat.le_of_ble_eq_true rfl, Nat.le_of_ble_eq_true rfl⟩ rfl (Nat.le_of_ble_eq_true rfl) (av_C.mono (fun v s4 hh => ?_) h)
  obtain ⟨rfl, h⟩ := hh
  change av_W E mSH mX5_settles 68 [some (av_r 0), none] [] s4 Q
  refine av_aload_n dX5_settles_68 rfl rfl ?_
  refine av_aload_n dX5_settles_69 rfl rfl ?_
  refine av_get (k := 24) (x := (s4 0 24)) dX5_settles_70 rfl rfl iuX5 (by decide) rfl wF_X5_89 rfl rfl ?_
  refine av_put (k := 5) tyX5 dX5_settles_73 rfl rfl iuX5 tyX5_ok nmX5 (by decide) rfl wF_X5_106 rfl rfl rfl ?_
  refine av_aload_n dX5_settles_76 rfl rfl ?_
  refine av_getr (k := 6) dX5_settles_77 rfl rfl iuX5 (by decide) rfl wF_X5_22 rfl ?_
  refine av_iconst dX5_settles_80 ?_
  refine av_aload_n dX5_settles_81 rfl rfl ?_
  refine av_getr (k := 25) dX5_settles_82 rfl rfl iuX5 (by decide) rfl wF_X5_58 rfl ?_
  refine av_iconst dX5_settles_85 ?_
  refine av_bipush dX5_settles_86 rfl ?_
  refine av_callS mX5_copies [av_r 5, av_i 0, av_r 17, av_i 0, av_i 15] [] dX5_settles_88 mbX5_copies rfl wT_X5_copies rfl wM_X5_160 ⟨Nat.le_of_ble_eq_true rfl, Nat.le_of_ble_eq_true rfl⟩ rfl (Nat.le_of_ble_eq_true rfl) (av_C.mono (fun v s5 hh => ?_) h)
  obtain ⟨rfl, h⟩ := hh
  change av_W E mSH mX5_settles 91 [some (av_r 0), none] [] s5 Q
  refine av_aload_n dX5_settles_91 rfl rfl ?_
  refine av_getr (k := 7) dX5_settles_92 rfl rfl iuX5 (by decide) rfl wF_X5_25 rfl ?_
  refine av_iconst dX5_settles_95 ?_
  refine av_aload_n dX5_settles_96 rfl rfl ?_
  refine av_getr (k := 28) dX5_settles_97 rfl rfl iuX5 (by decide) rfl wF_X5_64 rfl ?_
  refine av_iconst dX5_settles_100 ?_
  refine av_iconst dX5_settles_101 ?_
  refine av_callS mX5_copies [av_r 6, av_i 0, av_r 19, av_i 0, av_i 3] [] dX5_settles_102 mbX5_copies rfl wT_X5_copies rfl wM_X5_160 ⟨Nat.le_of_ble_eq_true rfl, Nat.le_of_ble_eq_true rfl⟩ rfl (Nat.le_of_ble_eq_true rfl) (av_C.mono (fun v s6 hh => ?_) h)
  obtain ⟨rfl, h⟩ := hh
  change av_W E mSH mX5_settles 105 [some (av_r 0), none] [] s6 Q
  refine av_iconst dX5_settles_105 ?_
  refine av_istore_n (L' := [some (av_r 0), some (av_i 0)]) dX5_settles_106 rfl (by decide) rfl ?_
  exact h

theorem uX5_settles_107 {E : av_E} {σ : av_M} {Q : Option av_V → av_M → Prop} {x1 : Int} (h : (rg x1) ∧ (((14 ≤ x1) → av_C E mSH mX5_copies [av_r 7, av_i 5, av_r 18, av_i 0, av_i (σ 0 26)] (av_st (av_st σ 7 1 (σ 0 29)) 7 4 (σ 0 26)) (fun v s1 => v = none ∧ (Q none (av_st (av_st (av_st s1 0 9 0) 0 11 0) 0 13 0)))) ∧ ((x1 < 14) → (0 ≤ x1 ∧ x1 < 14) ∧ (av_W E mSH mX5_settles 107 [some (av_r 0), some (av_i (x1 + 1))] [] (av_st σ 7 (x1).toNat 0) Q)))) :
    av_W E mSH mX5_settles 107 [some (av_r 0), some (av_i x1)] [] σ Q := by
  refine av_iload_n dX5_settles_107 rfl rfl ?_
  refine av_bipush dX5_settles_108 rfl ?_
  refine av_icmp_ge (tgt := 126) dX5_settles_110 (by decide) h.1 (by decide) (fun c => ?_) (fun c => ?_)
  · have h := h.2.1 c
    refine av_aload_n dX5_settles_126 rfl rfl ?_
    refine av_getr (k := 8) dX5_settles_127 rfl rfl iuX5 (by decide) rfl wF_X5_28 rfl ?_
    refine av_iconst dX5_settles_130 ?_
    refine av_aload_n dX5_settles_131 rfl rfl ?_
    refine av_get (k := 29) (x := (σ 0 29)) dX5_settles_132 rfl rfl iuX5 (by decide) rfl wF_X5_103 rfl rfl ?_
    refine av_iast dX5_settles_135 rfl (by decide) (by decide) ?_
    refine av_aload_n dX5_settles_136 rfl rfl ?_
    refine av_getr (k := 8) dX5_settles_137 rfl rfl iuX5 (by decide) rfl wF_X5_28 rfl ?_
    refine av_iconst dX5_settles_140 ?_
    refine av_aload_n dX5_settles_141 rfl rfl ?_
    refine av_get (k := 26) (x := (σ 0 26)) dX5_settles_142 rfl rfl iuX5 (by decide) rfl wF_X5_100 rfl rfl ?_
    refine av_iast dX5_settles_145 rfl (by decide) (by decide) ?_
    refine av_aload_n dX5_settles_146 rfl rfl ?_
    refine av_getr (k := 8) dX5_settles_147 rfl rfl iuX5 (by decide) rfl wF_X5_28 rfl ?_
    refine av_iconst dX5_settles_150 ?_
    refine av_aload_n dX5_settles_151 rfl rfl ?_
    refine av_getr (k := 27) dX5_settles_152 rfl rfl iuX5 (by decide) rfl wF_X5_61 rfl ?_
    refine av_iconst dX5_settles_155 ?_
    refine av_aload_n dX5_settles_156 rfl rfl ?_
    refine av_get (k := 26) (x := (σ 0 26)) dX5_settles_157 rfl rfl iuX5 (by decide) rfl wF_X5_100 rfl rfl ?_
    refine av_callS mX5_copies [av_r 7, av_i 5, av_r 18, av_i 0, av_i (σ 0 26)] [] dX5_settles_160 mbX5_copies rfl wT_X5_copies rfl wM_X5_160 ⟨Nat.le_of_ble_eq_true rfl, Nat.le_of_ble_eq_true rfl⟩ rfl (Nat.le_of_ble_eq_true rfl) (av_C.mono (fun v s1 hh => ?_) h)
    obtain ⟨rfl, h⟩ := hh
    change av_W E mSH mX5_settles 163 [some (av_r 0), some (av_i x1)] [] s1 Q
    refine av_aload_n dX5_settles_163 rfl rfl ?_
    refine av_iconst dX5_settles_164 ?_
    refine av_put (k := 9) tyX5 dX5_settles_165 rfl rfl iuX5 tyX5_ok nmX5 (by decide) rfl wF_X5_164 rfl rfl rfl ?_
    refine av_aload_n dX5_settles_168 rfl rfl ?_
    refine av_iconst dX5_settles_169 ?_
    refine av_put (k := 11) tyX5 dX5_settles_170 rfl rfl iuX5 tyX5_ok nmX5 (by decide) rfl wF_X5_167 rfl rfl rfl ?_
    refine av_aload_n dX5_settles_173 rfl rfl ?_
    refine av_iconst dX5_settles_174 ?_
    refine av_put (k := 13) tyX5 dX5_settles_175 rfl rfl iuX5 tyX5_ok nmX5 (by decide) rfl wF_X5_170 rfl rfl rfl ?_
    exact av_return dX5_settles_178 rfl h
  · have h := h.2.2 c
    refine av_aload_n dX5_settles_113 rfl rfl ?_
    refine av_getr (k := 8) dX5_settles_114 rfl rfl iuX5 (by decide) rfl wF_X5_28 rfl ?_
    refine av_iload_n dX5_settles_117 rfl rfl ?_
    refine av_iconst dX5_settles_118 ?_
    refine av_iast dX5_settles_119 rfl (by decide) h.1 ?_
    refine av_iinc (L' := [some (av_r 0), some (av_i (x1 + 1))]) dX5_settles_120 rfl (by decide) rfl rfl ?_
    refine av_goto (tgt := 107) dX5_settles_123 (by decide) ?_
    exact h.2

theorem uX5_begins {E : av_E} {σ : av_M} {Q : Option av_V → av_M → Prop} {a1 a2 : Int} (h : (0 ≤ (3 * a1) ∧ (3 * a1) < 15) ∧ ((rg (σ 5 ((3 * a1)).toNat)) ∧ (((¬ (σ 5 ((3 * a1)).toNat) = 3) → (rg (σ 0 31)) ∧ (((¬ (σ 0 31) = 0) → Q none (av_st (av_st (av_st (av_st (av_st σ 0 33 (σ 5 ((3 * a1)).toNat)) 0 32 a2) 0 36 0) 21 0 (-1)) 22 0 0)) ∧ (((σ 0 31) = 0) → Q none (av_st (av_st (av_st (av_st (av_st σ 0 33 (σ 5 ((3 * a1)).toNat)) 0 32 a2) 0 36 (-1)) 21 0 (-1)) 22 0 0)))) ∧ (((σ 5 ((3 * a1)).toNat) = 3) → av_W E mSH mX5_begins 27 [some (av_r 0), some (av_i a1), some (av_i a2), some (av_i 0), none] [] (av_st (av_st σ 0 33 (σ 5 ((3 * a1)).toNat)) 0 32 a2) Q)))) :
    av_C E mSH mX5_begins [av_r 0, av_i a1, av_i a2] σ Q := by
  refine av_C.ofW (L := [some (av_r 0), some (av_i a1), some (av_i a2), none, none]) (by decide) (Nat.le_of_ble_eq_true rfl) rfl ?_
  refine av_aload_n dX5_begins_0 rfl rfl ?_
  refine av_aload_n dX5_begins_1 rfl rfl ?_
  refine av_getr (k := 6) dX5_begins_2 rfl rfl iuX5 (by decide) rfl wF_X5_22 rfl ?_
  refine av_iconst dX5_begins_5 ?_
  refine av_iload_n dX5_begins_6 rfl rfl ?_
  refine av_imul dX5_begins_7 ?_
  refine av_iald (x := (σ 5 ((3 * a1)).toNat)) dX5_begins_8 rfl (by decide) h.1 rfl ?_
  refine av_put (k := 33) tyX5 dX5_begins_9 rfl rfl iuX5 tyX5_ok nmX5 (by decide) rfl wF_X5_173 rfl rfl rfl ?_
  refine av_aload_n dX5_begins_12 rfl rfl ?_
  refine av_iload_n dX5_begins_13 rfl rfl ?_
  refine av_put (k := 32) tyX5 dX5_begins_14 rfl rfl iuX5 tyX5_ok nmX5 (by decide) rfl wF_X5_176 rfl rfl rfl ?_
  refine av_aload_n dX5_begins_17 rfl rfl ?_
  refine av_get (k := 33) (x := (σ 5 ((3 * a1)).toNat)) dX5_begins_18 rfl rfl iuX5 (by decide) rfl wF_X5_173 rfl rfl ?_
  refine av_iconst dX5_begins_21 ?_
  refine av_icmp_ne (tgt := 85) dX5_begins_22 (by decide) h.2.1 (by decide) (fun c => ?_) (fun c => ?_)
  · have h := h.2.2.1 c
    refine av_aload_n dX5_begins_85 rfl rfl ?_
    refine av_aload_n dX5_begins_86 rfl rfl ?_
    refine av_get (k := 31) (x := (σ 0 31)) dX5_begins_87 rfl rfl iuX5 (by decide) rfl wF_X5_179 rfl rfl ?_
    refine av_if_ne (tgt := 97) dX5_begins_90 (by decide) h.1 (fun c => ?_) (fun c => ?_)
    · have h := h.2.1 c
      refine av_iconst dX5_begins_97 ?_
      refine av_put (k := 36) tyX5 dX5_begins_98 rfl rfl iuX5 tyX5_ok nmX5 (by decide) rfl wF_X5_182 rfl rfl rfl ?_
      refine av_aload_n dX5_begins_101 rfl rfl ?_
      refine av_getr (k := 34) dX5_begins_102 rfl rfl iuX5 (by decide) rfl wF_X5_70 rfl ?_
      refine av_iconst dX5_begins_105 ?_
      refine av_iconst dX5_begins_106 ?_
      refine av_iast dX5_begins_107 rfl (by decide) (by decide) ?_
      refine av_aload_n dX5_begins_108 rfl rfl ?_
      refine av_getr (k := 35) dX5_begins_109 rfl rfl iuX5 (by decide) rfl wF_X5_73 rfl ?_
      refine av_iconst dX5_begins_112 ?_
      refine av_iconst dX5_begins_113 ?_
      refine av_iast dX5_begins_114 rfl (by decide) (by decide) ?_
      exact av_return dX5_begins_115 rfl h
    · have h := h.2.2 c
      refine av_iconst dX5_begins_93 ?_
      refine av_goto (tgt := 98) dX5_begins_94 (by decide) ?_
      refine av_put (k := 36) tyX5 dX5_begins_98 rfl rfl iuX5 tyX5_ok nmX5 (by decide) rfl wF_X5_182 rfl rfl rfl ?_
      refine av_aload_n dX5_begins_101 rfl rfl ?_
      refine av_getr (k := 34) dX5_begins_102 rfl rfl iuX5 (by decide) rfl wF_X5_70 rfl ?_
      refine av_iconst dX5_begins_105 ?_
      refine av_iconst dX5_begins_106 ?_
      refine av_iast dX5_begins_107 rfl (by decide) (by decide) ?_
      refine av_aload_n dX5_begins_108 rfl rfl ?_
      refine av_getr (k := 35) dX5_begins_109 rfl rfl iuX5 (by decide) rfl wF_X5_73 rfl ?_
      refine av_iconst dX5_begins_112 ?_
      refine av_iconst dX5_begins_113 ?_
      refine av_iast dX5_begins_114 rfl (by decide) (by decide) ?_
      exact av_return dX5_begins_115 rfl h
  · have h := h.2.2.2 c
    refine av_iconst dX5_begins_25 ?_
    refine av_istore_n (L' := [some (av_r 0), some (av_i a1), some (av_i a2), some (av_i 0), none]) dX5_begins_26 rfl (by decide) rfl ?_
    exact h

theorem uX5_begins_27 {E : av_E} {σ : av_M} {Q : Option av_V → av_M → Prop} {x1 x2 x3 : Int} (h : (0 ≤ (σ 0 31) ∧ (σ 0 31) < 2147483648) ∧ ((rg x3) ∧ ((rg ((σ 0 31) / 2)) ∧ (((((σ 0 31) / 2) ≤ x3) → (rg (σ 0 31)) ∧ (((¬ (σ 0 31) = 0) → Q none (av_st (av_st (av_st σ 0 36 0) 21 0 (-1)) 22 0 0)) ∧ (((σ 0 31) = 0) → Q none (av_st (av_st (av_st σ 0 36 (-1)) 21 0 (-1)) 22 0 0)))) ∧ ((x3 < ((σ 0 31) / 2)) → (0 ≤ x3 ∧ x3 < 9) ∧ ((0 ≤ (((σ 0 31) - 1) - x3) ∧ (((σ 0 31) - 1) - x3) < 9) ∧ ((0 ≤ x3 ∧ x3 < 9) ∧ ((0 ≤ (((σ 0 31) - 1) - x3) ∧ (((σ 0 31) - 1) - x3) < 9) ∧ (av_W E mSH mX5_begins 27 [some (av_r 0), some (av_i x1), some (av_i x2), some (av_i (x3 + 1)), none] [] (av_st (av_st σ 20 (x3).toNat (σ 20 ((((σ 0 31) - 1) - x3)).toNat)) 20 ((((σ 0 31) - 1) - x3)).toNat (σ 20 (x3).toNat)) Q))))))))) :
    av_W E mSH mX5_begins 27 [some (av_r 0), some (av_i x1), some (av_i x2), some (av_i x3), none] [] σ Q := by
  refine av_iload_n dX5_begins_27 rfl rfl ?_
  refine av_aload_n dX5_begins_28 rfl rfl ?_
  refine av_get (k := 31) (x := (σ 0 31)) dX5_begins_29 rfl rfl iuX5 (by decide) rfl wF_X5_179 rfl rfl ?_
  refine av_iconst dX5_begins_32 ?_
  refine av_idiv dX5_begins_33 h.1 (by decide) ?_
  refine av_icmp_ge (tgt := 85) dX5_begins_34 (by decide) h.2.1 h.2.2.1 (fun c => ?_) (fun c => ?_)
  · have h := h.2.2.2.1 c
    refine av_aload_n dX5_begins_85 rfl rfl ?_
    refine av_aload_n dX5_begins_86 rfl rfl ?_
    refine av_get (k := 31) (x := (σ 0 31)) dX5_begins_87 rfl rfl iuX5 (by decide) rfl wF_X5_179 rfl rfl ?_
    refine av_if_ne (tgt := 97) dX5_begins_90 (by decide) h.1 (fun c => ?_) (fun c => ?_)
    · have h := h.2.1 c
      refine av_iconst dX5_begins_97 ?_
      refine av_put (k := 36) tyX5 dX5_begins_98 rfl rfl iuX5 tyX5_ok nmX5 (by decide) rfl wF_X5_182 rfl rfl rfl ?_
      refine av_aload_n dX5_begins_101 rfl rfl ?_
      refine av_getr (k := 34) dX5_begins_102 rfl rfl iuX5 (by decide) rfl wF_X5_70 rfl ?_
      refine av_iconst dX5_begins_105 ?_
      refine av_iconst dX5_begins_106 ?_
      refine av_iast dX5_begins_107 rfl (by decide) (by decide) ?_
      refine av_aload_n dX5_begins_108 rfl rfl ?_
      refine av_getr (k := 35) dX5_begins_109 rfl rfl iuX5 (by decide) rfl wF_X5_73 rfl ?_
      refine av_iconst dX5_begins_112 ?_
      refine av_iconst dX5_begins_113 ?_
      refine av_iast dX5_begins_114 rfl (by decide) (by decide) ?_
      exact av_return dX5_begins_115 rfl h
    · have h := h.2.2 c
      refine av_iconst dX5_begins_93 ?_
      refine av_goto (tgt := 98) dX5_begins_94 (by decide) ?_
      refine av_put (k := 36) tyX5 dX5_begins_98 rfl rfl iuX5 tyX5_ok nmX5 (by decide) rfl wF_X5_182 rfl rfl rfl ?_
      refine av_aload_n dX5_begins_101 rfl rfl ?_
      refine av_getr (k := 34) dX5_begins_102 rfl rfl iuX5 (by decide) rfl wF_X5_70 rfl ?_
      refine av_iconst dX5_begins_105 ?_
      refine av_iconst dX5_begins_106 ?_
      refine av_iast dX5_begins_107 rfl (by decide) (by decide) ?_
      refine av_aload_n dX5_begins_108 rfl rfl ?_
      refine av_getr (k := 35) dX5_begins_109 rfl rfl iuX5 (by decide) rfl wF_X5_73 rfl ?_
      refine av_iconst dX5_begins_112 ?_
      refine av_iconst dX5_begins_113 ?_
      refine av_iast dX5_begins_114 rfl (by decide) (by decide) ?_
      exact av_return dX5_begins_115 rfl h
  · have h := h.2.2.2.2 c
    refine av_aload_n dX5_begins_37 rfl rfl ?_
    refine av_getr (k := 30) dX5_begins_38 rfl rfl iuX5 (by decide) rfl wF_X5_67 rfl ?_
    refine av_iload_n dX5_begins_41 rfl rfl ?_
    refine av_iald (x := (σ 20 (x3).toNat)) dX5_begins_42 rfl (by decide) h.1 rfl ?_
    refine av_istore (L' := [some (av_r 0), some (av_i x1), some (av_i x2), some (av_i x3), some (av_i (σ 20 (x3).toNat))]) dX5_begins_43 (by decide) rfl ?_
    refine av_aload_n dX5_begins_45 rfl rfl ?_
    refine av_getr (k := 30) dX5_begins_46 rfl rfl iuX5 (by decide) rfl wF_X5_67 rfl ?_
    refine av_iload_n dX5_begins_49 rfl rfl ?_
    refine av_aload_n dX5_begins_50 rfl rfl ?_
    refine av_getr (k := 30) dX5_begins_51 rfl rfl iuX5 (by decide) rfl wF_X5_67 rfl ?_
    refine av_aload_n dX5_begins_54 rfl rfl ?_
    refine av_get (k := 31) (x := (σ 0 31)) dX5_begins_55 rfl rfl iuX5 (by decide) rfl wF_X5_179 rfl rfl ?_
    refine av_iconst dX5_begins_58 ?_
    refine av_isub dX5_begins_59 ?_
    refine av_iload_n dX5_begins_60 rfl rfl ?_
    refine av_isub dX5_begins_61 ?_
    refine av_iald (x := (σ 20 ((((σ 0 31) - 1) - x3)).toNat)) dX5_begins_62 rfl (by decide) h.2.1 rfl ?_
    refine av_iast dX5_begins_63 rfl (by decide) h.2.2.1 ?_
    refine av_aload_n dX5_begins_64 rfl rfl ?_
    refine av_getr (k := 30) dX5_begins_65 rfl rfl iuX5 (by decide) rfl wF_X5_67 rfl ?_
    refine av_aload_n dX5_begins_68 rfl rfl ?_
    refine av_get (k := 31) (x := (σ 0 31)) dX5_begins_69 rfl rfl iuX5 (by decide) rfl wF_X5_179 rfl rfl ?_
    refine av_iconst dX5_begins_72 ?_
    refine av_isub dX5_begins_73 ?_
    refine av_iload_n dX5_begins_74 rfl rfl ?_
    refine av_isub dX5_begins_75 ?_
    refine av_iload dX5_begins_76 rfl ?_
    refine av_iast dX5_begins_78 rfl (by decide) h.2.2.2.1 ?_
    refine av_iinc (L' := [some (av_r 0), some (av_i x1), some (av_i x2), some (av_i (x3 + 1)), some (av_i (σ 20 (x3).toNat))]) dX5_begins_79 rfl (by decide) rfl rfl ?_
    refine av_goto (tgt := 27) dX5_begins_82 (by decide) ?_
    refine av_res [true, true, true, true, false] (L' := [some (av_r 0), some (av_i x1), some (av_i x2), some (av_i (x3 + 1)), none]) rfl ?_
    exact h.2.2.2.2

theorem uX5_asWritten {E : av_E} {σ : av_M} {Q : Option av_V → av_M → Prop} {a1 a2 : Int} (h : av_C E mSH mX5_copies [av_r 20, av_i 0, av_r 7, av_i 5, av_i (σ 7 4)] (av_st σ 0 31 (σ 7 4)) (fun v s1 => v = none ∧ (av_C E mSH mX5_begins [av_r 0, av_i a1, av_i a2] s1 (fun v s2 => v = none ∧ (Q none s2))))) :
    av_C E mSH mX5_asWritten [av_r 0, av_i a1, av_i a2] σ Q := by
  refine av_C.ofW (L := [some (av_r 0), some (av_i a1), some (av_i a2)]) (by decide) (Nat.le_of_ble_eq_true rfl) rfl ?_
  refine av_aload_n dX5_asWritten_0 rfl rfl ?_
  refine av_aload_n dX5_asWritten_1 rfl rfl ?_
  refine av_getr (k := 8) dX5_asWritten_2 rfl rfl iuX5 (by decide) rfl wF_X5_28 rfl ?_
  refine av_iconst dX5_asWritten_5 ?_
  refine av_iald (x := (σ 7 4)) dX5_asWritten_6 rfl (by decide) (by decide) rfl ?_
  refine av_put (k := 31) tyX5 dX5_asWritten_7 rfl rfl iuX5 tyX5_ok nmX5 (by decide) rfl wF_X5_179 rfl rfl rfl ?_
  refine av_aload_n dX5_asWritten_10 rfl rfl ?_
  refine av_getr (k := 30) dX5_asWritten_11 rfl rfl iuX5 (by decide) rfl wF_X5_67 rfl ?_
  refine av_iconst dX5_asWritten_14 ?_
  refine av_aload_n dX5_asWritten_15 rfl rfl ?_
  refine av_getr (k := 8) dX5_asWritten_16 rfl rfl iuX5 (by decide) rfl wF_X5_28 rfl ?_
  refine av_iconst dX5_asWritten_19 ?_
  refine av_aload_n dX5_asWritten_20 rfl rfl ?_
  refine av_get (k := 31) (x := (σ 7 4)) dX5_asWritten_21 rfl rfl iuX5 (by decide) rfl wF_X5_179 rfl rfl ?_
  refine av_callS mX5_copies [av_r 20, av_i 0, av_r 7, av_i 5, av_i (σ 7 4)] [] dX5_asWritten_24 mbX5_copies rfl wT_X5_copies rfl wM_X5_160 ⟨Nat.le_of_ble_eq_true rfl, Nat.le_of_ble_eq_true rfl⟩ rfl (Nat.le_of_ble_eq_true rfl) (av_C.mono (fun v s1 hh => ?_) h)
  obtain ⟨rfl, h⟩ := hh
  change av_W E mSH mX5_asWritten 27 [some (av_r 0), some (av_i a1), some (av_i a2)] [] s1 Q
  refine av_aload_n dX5_asWritten_27 rfl rfl ?_
  refine av_iload_n dX5_asWritten_28 rfl rfl ?_
  refine av_iload_n dX5_asWritten_29 rfl rfl ?_
  refine av_callV mX5_begins [av_i a1, av_i a2] [] dX5_asWritten_30 rfl rfl rfl mbX5_begins rfl wI_X5_begins wS_X5_begins rfl wM_X5_185 ⟨Nat.le_of_ble_eq_true rfl, Nat.le_of_ble_eq_true rfl⟩ rfl (Nat.le_of_ble_eq_true rfl) (av_C.mono (fun v s2 hh => ?_) h)
  obtain ⟨rfl, h⟩ := hh
  change av_W E mSH mX5_asWritten 33 [some (av_r 0), some (av_i a1), some (av_i a2)] [] s2 Q
  exact av_return dX5_asWritten_33 rfl h

theorem uX5_isVerb {E : av_E} {σ : av_M} {Q : Option av_V → av_M → Prop} {a1 : Int} (h : (0 ≤ a1 ∧ a1 < 9) ∧ ((0 ≤ (σ 21 (a1).toNat) ∧ (σ 21 (a1).toNat) < 2147483648) ∧ ((rg ((σ 21 (a1).toNat) % 2)) ∧ (((¬ ((σ 21 (a1).toNat) % 2) = 1) → Q (some (av_i 0)) σ) ∧ ((((σ 21 (a1).toNat) % 2) = 1) → Q (some (av_i 1)) σ))))) :
    av_C E mSH mX5_isVerb [av_r 0, av_i a1] σ Q := by
  refine av_C.ofW (L := [some (av_r 0), some (av_i a1)]) (by decide) (Nat.le_of_ble_eq_true rfl) rfl ?_
  refine av_aload_n dX5_isVerb_0 rfl rfl ?_
  refine av_getr (k := 34) dX5_isVerb_1 rfl rfl iuX5 (by decide) rfl wF_X5_70 rfl ?_
  refine av_iload_n dX5_isVerb_4 rfl rfl ?_
  refine av_iald (x := (σ 21 (a1).toNat)) dX5_isVerb_5 rfl (by decide) h.1 rfl ?_
  refine av_iconst dX5_isVerb_6 ?_
  refine av_irem dX5_isVerb_7 h.2.1 (by decide) ?_
  refine av_iconst dX5_isVerb_8 ?_
  refine av_icmp_ne (tgt := 16) dX5_isVerb_9 (by decide) h.2.2.1 (by decide) (fun c => ?_) (fun c => ?_)
  · have h := h.2.2.2.1 c
    refine av_iconst dX5_isVerb_16 ?_
    exact av_zreturn dX5_isVerb_17 rfl (by decide) h
  · have h := h.2.2.2.2 c
    refine av_iconst dX5_isVerb_12 ?_
    refine av_goto (tgt := 17) dX5_isVerb_13 (by decide) ?_
    exact av_zreturn dX5_isVerb_17 rfl (by decide) h

theorem uX5_fits {E : av_E} {σ : av_M} {Q : Option av_V → av_M → Prop} (h : (0 ≤ (σ 0 36) ∧ (σ 0 36) < 9) ∧ ((0 ≤ (σ 21 ((σ 0 36)).toNat) ∧ (σ 21 ((σ 0 36)).toNat) < 2147483648) ∧ (av_C E mSH mX5_isVerb [av_r 0, av_i (σ 0 36)] σ (fun v s1 => ∃ r1 : Int, v = some (av_i r1) ∧ ((rg r1) ∧ (((r1 = 0) → (0 ≤ ((σ 21 ((σ 0 36)).toNat) / 2) ∧ ((σ 21 ((σ 0 36)).toNat) / 2) < 8) ∧ ((rg (s1 3 (((σ 21 ((σ 0 36)).toNat) / 2)).toNat)) ∧ ((((s1 3 (((σ 21 ((σ 0 36)).toNat) / 2)).toNat) ≤ 0) → av_W E mSH mX5_fits 130 [some (av_r 0), some (av_i ((σ 21 ((σ 0 36)).toNat) / 2)), some (av_i 0), some (av_i 0), some (av_i 0)] [] s1 Q) ∧ ((0 < (s1 3 (((σ 21 ((σ 0 36)).toNat) / 2)).toNat)) → av_C E mSH mX5_has [av_i (s1 0 32), av_i ((σ 21 ((σ 0 36)).toNat) / 2)] s1 (fun v s2 => ∃ r2 : Int, v = some (av_i r2) ∧ ((rg r2) ∧ (((r2 = 0) → av_W E mSH mX5_fits 130 [some (av_r 0), some (av_i ((σ 21 ((σ 0 36)).toNat) / 2)), some (av_i 1), some (av_i 0), some (av_i 0)] [] s2 Q) ∧ ((¬ r2 = 0) → (0 ≤ (s2 0 36) ∧ (s2 0 36) < 10) ∧ ((0 ≤ ((σ 21 ((σ 0 36)).toNat) / 2) ∧ ((σ 21 ((σ 0 36)).toNat) / 2) < 8) ∧ ((rg ((s2 22 ((s2 0 36)).toNat) + (s2 1 (((σ 21 ((σ 0 36)).toNat) / 2)).toNat))) ∧ ((rg (s2 0 31)) ∧ ((((s2 0 31) < ((s2 22 ((s2 0 36)).toNat) + (s2 1 (((σ 21 ((σ 0 36)).toNat) / 2)).toNat))) → av_W E mSH mX5_fits 130 [some (av_r 0), some (av_i ((σ 21 ((σ 0 36)).toNat) / 2)), some (av_i 1), some (av_i 0), some (av_i 0)] [] s2 Q) ∧ ((((s2 22 ((s2 0 36)).toNat) + (s2 1 (((σ 21 ((σ 0 36)).toNat) / 2)).toNat)) ≤ (s2 0 31)) → av_W E mSH mX5_fits 130 [some (av_r 0), some (av_i ((σ 21 ((σ 0 36)).toNat) / 2)), some (av_i 1), some (av_i 1), some (av_i 0)] [] s2 Q))))))))))))) ∧ ((¬ r1 = 0) → (0 ≤ ((σ 21 ((σ 0 36)).toNat) / 2) ∧ ((σ 21 ((σ 0 36)).toNat) / 2) < 8) ∧ ((rg (s1 4 (((σ 21 ((σ 0 36)).toNat) / 2)).toNat)) ∧ ((((s1 4 (((σ 21 ((σ 0 36)).toNat) / 2)).toNat) ≤ 0) → av_W E mSH mX5_fits 130 [some (av_r 0), some (av_i ((σ 21 ((σ 0 36)).toNat) / 2)), some (av_i 0), some (av_i 0), some (av_i 0)] [] s1 Q) ∧ ((0 < (s1 4 (((σ 21 ((σ 0 36)).toNat) / 2)).toNat)) → (rg (s1 0 33)) ∧ ((((s1 0 33) = 1) → av_W E mSH mX5_fits 130 [some (av_r 0), some (av_i ((σ 21 ((σ 0 36)).toNat) / 2)), some (av_i 0), some (av_i 0), some (av_i 0)] [] s1 Q) ∧ ((¬ (s1 0 33) = 1) → (rg (s1 0 36)) ∧ ((((s1 0 36) = 0) → av_C E mSH mX5_has [av_i (s1 0 32), av_i ((σ 21 ((σ 0 36)).toNat) / 2)] s1 (fun v s3 => ∃ r3 : Int, v = some (av_i r3) ∧ ((rg r3) ∧ (((r3 = 0) → av_W E mSH mX5_fits 130 [some (av_r 0), some (av_i ((σ 21 ((σ 0 36)).toNat) / 2)), some (av_i 1), some (av_i 0), some (av_i 0)] [] s3 Q) ∧ ((¬ r3 = 0) → (0 ≤ (s3 0 36) ∧ (s3 0 36) < 10) ∧ ((0 ≤ ((σ 21 ((σ 0 36)).toNat) / 2) ∧ ((σ 21 ((σ 0 36)).toNat) / 2) < 8) ∧ ((rg ((s3 22 ((s3 0 36)).toNat) + (s3 1 (((σ 21 ((σ 0 36)).toNat) / 2)).toNat))) ∧ ((rg (s3 0 31)) ∧ ((((s3 0 31) < ((s3 22 ((s3 0 36)).toNat) + (s3 1 (((σ 21 ((σ 0 36)).toNat) / 2)).toNat))) → av_W E mSH mX5_fits 130 [some (av_r 0), some (av_i ((σ 21 ((σ 0 36)).toNat) / 2)), some (av_i 1), some (av_i 0), some (av_i 0)] [] s3 Q) ∧ ((((s3 22 ((s3 0 36)).toNat) + (s3 1 (((σ 21 ((σ 0 36)).toNat) / 2)).toNat)) ≤ (s3 0 31)) → av_W E mSH mX5_fits 130 [some (av_r 0), some (av_i ((σ 21 ((σ 0 36)).toNat) / 2)), some (av_i 1), some (av_i 1), some (av_i 0)] [] s3 Q)))))))))) ∧ ((¬ (s1 0 36) = 0) → av_C E mSH mX5_isVerb [av_r 0, av_i ((s1 0 36) - 1)] s1 (fun v s4 => ∃ r4 : Int, v = some (av_i r4) ∧ ((rg r4) ∧ (((¬ r4 = 0) → av_W E mSH mX5_fits 130 [some (av_r 0), some (av_i ((σ 21 ((σ 0 36)).toNat) / 2)), some (av_i 0), some (av_i 0), some (av_i 0)] [] s4 Q) ∧ ((r4 = 0) → av_C E mSH mX5_has [av_i (s4 0 32), av_i ((σ 21 ((σ 0 36)).toNat) / 2)] s4 (fun v s5 => ∃ r5 : Int, v = some (av_i r5) ∧ ((rg r5) ∧ (((r5 = 0) → av_W E mSH mX5_fits 130 [some (av_r 0), some (av_i ((σ 21 ((σ 0 36)).toNat) / 2)), some (av_i 1), some (av_i 0), some (av_i 0)] [] s5 Q) ∧ ((¬ r5 = 0) → (0 ≤ (s5 0 36) ∧ (s5 0 36) < 10) ∧ ((0 ≤ ((σ 21 ((σ 0 36)).toNat) / 2) ∧ ((σ 21 ((σ 0 36)).toNat) / 2) < 8) ∧ ((rg ((s5 22 ((s5 0 36)).toNat) + (s5 1 (((σ 21 ((σ 0 36)).toNat) / 2)).toNat))) ∧ ((rg (s5 0 31)) ∧ ((((s5 0 31) < ((s5 22 ((s5 0 36)).toNat) + (s5 1 (((σ 21 ((σ 0 36)).toNat) / 2)).toNat))) → av_W E mSH mX5_fits 130 [some (av_r 0), some (av_i ((σ 21 ((σ 0 36)).toNat) / 2)), some (av_i 1), some (av_i 0), some (av_i 0)] [] s5 Q) ∧ ((((s5 22 ((s5 0 36)).toNat) + (s5 1 (((σ 21 ((σ 0 36)).toNat) / 2)).toNat)) ≤ (s5 0 31)) → av_W E mSH mX5_fits 130 [some (av_r 0), some (av_i ((σ 21 ((σ 0 36)).toNat) / 2)), some (av_i 1), some (av_i 1), some (av_i 0)] [] s5 Q))))))))))))))))))))))))))) :
    av_C E mSH mX5_fits [av_r 0] σ Q := by
  refine av_C.ofW (L := [some (av_r 0), none, none, none, none]) (by decide) (Nat.le_of_ble_eq_true rfl) rfl ?_
  refine av_aload_n dX5_fits_0 rfl rfl ?_
  refine av_getr (k := 34) dX5_fits_1 rfl rfl iuX5 (by decide) rfl wF_X5_70 rfl ?_
  refine av_aload_n dX5_fits_4 rfl rfl ?_
  refine av_get (k := 36) (x := (σ 0 36)) dX5_fits_5 rfl rfl iuX5 (by decide) rfl wF_X5_182 rfl rfl ?_
  refine av_iald (x := (σ 21 ((σ 0 36)).toNat)) dX5_fits_8 rfl (by decide) h.1 rfl ?_
  refine av_iconst dX5_fits_9 ?_
  refine av_idiv dX5_fits_10 h.2.1 (by decide) ?_
  refine av_istore_n (L' := [some (av_r 0), some (av_i ((σ 21 ((σ 0 36)).toNat) / 2)), none, none, none]) dX5_fits_11 rfl (by decide) rfl ?_
  refine av_aload_n dX5_fits_12 rfl rfl ?_
  refine av_aload_n dX5_fits_13 rfl rfl ?_
  refine av_get (k := 36) (x := (σ 0 36)) dX5_fits_14 rfl rfl iuX5 (by decide) rfl wF_X5_182 rfl rfl ?_
  refine av_callV mX5_isVerb [av_i (σ 0 36)] [] dX5_fits_17 rfl rfl rfl mbX5_isVerb rfl wI_X5_isVerb wS_X5_isVerb rfl wM_X5_189 ⟨Nat.le_of_ble_eq_true rfl, Nat.le_of_ble_eq_true rfl⟩ rfl (Nat.le_of_ble_eq_true rfl) (av_C.mono (fun v s1 hh => ?_) h.2.2)
  obtain ⟨r1, rfl, h⟩ := hh
  change av_W E mSH mX5_fits 20 [some (av_r 0), some (av_i ((σ 21 ((σ 0 36)).toNat) / 2)), none, none, none] [av_i r1] s1 Q
  refine av_if_eq (tgt := 68) dX5_fits_20 (by decide) h.1 (fun c => ?_) (fun c => ?_)
  · have h := h.2.1 c
    refine av_aload_n dX5_fits_68 rfl rfl ?_
    refine av_getr (k := 3) dX5_fits_69 rfl rfl iuX5 (by decide) rfl wF_X5_16 rfl ?_
    refine av_iload_n dX5_fits_72 rfl rfl ?_
    refine av_iald (x := (s1 3 (((σ 21 ((σ 0 36)).toNat) / 2)).toNat)) dX5_fits_73 rfl (by decide) h.1 rfl ?_
    refine av_if_le (tgt := 81) dX5_fits_74 (by decide) h.2.1 (fun c => ?_) (fun c => ?_)
    · have h := h.2.2.1 c
      refine av_iconst dX5_fits_81 ?_
      refine av_istore_n (L' := [some (av_r 0), some (av_i ((σ 21 ((σ 0 36)).toNat) / 2)), some (av_i 0), none, none]) dX5_fits_82 rfl (by decide) rfl ?_
      refine av_iload_n dX5_fits_83 rfl rfl ?_
      refine av_if_eq (tgt := 125) dX5_fits_84 (by decide) (by decide) (fun _ => ?_) (fun c => absurd c (by decide))
      refine av_iconst dX5_fits_125 ?_
      refine av_istore_n (L' := [some (av_r 0), some (av_i ((σ 21 ((σ 0 36)).toNat) / 2)), some (av_i 0), some (av_i 0), none]) dX5_fits_126 rfl (by decide) rfl ?_
      refine av_iconst dX5_fits_127 ?_
      refine av_istore (L' := [some (av_r 0), some (av_i ((σ 21 ((σ 0 36)).toNat) / 2)), some (av_i 0), some (av_i 0), some (av_i 0)]) dX5_fits_128 (by decide) rfl ?_
      exact h
    · have h := h.2.2.2 c
      refine av_iconst dX5_fits_77 ?_
      refine av_goto (tgt := 82) dX5_fits_78 (by decide) ?_
      refine av_istore_n (L' := [some (av_r 0), some (av_i ((σ 21 ((σ 0 36)).toNat) / 2)), some (av_i 1), none, none]) dX5_fits_82 rfl (by decide) rfl ?_
      refine av_iload_n dX5_fits_83 rfl rfl ?_
      refine av_if_eq (tgt := 125) dX5_fits_84 (by decide) (by decide) (fun c => absurd c (by decide)) (fun _ => ?_)
      refine av_aload_n dX5_fits_87 rfl rfl ?_
      refine av_get (k := 32) (x := (s1 0 32)) dX5_fits_88 rfl rfl iuX5 (by decide) rfl wF_X5_176 rfl rfl ?_
      refine av_iload_n dX5_fits_91 rfl rfl ?_
      refine av_callS mX5_has [av_i (s1 0 32), av_i ((σ 21 ((σ 0 36)).toNat) / 2)] [] dX5_fits_92 mbX5_has rfl wT_X5_has rfl wM_X5_192 ⟨Nat.le_of_ble_eq_true rfl, Nat.le_of_ble_eq_true rfl⟩ rfl (Nat.le_of_ble_eq_true rfl) (av_C.mono (fun v s2 hh => ?_) h)
      obtain ⟨r2, rfl, h⟩ := hh
      change av_W E mSH mX5_fits 95 [some (av_r 0), some (av_i ((σ 21 ((σ 0 36)).toNat) / 2)), some (av_i 1), none, none] [av_i r2] s2 Q
      refine av_if_eq (tgt := 125) dX5_fits_95 (by decide) h.1 (fun c => ?_) (fun c => ?_)
      · have h := h.2.1 c
        refine av_iconst dX5_fits_125 ?_
        refine av_istore_n (L' := [some (av_r 0), some (av_i ((σ 21 ((σ 0 36)).toNat) / 2)), some (av_i 1), some (av_i 0), none]) dX5_fits_126 rfl (by decide) rfl ?_
        refine av_iconst dX5_fits_127 ?_
        refine av_istore (L' := [some (av_r 0), some (av_i ((σ 21 ((σ 0 36)).toNat) / 2)), some (av_i 1), some (av_i 0), some (av_i 0)]) dX5_fits_128 (by decide) rfl ?_
        exact h
      · have h := h.2.2 c
        refine av_aload_n dX5_fits_98 rfl rfl ?_
        refine av_getr (k := 35) dX5_fits_99 rfl rfl iuX5 (by decide) rfl wF_X5_73 rfl ?_
        refine av_aload_n dX5_fits_102 rfl rfl ?_
        refine av_get (k := 36) (x := (s2 0 36)) dX5_fits_103 rfl rfl iuX5 (by decide) rfl wF_X5_182 rfl rfl ?_
        refine av_iald (x := (s2 22 ((s2 0 36)).toNat)) dX5_fits_106 rfl (by decide) h.1 rfl ?_
        refine av_aload_n dX5_fits_107 rfl rfl ?_
        refine av_getr (k := 1) dX5_fits_108 rfl rfl iuX5 (by decide) rfl wF_X5_7 rfl ?_
        refine av_iload_n dX5_fits_111 rfl rfl ?_
        refine av_iald (x := (s2 1 (((σ 21 ((σ 0 36)).toNat) / 2)).toNat)) dX5_fits_112 rfl (by decide) h.2.1 rfl ?_
        refine av_iadd dX5_fits_113 ?_
        refine av_aload_n dX5_fits_114 rfl rfl ?_
        refine av_get (k := 31) (x := (s2 0 31)) dX5_fits_115 rfl rfl iuX5 (by decide) rfl wF_X5_179 rfl rfl ?_
        refine av_icmp_gt (tgt := 125) dX5_fits_118 (by decide) h.2.2.1 h.2.2.2.1 (fun c => ?_) (fun c => ?_)
        · have h := h.2.2.2.2.1 c
          refine av_iconst dX5_fits_125 ?_
          refine av_istore_n (L' := [some (av_r 0), some (av_i ((σ 21 ((σ 0 36)).toNat) / 2)), some (av_i 1), some (av_i 0), none]) dX5_fits_126 rfl (by decide) rfl ?_
          refine av_iconst dX5_fits_127 ?_
          refine av_istore (L' := [some (av_r 0), some (av_i ((σ 21 ((σ 0 36)).toNat) / 2)), some (av_i 1), some (av_i 0), some (av_i 0)]) dX5_fits_128 (by decide) rfl ?_
          exact h
        · have h := h.2.2.2.2.2 c
          refine av_iconst dX5_fits_121 ?_
          refine av_goto (tgt := 126) dX5_fits_122 (by decide) ?_
          refine av_istore_n (L' := [some (av_r 0), some (av_i ((σ 21 ((σ 0 36)).toNat) / 2)), some (av_i 1), some (av_i 1), none]) dX5_fits_126 rfl (by decide) rfl ?_
          refine av_iconst dX5_fits_127 ?_
          refine av_istore (L' := [some (av_r 0), some (av_i ((σ 21 ((σ 0 36)).toNat) / 2)), some (av_i 1), some (av_i 1), some (av_i 0)]) dX5_fits_128 (by decide) rfl ?_
          exact h
  · have h := h.2.2 c
    refine av_aload_n dX5_fits_23 rfl rfl ?_
    refine av_getr (k := 4) dX5_fits_24 rfl rfl iuX5 (by decide) rfl wF_X5_19 rfl ?_
    refine av_iload_n dX5_fits_27 rfl rfl ?_
    refine av_iald (x := (s1 4 (((σ 21 ((σ 0 36)).toNat) / 2)).toNat)) dX5_fits_28 rfl (by decide) h.1 rfl ?_
    refine av_if_le (tgt := 64) dX5_fits_29 (by decide) h.2.1 (fun c => ?_) (fun c => ?_)
    · have h := h.2.2.1 c
      refine av_iconst dX5_fits_64 ?_
      refine av_goto (tgt := 82) dX5_fits_65 (by decide) ?_
      refine av_istore_n (L' := [some (av_r 0), some (av_i ((σ 21 ((σ 0 36)).toNat) / 2)), some (av_i 0), none, none]) dX5_fits_82 rfl (by decide) rfl ?_
      refine av_iload_n dX5_fits_83 rfl rfl ?_
      refine av_if_eq (tgt := 125) dX5_fits_84 (by decide) (by decide) (fun _ => ?_) (fun c => absurd c (by decide))
      refine av_iconst dX5_fits_125 ?_
      refine av_istore_n (L' := [some (av_r 0), some (av_i ((σ 21 ((σ 0 36)).toNat) / 2)), some (av_i 0), some (av_i 0), none]) dX5_fits_126 rfl (by decide) rfl ?_
      refine av_iconst dX5_fits_127 ?_
      refine av_istore (L' := [some (av_r 0), some (av_i ((σ 21 ((σ 0 36)).toNat) / 2)), some (av_i 0), some (av_i 0), some (av_i 0)]) dX5_fits_128 (by decide) rfl ?_
      exact h
    · have h := h.2.2.2 c
      refine av_aload_n dX5_fits_32 rfl rfl ?_
      refine av_get (k := 33) (x := (s1 0 33)) dX5_fits_33 rfl rfl iuX5 (by decide) rfl wF_X5_173 rfl rfl ?_
      refine av_iconst dX5_fits_36 ?_
      refine av_icmp_eq (tgt := 64) dX5_fits_37 (by decide) h.1 (by decide) (fun c => ?_) (fun c => ?_)
      · have h := h.2.1 c
        refine av_iconst dX5_fits_64 ?_
        refine av_goto (tgt := 82) dX5_fits_65 (by decide) ?_
        refine av_istore_n (L' := [some (av_r 0), some (av_i ((σ 21 ((σ 0 36)).toNat) / 2)), some (av_i 0), none, none]) dX5_fits_82 rfl (by decide) rfl ?_
        refine av_iload_n dX5_fits_83 rfl rfl ?_
        refine av_if_eq (tgt := 125) dX5_fits_84 (by decide) (by decide) (fun _ => ?_) (fun c => absurd c (by decide))
        refine av_iconst dX5_fits_125 ?_
        refine av_istore_n (L' := [some (av_r 0), some (av_i ((σ 21 ((σ 0 36)).toNat) / 2)), some (av_i 0), some (av_i 0), none]) dX5_fits_126 rfl (by decide) rfl ?_
        refine av_iconst dX5_fits_127 ?_
        refine av_istore (L' := [some (av_r 0), some (av_i ((σ 21 ((σ 0 36)).toNat) / 2)), some (av_i 0), some (av_i 0), some (av_i 0)]) dX5_fits_128 (by decide) rfl ?_
        exact h
      · have h := h.2.2 c
        refine av_aload_n dX5_fits_40 rfl rfl ?_
        refine av_get (k := 36) (x := (s1 0 36)) dX5_fits_41 rfl rfl iuX5 (by decide) rfl wF_X5_182 rfl rfl ?_
        refine av_if_eq (tgt := 60) dX5_fits_44 (by decide) h.1 (fun c => ?_) (fun c => ?_)
        · have h := h.2.1 c
          refine av_iconst dX5_fits_60 ?_
          refine av_goto (tgt := 82) dX5_fits_61 (by decide) ?_
          refine av_istore_n (L' := [some (av_r 0), some (av_i ((σ 21 ((σ 0 36)).toNat) / 2)), some (av_i 1), none, none]) dX5_fits_82 rfl (by decide) rfl ?_
          refine av_iload_n dX5_fits_83 rfl rfl ?_
          refine av_if_eq (tgt := 125) dX5_fits_84 (by decide) (by decide) (fun c => absurd c (by decide)) (fun _ => ?_)
          refine av_aload_n dX5_fits_87 rfl rfl ?_
          refine av_get (k := 32) (x := (s1 0 32)) dX5_fits_88 rfl rfl iuX5 (by decide) rfl wF_X5_176 rfl rfl ?_
          refine av_iload_n dX5_fits_91 rfl rfl ?_
          refine av_callS mX5_has [av_i (s1 0 32), av_i ((σ 21 ((σ 0 36)).toNat) / 2)] [] dX5_fits_92 mbX5_has rfl wT_X5_has rfl wM_X5_192 ⟨Nat.le_of_ble_eq_true rfl, Nat.le_of_ble_eq_true rfl⟩ rfl (Nat.le_of_ble_eq_true rfl) (av_C.mono (fun v s3 hh => ?_) h)
          obtain ⟨r3, rfl, h⟩ := hh
          change av_W E mSH mX5_fits 95 [some (av_r 0), some (av_i ((σ 21 ((σ 0 36)).toNat) / 2)), some (av_i 1), none, none] [av_i r3] s3 Q
          refine av_if_eq (tgt := 125) dX5_fits_95 (by decide) h.1 (fun c => ?_) (fun c => ?_)
          · have h := h.2.1 c
            refine av_iconst dX5_fits_125 ?_
            refine av_istore_n (L' := [some (av_r 0), some (av_i ((σ 21 ((σ 0 36)).toNat) / 2)), some (av_i 1), some (av_i 0), none]) dX5_fits_126 rfl (by decide) rfl ?_
            refine av_iconst dX5_fits_127 ?_
            refine av_istore (L' := [some (av_r 0), some (av_i ((σ 21 ((σ 0 36)).toNat) / 2)), some (av_i 1), some (av_i 0), some (av_i 0)]) dX5_fits_128 (by decide) rfl ?_
            exact h
          · have h := h.2.2 c
            refine av_aload_n dX5_fits_98 rfl rfl ?_
            refine av_getr (k := 35) dX5_fits_99 rfl rfl iuX5 (by decide) rfl wF_X5_73 rfl ?_
            refine av_aload_n dX5_fits_102 rfl rfl ?_
            refine av_get (k := 36) (x := (s3 0 36)) dX5_fits_103 rfl rfl iuX5 (by decide) rfl wF_X5_182 rfl rfl ?_
            refine av_iald (x := (s3 22 ((s3 0 36)).toNat)) dX5_fits_106 rfl (by decide) h.1 rfl ?_
            refine av_aload_n dX5_fits_107 rfl rfl ?_
            refine av_getr (k := 1) dX5_fits_108 rfl rfl iuX5 (by decide) rfl wF_X5_7 rfl ?_
            refine av_iload_n dX5_fits_111 rfl rfl ?_
            refine av_iald (x := (s3 1 (((σ 21 ((σ 0 36)).toNat) / 2)).toNat)) dX5_fits_112 rfl (by decide) h.2.1 rfl ?_
            refine av_iadd dX5_fits_113 ?_
            refine av_aload_n dX5_fits_114 rfl rfl ?_
            refine av_get (k := 31) (x := (s3 0 31)) dX5_fits_115 rfl rfl iuX5 (by decide) rfl wF_X5_179 rfl rfl ?_
            refine av_icmp_gt (tgt := 125) dX5_fits_118 (by decide) h.2.2.1 h.2.2.2.1 (fun c => ?_) (fun c => ?_)
            · have h := h.2.2.2.2.1 c
              refine av_iconst dX5_fits_125 ?_
              refine av_istore_n (L' := [some (av_r 0), some (av_i ((σ 21 ((σ 0 36)).toNat) / 2)), some (av_i 1), some (av_i 0), none]) dX5_fits_126 rfl (by decide) rfl ?_
              refine av_iconst dX5_fits_127 ?_
              refine av_istore (L' := [some (av_r 0), some (av_i ((σ 21 ((σ 0 36)).toNat) / 2)), some (av_i 1), some (av_i 0), some (av_i 0)]) dX5_fits_128 (by decide) rfl ?_
              exact h
            · have h := h.2.2.2.2.2 c
              refine av_iconst dX5_fits_121 ?_
              refine av_goto (tgt := 126) dX5_fits_122 (by decide) ?_
              refine av_istore_n (L' := [some (av_r 0), some (av_i ((σ 21 ((σ 0 36)).toNat) / 2)), some (av_i 1), some (av_i 1), none]) dX5_fits_126 rfl (by decide) rfl ?_
              refine av_iconst dX5_fits_127 ?_
              refine av_istore (L' := [some (av_r 0), some (av_i ((σ 21 ((σ 0 36)).toNat) / 2)), some (av_i 1), some (av_i 1), some (av_i 0)]) dX5_fits_128 (by decide) rfl ?_
              exact h
        · have h := h.2.2 c
          refine av_aload_n dX5_fits_47 rfl rfl ?_
          refine av_aload_n dX5_fits_48 rfl rfl ?_
          refine av_get (k := 36) (x := (s1 0 36)) dX5_fits_49 rfl rfl iuX5 (by decide) rfl wF_X5_182 rfl rfl ?_
          refine av_iconst dX5_fits_52 ?_
          refine av_isub dX5_fits_53 ?_
          refine av_callV mX5_isVerb [av_i ((s1 0 36) - 1)] [] dX5_fits_54 rfl rfl rfl mbX5_isVerb rfl wI_X5_isVerb wS_X5_isVerb rfl wM_X5_189 ⟨Nat.le_of_ble_eq_true rfl, Nat.le_of_ble_eq_true rfl⟩ rfl (Nat.le_of_ble_eq_true rfl) (av_C.mono (fun v s4 hh => ?_) h)
          obtain ⟨r4, rfl, h⟩ := hh
          change av_W E mSH mX5_fits 57 [some (av_r 0), some (av_i ((σ 21 ((σ 0 36)).toNat) / 2)), none, none, none] [av_i r4] s4 Q
          refine av_if_ne (tgt := 64) dX5_fits_57 (by decide) h.1 (fun c => ?_) (fun c => ?_)
          · have h := h.2.1 c
            refine av_iconst dX5_fits_64 ?_
            refine av_goto (tgt := 82) dX5_fits_65 (by decide) ?_
            refine av_istore_n (L' := [some (av_r 0), some (av_i ((σ 21 ((σ 0 36)).toNat) / 2)), some (av_i 0), none, none]) dX5_fits_82 rfl (by decide) rfl ?_
            refine av_iload_n dX5_fits_83 rfl rfl ?_
            refine av_if_eq (tgt := 125) dX5_fits_84 (by decide) (by decide) (fun _ => ?_) (fun c => absurd c (by decide))
            refine av_iconst dX5_fits_125 ?_
            refine av_istore_n (L' := [some (av_r 0), some (av_i ((σ 21 ((σ 0 36)).toNat) / 2)), some (av_i 0), some (av_i 0), none]) dX5_fits_126 rfl (by decide) rfl ?_
            refine av_iconst dX5_fits_127 ?_
            refine av_istore (L' := [some (av_r 0), some (av_i ((σ 21 ((σ 0 36)).toNat) / 2)), some (av_i 0), some (av_i 0), some (av_i 0)]) dX5_fits_128 (by decide) rfl ?_
            exact h
          · have h := h.2.2 c
            refine av_iconst dX5_fits_60 ?_
            refine av_goto (tgt := 82) dX5_fits_61 (by decide) ?_
            refine av_istore_n (L' := [some (av_r 0), some (av_i ((σ 21 ((σ 0 36)).toNat) / 2)), some (av_i 1), none, none]) dX5_fits_82 rfl (by decide) rfl ?_
            refine av_iload_n dX5_fits_83 rfl rfl ?_
            refine av_if_eq (tgt := 125) dX5_fits_84 (by decide) (by decide) (fun c => absurd c (by decide)) (fun _ => ?_)
            refine av_aload_n dX5_fits_87 rfl rfl ?_
            refine av_get (k := 32) (x := (s4 0 32)) dX5_fits_88 rfl rfl iuX5 (by decide) rfl wF_X5_176 rfl rfl ?_
            refine av_iload_n dX5_fits_91 rfl rfl ?_
            refine av_callS mX5_has [av_i (s4 0 32), av_i ((σ 21 ((σ 0 36)).toNat) / 2)] [] dX5_fits_92 mbX5_has rfl wT_X5_has rfl wM_X5_192 ⟨Nat.le_of_ble_eq_true rfl, Nat.le_of_ble_eq_true rfl⟩ rfl (Nat.le_of_ble_eq_true rfl) (av_C.mono (fun v s5 hh => ?_) h)
            obtain ⟨r5, rfl, h⟩ := hh
            change av_W E mSH mX5_fits 95 [some (av_r 0), some (av_i ((σ 21 ((σ 0 36)).toNat) / 2)), some (av_i 1), none, none] [av_i r5] s5 Q
            refine av_if_eq (tgt := 125) dX5_fits_95 (by decide) h.1 (fun c => ?_) (fun c => ?_)
            · have h := h.2.1 c
              refine av_iconst dX5_fits_125 ?_
              refine av_istore_n (L' := [some (av_r 0), some (av_i ((σ 21 ((σ 0 36)).toNat) / 2)), some (av_i 1), some (av_i 0), none]) dX5_fits_126 rfl (by decide) rfl ?_
              refine av_iconst dX5_fits_127 ?_
              refine av_istore (L' := [some (av_r 0), some (av_i ((σ 21 ((σ 0 36)).toNat) / 2)), some (av_i 1), some (av_i 0), some (av_i 0)]) dX5_fits_128 (by decide) rfl ?_
              exact h
            · have h := h.2.2 c
              refine av_aload_n dX5_fits_98 rfl rfl ?_
              refine av_getr (k := 35) dX5_fits_99 rfl rfl iuX5 (by decide) rfl wF_X5_73 rfl ?_
              refine av_aload_n dX5_fits_102 rfl rfl ?_
              refine av_get (k := 36) (x := (s5 0 36)) dX5_fits_103 rfl rfl iuX5 (by decide) rfl wF_X5_182 rfl rfl ?_
              refine av_iald (x := (s5 22 ((s5 0 36)).toNat)) dX5_fits_106 rfl (by decide) h.1 rfl ?_
              refine av_aload_n dX5_fits_107 rfl rfl ?_
              refine av_getr (k := 1) dX5_fits_108 rfl rfl iuX5 (by decide) rfl wF_X5_7 rfl ?_
              refine av_iload_n dX5_fits_111 rfl rfl ?_
              refine av_iald (x := (s5 1 (((σ 21 ((σ 0 36)).toNat) / 2)).toNat)) dX5_fits_112 rfl (by decide) h.2.1 rfl ?_
              refine av_iadd dX5_fits_113 ?_
              refine av_aload_n dX5_fits_114 rfl rfl ?_
              refine av_get (k := 31) (x := (s5 0 31)) dX5_fits_115 rfl rfl iuX5 (by decide) rfl wF_X5_179 rfl rfl ?_
              refine av_icmp_gt (tgt := 125) dX5_fits_118 (by decide) h.2.2.1 h.2.2.2.1 (fun c => ?_) (fun c => ?_)
              · have h := h.2.2.2.2.1 c
                refine av_iconst dX5_fits_125 ?_
                refine av_istore_n (L' := [some (av_r 0), some (av_i ((σ 21 ((σ 0 36)).toNat) / 2)), some (av_i 1), some (av_i 0), none]) dX5_fits_126 rfl (by decide) rfl ?_
                refine av_iconst dX5_fits_127 ?_
                refine av_istore (L' := [some (av_r 0), some (av_i ((σ 21 ((σ 0 36)).toNat) / 2)), some (av_i 1), some (av_i 0), some (av_i 0)]) dX5_fits_128 (by decide) rfl ?_
                exact h
              · have h := h.2.2.2.2.2 c
                refine av_iconst dX5_fits_121 ?_
                refine av_goto (tgt := 126) dX5_fits_122 (by decide) ?_
                refine av_istore_n (L' := [some (av_r 0), some (av_i ((σ 21 ((σ 0 36)).toNat) / 2)), some (av_i 1), some (av_i 1), none]) dX5_fits_126 rfl (by decide) rfl ?_
                refine av_iconst dX5_fits_127 ?_
                refine av_istore (L' := [some (av_r 0), some (av_i ((σ 21 ((σ 0 36)).toNat) / 2)), some (av_i 1), some (av_i 1), some (av_i 0)]) dX5_fits_128 (by decide) rfl ?_
                exact h

theorem uX5_fits_130 {E : av_E} {σ : av_M} {Q : Option av_V → av_M → Prop} {x1 x2 x3 x4 : Int} (h : (0 ≤ x1 ∧ x1 < 8) ∧ ((rg x4) ∧ ((rg (σ 1 (x1).toNat)) ∧ ((((σ 1 (x1).toNat) ≤ x4) → (x3 = 0 ∨ x3 = 1) ∧ (Q (some (av_i x3)) σ)) ∧ ((x4 < (σ 1 (x1).toNat)) → (rg x3) ∧ (((x3 = 0) → (x3 = 0 ∨ x3 = 1) ∧ (Q (some (av_i x3)) σ)) ∧ ((¬ x3 = 0) → (0 ≤ (σ 0 36) ∧ (σ 0 36) < 10) ∧ ((0 ≤ ((σ 22 ((σ 0 36)).toNat) + x4) ∧ ((σ 22 ((σ 0 36)).toNat) + x4) < 9) ∧ ((0 ≤ ((3 * x1) + x4) ∧ ((3 * x1) + x4) < 24) ∧ ((rg (σ 20 (((σ 22 ((σ 0 36)).toNat) + x4)).toNat)) ∧ ((rg (σ 2 (((3 * x1) + x4)).toNat)) ∧ (((¬ (σ 20 (((σ 22 ((σ 0 36)).toNat) + x4)).toNat) = (σ 2 (((3 * x1) + x4)).toNat)) → av_W E mSH mX5_fits 130 [some (av_r 0), some (av_i x1), some (av_i x2), some (av_i 0), some (av_i (x4 + 1))] [] σ Q) ∧ (((σ 20 (((σ 22 ((σ 0 36)).toNat) + x4)).toNat) = (σ 2 (((3 * x1) + x4)).toNat)) → av_W E mSH mX5_fits 130 [some (av_r 0), some (av_i x1), some (av_i x2), some (av_i 1), some (av_i (x4 + 1))] [] σ Q))))))))))))) :
    av_W E mSH mX5_fits 130 [some (av_r 0), some (av_i x1), some (av_i x2), some (av_i x3), some (av_i x4)] [] σ Q := by
  refine av_iload dX5_fits_130 rfl ?_
  refine av_aload_n dX5_fits_132 rfl rfl ?_
  refine av_getr (k := 1) dX5_fits_133 rfl rfl iuX5 (by decide) rfl wF_X5_7 rfl ?_
  refine av_iload_n dX5_fits_136 rfl rfl ?_
  refine av_iald (x := (σ 1 (x1).toNat)) dX5_fits_137 rfl (by decide) h.1 rfl ?_
  refine av_icmp_ge (tgt := 188) dX5_fits_138 (by decide) h.2.1 h.2.2.1 (fun c => ?_) (fun c => ?_)
  · have h := h.2.2.2.1 c
    refine av_iload_n dX5_fits_188 rfl rfl ?_
    exact av_zreturn dX5_fits_189 rfl h.1 h.2
  · have h := h.2.2.2.2 c
    refine av_iload_n dX5_fits_141 rfl rfl ?_
    refine av_if_eq (tgt := 188) dX5_fits_142 (by decide) h.1 (fun c => ?_) (fun c => ?_)
    · have h := h.2.1 c
      refine av_iload_n dX5_fits_188 rfl rfl ?_
      exact av_zreturn dX5_fits_189 rfl h.1 h.2
    · have h := h.2.2 c
      refine av_aload_n dX5_fits_145 rfl rfl ?_
      refine av_getr (k := 30) dX5_fits_146 rfl rfl iuX5 (by decide) rfl wF_X5_67 rfl ?_
      refine av_aload_n dX5_fits_149 rfl rfl ?_
      refine av_getr (k := 35) dX5_fits_150 rfl rfl iuX5 (by decide) rfl wF_X5_73 rfl ?_
      refine av_aload_n dX5_fits_153 rfl rfl ?_
      refine av_get (k := 36) (x := (σ 0 36)) dX5_fits_154 rfl rfl iuX5 (by decide) rfl wF_X5_182 rfl rfl ?_
      refine av_iald (x := (σ 22 ((σ 0 36)).toNat)) dX5_fits_157 rfl (by decide) h.1 rfl ?_
      refine av_iload dX5_fits_158 rfl ?_
      refine av_iadd dX5_fits_160 ?_
      refine av_iald (x := (σ 20 (((σ 22 ((σ 0 36)).toNat) + x4)).toNat)) dX5_fits_161 rfl (by decide) h.2.1 rfl ?_
      refine av_aload_n dX5_fits_162 rfl rfl ?_
      refine av_getr (k := 2) dX5_fits_163 rfl rfl iuX5 (by decide) rfl wF_X5_13 rfl ?_
      refine av_iconst dX5_fits_166 ?_
      refine av_iload_n dX5_fits_167 rfl rfl ?_
      refine av_imul dX5_fits_168 ?_
      refine av_iload dX5_fits_169 rfl ?_
      refine av_iadd dX5_fits_171 ?_
      refine av_iald (x := (σ 2 (((3 * x1) + x4)).toNat)) dX5_fits_172 rfl (by decide) h.2.2.1 rfl ?_
      refine av_icmp_ne (tgt := 180) dX5_fits_173 (by decide) h.2.2.2.1 h.2.2.2.2.1 (fun c => ?_) (fun c => ?_)
      · have h := h.2.2.2.2.2.1 c
        refine av_iconst dX5_fits_180 ?_
        refine av_istore_n (L' := [some (av_r 0), some (av_i x1), some (av_i x2), some (av_i 0), some (av_i x4)]) dX5_fits_181 rfl (by decide) rfl ?_
        refine av_iinc (L' := [some (av_r 0), some (av_i x1), some (av_i x2), some (av_i 0), some (av_i (x4 + 1))]) dX5_fits_182 rfl (by decide) rfl rfl ?_
        refine av_goto (tgt := 130) dX5_fits_185 (by decide) ?_
        exact h
      · have h := h.2.2.2.2.2.2 c
        refine av_iconst dX5_fits_176 ?_
        refine av_goto (tgt := 181) dX5_fits_177 (by decide) ?_
        refine av_istore_n (L' := [some (av_r 0), some (av_i x1), some (av_i x2), some (av_i 1), some (av_i x4)]) dX5_fits_181 rfl (by decide) rfl ?_
        refine av_iinc (L' := [some (av_r 0), some (av_i x1), some (av_i x2), some (av_i 1), some (av_i (x4 + 1))]) dX5_fits_182 rfl (by decide) rfl rfl ?_
        refine av_goto (tgt := 130) dX5_fits_185 (by decide) ?_
        exact h

theorem uX5_verbsIn {E : av_E} {σ : av_M} {Q : Option av_V → av_M → Prop} (h : av_W E mSH mX5_verbsIn 4 [some (av_r 0), some (av_i 0), some (av_i 0)] [] σ Q) :
    av_C E mSH mX5_verbsIn [av_r 0] σ Q := by
  refine av_C.ofW (L := [some (av_r 0), none, none]) (by decide) (Nat.le_of_ble_eq_true rfl) rfl ?_
  refine av_iconst dX5_verbsIn_0 ?_
  refine av_istore_n (L' := [some (av_r 0), some (av_i 0), none]) dX5_verbsIn_1 rfl (by decide) rfl ?_
  refine av_iconst dX5_verbsIn_2 ?_
  refine av_istore_n (L' := [some (av_r 0), some (av_i 0), some (av_i 0)]) dX5_verbsIn_3 rfl (by decide) rfl ?_
  exact h

theorem uX5_verbsIn_4 {E : av_E} {σ : av_M} {Q : Option av_V → av_M → Prop} {x1 x2 : Int} (h : (rg x2) ∧ ((rg (σ 0 36)) ∧ ((((σ 0 36) < x2) → Q (some (av_i x1)) σ) ∧ ((x2 ≤ (σ 0 36)) → (0 ≤ x2 ∧ x2 < 9) ∧ ((0 ≤ (σ 21 (x2).toNat) ∧ (σ 21 (x2).toNat) < 2147483648) ∧ (av_W E mSH mX5_verbsIn 4 [some (av_r 0), some (av_i (x1 + ((σ 21 (x2).toNat) % 2))), some (av_i (x2 + 1))] [] σ Q)))))) :
    av_W E mSH mX5_verbsIn 4 [some (av_r 0), some (av_i x1), some (av_i x2)] [] σ Q := by
  refine av_iload_n dX5_verbsIn_4 rfl rfl ?_
  refine av_aload_n dX5_verbsIn_5 rfl rfl ?_
  refine av_get (k := 36) (x := (σ 0 36)) dX5_verbsIn_6 rfl rfl iuX5 (by decide) rfl wF_X5_182 rfl rfl ?_
  refine av_icmp_gt (tgt := 29) dX5_verbsIn_9 (by decide) h.1 h.2.1 (fun c => ?_) (fun c => ?_)
  · have h := h.2.2.1 c
    refine av_iload_n dX5_verbsIn_29 rfl rfl ?_
    exact av_ireturn dX5_verbsIn_30 rfl h
  · have h := h.2.2.2 c
    refine av_iload_n dX5_verbsIn_12 rfl rfl ?_
    refine av_aload_n dX5_verbsIn_13 rfl rfl ?_
    refine av_getr (k := 34) dX5_verbsIn_14 rfl rfl iuX5 (by decide) rfl wF_X5_70 rfl ?_
    refine av_iload_n dX5_verbsIn_17 rfl rfl ?_
    refine av_iald (x := (σ 21 (x2).toNat)) dX5_verbsIn_18 rfl (by decide) h.1 rfl ?_
    refine av_iconst dX5_verbsIn_19 ?_
    refine av_irem dX5_verbsIn_20 h.2.1 (by decide) ?_
    refine av_iadd dX5_verbsIn_21 ?_
    refine av_istore_n (L' := [some (av_r 0), some (av_i (x1 + ((σ 21 (x2).toNat) % 2))), some (av_i x2)]) dX5_verbsIn_22 rfl (by decide) rfl ?_
    refine av_iinc (L' := [some (av_r 0), some (av_i (x1 + ((σ 21 (x2).toNat) % 2))), some (av_i (x2 + 1))]) dX5_verbsIn_23 rfl (by decide) rfl rfl ?_
    refine av_goto (tgt := 4) dX5_verbsIn_26 (by decide) ?_
    exact h.2.2

theorem uX5_isNext {E : av_E} {σ : av_M} {Q : Option av_V → av_M → Prop} (h : av_W E mSH mX5_isNext 0 [some (av_r 0), none] [] σ Q) :
    av_C E mSH mX5_isNext [av_r 0] σ Q := by
  refine av_C.ofW (L := [some (av_r 0), none]) (by decide) (Nat.le_of_ble_eq_true rfl) rfl ?_
  exact h

theorem uX5_isNext_0 {E : av_E} {σ : av_M} {Q : Option av_V → av_M → Prop} (h : (rg (σ 0 36)) ∧ ((((σ 0 36) < 0) → Q (some (av_i 0)) σ) ∧ ((0 ≤ (σ 0 36)) → (0 ≤ (σ 0 36) ∧ (σ 0 36) < 9) ∧ ((0 ≤ (σ 0 36) ∧ (σ 0 36) < 9) ∧ ((0 ≤ (σ 0 36) ∧ (σ 0 36) < 9) ∧ ((rg ((σ 21 ((σ 0 36)).toNat) + 1)) ∧ ((rg (2 * (σ 0 0))) ∧ (((¬ ((σ 21 ((σ 0 36)).toNat) + 1) = (2 * (σ 0 0))) → av_C E mSH mX5_fits [av_r 0] (av_st σ 21 ((σ 0 36)).toNat ((σ 21 ((σ 0 36)).toNat) + 1)) (fun v s1 => ∃ r1 : Int, v = some (av_i r1) ∧ ((rg r1) ∧ (((r1 = 0) → av_W E mSH mX5_isNext 0 [some (av_r 0), none] [] s1 Q) ∧ ((¬ r1 = 0) → (0 ≤ (s1 0 36) ∧ (s1 0 36) < 10) ∧ ((0 ≤ (s1 0 36) ∧ (s1 0 36) < 9) ∧ ((0 ≤ (s1 21 ((s1 0 36)).toNat) ∧ (s1 21 ((s1 0 36)).toNat) < 2147483648) ∧ ((0 ≤ ((s1 21 ((s1 0 36)).toNat) / 2) ∧ ((s1 21 ((s1 0 36)).toNat) / 2) < 8) ∧ ((rg ((s1 22 ((s1 0 36)).toNat) + (s1 1 (((s1 21 ((s1 0 36)).toNat) / 2)).toNat))) ∧ ((rg (s1 0 31)) ∧ ((((s1 0 31) ≤ ((s1 22 ((s1 0 36)).toNat) + (s1 1 (((s1 21 ((s1 0 36)).toNat) / 2)).toNat))) → (rg (s1 0 33)) ∧ (((¬ (s1 0 33) = 2) → (rg (s1 0 33)) ∧ (((¬ (s1 0 33) = 4) → Q (some (av_i 1)) s1) ∧ (((s1 0 33) = 4) → av_C E mSH mX5_isVerb [av_r 0, av_i (s1 0 36)] s1 (fun v s2 => ∃ r2 : Int, v = some (av_i r2) ∧ ((rg r2) ∧ (((r2 = 0) → av_W E mSH mX5_isNext 0 [some (av_r 0), none] [] s2 Q) ∧ ((¬ r2 = 0) → Q (some (av_i 1)) s2))))))) ∧ (((s1 0 33) = 2) → av_C E mSH mX5_verbsIn [av_r 0] s1 (fun v s3 => ∃ r3 : Int, v = some (av_i r3) ∧ ((rg r3) ∧ (((r3 ≤ 0) → av_W E mSH mX5_isNext 0 [some (av_r 0), none] [] s3 Q) ∧ ((0 < r3) → Q (some (av_i 1)) s3))))))) ∧ ((((s1 22 ((s1 0 36)).toNat) + (s1 1 (((s1 21 ((s1 0 36)).toNat) / 2)).toNat)) < (s1 0 31)) → (0 ≤ ((s1 0 36) + 1) ∧ ((s1 0 36) + 1) < 10) ∧ ((0 ≤ ((s1 0 36) + 1) ∧ ((s1 0 36) + 1) < 9) ∧ (av_W E mSH mX5_isNext 0 [some (av_r 0), none] [] (av_st (av_st (av_st s1 0 36 ((s1 0 36) + 1)) 22 (((s1 0 36) + 1)).toNat ((s1 22 ((s1 0 36)).toNat) + (s1 1 (((s1 21 ((s1 0 36)).toNat) / 2)).toNat))) 21 (((s1 0 36) + 1)).toNat (-1)) Q)))))))))))))) ∧ ((((σ 21 ((σ 0 36)).toNat) + 1) = (2 * (σ 0 0))) → av_W E mSH mX5_isNext 0 [some (av_r 0), none] [] (av_st (av_st σ 21 ((σ 0 36)).toNat ((σ 21 ((σ 0 36)).toNat) + 1)) 0 36 ((σ 0 36) - 1)) Q))))))))) :
    av_W E mSH mX5_isNext 0 [some (av_r 0), none] [] σ Q := by
  refine av_aload_n dX5_isNext_0 rfl rfl ?_
  refine av_get (k := 36) (x := (σ 0 36)) dX5_isNext_1 rfl rfl iuX5 (by decide) rfl wF_X5_182 rfl rfl ?_
  refine av_if_lt (tgt := 168) dX5_isNext_4 (by decide) h.1 (fun c => ?_) (fun c => ?_)
  · have h := h.2.1 c
    refine av_iconst dX5_isNext_168 ?_
    exact av_zreturn dX5_isNext_169 rfl (by decide) h
  · have h := h.2.2 c
    refine av_aload_n dX5_isNext_7 rfl rfl ?_
    refine av_getr (k := 34) dX5_isNext_8 rfl rfl iuX5 (by decide) rfl wF_X5_70 rfl ?_
    refine av_aload_n dX5_isNext_11 rfl rfl ?_
    refine av_get (k := 36) (x := (σ 0 36)) dX5_isNext_12 rfl rfl iuX5 (by decide) rfl wF_X5_182 rfl rfl ?_
    refine av_dup2 dX5_isNext_15 (fun _ h9 => nomatch h9) (fun _ h9 => nomatch h9) ?_
    refine av_iald (x := (σ 21 ((σ 0 36)).toNat)) dX5_isNext_16 rfl (by decide) h.1 rfl ?_
    refine av_iconst dX5_isNext_17 ?_
    refine av_iadd dX5_isNext_18 ?_
    refine av_iast dX5_isNext_19 rfl (by decide) h.2.1 ?_
    refine av_aload_n dX5_isNext_20 rfl rfl ?_
    refine av_getr (k := 34) dX5_isNext_21 rfl rfl iuX5 (by decide) rfl wF_X5_70 rfl ?_
    refine av_aload_n dX5_isNext_24 rfl rfl ?_
    refine av_get (k := 36) (x := (σ 0 36)) dX5_isNext_25 rfl rfl iuX5 (by decide) rfl wF_X5_182 rfl rfl ?_
    refine av_iald (x := ((σ 21 ((σ 0 36)).toNat) + 1)) dX5_isNext_28 rfl (by decide) h.2.2.1 (by simp [av_st]) ?_
    refine av_iconst dX5_isNext_29 ?_
    refine av_aload_n dX5_isNext_30 rfl rfl ?_
    refine av_get (k := 0) (x := (σ 0 0)) dX5_isNext_31 rfl rfl iuX5 (by decide) rfl wF_X5_157 rfl rfl ?_
    refine av_imul dX5_isNext_34 ?_
    refine av_icmp_ne (tgt := 51) dX5_isNext_35 (by decide) h.2.2.2.1 h.2.2.2.2.1 (fun c => ?_) (fun c => ?_)
    · have h := h.2.2.2.2.2.1 c
      refine av_aload_n dX5_isNext_51 rfl rfl ?_
      refine av_callV mX5_fits [] [] dX5_isNext_52 rfl rfl rfl mbX5_fits rfl wI_X5_fits wS_X5_fits rfl wM_X5_196 ⟨Nat.le_of_ble_eq_true rfl, Nat.le_of_ble_eq_true rfl⟩ rfl (Nat.le_of_ble_eq_true rfl) (av_C.mono (fun v s1 hh => ?_) h)
      obtain ⟨r1, rfl, h⟩ := hh
      change av_W E mSH mX5_isNext 55 [some (av_r 0), none] [av_i r1] s1 Q
      refine av_if_eq (tgt := 0) dX5_isNext_55 (by decide) h.1 (fun c => ?_) (fun c => ?_)
      · have h := h.2.1 c
        exact h
      · have h := h.2.2 c
        refine av_aload_n dX5_isNext_58 rfl rfl ?_
        refine av_getr (k := 35) dX5_isNext_59 rfl rfl iuX5 (by decide) rfl wF_X5_73 rfl ?_
        refine av_aload_n dX5_isNext_62 rfl rfl ?_
        refine av_get (k := 36) (x := (s1 0 36)) dX5_isNext_63 rfl rfl iuX5 (by decide) rfl wF_X5_182 rfl rfl ?_
        refine av_iald (x := (s1 22 ((s1 0 36)).toNat)) dX5_isNext_66 rfl (by decide) h.1 rfl ?_
        refine av_aload_n dX5_isNext_67 rfl rfl ?_
        refine av_getr (k := 1) dX5_isNext_68 rfl rfl iuX5 (by decide) rfl wF_X5_7 rfl ?_
        refine av_aload_n dX5_isNext_71 rfl rfl ?_
        refine av_getr (k := 34) dX5_isNext_72 rfl rfl iuX5 (by decide) rfl wF_X5_70 rfl ?_
        refine av_aload_n dX5_isNext_75 rfl rfl ?_
        refine av_get (k := 36) (x := (s1 0 36)) dX5_isNext_76 rfl rfl iuX5 (by decide) rfl wF_X5_182 rfl rfl ?_
        refine av_iald (x := (s1 21 ((s1 0 36)).toNat)) dX5_isNext_79 rfl (by decide) h.2.1 rfl ?_
        refine av_iconst dX5_isNext_80 ?_
        refine av_idiv dX5_isNext_81 h.2.2.1 (by decide) ?_
        refine av_iald (x := (s1 1 (((s1 21 ((s1 0 36)).toNat) / 2)).toNat)) dX5_isNext_82 rfl (by decide) h.2.2.2.1 rfl ?_
        refine av_iadd dX5_isNext_83 ?_
        refine av_istore_n (L' := [some (av_r 0), some (av_i ((s1 22 ((s1 0 36)).toNat) + (s1 1 (((s1 21 ((s1 0 36)).toNat) / 2)).toNat)))]) dX5_isNext_84 rfl (by decide) rfl ?_
        refine av_iload_n dX5_isNext_85 rfl rfl ?_
        refine av_aload_n dX5_isNext_86 rfl rfl ?_
        refine av_get (k := 31) (x := (s1 0 31)) dX5_isNext_87 rfl rfl iuX5 (by decide) rfl wF_X5_179 rfl rfl ?_
        refine av_icmp_ge (tgt := 126) dX5_isNext_90 (by decide) h.2.2.2.2.1 h.2.2.2.2.2.1 (fun c => ?_) (fun c => ?_)
        · have h := h.2.2.2.2.2.2.1 c
          refine av_aload_n dX5_isNext_126 rfl rfl ?_
          refine av_get (k := 33) (x := (s1 0 33)) dX5_isNext_127 rfl rfl iuX5 (by decide) rfl wF_X5_173 rfl rfl ?_
          refine av_iconst dX5_isNext_130 ?_
          refine av_icmp_ne (tgt := 144) dX5_isNext_131 (by decide) h.1 (by decide) (fun c => ?_) (fun c => ?_)
          · have h := h.2.1 c
            refine av_aload_n dX5_isNext_144 rfl rfl ?_
            refine av_get (k := 33) (x := (s1 0 33)) dX5_isNext_145 rfl rfl iuX5 (by decide) rfl wF_X5_173 rfl rfl ?_
            refine av_iconst dX5_isNext_148 ?_
            refine av_icmp_ne (tgt := 163) dX5_isNext_149 (by decide) h.1 (by decide) (fun c => ?_) (fun c => ?_)
            · have h := h.2.1 c
              refine av_iconst dX5_isNext_163 ?_
              exact av_zreturn dX5_isNext_164 rfl (by decide) h
            · have h := h.2.2 c
              refine av_aload_n dX5_isNext_152 rfl rfl ?_
              refine av_aload_n dX5_isNext_153 rfl rfl ?_
              refine av_get (k := 36) (x := (s1 0 36)) dX5_isNext_154 rfl rfl iuX5 (by decide) rfl wF_X5_182 rfl rfl ?_
              refine av_callV mX5_isVerb [av_i (s1 0 36)] [] dX5_isNext_157 rfl rfl rfl mbX5_isVerb rfl wI_X5_isVerb wS_X5_isVerb rfl wM_X5_189 ⟨Nat.le_of_ble_eq_true rfl, Nat.le_of_ble_eq_true rfl⟩ rfl (Nat.le_of_ble_eq_true rfl) (av_C.mono (fun v s2 hh => ?_) h)
              obtain ⟨r2, rfl, h⟩ := hh
              change av_W E mSH mX5_isNext 160 [some (av_r 0), some (av_i ((s1 22 ((s1 0 36)).toNat) + (s1 1 (((s1 21 ((s1 0 36)).toNat) / 2)).toNat)))] [av_i r2] s2 Q
              refine av_if_eq (tgt := 165) dX5_isNext_160 (by decide) h.1 (fun c => ?_) (fun c => ?_)
              · have h := h.2.1 c
                refine av_goto (tgt := 0) dX5_isNext_165 (by decide) ?_
                refine av_res [true, false] (L' := [some (av_r 0), none]) rfl ?_
                exact h
              · have h := h.2.2 c
                refine av_iconst dX5_isNext_163 ?_
                exact av_zreturn dX5_isNext_164 rfl (by decide) h
          · have h := h.2.2 c
            refine av_aload_n dX5_isNext_134 rfl rfl ?_
            refine av_callV mX5_verbsIn [] [] dX5_isNext_135 rfl rfl rfl mbX5_verbsIn rfl wI_X5_verbsIn wS_X5_verbsIn rfl wM_X5_199 ⟨Nat.le_of_ble_eq_true rfl, Nat.le_of_ble_eq_true rfl⟩ rfl (Nat.le_of_ble_eq_true rfl) (av_C.mono (fun v s3 hh => ?_) h)
            obtain ⟨r3, rfl, h⟩ := hh
            change av_W E mSH mX5_isNext 138 [some (av_r 0), some (av_i ((s1 22 ((s1 0 36)).toNat) + (s1 1 (((s1 21 ((s1 0 36)).toNat) / 2)).toNat)))] [av_i r3] s3 Q
            refine av_if_le (tgt := 165) dX5_isNext_138 (by decide) h.1 (fun c => ?_) (fun c => ?_)
            · have h := h.2.1 c
              refine av_goto (tgt := 0) dX5_isNext_165 (by decide) ?_
              refine av_res [true, false] (L' := [some (av_r 0), none]) rfl ?_
              exact h
            · have h := h.2.2 c
              refine av_goto (tgt := 163) dX5_isNext_141 (by decide) ?_
              refine av_iconst dX5_isNext_163 ?_
              exact av_zreturn dX5_isNext_164 rfl (by decide) h
        · have h := h.2.2.2.2.2.2.2 c
          refine av_aload_n dX5_isNext_93 rfl rfl ?_
          refine av_dup dX5_isNext_94 (fun _ h9 => nomatch h9) ?_
          refine av_get (k := 36) (x := (s1 0 36)) dX5_isNext_95 rfl rfl iuX5 (by decide) rfl wF_X5_182 rfl rfl ?_
          refine av_iconst dX5_isNext_98 ?_
          refine av_iadd dX5_isNext_99 ?_
          refine av_put (k := 36) tyX5 dX5_isNext_100 rfl rfl iuX5 tyX5_ok nmX5 (by decide) rfl wF_X5_182 rfl rfl rfl ?_
          refine av_aload_n dX5_isNext_103 rfl rfl ?_
          refine av_getr (k := 35) dX5_isNext_104 rfl rfl iuX5 (by decide) rfl wF_X5_73 rfl ?_
          refine av_aload_n dX5_isNext_107 rfl rfl ?_
          refine av_get (k := 36) (x := ((s1 0 36) + 1)) dX5_isNext_108 rfl rfl iuX5 (by decide) rfl wF_X5_182 rfl rfl ?_
          refine av_iload_n dX5_isNext_111 rfl rfl ?_
          refine av_iast dX5_isNext_112 rfl (by decide) h.1 ?_
          refine av_aload_n dX5_isNext_113 rfl rfl ?_
          refine av_getr (k := 34) dX5_isNext_114 rfl rfl iuX5 (by decide) rfl wF_X5_70 rfl ?_
          refine av_aload_n dX5_isNext_117 rfl rfl ?_
          refine av_get (k := 36) (x := ((s1 0 36) + 1)) dX5_isNext_118 rfl rfl iuX5 (by decide) rfl wF_X5_182 rfl rfl ?_
          refine av_iconst dX5_isNext_121 ?_
          refine av_iast dX5_isNext_122 rfl (by decide) h.2.1 ?_
          refine av_goto (tgt := 165) dX5_isNext_123 (by decide) ?_
          refine av_goto (tgt := 0) dX5_isNext_165 (by decide) ?_
          refine av_res [true, false] (L' := [some (av_r 0), none]) rfl ?_
          exact h.2.2
    · have h := h.2.2.2.2.2.2 c
      refine av_aload_n dX5_isNext_38 rfl rfl ?_
      refine av_dup dX5_isNext_39 (fun _ h9 => nomatch h9) ?_
      refine av_get (k := 36) (x := (σ 0 36)) dX5_isNext_40 rfl rfl iuX5 (by decide) rfl wF_X5_182 rfl rfl ?_
      refine av_iconst dX5_isNext_43 ?_
      refine av_isub dX5_isNext_44 ?_
      refine av_put (k := 36) tyX5 dX5_isNext_45 rfl rfl iuX5 tyX5_ok nmX5 (by decide) rfl wF_X5_182 rfl rfl rfl ?_
      refine av_goto (tgt := 0) dX5_isNext_48 (by decide) ?_
      exact h

theorem uX5_weighs {E : av_E} {σ : av_M} {Q : Option av_V → av_M → Prop} (h : av_W E mSH mX5_weighs 4 [some (av_r 0), some (av_i 0), some (av_i 0)] [] σ Q) :
    av_C E mSH mX5_weighs [av_r 0] σ Q := by
  refine av_C.ofW (L := [some (av_r 0), none, none]) (by decide) (Nat.le_of_ble_eq_true rfl) rfl ?_
  refine av_iconst dX5_weighs_0 ?_
  refine av_istore_n (L' := [some (av_r 0), some (av_i 0), none]) dX5_weighs_1 rfl (by decide) rfl ?_
  refine av_iconst dX5_weighs_2 ?_
  refine av_istore_n (L' := [some (av_r 0), some (av_i 0), some (av_i 0)]) dX5_weighs_3 rfl (by decide) rfl ?_
  exact h

theorem uX5_weighs_4 {E : av_E} {σ : av_M} {Q : Option av_V → av_M → Prop} {x1 x2 : Int} (h : (rg x2) ∧ ((rg (σ 0 36)) ∧ ((((σ 0 36) < x2) → Q (some (av_i x1)) σ) ∧ ((x2 ≤ (σ 0 36)) → av_C E mSH mX5_isVerb [av_r 0, av_i x2] σ (fun v s1 => ∃ r1 : Int, v = some (av_i r1) ∧ ((rg r1) ∧ (((r1 = 0) → (0 ≤ x2 ∧ x2 < 9) ∧ ((0 ≤ (s1 21 (x2).toNat) ∧ (s1 21 (x2).toNat) < 2147483648) ∧ ((0 ≤ ((s1 21 (x2).toNat) / 2) ∧ ((s1 21 (x2).toNat) / 2) < 8) ∧ (av_W E mSH mX5_weighs 4 [some (av_r 0), some (av_i (x1 + (s1 3 (((s1 21 (x2).toNat) / 2)).toNat))), some (av_i (x2 + 1))] [] s1 Q)))) ∧ ((¬ r1 = 0) → av_W E mSH mX5_weighs 4 [some (av_r 0), some (av_i (x1 + 0)), some (av_i (x2 + 1))] [] s1 Q)))))))) :
    av_W E mSH mX5_weighs 4 [some (av_r 0), some (av_i x1), some (av_i x2)] [] σ Q := by
  refine av_iload_n dX5_weighs_4 rfl rfl ?_
  refine av_aload_n dX5_weighs_5 rfl rfl ?_
  refine av_get (k := 36) (x := (σ 0 36)) dX5_weighs_6 rfl rfl iuX5 (by decide) rfl wF_X5_182 rfl rfl ?_
  refine av_icmp_gt (tgt := 46) dX5_weighs_9 (by decide) h.1 h.2.1 (fun c => ?_) (fun c => ?_)
  · have h := h.2.2.1 c
    refine av_iload_n dX5_weighs_46 rfl rfl ?_
    exact av_ireturn dX5_weighs_47 rfl h
  · have h := h.2.2.2 c
    refine av_iload_n dX5_weighs_12 rfl rfl ?_
    refine av_aload_n dX5_weighs_13 rfl rfl ?_
    refine av_iload_n dX5_weighs_14 rfl rfl ?_
    refine av_callV mX5_isVerb [av_i x2] [av_i x1] dX5_weighs_15 rfl rfl rfl mbX5_isVerb rfl wI_X5_isVerb wS_X5_isVerb rfl wM_X5_189 ⟨Nat.le_of_ble_eq_true rfl, Nat.le_of_ble_eq_true rfl⟩ rfl (Nat.le_of_ble_eq_true rfl) (av_C.mono (fun v s1 hh => ?_) h)
    obtain ⟨r1, rfl, h⟩ := hh
    change av_W E mSH mX5_weighs 18 [some (av_r 0), some (av_i x1), some (av_i x2)] [av_i r1, av_i x1] s1 Q
    refine av_if_eq (tgt := 25) dX5_weighs_18 (by decide) h.1 (fun c => ?_) (fun c => ?_)
    · have h := h.2.1 c
      refine av_aload_n dX5_weighs_25 rfl rfl ?_
      refine av_getr (k := 3) dX5_weighs_26 rfl rfl iuX5 (by decide) rfl wF_X5_16 rfl ?_
      refine av_aload_n dX5_weighs_29 rfl rfl ?_
      refine av_getr (k := 34) dX5_weighs_30 rfl rfl iuX5 (by decide) rfl wF_X5_70 rfl ?_
      refine av_iload_n dX5_weighs_33 rfl rfl ?_
      refine av_iald (x := (s1 21 (x2).toNat)) dX5_weighs_34 rfl (by decide) h.1 rfl ?_
      refine av_iconst dX5_weighs_35 ?_
      refine av_idiv dX5_weighs_36 h.2.1 (by decide) ?_
      refine av_iald (x := (s1 3 (((s1 21 (x2).toNat) / 2)).toNat)) dX5_weighs_37 rfl (by decide) h.2.2.1 rfl ?_
      refine av_iadd dX5_weighs_38 ?_
      refine av_istore_n (L' := [some (av_r 0), some (av_i (x1 + (s1 3 (((s1 21 (x2).toNat) / 2)).toNat))), some (av_i x2)]) dX5_weighs_39 rfl (by decide) rfl ?_
      refine av_iinc (L' := [some (av_r 0), some (av_i (x1 + (s1 3 (((s1 21 (x2).toNat) / 2)).toNat))), some (av_i (x2 + 1))]) dX5_weighs_40 rfl (by decide) rfl rfl ?_
      refine av_goto (tgt := 4) dX5_weighs_43 (by decide) ?_
      exact h.2.2.2
    · have h := h.2.2 c
      refine av_iconst dX5_weighs_21 ?_
      refine av_goto (tgt := 38) dX5_weighs_22 (by decide) ?_
      refine av_iadd dX5_weighs_38 ?_
      refine av_istore_n (L' := [some (av_r 0), some (av_i (x1 + 0)), some (av_i x2)]) dX5_weighs_39 rfl (by decide) rfl ?_
      refine av_iinc (L' := [some (av_r 0), some (av_i (x1 + 0)), some (av_i (x2 + 1))]) dX5_weighs_40 rfl (by decide) rfl rfl ?_
      refine av_goto (tgt := 4) dX5_weighs_43 (by decide) ?_
      exact h

theorem uX5_verbs {E : av_E} {σ : av_M} {Q : Option av_V → av_M → Prop} (h : av_W E mSH mX5_verbs 4 [some (av_r 0), some (av_i 0), some (av_i 0)] [] σ Q) :
    av_C E mSH mX5_verbs [av_r 0] σ Q := by
  refine av_C.ofW (L := [some (av_r 0), none, none]) (by decide) (Nat.le_of_ble_eq_true rfl) rfl ?_
  refine av_iconst dX5_verbs_0 ?_
  refine av_istore_n (L' := [some (av_r 0), some (av_i 0), none]) dX5_verbs_1 rfl (by decide) rfl ?_
  refine av_iconst dX5_verbs_2 ?_
  refine av_istore_n (L' := [some (av_r 0), some (av_i 0), some (av_i 0)]) dX5_verbs_3 rfl (by decide) rfl ?_
  exact h

theorem uX5_verbs_4 {E : av_E} {σ : av_M} {Q : Option av_V → av_M → Prop} {x1 x2 : Int} (h : (rg x2) ∧ ((rg (σ 0 36)) ∧ ((((σ 0 36) < x2) → Q (some (av_i x1)) σ) ∧ ((x2 ≤ (σ 0 36)) → av_C E mSH mX5_isVerb [av_r 0, av_i x2] σ (fun v s1 => ∃ r1 : Int, v = some (av_i r1) ∧ ((rg r1) ∧ (((r1 = 0) → av_W E mSH mX5_verbs 4 [some (av_r 0), some (av_i (i_or x1 0)), some (av_i (x2 + 1))] [] s1 Q) ∧ ((¬ r1 = 0) → (0 ≤ x2 ∧ x2 < 9) ∧ ((0 ≤ (s1 21 (x2).toNat) ∧ (s1 21 (x2).toNat) < 2147483648) ∧ ((0 ≤ ((s1 21 (x2).toNat) / 2) ∧ ((s1 21 (x2).toNat) / 2) < 8) ∧ (av_W E mSH mX5_verbs 4 [some (av_r 0), some (av_i (i_or x1 (i_shl 1 (s1 4 (((s1 21 (x2).toNat) / 2)).toNat)))), some (av_i (x2 + 1))] [] s1 Q))))))))))) :
    av_W E mSH mX5_verbs 4 [some (av_r 0), some (av_i x1), some (av_i x2)] [] σ Q := by
  refine av_iload_n dX5_verbs_4 rfl rfl ?_
  refine av_aload_n dX5_verbs_5 rfl rfl ?_
  refine av_get (k := 36) (x := (σ 0 36)) dX5_verbs_6 rfl rfl iuX5 (by decide) rfl wF_X5_182 rfl rfl ?_
  refine av_icmp_gt (tgt := 48) dX5_verbs_9 (by decide) h.1 h.2.1 (fun c => ?_) (fun c => ?_)
  · have h := h.2.2.1 c
    refine av_iload_n dX5_verbs_48 rfl rfl ?_
    exact av_ireturn dX5_verbs_49 rfl h
  · have h := h.2.2.2 c
    refine av_iload_n dX5_verbs_12 rfl rfl ?_
    refine av_aload_n dX5_verbs_13 rfl rfl ?_
    refine av_iload_n dX5_verbs_14 rfl rfl ?_
    refine av_callV mX5_isVerb [av_i x2] [av_i x1] dX5_verbs_15 rfl rfl rfl mbX5_isVerb rfl wI_X5_isVerb wS_X5_isVerb rfl wM_X5_189 ⟨Nat.le_of_ble_eq_true rfl, Nat.le_of_ble_eq_true rfl⟩ rfl (Nat.le_of_ble_eq_true rfl) (av_C.mono (fun v s1 hh => ?_) h)
    obtain ⟨r1, rfl, h⟩ := hh
    change av_W E mSH mX5_verbs 18 [some (av_r 0), some (av_i x1), some (av_i x2)] [av_i r1, av_i x1] s1 Q
    refine av_if_eq (tgt := 39) dX5_verbs_18 (by decide) h.1 (fun c => ?_) (fun c => ?_)
    · have h := h.2.1 c
      refine av_iconst dX5_verbs_39 ?_
      refine av_ior dX5_verbs_40 ?_
      refine av_istore_n (L' := [some (av_r 0), some (av_i (i_or x1 0)), some (av_i x2)]) dX5_verbs_41 rfl (by decide) rfl ?_
      refine av_iinc (L' := [some (av_r 0), some (av_i (i_or x1 0)), some (av_i (x2 + 1))]) dX5_verbs_42 rfl (by decide) rfl rfl ?_
      refine av_goto (tgt := 4) dX5_verbs_45 (by decide) ?_
      exact h
    · have h := h.2.2 c
      refine av_iconst dX5_verbs_21 ?_
      refine av_aload_n dX5_verbs_22 rfl rfl ?_
      refine av_getr (k := 4) dX5_verbs_23 rfl rfl iuX5 (by decide) rfl wF_X5_19 rfl ?_
      refine av_aload_n dX5_verbs_26 rfl rfl ?_
      refine av_getr (k := 34) dX5_verbs_27 rfl rfl iuX5 (by decide) rfl wF_X5_70 rfl ?_
      refine av_iload_n dX5_verbs_30 rfl rfl ?_
      refine av_iald (x := (s1 21 (x2).toNat)) dX5_verbs_31 rfl (by decide) h.1 rfl ?_
      refine av_iconst dX5_verbs_32 ?_
      refine av_idiv dX5_verbs_33 h.2.1 (by decide) ?_
      refine av_iald (x := (s1 4 (((s1 21 (x2).toNat) / 2)).toNat)) dX5_verbs_34 rfl (by decide) h.2.2.1 rfl ?_
      refine av_ishl dX5_verbs_35 ?_
      refine av_goto (tgt := 40) dX5_verbs_36 (by decide) ?_
      refine av_ior dX5_verbs_40 ?_
      refine av_istore_n (L' := [some (av_r 0), some (av_i (i_or x1 (i_shl 1 (s1 4 (((s1 21 (x2).toNat) / 2)).toNat)))), some (av_i x2)]) dX5_verbs_41 rfl (by decide) rfl ?_
      refine av_iinc (L' := [some (av_r 0), some (av_i (i_or x1 (i_shl 1 (s1 4 (((s1 21 (x2).toNat) / 2)).toNat)))), some (av_i (x2 + 1))]) dX5_verbs_42 rfl (by decide) rfl rfl ?_
      refine av_goto (tgt := 4) dX5_verbs_45 (by decide) ?_
      exact h.2.2.2

theorem uX5_all {E : av_E} {σ : av_M} {Q : Option av_V → av_M → Prop} (h : Q (some (av_i ((i_shl 1 (σ 0 0)) - 1))) σ) :
    av_C E mSH mX5_all [av_r 0] σ Q := by
  refine av_C.ofW (L := [some (av_r 0)]) (by decide) (Nat.le_of_ble_eq_true rfl) rfl ?_
  refine av_iconst dX5_all_0 ?_
  refine av_aload_n dX5_all_1 rfl rfl ?_
  refine av_get (k := 0) (x := (σ 0 0)) dX5_all_2 rfl rfl iuX5 (by decide) rfl wF_X5_157 rfl rfl ?_
  refine av_ishl dX5_all_5 ?_
  refine av_iconst dX5_all_6 ?_
  refine av_isub dX5_all_7 ?_
  exact av_ireturn dX5_all_8 rfl h

theorem uX5_manyReadings {E : av_E} {σ : av_M} {Q : Option av_V → av_M → Prop} (h : av_W E mSH mX5_manyReadings 2 [some (av_r 0), some (av_i 0)] [] σ Q) :
    av_C E mSH mX5_manyReadings [av_r 0] σ Q := by
  refine av_C.ofW (L := [some (av_r 0), none]) (by decide) (Nat.le_of_ble_eq_true rfl) rfl ?_
  refine av_iconst dX5_manyReadings_0 ?_
  refine av_istore_n (L' := [some (av_r 0), some (av_i 0)]) dX5_manyReadings_1 rfl (by decide) rfl ?_
  exact h

theorem uX5_manyReadings_2 {E : av_E} {σ : av_M} {Q : Option av_V → av_M → Prop} {x1 : Int} (h : av_C E mSH mX5_isNext [av_r 0] σ (fun v s1 => ∃ r1 : Int, v = some (av_i r1) ∧ ((rg r1) ∧ (((r1 = 0) → Q (some (av_i x1)) s1) ∧ ((¬ r1 = 0) → av_W E mSH mX5_manyReadings 2 [some (av_r 0), some (av_i (x1 + 1))] [] s1 Q))))) :
    av_W E mSH mX5_manyReadings 2 [some (av_r 0), some (av_i x1)] [] σ Q := by
  refine av_aload_n dX5_manyReadings_2 rfl rfl ?_
  refine av_callV mX5_isNext [] [] dX5_manyReadings_3 rfl rfl rfl mbX5_isNext rfl wI_X5_isNext wS_X5_isNext rfl wM_X5_202 ⟨Nat.le_of_ble_eq_true rfl, Nat.le_of_ble_eq_true rfl⟩ rfl (Nat.le_of_ble_eq_true rfl) (av_C.mono (fun v s1 hh => ?_) h)
  obtain ⟨r1, rfl, h⟩ := hh
  change av_W E mSH mX5_manyReadings 6 [some (av_r 0), some (av_i x1)] [av_i r1] s1 Q
  refine av_if_eq (tgt := 15) dX5_manyReadings_6 (by decide) h.1 (fun c => ?_) (fun c => ?_)
  · have h := h.2.1 c
    refine av_iload_n dX5_manyReadings_15 rfl rfl ?_
    exact av_ireturn dX5_manyReadings_16 rfl h
  · have h := h.2.2 c
    refine av_iinc (L' := [some (av_r 0), some (av_i (x1 + 1))]) dX5_manyReadings_9 rfl (by decide) rfl rfl ?_
    refine av_goto (tgt := 2) dX5_manyReadings_12 (by decide) ?_
    exact h

theorem uX5_isTelling {E : av_E} {σ : av_M} {Q : Option av_V → av_M → Prop} (h : av_W E mSH mX5_isTelling 10 [some (av_r 0), some (av_i (-1)), some (av_i 0), none] [] (av_st σ 0 37 (-4)) Q) :
    av_C E mSH mX5_isTelling [av_r 0] σ Q := by
  refine av_C.ofW (L := [some (av_r 0), none, none, none]) (by decide) (Nat.le_of_ble_eq_true rfl) rfl ?_
  refine av_aload_n dX5_isTelling_0 rfl rfl ?_
  refine av_bipush dX5_isTelling_1 rfl ?_
  refine av_put (k := 37) tyX5 dX5_isTelling_3 rfl rfl iuX5 tyX5_ok nmX5 (by decide) rfl wF_X5_205 rfl rfl rfl ?_
  refine av_iconst dX5_isTelling_6 ?_
  refine av_istore_n (L' := [some (av_r 0), some (av_i (-1)), none, none]) dX5_isTelling_7 rfl (by decide) rfl ?_
  refine av_iconst dX5_isTelling_8 ?_
  refine av_istore_n (L' := [some (av_r 0), some (av_i (-1)), some (av_i 0), none]) dX5_isTelling_9 rfl (by decide) rfl ?_
  exact h

theorem uX5_isTelling_10 {E : av_E} {σ : av_M} {Q : Option av_V → av_M → Prop} {x1 x2 : Int} (h : av_C E mSH mX5_isNext [av_r 0] σ (fun v s1 => ∃ r1 : Int, v = some (av_i r1) ∧ ((rg r1) ∧ (((r1 = 0) → (rg x2) ∧ (((x2 ≤ 0) → Q (some (av_i 0)) s1) ∧ ((0 < x2) → Q (some (av_i 1)) s1))) ∧ ((¬ r1 = 0) → (rg (s1 0 33)) ∧ (((¬ (s1 0 33) = 1) → (rg (s1 0 33)) ∧ (((¬ (s1 0 33) = 2) → (rg (s1 0 33)) ∧ (((¬ (s1 0 33) = 3) → (rg x1) ∧ (((0 ≤ x1) → av_W E mSH mX5_isTelling 10 [some (av_r 0), some (av_i x1), some (av_i (x2 + 1)), none] [] s1 Q) ∧ ((x1 < 0) → av_C E mSH mX5_weighs [av_r 0] (av_st s1 0 37 x2) (fun v s2 => ∃ r2 : Int, v = some (av_i r2) ∧ (av_C E mSH mX5_verbs [av_r 0] (av_st s2 0 38 r2) (fun v s3 => ∃ r3 : Int, v = some (av_i r3) ∧ (av_W E mSH mX5_isTelling 10 [some (av_r 0), some (av_i 0), some (av_i (x2 + 1)), none] [] (av_st s3 0 39 r3) Q))))))) ∧ (((s1 0 33) = 3) → (rg x2) ∧ ((rg x1) ∧ (((x2 ≤ x1) → av_W E mSH mX5_isTelling 10 [some (av_r 0), some (av_i x1), some (av_i (x2 + 1)), none] [] s1 Q) ∧ ((x1 < x2) → av_C E mSH mX5_weighs [av_r 0] (av_st s1 0 37 x2) (fun v s4 => ∃ r4 : Int, v = some (av_i r4) ∧ (av_C E mSH mX5_verbs [av_r 0] (av_st s4 0 38 r4) (fun v s5 => ∃ r5 : Int, v = some (av_i r5) ∧ (av_W E mSH mX5_isTelling 10 [some (av_r 0), some (av_i x2), some (av_i (x2 + 1)), none] [] (av_st s5 0 39 r5) Q)))))))))) ∧ (((s1 0 33) = 2) → av_C E mSH mX5_verbsIn [av_r 0] s1 (fun v s6 => ∃ r6 : Int, v = some (av_i r6) ∧ ((rg r6) ∧ ((rg x1) ∧ (((r6 ≤ x1) → av_W E mSH mX5_isTelling 10 [some (av_r 0), some (av_i x1), some (av_i (x2 + 1)), none] [] s6 Q) ∧ ((x1 < r6) → av_C E mSH mX5_weighs [av_r 0] (av_st s6 0 37 x2) (fun v s7 => ∃ r7 : Int, v = some (av_i r7) ∧ (av_C E mSH mX5_verbs [av_r 0] (av_st s7 0 38 r7) (fun v s8 => ∃ r8 : Int, v = some (av_i r8) ∧ (av_W E mSH mX5_isTelling 10 [some (av_r 0), some (av_i r6), some (av_i (x2 + 1)), none] [] (av_st s8 0 39 r8) Q)))))))))))) ∧ (((s1 0 33) = 1) → av_C E mSH mX5_weighs [av_r 0] s1 (fun v s9 => ∃ r9 : Int, v = some (av_i r9) ∧ ((rg r9) ∧ ((rg x1) ∧ (((r9 ≤ x1) → av_W E mSH mX5_isTelling 10 [some (av_r 0), some (av_i x1), some (av_i (x2 + 1)), none] [] s9 Q) ∧ ((x1 < r9) → av_C E mSH mX5_weighs [av_r 0] (av_st s9 0 37 x2) (fun v s10 => ∃ r10 : Int, v = some (av_i r10) ∧ (av_C E mSH mX5_verbs [av_r 0] (av_st s10 0 38 r10) (fun v s11 => ∃ r11 : Int, v = some (av_i r11) ∧ (av_W E mSH mX5_isTelling 10 [some (av_r 0), some (av_i r9), some (av_i (x2 + 1)), none] [] (av_st s11 0 39 r11) Q)))))))))))))))) :
    av_W E mSH mX5_isTelling 10 [some (av_r 0), some (av_i x1), some (av_i x2), none] [] σ Q := by
  refine av_aload_n dX5_isTelling_10 rfl rfl ?_
  refine av_callV mX5_isNext [] [] dX5_isTelling_11 rfl rfl rfl mbX5_isNext rfl wI_X5_isNext wS_X5_isNext rfl wM_X5_202 ⟨Nat.le_of_ble_eq_true rfl, Nat.le_of_ble_eq_true rfl⟩ rfl (Nat.le_of_ble_eq_true rfl) (av_C.mono (fun v s1 hh => ?_) h)
  obtain ⟨r1, rfl, h⟩ := hh
  change av_W E mSH mX5_isTelling 14 [some (av_r 0), some (av_i x1), some (av_i x2), none] [av_i r1] s1 Q
  refine av_if_eq (tgt := 95) dX5_isTelling_14 (by decide) h.1 (fun c => ?_) (fun c => ?_)
  · have h := h.2.1 c
    refine av_iload_n dX5_isTelling_95 rfl rfl ?_
    refine av_if_le (tgt := 103) dX5_isTelling_96 (by decide) h.1 (fun c => ?_) (fun c => ?_)
    · have h := h.2.1 c
      refine av_iconst dX5_isTelling_103 ?_
      exact av_zreturn dX5_isTelling_104 rfl (by decide) h
    · have h := h.2.2 c
      refine av_iconst dX5_isTelling_99 ?_
      refine av_goto (tgt := 104) dX5_isTelling_100 (by decide) ?_
      exact av_zreturn dX5_isTelling_104 rfl (by decide) h
  · have h := h.2.2 c
    refine av_aload_n dX5_isTelling_17 rfl rfl ?_
    refine av_get (k := 33) (x := (s1 0 33)) dX5_isTelling_18 rfl rfl iuX5 (by decide) rfl wF_X5_173 rfl rfl ?_
    refine av_iconst dX5_isTelling_21 ?_
    refine av_icmp_ne (tgt := 32) dX5_isTelling_22 (by decide) h.1 (by decide) (fun c => ?_) (fun c => ?_)
    · have h := h.2.1 c
      refine av_aload_n dX5_isTelling_32 rfl rfl ?_
      refine av_get (k := 33) (x := (s1 0 33)) dX5_isTelling_33 rfl rfl iuX5 (by decide) rfl wF_X5_173 rfl rfl ?_
      refine av_iconst dX5_isTelling_36 ?_
      refine av_icmp_ne (tgt := 47) dX5_isTelling_37 (by decide) h.1 (by decide) (fun c => ?_) (fun c => ?_)
      · have h := h.2.1 c
        refine av_aload_n dX5_isTelling_47 rfl rfl ?_
        refine av_get (k := 33) (x := (s1 0 33)) dX5_isTelling_48 rfl rfl iuX5 (by decide) rfl wF_X5_173 rfl rfl ?_
        refine av_iconst dX5_isTelling_51 ?_
        refine av_icmp_ne (tgt := 59) dX5_isTelling_52 (by decide) h.1 (by decide) (fun c => ?_) (fun c => ?_)
        · have h := h.2.1 c
          refine av_iconst dX5_isTelling_59 ?_
          refine av_istore_n (L' := [some (av_r 0), some (av_i x1), some (av_i x2), some (av_i 0)]) dX5_isTelling_60 rfl (by decide) rfl ?_
          refine av_iload_n dX5_isTelling_61 rfl rfl ?_
          refine av_iload_n dX5_isTelling_62 rfl rfl ?_
          refine av_icmp_le (tgt := 89) dX5_isTelling_63 (by decide) (by decide) h.1 (fun c => ?_) (fun c => ?_)
          · have h := h.2.1 c
            refine av_iinc (L' := [some (av_r 0), some (av_i x1), some (av_i (x2 + 1)), some (av_i 0)]) dX5_isTelling_89 rfl (by decide) rfl rfl ?_
            refine av_goto (tgt := 10) dX5_isTelling_92 (by decide) ?_
            refine av_res [true, true, true, false] (L' := [some (av_r 0), some (av_i x1), some (av_i (x2 + 1)), none]) rfl ?_
            exact h
          · have h := h.2.2 c
            refine av_iload_n dX5_isTelling_66 rfl rfl ?_
            refine av_istore_n (L' := [some (av_r 0), some (av_i 0), some (av_i x2), some (av_i 0)]) dX5_isTelling_67 rfl (by decide) rfl ?_
            refine av_aload_n dX5_isTelling_68 rfl rfl ?_
            refine av_iload_n dX5_isTelling_69 rfl rfl ?_
            refine av_put (k := 37) tyX5 dX5_isTelling_70 rfl rfl iuX5 tyX5_ok nmX5 (by decide) rfl wF_X5_205 rfl rfl rfl ?_
            refine av_aload_n dX5_isTelling_73 rfl rfl ?_
            refine av_aload_n dX5_isTelling_74 rfl rfl ?_
            refine av_callV mX5_weighs [] [av_r 0] dX5_isTelling_75 rfl rfl rfl mbX5_weighs rfl wI_X5_weighs wS_X5_weighs rfl wM_X5_208 ⟨Nat.le_of_ble_eq_true rfl, Nat.le_of_ble_eq_true rfl⟩ rfl (Nat.le_of_ble_eq_true rfl) (av_C.mono (fun v s2 hh => ?_) h)
            obtain ⟨r2, rfl, h⟩ := hh
            change av_W E mSH mX5_isTelling 78 [some (av_r 0), some (av_i 0), some (av_i x2), some (av_i 0)] [av_i r2, av_r 0] s2 Q
            refine av_put (k := 38) tyX5 dX5_isTelling_78 rfl rfl iuX5 tyX5_ok nmX5 (by decide) rfl wF_X5_211 rfl rfl rfl ?_
            refine av_aload_n dX5_isTelling_81 rfl rfl ?_
            refine av_aload_n dX5_isTelling_82 rfl rfl ?_
            refine av_callV mX5_verbs [] [av_r 0] dX5_isTelling_83 rfl rfl rfl mbX5_verbs rfl wI_X5_verbs wS_X5_verbs rfl wM_X5_214 ⟨Nat.le_of_ble_eq_true rfl, Nat.le_of_ble_eq_true rfl⟩ rfl (Nat.le_of_ble_eq_true rfl) (av_C.mono (fun v s3 hh => ?_) h)
            obtain ⟨r3, rfl, h⟩ := hh
            change av_W E mSH mX5_isTelling 86 [some (av_r 0), some (av_i 0), some (av_i x2), some (av_i 0)] [av_i r3, av_r 0] s3 Q
            refine av_put (k := 39) tyX5 dX5_isTelling_86 rfl rfl iuX5 tyX5_ok nmX5 (by decide) rfl wF_X5_217 rfl rfl rfl ?_
            refine av_iinc (L' := [some (av_r 0), some (av_i 0), some (av_i (x2 + 1)), some (av_i 0)]) dX5_isTelling_89 rfl (by decide) rfl rfl ?_
            refine av_goto (tgt := 10) dX5_isTelling_92 (by decide) ?_
            refine av_res [true, true, true, false] (L' := [some (av_r 0), some (av_i 0), some (av_i (x2 + 1)), none]) rfl ?_
            exact h
        · have h := h.2.2 c
          refine av_iload_n dX5_isTelling_55 rfl rfl ?_
          refine av_goto (tgt := 60) dX5_isTelling_56 (by decide) ?_
          refine av_istore_n (L' := [some (av_r 0), some (av_i x1), some (av_i x2), some (av_i x2)]) dX5_isTelling_60 rfl (by decide) rfl ?_
          refine av_iload_n dX5_isTelling_61 rfl rfl ?_
          refine av_iload_n dX5_isTelling_62 rfl rfl ?_
          refine av_icmp_le (tgt := 89) dX5_isTelling_63 (by decide) h.1 h.2.1 (fun c => ?_) (fun c => ?_)
          · have h := h.2.2.1 c
            refine av_iinc (L' := [some (av_r 0), some (av_i x1), some (av_i (x2 + 1)), some (av_i x2)]) dX5_isTelling_89 rfl (by decide) rfl rfl ?_
            refine av_goto (tgt := 10) dX5_isTelling_92 (by decide) ?_
            refine av_res [true, true, true, false] (L' := [some (av_r 0), some (av_i x1), some (av_i (x2 + 1)), none]) rfl ?_
            exact h
          · have h := h.2.2.2 c
            refine av_iload_n dX5_isTelling_66 rfl rfl ?_
            refine av_istore_n (L' := [some (av_r 0), some (av_i x2), some (av_i x2), some (av_i x2)]) dX5_isTelling_67 rfl (by decide) rfl ?_
            refine av_aload_n dX5_isTelling_68 rfl rfl ?_
            refine av_iload_n dX5_isTelling_69 rfl rfl ?_
            refine av_put (k := 37) tyX5 dX5_isTelling_70 rfl rfl iuX5 tyX5_ok nmX5 (by decide) rfl wF_X5_205 rfl rfl rfl ?_
            refine av_aload_n dX5_isTelling_73 rfl rfl ?_
            refine av_aload_n dX5_isTelling_74 rfl rfl ?_
            refine av_callV mX5_weighs [] [av_r 0] dX5_isTelling_75 rfl rfl rfl mbX5_weighs rfl wI_X5_weighs wS_X5_weighs rfl wM_X5_208 ⟨Nat.le_of_ble_eq_true rfl, Nat.le_of_ble_eq_true rfl⟩ rfl (Nat.le_of_ble_eq_true rfl) (av_C.mono (fun v s4 hh => ?_) h)
            obtain ⟨r4, rfl, h⟩ := hh
            change av_W E mSH mX5_isTelling 78 [some (av_r 0), some (av_i x2), some (av_i x2), some (av_i x2)] [av_i r4, av_r 0] s4 Q
            refine av_put (k := 38) tyX5 dX5_isTelling_78 rfl rfl iuX5 tyX5_ok nmX5 (by decide) rfl wF_X5_211 rfl rfl rfl ?_
            refine av_aload_n dX5_isTelling_81 rfl rfl ?_
            refine av_aload_n dX5_isTelling_82 rfl rfl ?_
            refine av_callV mX5_verbs [] [av_r 0] dX5_isTelling_83 rfl rfl rfl mbX5_verbs rfl wI_X5_verbs wS_X5_verbs rfl wM_X5_214 ⟨Nat.le_of_ble_eq_true rfl, Nat.le_of_ble_eq_true rfl⟩ rfl (Nat.le_of_ble_eq_true rfl) (av_C.mono (fun v s5 hh => ?_) h)
            obtain ⟨r5, rfl, h⟩ := hh
            change av_W E mSH mX5_isTelling 86 [some (av_r 0), some (av_i x2), some (av_i x2), some (av_i x2)] [av_i r5, av_r 0] s5 Q
            refine av_put (k := 39) tyX5 dX5_isTelling_86 rfl rfl iuX5 tyX5_ok nmX5 (by decide) rfl wF_X5_217 rfl rfl rfl ?_
            refine av_iinc (L' := [some (av_r 0), some (av_i x2), some (av_i (x2 + 1)), some (av_i x2)]) dX5_isTelling_89 rfl (by decide) rfl rfl ?_
            refine av_goto (tgt := 10) dX5_isTelling_92 (by decide) ?_
            refine av_res [true, true, true, false] (L' := [some (av_r 0), some (av_i x2), some (av_i (x2 + 1)), none]) rfl ?_
            exact h
      · have h := h.2.2 c
        refine av_aload_n dX5_isTelling_40 rfl rfl ?_
        refine av_callV mX5_verbsIn [] [] dX5_isTelling_41 rfl rfl rfl mbX5_verbsIn rfl wI_X5_verbsIn wS_X5_verbsIn rfl wM_X5_199 ⟨Nat.le_of_ble_eq_true rfl, Nat.le_of_ble_eq_true rfl⟩ rfl (Nat.le_of_ble_eq_true rfl) (av_C.mono (fun v s6 hh => ?_) h)
        obtain ⟨r6, rfl, h⟩ := hh
        change av_W E mSH mX5_isTelling 44 [some (av_r 0), some (av_i x1), some (av_i x2), none] [av_i r6] s6 Q
        refine av_goto (tgt := 60) dX5_isTelling_44 (by decide) ?_
        refine av_istore_n (L' := [some (av_r 0), some (av_i x1), some (av_i x2), some (av_i r6)]) dX5_isTelling_60 rfl (by decide) rfl ?_
        refine av_iload_n dX5_isTelling_61 rfl rfl ?_
        refine av_iload_n dX5_isTelling_62 rfl rfl ?_
        refine av_icmp_le (tgt := 89) dX5_isTelling_63 (by decide) h.1 h.2.1 (fun c => ?_) (fun c => ?_)
        · have h := h.2.2.1 c
          refine av_iinc (L' := [some (av_r 0), some (av_i x1), some (av_i (x2 + 1)), some (av_i r6)]) dX5_isTelling_89 rfl (by decide) rfl rfl ?_
          refine av_goto (tgt := 10) dX5_isTelling_92 (by decide) ?_
          refine av_res [true, true, true, false] (L' := [some (av_r 0), some (av_i x1), some (av_i (x2 + 1)), none]) rfl ?_
          exact h
        · have h := h.2.2.2 c
          refine av_iload_n dX5_isTelling_66 rfl rfl ?_
          refine av_istore_n (L' := [some (av_r 0), some (av_i r6), some (av_i x2), some (av_i r6)]) dX5_isTelling_67 rfl (by decide) rfl ?_
          refine av_aload_n dX5_isTelling_68 rfl rfl ?_
          refine av_iload_n dX5_isTelling_69 rfl rfl ?_
          refine av_put (k := 37) tyX5 dX5_isTelling_70 rfl rfl iuX5 tyX5_ok nmX5 (by decide) rfl wF_X5_205 rfl rfl rfl ?_
          refine av_aload_n dX5_isTelling_73 rfl rfl ?_
          refine av_aload_n dX5_isTelling_74 rfl rfl ?_
          refine av_callV mX5_weighs [] [av_r 0] dX5_isTelling_75 rfl rfl rfl mbX5_weighs rfl wI_X5_weighs wS_X5_weighs rfl wM_X5_208 ⟨Nat.le_of_ble_eq_true rfl, Nat.le_of_ble_eq_true rfl⟩ rfl (Nat.le_of_ble_eq_true rfl) (av_C.mono (fun v s7 hh => ?_) h)
          obtain ⟨r7, rfl, h⟩ := hh
          change av_W E mSH mX5_isTelling 78 [some (av_r 0), some (av_i r6), some (av_i x2), some (av_i r6)] [av_i r7, av_r 0] s7 Q
          refine av_put (k := 38) tyX5 dX5_isTelling_78 rfl rfl iuX5 tyX5_ok nmX5 (by decide) rfl wF_X5_211 rfl rfl rfl ?_
          refine av_aload_n dX5_isTelling_81 rfl rfl ?_
          refine av_aload_n dX5_isTelling_82 rfl rfl ?_
          refine av_callV mX5_verbs [] [av_r 0] dX5_isTelling_83 rfl rfl rfl mbX5_verbs rfl wI_X5_verbs wS_X5_verbs rfl wM_X5_214 ⟨Nat.le_of_ble_eq_true rfl, Nat.le_of_ble_eq_true rfl⟩ rfl (Nat.le_of_ble_eq_true rfl) (av_C.mono (fun v s8 hh => ?_) h)
          obtain ⟨r8, rfl, h⟩ := hh
          change av_W E mSH mX5_isTelling 86 [some (av_r 0), some (av_i r6), some (av_i x2), some (av_i r6)] [av_i r8, av_r 0] s8 Q
          refine av_put (k := 39) tyX5 dX5_isTelling_86 rfl rfl iuX5 tyX5_ok nmX5 (by decide) rfl wF_X5_217 rfl rfl rfl ?_
          refine av_iinc (L' := [some (av_r 0), some (av_i r6), some (av_i (x2 + 1)), some (av_i r6)]) dX5_isTelling_89 rfl (by decide) rfl rfl ?_
          refine av_goto (tgt := 10) dX5_isTelling_92 (by decide) ?_
          refine av_res [true, true, true, false] (L' := [some (av_r 0), some (av_i r6), some (av_i (x2 + 1)), none]) rfl ?_
          exact h
    · have h := h.2.2 c
      refine av_aload_n dX5_isTelling_25 rfl rfl ?_
      refine av_callV mX5_weighs [] [] dX5_isTelling_26 rfl rfl rfl mbX5_weighs rfl wI_X5_weighs wS_X5_weighs rfl wM_X5_208 ⟨Nat.le_of_ble_eq_true rfl, Nat.le_of_ble_eq_true rfl⟩ rfl (Nat.le_of_ble_eq_true rfl) (av_C.mono (fun v s9 hh => ?_) h)
      obtain ⟨r9, rfl, h⟩ := hh
      change av_W E mSH mX5_isTelling 29 [some (av_r 0), some (av_i x1), some (av_i x2), none] [av_i r9] s9 Q
      refine av_goto (tgt := 60) dX5_isTelling_29 (by decide) ?_
      refine av_istore_n (L' := [some (av_r 0), some (av_i x1), some (av_i x2), some (av_i r9)]) dX5_isTelling_60 rfl (by decide) rfl ?_
      refine av_iload_n dX5_isTelling_61 rfl rfl ?_
      refine av_iload_n dX5_isTelling_62 rfl rfl ?_
      refine av_icmp_le (tgt := 89) dX5_isTelling_63 (by decide) h.1 h.2.1 (fun c => ?_) (fun c => ?_)
      · have h := h.2.2.1 c
        refine av_iinc (L' := [some (av_r 0), some (av_i x1), some (av_i (x2 + 1)), some (av_i r9)]) dX5_isTelling_89 rfl (by decide) rfl rfl ?_
        refine av_goto (tgt := 10) dX5_isTelling_92 (by decide) ?_
        refine av_res [true, true, true, false] (L' := [some (av_r 0), some (av_i x1), some (av_i (x2 + 1)), none]) rfl ?_
        exact h
      · have h := h.2.2.2 c
        refine av_iload_n dX5_isTelling_66 rfl rfl ?_
        refine av_istore_n (L' := [some (av_r 0), some (av_i r9), some (av_i x2), some (av_i r9)]) dX5_isTelling_67 rfl (by decide) rfl ?_
        refine av_aload_n dX5_isTelling_68 rfl rfl ?_
        refine av_iload_n dX5_isTelling_69 rfl rfl ?_
        refine av_put (k := 37) tyX5 dX5_isTelling_70 rfl rfl iuX5 tyX5_ok nmX5 (by decide) rfl wF_X5_205 rfl rfl rfl ?_
        refine av_aload_n dX5_isTelling_73 rfl rfl ?_
        refine av_aload_n dX5_isTelling_74 rfl rfl ?_
        refine av_callV mX5_weighs [] [av_r 0] dX5_isTelling_75 rfl rfl rfl mbX5_weighs rfl wI_X5_weighs wS_X5_weighs rfl wM_X5_208 ⟨Nat.le_of_ble_eq_true rfl, Nat.le_of_ble_eq_true rfl⟩ rfl (Nat.le_of_ble_eq_true rfl) (av_C.mono (fun v s10 hh => ?_) h)
        obtain ⟨r10, rfl, h⟩ := hh
        change av_W E mSH mX5_isTelling 78 [some (av_r 0), some (av_i r9), some (av_i x2), some (av_i r9)] [av_i r10, av_r 0] s10 Q
        refine av_put (k := 38) tyX5 dX5_isTelling_78 rfl rfl iuX5 tyX5_ok nmX5 (by decide) rfl wF_X5_211 rfl rfl rfl ?_
        refine av_aload_n dX5_isTelling_81 rfl rfl ?_
        refine av_aload_n dX5_isTelling_82 rfl rfl ?_
        refine av_callV mX5_verbs [] [av_r 0] dX5_isTelling_83 rfl rfl rfl mbX5_verbs rfl wI_X5_verbs wS_X5_verbs rfl wM_X5_214 ⟨Nat.le_of_ble_eq_true rfl, Nat.le_of_ble_eq_true rfl⟩ rfl (Nat.le_of_ble_eq_true rfl) (av_C.mono (fun v s11 hh => ?_) h)
        obtain ⟨r11, rfl, h⟩ := hh
        change av_W E mSH mX5_isTelling 86 [some (av_r 0), some (av_i r9), some (av_i x2), some (av_i r9)] [av_i r11, av_r 0] s11 Q
        refine av_put (k := 39) tyX5 dX5_isTelling_86 rfl rfl iuX5 tyX5_ok nmX5 (by decide) rfl wF_X5_217 rfl rfl rfl ?_
        refine av_iinc (L' := [some (av_r 0), some (av_i r9), some (av_i (x2 + 1)), some (av_i r9)]) dX5_isTelling_89 rfl (by decide) rfl rfl ?_
        refine av_goto (tgt := 10) dX5_isTelling_92 (by decide) ?_
        refine av_res [true, true, true, false] (L' := [some (av_r 0), some (av_i r9), some (av_i (x2 + 1)), none]) rfl ?_
        exact h
