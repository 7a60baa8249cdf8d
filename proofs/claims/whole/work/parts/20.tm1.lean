theorem uX5_root {E : av_E} {σ : av_M} {Q : Option av_V → av_M → Prop} {a1 a2 : Int} (h : av_C E mSH mX5_in [av_i a1, av_i 0, av_i ((σ 0 0) - 1)] σ (fun v s1 => ∃ r1 : Int, v = some (av_i r1) ∧ ((rg r1) ∧ (((¬ r1 = 0) → (rg a2) ∧ ((a2 = 0 → av_W E mSH mX5_root 49 [some (av_r 0), some (av_i a1), some (av_i a2), some (av_i 0), some (av_i 0)] [] s1 Q) ∧ (a2 = 1 → (0 ≤ a1 ∧ a1 < 8) ∧ (Q (some (av_i (s1 3 (a1).toNat))) s1)) ∧ (a2 = 2 → (0 ≤ a1 ∧ a1 < 8) ∧ (Q (some (av_i (s1 4 (a1).toNat))) s1)) ∧ ((a2 < 0 ∨ 2 < a2) → Q (some (av_i (-1))) s1))) ∧ ((r1 = 0) → Q (some (av_i (-1))) s1))))) :
    av_C E mSH mX5_root [av_r 0, av_i a1, av_i a2] σ Q := by
  refine av_C.ofW (L := [some (av_r 0), some (av_i a1), some (av_i a2), none, none]) (by decide) (Nat.le_of_ble_eq_true rfl) rfl ?_
  refine av_iload_n dX5_root_0 rfl rfl ?_
  refine av_iconst dX5_root_1 ?_
  refine av_aload_n dX5_root_2 rfl rfl ?_
  refine av_get (k := 0) (x := (σ 0 0)) dX5_root_3 rfl rfl iuX5 (by decide) rfl wF_X5_157 rfl rfl ?_
  refine av_iconst dX5_root_6 ?_
  refine av_isub dX5_root_7 ?_
  refine av_callS mX5_in [av_i a1, av_i 0, av_i ((σ 0 0) - 1)] [] dX5_root_8 mbX5_in rfl wT_X5_in rfl wM_X5_109 ⟨Nat.le_of_ble_eq_true rfl, Nat.le_of_ble_eq_true rfl⟩ rfl (Nat.le_of_ble_eq_true rfl) (av_C.mono (fun v s1 hh => ?_) h)
  obtain ⟨r1, rfl, h⟩ := hh
  change av_W E mSH mX5_root 11 [some (av_r 0), some (av_i a1), some (av_i a2), none, none] [av_i r1] s1 Q
  refine av_if_ne (tgt := 16) dX5_root_11 (by decide) h.1 (fun c => ?_) (fun c => ?_)
  · have h := h.2.1 c
    refine av_iload_n dX5_root_16 rfl rfl ?_
    refine av_table dX5_root_17 (fun j => if j = 0 then 44 else if j = 1 then 87 else if j = 2 then 94 else 101) (by decide) (by decide) (by decide) h.1 (fun j hj hx => ?_) (fun c => ?_)
    · rcases j with _ | _ | _ | j
      · have c : a2 = 0 := by omega
        have h := h.2.1 c
        change av_W E mSH mX5_root 44 [some (av_r 0), some (av_i a1), some (av_i a2), none, none] [] s1 Q
        refine av_iconst dX5_root_44 ?_
        refine av_istore_n (L' := [some (av_r 0), some (av_i a1), some (av_i a2), some (av_i 0), none]) dX5_root_45 rfl (by decide) rfl ?_
        refine av_iconst dX5_root_46 ?_
        refine av_istore (L' := [some (av_r 0), some (av_i a1), some (av_i a2), some (av_i 0), some (av_i 0)]) dX5_root_47 (by decide) rfl ?_
        exact h
      · have c : a2 = 1 := by omega
        have h := h.2.2.1 c
        change av_W E mSH mX5_root 87 [some (av_r 0), some (av_i a1), some (av_i a2), none, none] [] s1 Q
        refine av_aload_n dX5_root_87 rfl rfl ?_
        refine av_getr (k := 3) dX5_root_88 rfl rfl iuX5 (by decide) rfl wF_X5_16 rfl ?_
        refine av_iload_n dX5_root_91 rfl rfl ?_
        refine av_iald (x := (s1 3 (a1).toNat)) dX5_root_92 rfl (by decide) h.1 rfl ?_
        exact av_ireturn dX5_root_93 rfl h.2
      · have c : a2 = 2 := by omega
        have h := h.2.2.2.1 c
        change av_W E mSH mX5_root 94 [some (av_r 0), some (av_i a1), some (av_i a2), none, none] [] s1 Q
        refine av_aload_n dX5_root_94 rfl rfl ?_
        refine av_getr (k := 4) dX5_root_95 rfl rfl iuX5 (by decide) rfl wF_X5_19 rfl ?_
        refine av_iload_n dX5_root_98 rfl rfl ?_
        refine av_iald (x := (s1 4 (a1).toNat)) dX5_root_99 rfl (by decide) h.1 rfl ?_
        exact av_ireturn dX5_root_100 rfl h.2
      · exact absurd hj (by simp)
    · have h := h.2.2.2.2 c
      change av_W E mSH mX5_root 101 [some (av_r 0), some (av_i a1), some (av_i a2), none, none] [] s1 Q
      refine av_iconst dX5_root_101 ?_
      exact av_ireturn dX5_root_102 rfl h
  · have h := h.2.2 c
    refine av_iconst dX5_root_14 ?_
    exact av_ireturn dX5_root_15 rfl h

theorem uX5_root_49 {E : av_E} {σ : av_M} {Q : Option av_V → av_M → Prop} {x1 x2 x3 x4 : Int} (h : (0 ≤ x1 ∧ x1 < 8) ∧ ((rg x4) ∧ ((rg (σ 1 (x1).toNat)) ∧ ((((σ 1 (x1).toNat) ≤ x4) → Q (some (av_i x3)) σ) ∧ ((x4 < (σ 1 (x1).toNat)) → (0 ≤ ((3 * x1) + x4) ∧ ((3 * x1) + x4) < 24) ∧ (av_W E mSH mX5_root 49 [some (av_r 0), some (av_i x1), some (av_i x2), some (av_i (((6 * x3) + (σ 2 (((3 * x1) + x4)).toNat)) + 1)), some (av_i (x4 + 1))] [] σ Q)))))) :
    av_W E mSH mX5_root 49 [some (av_r 0), some (av_i x1), some (av_i x2), some (av_i x3), some (av_i x4)] [] σ Q := by
  refine av_iload dX5_root_49 rfl ?_
  refine av_aload_n dX5_root_51 rfl rfl ?_
  refine av_getr (k := 1) dX5_root_52 rfl rfl iuX5 (by decide) rfl wF_X5_7 rfl ?_
  refine av_iload_n dX5_root_55 rfl rfl ?_
  refine av_iald (x := (σ 1 (x1).toNat)) dX5_root_56 rfl (by decide) h.1 rfl ?_
  refine av_icmp_ge (tgt := 85) dX5_root_57 (by decide) h.2.1 h.2.2.1 (fun c => ?_) (fun c => ?_)
  · have h := h.2.2.2.1 c
    refine av_iload_n dX5_root_85 rfl rfl ?_
    exact av_ireturn dX5_root_86 rfl h
  · have h := h.2.2.2.2 c
    refine av_bipush dX5_root_60 rfl ?_
    refine av_iload_n dX5_root_62 rfl rfl ?_
    refine av_imul dX5_root_63 ?_
    refine av_aload_n dX5_root_64 rfl rfl ?_
    refine av_getr (k := 2) dX5_root_65 rfl rfl iuX5 (by decide) rfl wF_X5_13 rfl ?_
    refine av_iconst dX5_root_68 ?_
    refine av_iload_n dX5_root_69 rfl rfl ?_
    refine av_imul dX5_root_70 ?_
    refine av_iload dX5_root_71 rfl ?_
    refine av_iadd dX5_root_73 ?_
    refine av_iald (x := (σ 2 (((3 * x1) + x4)).toNat)) dX5_root_74 rfl (by decide) h.1 rfl ?_
    refine av_iadd dX5_root_75 ?_
    refine av_iconst dX5_root_76 ?_
    refine av_iadd dX5_root_77 ?_
    refine av_istore_n (L' := [some (av_r 0), some (av_i x1), some (av_i x2), some (av_i (((6 * x3) + (σ 2 (((3 * x1) + x4)).toNat)) + 1)), some (av_i x4)]) dX5_root_78 rfl (by decide) rfl ?_
    refine av_iinc (L' := [some (av_r 0), some (av_i x1), some (av_i x2), some (av_i (((6 * x3) + (σ 2 (((3 * x1) + x4)).toNat)) + 1)), some (av_i (x4 + 1))]) dX5_root_79 rfl (by decide) rfl rfl ?_
    refine av_goto (tgt := 49) dX5_root_82 (by decide) ?_
    exact h.2

theorem uX5_reader {E : av_E} {σ : av_M} {Q : Option av_V → av_M → Prop} {a1 a2 : Int} (h : av_C E mSH mX5_isReader [av_r 0, av_i a1] σ (fun v s1 => ∃ r1 : Int, v = some (av_i r1) ∧ ((rg r1) ∧ (((r1 = 0) → Q (some (av_i (-1))) s1) ∧ ((¬ r1 = 0) → av_C E mSH mX5_in [av_i a2, av_i 0, av_i 3] s1 (fun v s2 => ∃ r2 : Int, v = some (av_i r2) ∧ ((rg r2) ∧ (((¬ r2 = 0) → (rg a2) ∧ (((3 ≤ a2) → av_C E mSH mX5_all [av_r 0] s2 (fun v s3 => ∃ r3 : Int, v = some (av_i r3) ∧ (av_C E mSH mX5_asWritten [av_r 0, av_i a1, av_i r3] s3 (fun v s4 => v = none ∧ (av_C E mSH mX5_manyReadings [av_r 0] s4 (fun v s5 => ∃ r5 : Int, v = some (av_i r5) ∧ (Q (some (av_i r5)) s5))))))) ∧ ((a2 < 3) → (0 ≤ ((3 * a1) + a2) ∧ ((3 * a1) + a2) < 15) ∧ (Q (some (av_i (s2 5 (((3 * a1) + a2)).toNat))) s2)))) ∧ ((r2 = 0) → Q (some (av_i (-1))) s2))))))))) :
    av_C E mSH mX5_reader [av_r 0, av_i a1, av_i a2] σ Q := by
  refine av_C.ofW (L := [some (av_r 0), some (av_i a1), some (av_i a2)]) (by decide) (Nat.le_of_ble_eq_true rfl) rfl ?_
  refine av_aload_n dX5_reader_0 rfl rfl ?_
  refine av_iload_n dX5_reader_1 rfl rfl ?_
  refine av_callV mX5_isReader [av_i a1] [] dX5_reader_2 rfl rfl rfl mbX5_isReader rfl wI_X5_isReader wS_X5_isReader rfl wM_X5_220 ⟨Nat.le_of_ble_eq_true rfl, Nat.le_of_ble_eq_true rfl⟩ rfl (Nat.le_of_ble_eq_true rfl) (av_C.mono (fun v s1 hh => ?_) h)
  obtain ⟨r1, rfl, h⟩ := hh
  change av_W E mSH mX5_reader 5 [some (av_r 0), some (av_i a1), some (av_i a2)] [av_i r1] s1 Q
  refine av_if_eq (tgt := 17) dX5_reader_5 (by decide) h.1 (fun c => ?_) (fun c => ?_)
  · have h := h.2.1 c
    refine av_iconst dX5_reader_17 ?_
    exact av_ireturn dX5_reader_18 rfl h
  · have h := h.2.2 c
    refine av_iload_n dX5_reader_8 rfl rfl ?_
    refine av_iconst dX5_reader_9 ?_
    refine av_iconst dX5_reader_10 ?_
    refine av_callS mX5_in [av_i a2, av_i 0, av_i 3] [] dX5_reader_11 mbX5_in rfl wT_X5_in rfl wM_X5_109 ⟨Nat.le_of_ble_eq_true rfl, Nat.le_of_ble_eq_true rfl⟩ rfl (Nat.le_of_ble_eq_true rfl) (av_C.mono (fun v s2 hh => ?_) h)
    obtain ⟨r2, rfl, h⟩ := hh
    change av_W E mSH mX5_reader 14 [some (av_r 0), some (av_i a1), some (av_i a2)] [av_i r2] s2 Q
    refine av_if_ne (tgt := 19) dX5_reader_14 (by decide) h.1 (fun c => ?_) (fun c => ?_)
    · have h := h.2.1 c
      refine av_iload_n dX5_reader_19 rfl rfl ?_
      refine av_iconst dX5_reader_20 ?_
      refine av_icmp_ge (tgt := 35) dX5_reader_21 (by decide) h.1 (by decide) (fun c => ?_) (fun c => ?_)
      · have h := h.2.1 c
        refine av_aload_n dX5_reader_35 rfl rfl ?_
        refine av_iload_n dX5_reader_36 rfl rfl ?_
        refine av_aload_n dX5_reader_37 rfl rfl ?_
        refine av_callV mX5_all [] [av_i a1, av_r 0] dX5_reader_38 rfl rfl rfl mbX5_all rfl wI_X5_all wS_X5_all rfl wM_X5_223 ⟨Nat.le_of_ble_eq_true rfl, Nat.le_of_ble_eq_true rfl⟩ rfl (Nat.le_of_ble_eq_true rfl) (av_C.mono (fun v s3 hh => ?_) h)
        obtain ⟨r3, rfl, h⟩ := hh
        change av_W E mSH mX5_reader 41 [some (av_r 0), some (av_i a1), some (av_i a2)] [av_i r3, av_i a1, av_r 0] s3 Q
        refine av_callV mX5_asWritten [av_i a1, av_i r3] [] dX5_reader_41 rfl rfl rfl mbX5_asWritten rfl wI_X5_asWritten wS_X5_asWritten rfl wM_X5_226 ⟨Nat.le_of_ble_eq_true rfl, Nat.le_of_ble_eq_true rfl⟩ rfl (Nat.le_of_ble_eq_true rfl) (av_C.mono (fun v s4 hh => ?_) h)
        obtain ⟨rfl, h⟩ := hh
        change av_W E mSH mX5_reader 44 [some (av_r 0), some (av_i a1), some (av_i a2)] [] s4 Q
        refine av_aload_n dX5_reader_44 rfl rfl ?_
        refine av_callV mX5_manyReadings [] [] dX5_reader_45 rfl rfl rfl mbX5_manyReadings rfl wI_X5_manyReadings wS_X5_manyReadings rfl wM_X5_229 ⟨Nat.le_of_ble_eq_true rfl, Nat.le_of_ble_eq_true rfl⟩ rfl (Nat.le_of_ble_eq_true rfl) (av_C.mono (fun v s5 hh => ?_) h)
        obtain ⟨r5, rfl, h⟩ := hh
        change av_W E mSH mX5_reader 48 [some (av_r 0), some (av_i a1), some (av_i a2)] [av_i r5] s5 Q
        exact av_ireturn dX5_reader_48 rfl h
      · have h := h.2.2 c
        refine av_aload_n dX5_reader_24 rfl rfl ?_
        refine av_getr (k := 6) dX5_reader_25 rfl rfl iuX5 (by decide) rfl wF_X5_22 rfl ?_
        refine av_iconst dX5_reader_28 ?_
        refine av_iload_n dX5_reader_29 rfl rfl ?_
        refine av_imul dX5_reader_30 ?_
        refine av_iload_n dX5_reader_31 rfl rfl ?_
        refine av_iadd dX5_reader_32 ?_
        refine av_iald (x := (s2 5 (((3 * a1) + a2)).toNat)) dX5_reader_33 rfl (by decide) h.1 rfl ?_
        exact av_ireturn dX5_reader_34 rfl h.2
    · have h := h.2.2 c
      refine av_iconst dX5_reader_17 ?_
      exact av_ireturn dX5_reader_18 rfl h

theorem uX5_isReading {E : av_E} {σ : av_M} {Q : Option av_V → av_M → Prop} {a1 a2 : Int} (h : av_C E mSH mX5_isReader [av_r 0, av_i a1] σ (fun v s1 => ∃ r1 : Int, v = some (av_i r1) ∧ ((rg r1) ∧ (((r1 = 0) → Q (some (av_i 0)) s1) ∧ ((¬ r1 = 0) → (rg a2) ∧ (((0 ≤ a2) → av_C E mSH mX5_all [av_r 0] s1 (fun v s2 => ∃ r2 : Int, v = some (av_i r2) ∧ (av_C E mSH mX5_asWritten [av_r 0, av_i a1, av_i r2] s2 (fun v s3 => v = none ∧ (av_W E mSH mX5_isReading 25 [some (av_r 0), some (av_i a1), some (av_i a2), some (av_i 0)] [] s3 Q))))) ∧ ((a2 < 0) → Q (some (av_i 0)) s1))))))) :
    av_C E mSH mX5_isReading [av_r 0, av_i a1, av_i a2] σ Q := by
  refine av_C.ofW (L := [some (av_r 0), some (av_i a1), some (av_i a2), none]) (by decide) (Nat.le_of_ble_eq_true rfl) rfl ?_
  refine av_aload_n dX5_isReading_0 rfl rfl ?_
  refine av_iload_n dX5_isReading_1 rfl rfl ?_
  refine av_callV mX5_isReader [av_i a1] [] dX5_isReading_2 rfl rfl rfl mbX5_isReader rfl wI_X5_isReader wS_X5_isReader rfl wM_X5_220 ⟨Nat.le_of_ble_eq_true rfl, Nat.le_of_ble_eq_true rfl⟩ rfl (Nat.le_of_ble_eq_true rfl) (av_C.mono (fun v s1 hh => ?_) h)
  obtain ⟨r1, rfl, h⟩ := hh
  change av_W E mSH mX5_isReading 5 [some (av_r 0), some (av_i a1), some (av_i a2), none] [av_i r1] s1 Q
  refine av_if_eq (tgt := 12) dX5_isReading_5 (by decide) h.1 (fun c => ?_) (fun c => ?_)
  · have h := h.2.1 c
    refine av_iconst dX5_isReading_12 ?_
    exact av_zreturn dX5_isReading_13 rfl (by decide) h
  · have h := h.2.2 c
    refine av_iload_n dX5_isReading_8 rfl rfl ?_
    refine av_if_ge (tgt := 14) dX5_isReading_9 (by decide) h.1 (fun c => ?_) (fun c => ?_)
    · have h := h.2.1 c
      refine av_aload_n dX5_isReading_14 rfl rfl ?_
      refine av_iload_n dX5_isReading_15 rfl rfl ?_
      refine av_aload_n dX5_isReading_16 rfl rfl ?_
      refine av_callV mX5_all [] [av_i a1, av_r 0] dX5_isReading_17 rfl rfl rfl mbX5_all rfl wI_X5_all wS_X5_all rfl wM_X5_223 ⟨Nat.le_of_ble_eq_true rfl, Nat.le_of_ble_eq_true rfl⟩ rfl (Nat.le_of_ble_eq_true rfl) (av_C.mono (fun v s2 hh => ?_) h)
      obtain ⟨r2, rfl, h⟩ := hh
      change av_W E mSH mX5_isReading 20 [some (av_r 0), some (av_i a1), some (av_i a2), none] [av_i r2, av_i a1, av_r 0] s2 Q
      refine av_callV mX5_asWritten [av_i a1, av_i r2] [] dX5_isReading_20 rfl rfl rfl mbX5_asWritten rfl wI_X5_asWritten wS_X5_asWritten rfl wM_X5_226 ⟨Nat.le_of_ble_eq_true rfl, Nat.le_of_ble_eq_true rfl⟩ rfl (Nat.le_of_ble_eq_true rfl) (av_C.mono (fun v s3 hh => ?_) h)
      obtain ⟨rfl, h⟩ := hh
      change av_W E mSH mX5_isReading 23 [some (av_r 0), some (av_i a1), some (av_i a2), none] [] s3 Q
      refine av_iconst dX5_isReading_23 ?_
      refine av_istore_n (L' := [some (av_r 0), some (av_i a1), some (av_i a2), some (av_i 0)]) dX5_isReading_24 rfl (by decide) rfl ?_
      exact h
    · have h := h.2.2 c
      refine av_iconst dX5_isReading_12 ?_
      exact av_zreturn dX5_isReading_13 rfl (by decide) h

theorem uX5_isReading_25 {E : av_E} {σ : av_M} {Q : Option av_V → av_M → Prop} {x1 x2 x3 : Int} (h : av_C E mSH mX5_isNext [av_r 0] σ (fun v s1 => ∃ r1 : Int, v = some (av_i r1) ∧ ((rg r1) ∧ (((r1 = 0) → Q (some (av_i 0)) s1) ∧ ((¬ r1 = 0) → (rg x3) ∧ ((rg x2) ∧ (((¬ x3 = x2) → av_W E mSH mX5_isReading 25 [some (av_r 0), some (av_i x1), some (av_i x2), some (av_i (x3 + 1))] [] s1 Q) ∧ ((x3 = x2) → Q (some (av_i 1)) s1)))))))) :
    av_W E mSH mX5_isReading 25 [some (av_r 0), some (av_i x1), some (av_i x2), some (av_i x3)] [] σ Q := by
  refine av_aload_n dX5_isReading_25 rfl rfl ?_
  refine av_callV mX5_isNext [] [] dX5_isReading_26 rfl rfl rfl mbX5_isNext rfl wI_X5_isNext wS_X5_isNext rfl wM_X5_202 ⟨Nat.le_of_ble_eq_true rfl, Nat.le_of_ble_eq_true rfl⟩ rfl (Nat.le_of_ble_eq_true rfl) (av_C.mono (fun v s1 hh => ?_) h)
  obtain ⟨r1, rfl, h⟩ := hh
  change av_W E mSH mX5_isReading 29 [some (av_r 0), some (av_i x1), some (av_i x2), some (av_i x3)] [av_i r1] s1 Q
  refine av_if_eq (tgt := 45) dX5_isReading_29 (by decide) h.1 (fun c => ?_) (fun c => ?_)
  · have h := h.2.1 c
    refine av_iconst dX5_isReading_45 ?_
    exact av_zreturn dX5_isReading_46 rfl (by decide) h
  · have h := h.2.2 c
    refine av_iload_n dX5_isReading_32 rfl rfl ?_
    refine av_iload_n dX5_isReading_33 rfl rfl ?_
    refine av_icmp_ne (tgt := 39) dX5_isReading_34 (by decide) h.1 h.2.1 (fun c => ?_) (fun c => ?_)
    · have h := h.2.2.1 c
      refine av_iinc (L' := [some (av_r 0), some (av_i x1), some (av_i x2), some (av_i (x3 + 1))]) dX5_isReading_39 rfl (by decide) rfl rfl ?_
      refine av_goto (tgt := 25) dX5_isReading_42 (by decide) ?_
      exact h
    · have h := h.2.2.2 c
      refine av_iconst dX5_isReading_37 ?_
      exact av_zreturn dX5_isReading_38 rfl (by decide) h

theorem uX5_reading {E : av_E} {σ : av_M} {Q : Option av_V → av_M → Prop} {a1 a2 a3 : Int} (h : av_C E mSH mX5_in [av_i a3, av_i 0, av_i 2] σ (fun v s1 => ∃ r1 : Int, v = some (av_i r1) ∧ ((rg r1) ∧ (((r1 = 0) → Q (some (av_i (-1))) s1) ∧ ((¬ r1 = 0) → av_C E mSH mX5_isReading [av_r 0, av_i a1, av_i a2] s1 (fun v s2 => ∃ r2 : Int, v = some (av_i r2) ∧ ((rg r2) ∧ (((¬ r2 = 0) → (rg a3) ∧ (((¬ a3 = 0) → (rg a3) ∧ (((¬ a3 = 1) → av_C E mSH mX5_verbs [av_r 0] s2 (fun v s3 => ∃ r3 : Int, v = some (av_i r3) ∧ (Q (some (av_i r3)) s3))) ∧ ((a3 = 1) → av_C E mSH mX5_weighs [av_r 0] s2 (fun v s4 => ∃ r4 : Int, v = some (av_i r4) ∧ (Q (some (av_i r4)) s4))))) ∧ ((a3 = 0) → Q (some (av_i ((s2 0 36) + 1))) s2))) ∧ ((r2 = 0) → Q (some (av_i (-1))) s2))))))))) :
    av_C E mSH mX5_reading [av_r 0, av_i a1, av_i a2, av_i a3] σ Q := by
  refine av_C.ofW (L := [some (av_r 0), some (av_i a1), some (av_i a2), some (av_i a3)]) (by decide) (Nat.le_of_ble_eq_true rfl) rfl ?_
  refine av_iload_n dX5_reading_0 rfl rfl ?_
  refine av_iconst dX5_reading_1 ?_
  refine av_iconst dX5_reading_2 ?_
  refine av_callS mX5_in [av_i a3, av_i 0, av_i 2] [] dX5_reading_3 mbX5_in rfl wT_X5_in rfl wM_X5_109 ⟨Nat.le_of_ble_eq_true rfl, Nat.le_of_ble_eq_true rfl⟩ rfl (Nat.le_of_ble_eq_true rfl) (av_C.mono (fun v s1 hh => ?_) h)
  obtain ⟨r1, rfl, h⟩ := hh
  change av_W E mSH mX5_reading 6 [some (av_r 0), some (av_i a1), some (av_i a2), some (av_i a3)] [av_i r1] s1 Q
  refine av_if_eq (tgt := 18) dX5_reading_6 (by decide) h.1 (fun c => ?_) (fun c => ?_)
  · have h := h.2.1 c
    refine av_iconst dX5_reading_18 ?_
    exact av_ireturn dX5_reading_19 rfl h
  · have h := h.2.2 c
    refine av_aload_n dX5_reading_9 rfl rfl ?_
    refine av_iload_n dX5_reading_10 rfl rfl ?_
    refine av_iload_n dX5_reading_11 rfl rfl ?_
    refine av_callV mX5_isReading [av_i a1, av_i a2] [] dX5_reading_12 rfl rfl rfl mbX5_isReading rfl wI_X5_isReading wS_X5_isReading rfl wM_X5_232 ⟨Nat.le_of_ble_eq_true rfl, Nat.le_of_ble_eq_true rfl⟩ rfl (Nat.le_of_ble_eq_true rfl) (av_C.mono (fun v s2 hh => ?_) h)
    obtain ⟨r2, rfl, h⟩ := hh
    change av_W E mSH mX5_reading 15 [some (av_r 0), some (av_i a1), some (av_i a2), some (av_i a3)] [av_i r2] s2 Q
    refine av_if_ne (tgt := 20) dX5_reading_15 (by decide) h.1 (fun c => ?_) (fun c => ?_)
    · have h := h.2.1 c
      refine av_iload_n dX5_reading_20 rfl rfl ?_
      refine av_if_ne (tgt := 33) dX5_reading_21 (by decide) h.1 (fun c => ?_) (fun c => ?_)
      · have h := h.2.1 c
        refine av_iload_n dX5_reading_33 rfl rfl ?_
        refine av_iconst dX5_reading_34 ?_
        refine av_icmp_ne (tgt := 45) dX5_reading_35 (by decide) h.1 (by decide) (fun c => ?_) (fun c => ?_)
        · have h := h.2.1 c
          refine av_aload_n dX5_reading_45 rfl rfl ?_
          refine av_callV mX5_verbs [] [] dX5_reading_46 rfl rfl rfl mbX5_verbs rfl wI_X5_verbs wS_X5_verbs rfl wM_X5_214 ⟨Nat.le_of_ble_eq_true rfl, Nat.le_of_ble_eq_true rfl⟩ rfl (Nat.le_of_ble_eq_true rfl) (av_C.mono (fun v s3 hh => ?_) h)
          obtain ⟨r3, rfl, h⟩ := hh
          change av_W E mSH mX5_reading 49 [some (av_r 0), some (av_i a1), some (av_i a2), some (av_i a3)] [av_i r3] s3 Q
          exact av_ireturn dX5_reading_49 rfl h
        · have h := h.2.2 c
          refine av_aload_n dX5_reading_38 rfl rfl ?_
          refine av_callV mX5_weighs [] [] dX5_reading_39 rfl rfl rfl mbX5_weighs rfl wI_X5_weighs wS_X5_weighs rfl wM_X5_208 ⟨Nat.le_of_ble_eq_true rfl, Nat.le_of_ble_eq_true rfl⟩ rfl (Nat.le_of_ble_eq_true rfl) (av_C.mono (fun v s4 hh => ?_) h)
          obtain ⟨r4, rfl, h⟩ := hh
          change av_W E mSH mX5_reading 42 [some (av_r 0), some (av_i a1), some (av_i a2), some (av_i a3)] [av_i r4] s4 Q
          refine av_goto (tgt := 49) dX5_reading_42 (by decide) ?_
          exact av_ireturn dX5_reading_49 rfl h
      · have h := h.2.2 c
        refine av_aload_n dX5_reading_24 rfl rfl ?_
        refine av_get (k := 36) (x := (s2 0 36)) dX5_reading_25 rfl rfl iuX5 (by decide) rfl wF_X5_182 rfl rfl ?_
        refine av_iconst dX5_reading_28 ?_
        refine av_iadd dX5_reading_29 ?_
        refine av_goto (tgt := 49) dX5_reading_30 (by decide) ?_
        exact av_ireturn dX5_reading_49 rfl h
    · have h := h.2.2 c
      refine av_iconst dX5_reading_18 ?_
      exact av_ireturn dX5_reading_19 rfl h

theorem uX5_word {E : av_E} {σ : av_M} {Q : Option av_V → av_M → Prop} {a1 a2 a3 : Int} (h : (rg a3) ∧ (((a3 < 0) → Q (some (av_i (-1))) σ) ∧ ((0 ≤ a3) → av_C E mSH mX5_isReading [av_r 0, av_i a1, av_i a2] σ (fun v s1 => ∃ r1 : Int, v = some (av_i r1) ∧ ((rg r1) ∧ (((¬ r1 = 0) → (rg a3) ∧ ((rg (s1 0 36)) ∧ (((a3 ≤ (s1 0 36)) → (0 ≤ a3 ∧ a3 < 9) ∧ (Q (some (av_i (s1 21 (a3).toNat))) s1)) ∧ (((s1 0 36) < a3) → Q (some (av_i (-4))) s1)))) ∧ ((r1 = 0) → Q (some (av_i (-1))) s1))))))) :
    av_C E mSH mX5_word [av_r 0, av_i a1, av_i a2, av_i a3] σ Q := by
  refine av_C.ofW (L := [some (av_r 0), some (av_i a1), some (av_i a2), some (av_i a3)]) (by decide) (Nat.le_of_ble_eq_true rfl) rfl ?_
  refine av_iload_n dX5_word_0 rfl rfl ?_
  refine av_if_lt (tgt := 13) dX5_word_1 (by decide) h.1 (fun c => ?_) (fun c => ?_)
  · have h := h.2.1 c
    refine av_iconst dX5_word_13 ?_
    exact av_ireturn dX5_word_14 rfl h
  · have h := h.2.2 c
    refine av_aload_n dX5_word_4 rfl rfl ?_
    refine av_iload_n dX5_word_5 rfl rfl ?_
    refine av_iload_n dX5_word_6 rfl rfl ?_
    refine av_callV mX5_isReading [av_i a1, av_i a2] [] dX5_word_7 rfl rfl rfl mbX5_isReading rfl wI_X5_isReading wS_X5_isReading rfl wM_X5_232 ⟨Nat.le_of_ble_eq_true rfl, Nat.le_of_ble_eq_true rfl⟩ rfl (Nat.le_of_ble_eq_true rfl) (av_C.mono (fun v s1 hh => ?_) h)
    obtain ⟨r1, rfl, h⟩ := hh
    change av_W E mSH mX5_word 10 [some (av_r 0), some (av_i a1), some (av_i a2), some (av_i a3)] [av_i r1] s1 Q
    refine av_if_ne (tgt := 15) dX5_word_10 (by decide) h.1 (fun c => ?_) (fun c => ?_)
    · have h := h.2.1 c
      refine av_iload_n dX5_word_15 rfl rfl ?_
      refine av_aload_n dX5_word_16 rfl rfl ?_
      refine av_get (k := 36) (x := (s1 0 36)) dX5_word_17 rfl rfl iuX5 (by decide) rfl wF_X5_182 rfl rfl ?_
      refine av_icmp_le (tgt := 28) dX5_word_20 (by decide) h.1 h.2.1 (fun c => ?_) (fun c => ?_)
      · have h := h.2.2.1 c
        refine av_aload_n dX5_word_28 rfl rfl ?_
        refine av_getr (k := 34) dX5_word_29 rfl rfl iuX5 (by decide) rfl wF_X5_70 rfl ?_
        refine av_iload_n dX5_word_32 rfl rfl ?_
        refine av_iald (x := (s1 21 (a3).toNat)) dX5_word_33 rfl (by decide) h.1 rfl ?_
        exact av_ireturn dX5_word_34 rfl h.2
      · have h := h.2.2.2 c
        refine av_bipush dX5_word_23 rfl ?_
        refine av_goto (tgt := 34) dX5_word_25 (by decide) ?_
        exact av_ireturn dX5_word_34 rfl h
    · have h := h.2.2 c
      refine av_iconst dX5_word_13 ?_
      exact av_ireturn dX5_word_14 rfl h

theorem uX5_tells {E : av_E} {σ : av_M} {Q : Option av_V → av_M → Prop} {a1 a2 : Int} (h : av_C E mSH mX5_isReader [av_r 0, av_i a1] σ (fun v s1 => ∃ r1 : Int, v = some (av_i r1) ∧ ((rg r1) ∧ (((r1 = 0) → Q (some (av_i (-1))) s1) ∧ ((¬ r1 = 0) → av_C E mSH mX5_in [av_i a2, av_i 0, av_i 2] s1 (fun v s2 => ∃ r2 : Int, v = some (av_i r2) ∧ ((rg r2) ∧ (((¬ r2 = 0) → av_C E mSH mX5_all [av_r 0] s2 (fun v s3 => ∃ r3 : Int, v = some (av_i r3) ∧ (av_C E mSH mX5_asWritten [av_r 0, av_i a1, av_i r3] s3 (fun v s4 => v = none ∧ (av_C E mSH mX5_isTelling [av_r 0] s4 (fun v s5 => ∃ r5 : Int, v = some (av_i r5) ∧ ((rg r5) ∧ (((¬ r5 = 0) → (rg a2) ∧ (((¬ a2 = 0) → (rg a2) ∧ (((¬ a2 = 1) → Q (some (av_i (s5 0 39))) s5) ∧ ((a2 = 1) → Q (some (av_i (s5 0 38))) s5))) ∧ ((a2 = 0) → Q (some (av_i (s5 0 37))) s5))) ∧ ((r5 = 0) → Q (some (av_i (-4))) s5))))))))) ∧ ((r2 = 0) → Q (some (av_i (-1))) s2))))))))) :
    av_C E mSH mX5_tells [av_r 0, av_i a1, av_i a2] σ Q := by
  refine av_C.ofW (L := [some (av_r 0), some (av_i a1), some (av_i a2)]) (by decide) (Nat.le_of_ble_eq_true rfl) rfl ?_
  refine av_aload_n dX5_tells_0 rfl rfl ?_
  refine av_iload_n dX5_tells_1 rfl rfl ?_
  refine av_callV mX5_isReader [av_i a1] [] dX5_tells_2 rfl rfl rfl mbX5_isReader rfl wI_X5_isReader wS_X5_isReader rfl wM_X5_220 ⟨Nat.le_of_ble_eq_true rfl, Nat.le_of_ble_eq_true rfl⟩ rfl (Nat.le_of_ble_eq_true rfl) (av_C.mono (fun v s1 hh => ?_) h)
  obtain ⟨r1, rfl, h⟩ := hh
  change av_W E mSH mX5_tells 5 [some (av_r 0), some (av_i a1), some (av_i a2)] [av_i r1] s1 Q
  refine av_if_eq (tgt := 17) dX5_tells_5 (by decide) h.1 (fun c => ?_) (fun c => ?_)
  · have h := h.2.1 c
    refine av_iconst dX5_tells_17 ?_
    exact av_ireturn dX5_tells_18 rfl h
  · have h := h.2.2 c
    refine av_iload_n dX5_tells_8 rfl rfl ?_
    refine av_iconst dX5_tells_9 ?_
    refine av_iconst dX5_tells_10 ?_
    refine av_callS mX5_in [av_i a2, av_i 0, av_i 2] [] dX5_tells_11 mbX5_in rfl wT_X5_in rfl wM_X5_109 ⟨Nat.le_of_ble_eq_true rfl, Nat.le_of_ble_eq_true rfl⟩ rfl (Nat.le_of_ble_eq_true rfl) (av_C.mono (fun v s2 hh => ?_) h)
    obtain ⟨r2, rfl, h⟩ := hh
    change av_W E mSH mX5_tells 14 [some (av_r 0), some (av_i a1), some (av_i a2)] [av_i r2] s2 Q
    refine av_if_ne (tgt := 19) dX5_tells_14 (by decide) h.1 (fun c => ?_) (fun c => ?_)
    · have h := h.2.1 c
      refine av_aload_n dX5_tells_19 rfl rfl ?_
      refine av_iload_n dX5_tells_20 rfl rfl ?_
      refine av_aload_n dX5_tells_21 rfl rfl ?_
      refine av_callV mX5_all [] [av_i a1, av_r 0] dX5_tells_22 rfl rfl rfl mbX5_all rfl wI_X5_all wS_X5_all rfl wM_X5_223 ⟨Nat.le_of_ble_eq_true rfl, Nat.le_of_ble_eq_true rfl⟩ rfl (Nat.le_of_ble_eq_true rfl) (av_C.mono (fun v s3 hh => ?_) h)
      obtain ⟨r3, rfl, h⟩ := hh
      change av_W E mSH mX5_tells 25 [some (av_r 0), some (av_i a1), some (av_i a2)] [av_i r3, av_i a1, av_r 0] s3 Q
      refine av_callV mX5_asWritten [av_i a1, av_i r3] [] dX5_tells_25 rfl rfl rfl mbX5_asWritten rfl wI_X5_asWritten wS_X5_asWritten rfl wM_X5_226 ⟨Nat.le_of_ble_eq_true rfl, Nat.le_of_ble_eq_true rfl⟩ rfl (Nat.le_of_ble_eq_true rfl) (av_C.mono (fun v s4 hh => ?_) h)
      obtain ⟨rfl, h⟩ := hh
      change av_W E mSH mX5_tells 28 [some (av_r 0), some (av_i a1), some (av_i a2)] [] s4 Q
      refine av_aload_n dX5_tells_28 rfl rfl ?_
      refine av_callV mX5_isTelling [] [] dX5_tells_29 rfl rfl rfl mbX5_isTelling rfl wI_X5_isTelling wS_X5_isTelling rfl wM_X5_235 ⟨Nat.le_of_ble_eq_true rfl, Nat.le_of_ble_eq_true rfl⟩ rfl (Nat.le_of_ble_eq_true rfl) (av_C.mono (fun v s5 hh => ?_) h)
      obtain ⟨r5, rfl, h⟩ := hh
      change av_W E mSH mX5_tells 32 [some (av_r 0), some (av_i a1), some (av_i a2)] [av_i r5] s5 Q
      refine av_if_ne (tgt := 38) dX5_tells_32 (by decide) h.1 (fun c => ?_) (fun c => ?_)
      · have h := h.2.1 c
        refine av_iload_n dX5_tells_38 rfl rfl ?_
        refine av_if_ne (tgt := 49) dX5_tells_39 (by decide) h.1 (fun c => ?_) (fun c => ?_)
        · have h := h.2.1 c
          refine av_iload_n dX5_tells_49 rfl rfl ?_
          refine av_iconst dX5_tells_50 ?_
          refine av_icmp_ne (tgt := 61) dX5_tells_51 (by decide) h.1 (by decide) (fun c => ?_) (fun c => ?_)
          · have h := h.2.1 c
            refine av_aload_n dX5_tells_61 rfl rfl ?_
            refine av_get (k := 39) (x := (s5 0 39)) dX5_tells_62 rfl rfl iuX5 (by decide) rfl wF_X5_217 rfl rfl ?_
            exact av_ireturn dX5_tells_65 rfl h
          · have h := h.2.2 c
            refine av_aload_n dX5_tells_54 rfl rfl ?_
            refine av_get (k := 38) (x := (s5 0 38)) dX5_tells_55 rfl rfl iuX5 (by decide) rfl wF_X5_211 rfl rfl ?_
            refine av_goto (tgt := 65) dX5_tells_58 (by decide) ?_
            exact av_ireturn dX5_tells_65 rfl h
        · have h := h.2.2 c
          refine av_aload_n dX5_tells_42 rfl rfl ?_
          refine av_get (k := 37) (x := (s5 0 37)) dX5_tells_43 rfl rfl iuX5 (by decide) rfl wF_X5_205 rfl rfl ?_
          refine av_goto (tgt := 65) dX5_tells_46 (by decide) ?_
          exact av_ireturn dX5_tells_65 rfl h
      · have h := h.2.2 c
        refine av_bipush dX5_tells_35 rfl ?_
        exact av_ireturn dX5_tells_37 rfl h
    · have h := h.2.2 c
      refine av_iconst dX5_tells_17 ?_
      exact av_ireturn dX5_tells_18 rfl h

theorem uX5_remembers {E : av_E} {σ : av_M} {Q : Option av_V → av_M → Prop} (h : (rg (σ 0 9)) ∧ (((¬ (σ 0 9) = 8) → av_C E mSH mX5_copies [av_r 8, av_i (14 * (σ 0 9)), av_r 7, av_i 0, av_i 14] σ (fun v s1 => v = none ∧ (Q none (av_st s1 0 9 ((s1 0 9) + 1))))) ∧ (((σ 0 9) = 8) → av_W E mSH mX5_remembers 11 [some (av_r 0), some (av_i 0)] [] σ Q))) :
    av_C E mSH mX5_remembers [av_r 0] σ Q := by
  refine av_C.ofW (L := [some (av_r 0), none]) (by decide) (Nat.le_of_ble_eq_true rfl) rfl ?_
  refine av_aload_n dX5_remembers_0 rfl rfl ?_
  refine av_get (k := 9) (x := (σ 0 9)) dX5_remembers_1 rfl rfl iuX5 (by decide) rfl wF_X5_164 rfl rfl ?_
  refine av_bipush dX5_remembers_4 rfl ?_
  refine av_icmp_ne (tgt := 48) dX5_remembers_6 (by decide) h.1 (by decide) (fun c => ?_) (fun c => ?_)
  · have h := h.2.1 c
    refine av_aload_n dX5_remembers_48 rfl rfl ?_
    refine av_getr (k := 10) dX5_remembers_49 rfl rfl iuX5 (by decide) rfl wF_X5_31 rfl ?_
    refine av_bipush dX5_remembers_52 rfl ?_
    refine av_aload_n dX5_remembers_54 rfl rfl ?_
    refine av_get (k := 9) (x := (σ 0 9)) dX5_remembers_55 rfl rfl iuX5 (by decide) rfl wF_X5_164 rfl rfl ?_
    refine av_imul dX5_remembers_58 ?_
    refine av_aload_n dX5_remembers_59 rfl rfl ?_
    refine av_getr (k := 8) dX5_remembers_60 rfl rfl iuX5 (by decide) rfl wF_X5_28 rfl ?_
    refine av_iconst dX5_remembers_63 ?_
    refine av_bipush dX5_remembers_64 rfl ?_
    refine av_callS mX5_copies [av_r 8, av_i (14 * (σ 0 9)), av_r 7, av_i 0, av_i 14] [] dX5_remembers_66 mbX5_copies rfl wT_X5_copies rfl wM_X5_160 ⟨Nat.le_of_ble_eq_true rfl, Nat.le_of_ble_eq_true rfl⟩ rfl (Nat.le_of_ble_eq_true rfl) (av_C.mono (fun v s1 hh => ?_) h)
    obtain ⟨rfl, h⟩ := hh
    change av_W E mSH mX5_remembers 69 [some (av_r 0), none] [] s1 Q
    refine av_aload_n dX5_remembers_69 rfl rfl ?_
    refine av_dup dX5_remembers_70 (fun _ h9 => nomatch h9) ?_
    refine av_get (k := 9) (x := (s1 0 9)) dX5_remembers_71 rfl rfl iuX5 (by decide) rfl wF_X5_164 rfl rfl ?_
    refine av_iconst dX5_remembers_74 ?_
    refine av_iadd dX5_remembers_75 ?_
    refine av_put (k := 9) tyX5 dX5_remembers_76 rfl rfl iuX5 tyX5_ok nmX5 (by decide) rfl wF_X5_164 rfl rfl rfl ?_
    exact av_return dX5_remembers_79 rfl h
  · have h := h.2.2 c
    refine av_iconst dX5_remembers_9 ?_
    refine av_istore_n (L' := [some (av_r 0), some (av_i 0)]) dX5_remembers_10 rfl (by decide) rfl ?_
    exact h

theorem uX5_remembers_11 {E : av_E} {σ : av_M} {Q : Option av_V → av_M → Prop} {x1 : Int} (h : (rg x1) ∧ (((98 ≤ x1) → av_C E mSH mX5_copies [av_r 8, av_i (14 * ((σ 0 9) - 1)), av_r 7, av_i 0, av_i 14] (av_st σ 0 9 ((σ 0 9) - 1)) (fun v s1 => v = none ∧ (Q none (av_st s1 0 9 ((s1 0 9) + 1))))) ∧ ((x1 < 98) → (0 ≤ (x1 + 14) ∧ (x1 + 14) < 112) ∧ ((0 ≤ x1 ∧ x1 < 112) ∧ (av_W E mSH mX5_remembers 11 [some (av_r 0), some (av_i (x1 + 1))] [] (av_st σ 8 (x1).toNat (σ 8 ((x1 + 14)).toNat)) Q))))) :
    av_W E mSH mX5_remembers 11 [some (av_r 0), some (av_i x1)] [] σ Q := by
  refine av_iload_n dX5_remembers_11 rfl rfl ?_
  refine av_bipush dX5_remembers_12 rfl ?_
  refine av_icmp_ge (tgt := 38) dX5_remembers_14 (by decide) h.1 (by decide) (fun c => ?_) (fun c => ?_)
  · have h := h.2.1 c
    refine av_aload_n dX5_remembers_38 rfl rfl ?_
    refine av_dup dX5_remembers_39 (fun _ h9 => nomatch h9) ?_
    refine av_get (k := 9) (x := (σ 0 9)) dX5_remembers_40 rfl rfl iuX5 (by decide) rfl wF_X5_164 rfl rfl ?_
    refine av_iconst dX5_remembers_43 ?_
    refine av_isub dX5_remembers_44 ?_
    refine av_put (k := 9) tyX5 dX5_remembers_45 rfl rfl iuX5 tyX5_ok nmX5 (by decide) rfl wF_X5_164 rfl rfl rfl ?_
    refine av_aload_n dX5_remembers_48 rfl rfl ?_
    refine av_getr (k := 10) dX5_remembers_49 rfl rfl iuX5 (by decide) rfl wF_X5_31 rfl ?_
    refine av_bipush dX5_remembers_52 rfl ?_
    refine av_aload_n dX5_remembers_54 rfl rfl ?_
    refine av_get (k := 9) (x := ((σ 0 9) - 1)) dX5_remembers_55 rfl rfl iuX5 (by decide) rfl wF_X5_164 rfl rfl ?_
    refine av_imul dX5_remembers_58 ?_
    refine av_aload_n dX5_remembers_59 rfl rfl ?_
    refine av_getr (k := 8) dX5_remembers_60 rfl rfl iuX5 (by decide) rfl wF_X5_28 rfl ?_
    refine av_iconst dX5_remembers_63 ?_
    refine av_bipush dX5_remembers_64 rfl ?_
    refine av_callS mX5_copies [av_r 8, av_i (14 * ((σ 0 9) - 1)), av_r 7, av_i 0, av_i 14] [] dX5_remembers_66 mbX5_copies rfl wT_X5_copies rfl wM_X5_160 ⟨Nat.le_of_ble_eq_true rfl, Nat.le_of_ble_eq_true rfl⟩ rfl (Nat.le_of_ble_eq_true rfl) (av_C.mono (fun v s1 hh => ?_) h)
    obtain ⟨rfl, h⟩ := hh
    change av_W E mSH mX5_remembers 69 [some (av_r 0), some (av_i x1)] [] s1 Q
    refine av_aload_n dX5_remembers_69 rfl rfl ?_
    refine av_dup dX5_remembers_70 (fun _ h9 => nomatch h9) ?_
    refine av_get (k := 9) (x := (s1 0 9)) dX5_remembers_71 rfl rfl iuX5 (by decide) rfl wF_X5_164 rfl rfl ?_
    refine av_iconst dX5_remembers_74 ?_
    refine av_iadd dX5_remembers_75 ?_
    refine av_put (k := 9) tyX5 dX5_remembers_76 rfl rfl iuX5 tyX5_ok nmX5 (by decide) rfl wF_X5_164 rfl rfl rfl ?_
    exact av_return dX5_remembers_79 rfl h
  · have h := h.2.2 c
    refine av_aload_n dX5_remembers_17 rfl rfl ?_
    refine av_getr (k := 10) dX5_remembers_18 rfl rfl iuX5 (by decide) rfl wF_X5_31 rfl ?_
    refine av_iload_n dX5_remembers_21 rfl rfl ?_
    refine av_aload_n dX5_remembers_22 rfl rfl ?_
    refine av_getr (k := 10) dX5_remembers_23 rfl rfl iuX5 (by decide) rfl wF_X5_31 rfl ?_
    refine av_iload_n dX5_remembers_26 rfl rfl ?_
    refine av_bipush dX5_remembers_27 rfl ?_
    refine av_iadd dX5_remembers_29 ?_
    refine av_iald (x := (σ 8 ((x1 + 14)).toNat)) dX5_remembers_30 rfl (by decide) h.1 rfl ?_
    refine av_iast dX5_remembers_31 rfl (by decide) h.2.1 ?_
    refine av_iinc (L' := [some (av_r 0), some (av_i (x1 + 1))]) dX5_remembers_32 rfl (by decide) rfl rfl ?_
    refine av_goto (tgt := 11) dX5_remembers_35 (by decide) ?_
    exact h.2.2

theorem uX5_deepIn {E : av_E} {σ : av_M} {Q : Option av_V → av_M → Prop} {a1 : Int} (h : (rg a1) ∧ ((rg (σ 6 1)) ∧ ((((σ 6 1) < a1) → (rg ((σ 6 0) - ((σ 6 2) * (a1 - (σ 6 1))))) ∧ (((0 ≤ ((σ 6 0) - ((σ 6 2) * (a1 - (σ 6 1))))) → Q (some (av_i ((σ 6 0) - ((σ 6 2) * (a1 - (σ 6 1)))))) σ) ∧ ((((σ 6 0) - ((σ 6 2) * (a1 - (σ 6 1)))) < 0) → Q (some (av_i 0)) σ))) ∧ ((a1 ≤ (σ 6 1)) → (rg (σ 6 0)) ∧ (((0 ≤ (σ 6 0)) → Q (some (av_i (σ 6 0))) σ) ∧ (((σ 6 0) < 0) → Q (some (av_i 0)) σ)))))) :
    av_C E mSH mX5_deepIn [av_r 0, av_i a1] σ Q := by
  refine av_C.ofW (L := [some (av_r 0), some (av_i a1), none]) (by decide) (Nat.le_of_ble_eq_true rfl) rfl ?_
  refine av_iload_n dX5_deepIn_0 rfl rfl ?_
  refine av_aload_n dX5_deepIn_1 rfl rfl ?_
  refine av_getr (k := 7) dX5_deepIn_2 rfl rfl iuX5 (by decide) rfl wF_X5_25 rfl ?_
  refine av_iconst dX5_deepIn_5 ?_
  refine av_iald (x := (σ 6 1)) dX5_deepIn_6 rfl (by decide) (by decide) rfl ?_
  refine av_icmp_gt (tgt := 19) dX5_deepIn_7 (by decide) h.1 h.2.1 (fun c => ?_) (fun c => ?_)
  · have h := h.2.2.1 c
    refine av_aload_n dX5_deepIn_19 rfl rfl ?_
    refine av_getr (k := 7) dX5_deepIn_20 rfl rfl iuX5 (by decide) rfl wF_X5_25 rfl ?_
    refine av_iconst dX5_deepIn_23 ?_
    refine av_iald (x := (σ 6 0)) dX5_deepIn_24 rfl (by decide) (by decide) rfl ?_
    refine av_aload_n dX5_deepIn_25 rfl rfl ?_
    refine av_getr (k := 7) dX5_deepIn_26 rfl rfl iuX5 (by decide) rfl wF_X5_25 rfl ?_
    refine av_iconst dX5_deepIn_29 ?_
    refine av_iald (x := (σ 6 2)) dX5_deepIn_30 rfl (by decide) (by decide) rfl ?_
    refine av_iload_n dX5_deepIn_31 rfl rfl ?_
    refine av_aload_n dX5_deepIn_32 rfl rfl ?_
    refine av_getr (k := 7) dX5_deepIn_33 rfl rfl iuX5 (by decide) rfl wF_X5_25 rfl ?_
    refine av_iconst dX5_deepIn_36 ?_
    refine av_iald (x := (σ 6 1)) dX5_deepIn_37 rfl (by decide) (by decide) rfl ?_
    refine av_isub dX5_deepIn_38 ?_
    refine av_imul dX5_deepIn_39 ?_
    refine av_isub dX5_deepIn_40 ?_
    refine av_istore_n (L' := [some (av_r 0), some (av_i a1), some (av_i ((σ 6 0) - ((σ 6 2) * (a1 - (σ 6 1)))))]) dX5_deepIn_41 rfl (by decide) rfl ?_
    refine av_iload_n dX5_deepIn_42 rfl rfl ?_
    refine av_if_ge (tgt := 50) dX5_deepIn_43 (by decide) h.1 (fun c => ?_) (fun c => ?_)
    · have h := h.2.1 c
      refine av_iload_n dX5_deepIn_50 rfl rfl ?_
      exact av_ireturn dX5_deepIn_51 rfl h
    · have h := h.2.2 c
      refine av_iconst dX5_deepIn_46 ?_
      refine av_goto (tgt := 51) dX5_deepIn_47 (by decide) ?_
      exact av_ireturn dX5_deepIn_51 rfl h
  · have h := h.2.2.2 c
    refine av_aload_n dX5_deepIn_10 rfl rfl ?_
    refine av_getr (k := 7) dX5_deepIn_11 rfl rfl iuX5 (by decide) rfl wF_X5_25 rfl ?_
    refine av_iconst dX5_deepIn_14 ?_
    refine av_iald (x := (σ 6 0)) dX5_deepIn_15 rfl (by decide) (by decide) rfl ?_
    refine av_goto (tgt := 41) dX5_deepIn_16 (by decide) ?_
    refine av_istore_n (L' := [some (av_r 0), some (av_i a1), some (av_i (σ 6 0))]) dX5_deepIn_41 rfl (by decide) rfl ?_
    refine av_iload_n dX5_deepIn_42 rfl rfl ?_
    refine av_if_ge (tgt := 50) dX5_deepIn_43 (by decide) h.1 (fun c => ?_) (fun c => ?_)
    · have h := h.2.1 c
      refine av_iload_n dX5_deepIn_50 rfl rfl ?_
      exact av_ireturn dX5_deepIn_51 rfl h
    · have h := h.2.2 c
      refine av_iconst dX5_deepIn_46 ?_
      refine av_goto (tgt := 51) dX5_deepIn_47 (by decide) ?_
      exact av_ireturn dX5_deepIn_51 rfl h

theorem uX5_fall {E : av_E} {σ : av_M} {Q : Option av_V → av_M → Prop} (h : av_W E mSH mX5_fall 7 [some (av_r 0), some (av_i (σ 6 1))] [] σ Q) :
    av_C E mSH mX5_fall [av_r 0] σ Q := by
  refine av_C.ofW (L := [some (av_r 0), none]) (by decide) (Nat.le_of_ble_eq_true rfl) rfl ?_
  refine av_aload_n dX5_fall_0 rfl rfl ?_
  refine av_getr (k := 7) dX5_fall_1 rfl rfl iuX5 (by decide) rfl wF_X5_25 rfl ?_
  refine av_iconst dX5_fall_4 ?_
  refine av_iald (x := (σ 6 1)) dX5_fall_5 rfl (by decide) (by decide) rfl ?_
  refine av_istore_n (L' := [some (av_r 0), some (av_i (σ 6 1))]) dX5_fall_6 rfl (by decide) rfl ?_
  exact h

theorem uX5_fall_7 {E : av_E} {σ : av_M} {Q : Option av_V → av_M → Prop} {x1 : Int} (h : av_C E mSH mX5_deepIn [av_r 0, av_i x1] σ (fun v s1 => ∃ r1 : Int, v = some (av_i r1) ∧ ((rg r1) ∧ (((r1 ≤ 2) → Q (some (av_i x1)) s1) ∧ ((2 < r1) → av_W E mSH mX5_fall 7 [some (av_r 0), some (av_i (x1 + 1))] [] s1 Q))))) :
    av_W E mSH mX5_fall 7 [some (av_r 0), some (av_i x1)] [] σ Q := by
  refine av_aload_n dX5_fall_7 rfl rfl ?_
  refine av_iload_n dX5_fall_8 rfl rfl ?_
  refine av_callV mX5_deepIn [av_i x1] [] dX5_fall_9 rfl rfl rfl mbX5_deepIn rfl wI_X5_deepIn wS_X5_deepIn rfl wM_X5_238 ⟨Nat.le_of_ble_eq_true rfl, Nat.le_of_ble_eq_true rfl⟩ rfl (Nat.le_of_ble_eq_true rfl) (av_C.mono (fun v s1 hh => ?_) h)
  obtain ⟨r1, rfl, h⟩ := hh
  change av_W E mSH mX5_fall 12 [some (av_r 0), some (av_i x1)] [av_i r1] s1 Q
  refine av_iconst dX5_fall_12 ?_
  refine av_icmp_le (tgt := 22) dX5_fall_13 (by decide) h.1 (by decide) (fun c => ?_) (fun c => ?_)
  · have h := h.2.1 c
    refine av_iload_n dX5_fall_22 rfl rfl ?_
    exact av_ireturn dX5_fall_23 rfl h
  · have h := h.2.2 c
    refine av_iinc (L' := [some (av_r 0), some (av_i (x1 + 1))]) dX5_fall_16 rfl (by decide) rfl rfl ?_
    refine av_goto (tgt := 7) dX5_fall_19 (by decide) ?_
    exact h

theorem uX5_isFallen {E : av_E} {σ : av_M} {Q : Option av_V → av_M → Prop} (h : (rg (σ 7 3)) ∧ (((¬ (σ 7 3) = 0) → Q (some (av_i 0)) σ) ∧ (((σ 7 3) = 0) → av_C E mSH mX5_fall [av_r 0] σ (fun v s1 => ∃ r1 : Int, v = some (av_i r1) ∧ ((rg (σ 7 0)) ∧ ((rg r1) ∧ ((((σ 7 0) < r1) → Q (some (av_i 0)) s1) ∧ ((r1 ≤ (σ 7 0)) → Q (some (av_i 1)) s1)))))))) :
    av_C E mSH mX5_isFallen [av_r 0] σ Q := by
  refine av_C.ofW (L := [some (av_r 0)]) (by decide) (Nat.le_of_ble_eq_true rfl) rfl ?_
  refine av_aload_n dX5_isFallen_0 rfl rfl ?_
  refine av_getr (k := 8) dX5_isFallen_1 rfl rfl iuX5 (by decide) rfl wF_X5_28 rfl ?_
  refine av_iconst dX5_isFallen_4 ?_
  refine av_iald (x := (σ 7 3)) dX5_isFallen_5 rfl (by decide) (by decide) rfl ?_
  refine av_if_ne (tgt := 26) dX5_isFallen_6 (by decide) h.1 (fun c => ?_) (fun c => ?_)
  · have h := h.2.1 c
    refine av_iconst dX5_isFallen_26 ?_
    exact av_zreturn dX5_isFallen_27 rfl (by decide) h
  · have h := h.2.2 c
    refine av_aload_n dX5_isFallen_9 rfl rfl ?_
    refine av_getr (k := 8) dX5_isFallen_10 rfl rfl iuX5 (by decide) rfl wF_X5_28 rfl ?_
    refine av_iconst dX5_isFallen_13 ?_
    refine av_iald (x := (σ 7 0)) dX5_isFallen_14 rfl (by decide) (by decide) rfl ?_
    refine av_aload_n dX5_isFallen_15 rfl rfl ?_
    refine av_callV mX5_fall [] [av_i (σ 7 0)] dX5_isFallen_16 rfl rfl rfl mbX5_fall rfl wI_X5_fall wS_X5_fall rfl wM_X5_241 ⟨Nat.le_of_ble_eq_true rfl, Nat.le_of_ble_eq_true rfl⟩ rfl (Nat.le_of_ble_eq_true rfl) (av_C.mono (fun v s1 hh => ?_) h)
    obtain ⟨r1, rfl, h⟩ := hh
    change av_W E mSH mX5_isFallen 19 [some (av_r 0)] [av_i r1, av_i (σ 7 0)] s1 Q
    refine av_icmp_lt (tgt := 26) dX5_isFallen_19 (by decide) h.1 h.2.1 (fun c => ?_) (fun c => ?_)
    · have h := h.2.2.1 c
      refine av_iconst dX5_isFallen_26 ?_
      exact av_zreturn dX5_isFallen_27 rfl (by decide) h
    · have h := h.2.2.2 c
      refine av_iconst dX5_isFallen_22 ?_
      refine av_goto (tgt := 27) dX5_isFallen_23 (by decide) ?_
      exact av_zreturn dX5_isFallen_27 rfl (by decide) h

theorem uX5_verbsBy {E : av_E} {σ : av_M} {Q : Option av_V → av_M → Prop} {a1 : Int} (h : av_C E mSH mX5_all [av_r 0] σ (fun v s1 => ∃ r1 : Int, v = some (av_i r1) ∧ (av_C E mSH mX5_asWritten [av_r 0, av_i a1, av_i r1] s1 (fun v s2 => v = none ∧ (av_C E mSH mX5_isTelling [av_r 0] s2 (fun v s3 => ∃ r3 : Int, v = some (av_i r3) ∧ ((rg r3) ∧ (((r3 = 0) → Q (some (av_i 0)) s3) ∧ ((¬ r3 = 0) → Q (some (av_i (s3 0 39))) s3))))))))) :
    av_C E mSH mX5_verbsBy [av_r 0, av_i a1] σ Q := by
  refine av_C.ofW (L := [some (av_r 0), some (av_i a1)]) (by decide) (Nat.le_of_ble_eq_true rfl) rfl ?_
  refine av_aload_n dX5_verbsBy_0 rfl rfl ?_
  refine av_iload_n dX5_verbsBy_1 rfl rfl ?_
  refine av_aload_n dX5_verbsBy_2 rfl rfl ?_
  refine av_callV mX5_all [] [av_i a1, av_r 0] dX5_verbsBy_3 rfl rfl rfl mbX5_all rfl wI_X5_all wS_X5_all rfl wM_X5_223 ⟨Nat.le_of_ble_eq_true rfl, Nat.le_of_ble_eq_true rfl⟩ rfl (Nat.le_of_ble_eq_true rfl) (av_C.mono (fun v s1 hh => ?_) h)
  obtain ⟨r1, rfl, h⟩ := hh
  change av_W E mSH mX5_verbsBy 6 [some (av_r 0), some (av_i a1)] [av_i r1, av_i a1, av_r 0] s1 Q
  refine av_callV mX5_asWritten [av_i a1, av_i r1] [] dX5_verbsBy_6 rfl rfl rfl mbX5_asWritten rfl wI_X5_asWritten wS_X5_asWritten rfl wM_X5_226 ⟨Nat.le_of_ble_eq_true rfl, Nat.le_of_ble_eq_true rfl⟩ rfl (Nat.le_of_ble_eq_true rfl) (av_C.mono (fun v s2 hh => ?_) h)
  obtain ⟨rfl, h⟩ := hh
  change av_W E mSH mX5_verbsBy 9 [some (av_r 0), some (av_i a1)] [] s2 Q
  refine av_aload_n dX5_verbsBy_9 rfl rfl ?_
  refine av_callV mX5_isTelling [] [] dX5_verbsBy_10 rfl rfl rfl mbX5_isTelling rfl wI_X5_isTelling wS_X5_isTelling rfl wM_X5_235 ⟨Nat.le_of_ble_eq_true rfl, Nat.le_of_ble_eq_true rfl⟩ rfl (Nat.le_of_ble_eq_true rfl) (av_C.mono (fun v s3 hh => ?_) h)
  obtain ⟨r3, rfl, h⟩ := hh
  change av_W E mSH mX5_verbsBy 13 [some (av_r 0), some (av_i a1)] [av_i r3] s3 Q
  refine av_if_eq (tgt := 23) dX5_verbsBy_13 (by decide) h.1 (fun c => ?_) (fun c => ?_)
  · have h := h.2.1 c
    refine av_iconst dX5_verbsBy_23 ?_
    exact av_ireturn dX5_verbsBy_24 rfl h
  · have h := h.2.2 c
    refine av_aload_n dX5_verbsBy_16 rfl rfl ?_
    refine av_get (k := 39) (x := (s3 0 39)) dX5_verbsBy_17 rfl rfl iuX5 (by decide) rfl wF_X5_217 rfl rfl ?_
    refine av_goto (tgt := 24) dX5_verbsBy_20 (by decide) ?_
    exact av_ireturn dX5_verbsBy_24 rfl h

theorem uX5_ask {E : av_E} {σ : av_M} {Q : Option av_V → av_M → Prop} {a1 : Int} (h : av_C E mSH mX5_isReader [av_r 0, av_i a1] σ (fun v s1 => ∃ r1 : Int, v = some (av_i r1) ∧ ((rg r1) ∧ (((¬ r1 = 0) → (0 ≤ ((3 * a1) + 2) ∧ ((3 * a1) + 2) < 15) ∧ ((rg (s1 7 1)) ∧ ((rg (s1 5 (((3 * a1) + 2)).toNat)) ∧ ((((s1 5 (((3 * a1) + 2)).toNat) ≤ (s1 7 1)) → av_C E mSH mX5_remembers [av_r 0] s1 (fun v s2 => v = none ∧ ((0 ≤ ((3 * a1) + 2) ∧ ((3 * a1) + 2) < 15) ∧ ((0 ≤ ((3 * a1) + 1) ∧ ((3 * a1) + 1) < 15) ∧ (av_C E mSH mX5_verbsBy [av_r 0, av_i a1] (av_st (av_st s2 7 1 ((s2 7 1) - (s2 5 (((3 * a1) + 2)).toNat))) 7 0 ((s2 7 0) + (s2 5 (((3 * a1) + 1)).toNat))) (fun v s3 => ∃ r3 : Int, v = some (av_i r3) ∧ (Q (some (av_i (i_or (s2 7 2) r3))) (av_st s3 7 2 (i_or (s2 7 2) r3))))))))) ∧ (((s1 7 1) < (s1 5 (((3 * a1) + 2)).toNat)) → Q (some (av_i (-2))) s1))))) ∧ ((r1 = 0) → Q (some (av_i (-1))) s1))))) :
    av_C E mSH mX5_ask [av_r 0, av_i a1] σ Q := by
  refine av_C.ofW (L := [some (av_r 0), some (av_i a1)]) (by decide) (Nat.le_of_ble_eq_true rfl) rfl ?_
  refine av_aload_n dX5_ask_0 rfl rfl ?_
  refine av_iload_n dX5_ask_1 rfl rfl ?_
  refine av_callV mX5_isReader [av_i a1] [] dX5_ask_2 rfl rfl rfl mbX5_isReader rfl wI_X5_isReader wS_X5_isReader rfl wM_X5_220 ⟨Nat.le_of_ble_eq_true rfl, Nat.le_of_ble_eq_true rfl⟩ rfl (Nat.le_of_ble_eq_true rfl) (av_C.mono (fun v s1 hh => ?_) h)
  obtain ⟨r1, rfl, h⟩ := hh
  change av_W E mSH mX5_ask 5 [some (av_r 0), some (av_i a1)] [av_i r1] s1 Q
  refine av_if_ne (tgt := 10) dX5_ask_5 (by decide) h.1 (fun c => ?_) (fun c => ?_)
  · have h := h.2.1 c
    refine av_aload_n dX5_ask_10 rfl rfl ?_
    refine av_getr (k := 8) dX5_ask_11 rfl rfl iuX5 (by decide) rfl wF_X5_28 rfl ?_
    refine av_iconst dX5_ask_14 ?_
    refine av_iald (x := (s1 7 1)) dX5_ask_15 rfl (by decide) (by decide) rfl ?_
    refine av_aload_n dX5_ask_16 rfl rfl ?_
    refine av_getr (k := 6) dX5_ask_17 rfl rfl iuX5 (by decide) rfl wF_X5_22 rfl ?_
    refine av_iconst dX5_ask_20 ?_
    refine av_iload_n dX5_ask_21 rfl rfl ?_
    refine av_imul dX5_ask_22 ?_
    refine av_iconst dX5_ask_23 ?_
    refine av_iadd dX5_ask_24 ?_
    refine av_iald (x := (s1 5 (((3 * a1) + 2)).toNat)) dX5_ask_25 rfl (by decide) h.1 rfl ?_
    refine av_icmp_ge (tgt := 32) dX5_ask_26 (by decide) h.2.1 h.2.2.1 (fun c => ?_) (fun c => ?_)
    · have h := h.2.2.2.1 c
      refine av_aload_n dX5_ask_32 rfl rfl ?_
      refine av_callV mX5_remembers [] [] dX5_ask_33 rfl rfl rfl mbX5_remembers rfl wI_X5_remembers wS_X5_remembers rfl wM_X5_244 ⟨Nat.le_of_ble_eq_true rfl, Nat.le_of_ble_eq_true rfl⟩ rfl (Nat.le_of_ble_eq_true rfl) (av_C.mono (fun v s2 hh => ?_) h)
      obtain ⟨rfl, h⟩ := hh
      change av_W E mSH mX5_ask 36 [some (av_r 0), some (av_i a1)] [] s2 Q
      refine av_aload_n dX5_ask_36 rfl rfl ?_
      refine av_getr (k := 8) dX5_ask_37 rfl rfl iuX5 (by decide) rfl wF_X5_28 rfl ?_
      refine av_iconst dX5_ask_40 ?_
      refine av_dup2 dX5_ask_41 (fun _ h9 => nomatch h9) (fun _ h9 => nomatch h9) ?_
      refine av_iald (x := (s2 7 1)) dX5_ask_42 rfl (by decide) (by decide) rfl ?_
      refine av_aload_n dX5_ask_43 rfl rfl ?_
      refine av_getr (k := 6) dX5_ask_44 rfl rfl iuX5 (by decide) rfl wF_X5_22 rfl ?_
      refine av_iconst dX5_ask_47 ?_
      refine av_iload_n dX5_ask_48 rfl rfl ?_
      refine av_imul dX5_ask_49 ?_
      refine av_iconst dX5_ask_50 ?_
      refine av_iadd dX5_ask_51 ?_
      refine av_iald (x := (s2 5 (((3 * a1) + 2)).toNat)) dX5_ask_52 rfl (by decide) h.1 rfl ?_
      refine av_isub dX5_ask_53 ?_
      refine av_iast dX5_ask_54 rfl (by decide) (by decide) ?_
      refine av_aload_n dX5_ask_55 rfl rfl ?_
      refine av_getr (k := 8) dX5_ask_56 rfl rfl iuX5 (by decide) rfl wF_X5_28 rfl ?_
      refine av_iconst dX5_ask_59 ?_
      refine av_dup2 dX5_ask_60 (fun _ h9 => nomatch h9) (fun _ h9 => nomatch h9) ?_
      refine av_iald (x := (s2 7 0)) dX5_ask_61 rfl (by decide) (by decide) rfl ?_
      refine av_aload_n dX5_ask_62 rfl rfl ?_
      refine av_getr (k := 6) dX5_ask_63 rfl rfl iuX5 (by decide) rfl wF_X5_22 rfl ?_
      refine av_iconst dX5_ask_66 ?_
      refine av_iload_n dX5_ask_67 rfl rfl ?_
      refine av_imul dX5_ask_68 ?_
      refine av_iconst dX5_ask_69 ?_
      refine av_iadd dX5_ask_70 ?_
      refine av_iald (x := (s2 5 (((3 * a1) + 1)).toNat)) dX5_ask_71 rfl (by decide) h.2.1 rfl ?_
      refine av_iadd dX5_ask_72 ?_
      refine av_iast dX5_ask_73 rfl (by decide) (by decide) ?_
      refine av_aload_n dX5_ask_74 rfl rfl ?_
      refine av_getr (k := 8) dX5_ask_75 rfl rfl iuX5 (by decide) rfl wF_X5_28 rfl ?_
      refine av_iconst dX5_ask_78 ?_
      refine av_dup2 dX5_ask_79 (fun _ h9 => nomatch h9) (fun _ h9 => nomatch h9) ?_
      refine av_iald (x := (s2 7 2)) dX5_ask_80 rfl (by decide) (by decide) rfl ?_
      refine av_aload_n dX5_ask_81 rfl rfl ?_
      refine av_iload_n dX5_ask_82 rfl rfl ?_
      refine av_callV mX5_verbsBy [av_i a1] [av_i (s2 7 2), av_i 2, av_r 7] dX5_ask_83 rfl rfl rfl mbX5_verbsBy rfl wI_X5_verbsBy wS_X5_verbsBy rfl wM_X5_247 ⟨Nat.le_of_ble_eq_true rfl, Nat.le_of_ble_eq_true rfl⟩ rfl (Nat.le_of_ble_eq_true rfl) (av_C.mono (fun v s3 hh => ?_) h.2.2)
      obtain ⟨r3, rfl, h⟩ := hh
      change av_W E mSH mX5_ask 86 [some (av_r 0), some (av_i a1)] [av_i r3, av_i (s2 7 2), av_i 2, av_r 7] s3 Q
      refine av_ior dX5_ask_86 ?_
      refine av_iast dX5_ask_87 rfl (by decide) (by decide) ?_
      refine av_aload_n dX5_ask_88 rfl rfl ?_
      refine av_getr (k := 8) dX5_ask_89 rfl rfl iuX5 (by decide) rfl wF_X5_28 rfl ?_
      refine av_iconst dX5_ask_92 ?_
      refine av_iald (x := (i_or (s2 7 2) r3)) dX5_ask_93 rfl (by decide) (by decide) rfl ?_
      exact av_ireturn dX5_ask_94 rfl h
    · have h := h.2.2.2.2 c
      refine av_bipush dX5_ask_29 rfl ?_
      exact av_ireturn dX5_ask_31 rfl h
  · have h := h.2.2 c
    refine av_iconst dX5_ask_8 ?_
    exact av_ireturn dX5_ask_9 rfl h

theorem uX5_shut {E : av_E} {σ : av_M} {Q : Option av_V → av_M → Prop} (h : av_C E mSH mX5_has [av_i (σ 7 2), av_i 1] σ (fun v s1 => ∃ r1 : Int, v = some (av_i r1) ∧ ((rg r1) ∧ (((r1 = 0) → Q (some (av_i (-2))) s1) ∧ ((¬ r1 = 0) → (rg (s1 7 3)) ∧ ((((s1 7 3) = 1) → Q (some (av_i (-2))) s1) ∧ ((¬ (s1 7 3) = 1) → av_C E mSH mX5_isFallen [av_r 0] s1 (fun v s2 => ∃ r2 : Int, v = some (av_i r2) ∧ ((rg r2) ∧ (((r2 = 0) → av_C E mSH mX5_remembers [av_r 0] s2 (fun v s3 => v = none ∧ (av_C E mSH mX5_fall [av_r 0] (av_st s3 7 3 1) (fun v s4 => ∃ r4 : Int, v = some (av_i r4) ∧ (Q (some (av_i (r4 - (s4 7 0)))) s4))))) ∧ ((¬ r2 = 0) → Q (some (av_i (-2))) s2))))))))))) :
    av_C E mSH mX5_shut [av_r 0] σ Q := by
  refine av_C.ofW (L := [some (av_r 0)]) (by decide) (Nat.le_of_ble_eq_true rfl) rfl ?_
  refine av_aload_n dX5_shut_0 rfl rfl ?_
  refine av_getr (k := 8) dX5_shut_1 rfl rfl iuX5 (by decide) rfl wF_X5_28 rfl ?_
  refine av_iconst dX5_shut_4 ?_
  refine av_iald (x := (σ 7 2)) dX5_shut_5 rfl (by decide) (by decide) rfl ?_
  refine av_iconst dX5_shut_6 ?_
  refine av_callS mX5_has [av_i (σ 7 2), av_i 1] [] dX5_shut_7 mbX5_has rfl wT_X5_has rfl wM_X5_192 ⟨Nat.le_of_ble_eq_true rfl, Nat.le_of_ble_eq_true rfl⟩ rfl (Nat.le_of_ble_eq_true rfl) (av_C.mono (fun v s1 hh => ?_) h)
  obtain ⟨r1, rfl, h⟩ := hh
  change av_W E mSH mX5_shut 10 [some (av_r 0)] [av_i r1] s1 Q
  refine av_if_eq (tgt := 30) dX5_shut_10 (by decide) h.1 (fun c => ?_) (fun c => ?_)
  · have h := h.2.1 c
    refine av_bipush dX5_shut_30 rfl ?_
    exact av_ireturn dX5_shut_32 rfl h
  · have h := h.2.2 c
    refine av_aload_n dX5_shut_13 rfl rfl ?_
    refine av_getr (k := 8) dX5_shut_14 rfl rfl iuX5 (by decide) rfl wF_X5_28 rfl ?_
    refine av_iconst dX5_shut_17 ?_
    refine av_iald (x := (s1 7 3)) dX5_shut_18 rfl (by decide) (by decide) rfl ?_
    refine av_iconst dX5_shut_19 ?_
    refine av_icmp_eq (tgt := 30) dX5_shut_20 (by decide) h.1 (by decide) (fun c => ?_) (fun c => ?_)
    · have h := h.2.1 c
      refine av_bipush dX5_shut_30 rfl ?_
      exact av_ireturn dX5_shut_32 rfl h
    · have h := h.2.2 c
      refine av_aload_n dX5_shut_23 rfl rfl ?_
      refine av_callV mX5_isFallen [] [] dX5_shut_24 rfl rfl rfl mbX5_isFallen rfl wI_X5_isFallen wS_X5_isFallen rfl wM_X5_250 ⟨Nat.le_of_ble_eq_true rfl, Nat.le_of_ble_eq_true rfl⟩ rfl (Nat.le_of_ble_eq_true rfl) (av_C.mono (fun v s2 hh => ?_) h)
      obtain ⟨r2, rfl, h⟩ := hh
      change av_W E mSH mX5_shut 27 [some (av_r 0)] [av_i r2] s2 Q
      refine av_if_eq (tgt := 33) dX5_shut_27 (by decide) h.1 (fun c => ?_) (fun c => ?_)
      · have h := h.2.1 c
        refine av_aload_n dX5_shut_33 rfl rfl ?_
        refine av_callV mX5_remembers [] [] dX5_shut_34 rfl rfl rfl mbX5_remembers rfl wI_X5_remembers wS_X5_remembers rfl wM_X5_244 ⟨Nat.le_of_ble_eq_true rfl, Nat.le_of_ble_eq_true rfl⟩ rfl (Nat.le_of_ble_eq_true rfl) (av_C.mono (fun v s3 hh => ?_) h)
        obtain ⟨rfl, h⟩ := hh
        change av_W E mSH mX5_shut 37 [some (av_r 0)] [] s3 Q
        refine av_aload_n dX5_shut_37 rfl rfl ?_
        refine av_getr (k := 8) dX5_shut_38 rfl rfl iuX5 (by decide) rfl wF_X5_28 rfl ?_
        refine av_iconst dX5_shut_41 ?_
        refine av_iconst dX5_shut_42 ?_
        refine av_iast dX5_shut_43 rfl (by decide) (by decide) ?_
        refine av_aload_n dX5_shut_44 rfl rfl ?_
        refine av_callV mX5_fall [] [] dX5_shut_45 rfl rfl rfl mbX5_fall rfl wI_X5_fall wS_X5_fall rfl wM_X5_241 ⟨Nat.le_of_ble_eq_true rfl, Nat.le_of_ble_eq_true rfl⟩ rfl (Nat.le_of_ble_eq_true rfl) (av_C.mono (fun v s4 hh => ?_) h)
        obtain ⟨r4, rfl, h⟩ := hh
        change av_W E mSH mX5_shut 48 [some (av_r 0)] [av_i r4] s4 Q
        refine av_aload_n dX5_shut_48 rfl rfl ?_
        refine av_getr (k := 8) dX5_shut_49 rfl rfl iuX5 (by decide) rfl wF_X5_28 rfl ?_
        refine av_iconst dX5_shut_52 ?_
        refine av_iald (x := (s4 7 0)) dX5_shut_53 rfl (by decide) (by decide) rfl ?_
        refine av_isub dX5_shut_54 ?_
        exact av_ireturn dX5_shut_55 rfl h
      · have h := h.2.2 c
        refine av_bipush dX5_shut_30 rfl ?_
        exact av_ireturn dX5_shut_32 rfl h

theorem uX5_carve {E : av_E} {σ : av_M} {Q : Option av_V → av_M → Prop} {a1 : Int} (h : av_C E mSH mX5_in [av_i a1, av_i 0, av_i 4] σ (fun v s1 => ∃ r1 : Int, v = some (av_i r1) ∧ ((rg r1) ∧ (((¬ r1 = 0) → (rg (s1 7 4)) ∧ (((¬ (s1 7 4) = 9) → av_C E mSH mX5_remembers [av_r 0] s1 (fun v s2 => v = none ∧ ((0 ≤ (5 + (s2 7 4)) ∧ (5 + (s2 7 4)) < 14) ∧ (Q (some (av_i (((av_st s2 7 ((5 + (s2 7 4))).toNat a1) 7 4) + 1))) (av_st (av_st s2 7 ((5 + (s2 7 4))).toNat a1) 7 4 (((av_st s2 7 ((5 + (s2 7 4))).toNat a1) 7 4) + 1)))))) ∧ (((s1 7 4) = 9) → Q (some (av_i (-3))) s1))) ∧ ((r1 = 0) → Q (some (av_i (-1))) s1))))) :
    av_C E mSH mX5_carve [av_r 0, av_i a1] σ Q := by
  refine av_C.ofW (L := [some (av_r 0), some (av_i a1)]) (by decide) (Nat.le_of_ble_eq_true rfl) rfl ?_
  refine av_iload_n dX5_carve_0 rfl rfl ?_
  refine av_iconst dX5_carve_1 ?_
  refine av_iconst dX5_carve_2 ?_
  refine av_callS mX5_in [av_i a1, av_i 0, av_i 4] [] dX5_carve_3 mbX5_in rfl wT_X5_in rfl wM_X5_109 ⟨Nat.le_of_ble_eq_true rfl, Nat.le_of_ble_eq_true rfl⟩ rfl (Nat.le_of_ble_eq_true rfl) (av_C.mono (fun v s1 hh => ?_) h)
  obtain ⟨r1, rfl, h⟩ := hh
  change av_W E mSH mX5_carve 6 [some (av_r 0), some (av_i a1)] [av_i r1] s1 Q
  refine av_if_ne (tgt := 11) dX5_carve_6 (by decide) h.1 (fun c => ?_) (fun c => ?_)
  · have h := h.2.1 c
    refine av_aload_n dX5_carve_11 rfl rfl ?_
    refine av_getr (k := 8) dX5_carve_12 rfl rfl iuX5 (by decide) rfl wF_X5_28 rfl ?_
    refine av_iconst dX5_carve_15 ?_
    refine av_iald (x := (s1 7 4)) dX5_carve_16 rfl (by decide) (by decide) rfl ?_
    refine av_bipush dX5_carve_17 rfl ?_
    refine av_icmp_ne (tgt := 25) dX5_carve_19 (by decide) h.1 (by decide) (fun c => ?_) (fun c => ?_)
    · have h := h.2.1 c
      refine av_aload_n dX5_carve_25 rfl rfl ?_
      refine av_callV mX5_remembers [] [] dX5_carve_26 rfl rfl rfl mbX5_remembers rfl wI_X5_remembers wS_X5_remembers rfl wM_X5_244 ⟨Nat.le_of_ble_eq_true rfl, Nat.le_of_ble_eq_true rfl⟩ rfl (Nat.le_of_ble_eq_true rfl) (av_C.mono (fun v s2 hh => ?_) h)
      obtain ⟨rfl, h⟩ := hh
      change av_W E mSH mX5_carve 29 [some (av_r 0), some (av_i a1)] [] s2 Q
      refine av_aload_n dX5_carve_29 rfl rfl ?_
      refine av_getr (k := 8) dX5_carve_30 rfl rfl iuX5 (by decide) rfl wF_X5_28 rfl ?_
      refine av_iconst dX5_carve_33 ?_
      refine av_aload_n dX5_carve_34 rfl rfl ?_
      refine av_getr (k := 8) dX5_carve_35 rfl rfl iuX5 (by decide) rfl wF_X5_28 rfl ?_
      refine av_iconst dX5_carve_38 ?_
      refine av_iald (x := (s2 7 4)) dX5_carve_39 rfl (by decide) (by decide) rfl ?_
      refine av_iadd dX5_carve_40 ?_
      refine av_iload_n dX5_carve_41 rfl rfl ?_
      refine av_iast dX5_carve_42 rfl (by decide) h.1 ?_
      refine av_aload_n dX5_carve_43 rfl rfl ?_
      refine av_getr (k := 8) dX5_carve_44 rfl rfl iuX5 (by decide) rfl wF_X5_28 rfl ?_
      refine av_iconst dX5_carve_47 ?_
      refine av_dup2 dX5_carve_48 (fun _ h9 => nomatch h9) (fun _ h9 => nomatch h9) ?_
      refine av_iald (x := ((av_st s2 7 ((5 + (s2 7 4))).toNat a1) 7 4)) dX5_carve_49 rfl (by decide) (by decide) rfl ?_
      refine av_iconst dX5_carve_50 ?_
      refine av_iadd dX5_carve_51 ?_
      refine av_iast dX5_carve_52 rfl (by decide) (by decide) ?_
      refine av_aload_n dX5_carve_53 rfl rfl ?_
      refine av_getr (k := 8) dX5_carve_54 rfl rfl iuX5 (by decide) rfl wF_X5_28 rfl ?_
      refine av_iconst dX5_carve_57 ?_
      refine av_iald (x := (((av_st s2 7 ((5 + (s2 7 4))).toNat a1) 7 4) + 1)) dX5_carve_58 rfl (by decide) (by decide) rfl ?_
      exact av_ireturn dX5_carve_59 rfl h.2
    · have h := h.2.2 c
      refine av_bipush dX5_carve_22 rfl ?_
      exact av_ireturn dX5_carve_24 rfl h
  · have h := h.2.2 c
    refine av_iconst dX5_carve_9 ?_
    exact av_ireturn dX5_carve_10 rfl h

theorem uX5_rub {E : av_E} {σ : av_M} {Q : Option av_V → av_M → Prop} (h : (rg (σ 7 4)) ∧ (((¬ (σ 7 4) = 0) → av_C E mSH mX5_remembers [av_r 0] σ (fun v s1 => v = none ∧ (Q (some (av_i ((s1 7 4) - 1))) (av_st s1 7 4 ((s1 7 4) - 1))))) ∧ (((σ 7 4) = 0) → Q (some (av_i (-2))) σ))) :
    av_C E mSH mX5_rub [av_r 0] σ Q := by
  refine av_C.ofW (L := [some (av_r 0)]) (by decide) (Nat.le_of_ble_eq_true rfl) rfl ?_
  refine av_aload_n dX5_rub_0 rfl rfl ?_
  refine av_getr (k := 8) dX5_rub_1 rfl rfl iuX5 (by decide) rfl wF_X5_28 rfl ?_
  refine av_iconst dX5_rub_4 ?_
  refine av_iald (x := (σ 7 4)) dX5_rub_5 rfl (by decide) (by decide) rfl ?_
  refine av_if_ne (tgt := 12) dX5_rub_6 (by decide) h.1 (fun c => ?_) (fun c => ?_)
  · have h := h.2.1 c
    refine av_aload_n dX5_rub_12 rfl rfl ?_
    refine av_callV mX5_remembers [] [] dX5_rub_13 rfl rfl rfl mbX5_remembers rfl wI_X5_remembers wS_X5_remembers rfl wM_X5_244 ⟨Nat.le_of_ble_eq_true rfl, Nat.le_of_ble_eq_true rfl⟩ rfl (Nat.le_of_ble_eq_true rfl) (av_C.mono (fun v s1 hh => ?_) h)
    obtain ⟨rfl, h⟩ := hh
    change av_W E mSH mX5_rub 16 [some (av_r 0)] [] s1 Q
    refine av_aload_n dX5_rub_16 rfl rfl ?_
    refine av_getr (k := 8) dX5_rub_17 rfl rfl iuX5 (by decide) rfl wF_X5_28 rfl ?_
    refine av_iconst dX5_rub_20 ?_
    refine av_dup2 dX5_rub_21 (fun _ h9 => nomatch h9) (fun _ h9 => nomatch h9) ?_
    refine av_iald (x := (s1 7 4)) dX5_rub_22 rfl (by decide) (by decide) rfl ?_
    refine av_iconst dX5_rub_23 ?_
    refine av_isub dX5_rub_24 ?_
    refine av_iast dX5_rub_25 rfl (by decide) (by decide) ?_
    refine av_aload_n dX5_rub_26 rfl rfl ?_
    refine av_getr (k := 8) dX5_rub_27 rfl rfl iuX5 (by decide) rfl wF_X5_28 rfl ?_
    refine av_iconst dX5_rub_30 ?_
    refine av_iald (x := ((s1 7 4) - 1)) dX5_rub_31 rfl (by decide) (by decide) rfl ?_
    exact av_ireturn dX5_rub_32 rfl h
  · have h := h.2.2 c
    refine av_bipush dX5_rub_9 rfl ?_
    exact av_ireturn dX5_rub_11 rfl h

theorem uX5_pass {E : av_E} {σ : av_M} {Q : Option av_V → av_M → Prop} {a1 : Int} (h : av_C E mSH mX5_in [av_i a1, av_i 1, av_i 24] σ (fun v s1 => ∃ r1 : Int, v = some (av_i r1) ∧ ((rg r1) ∧ (((¬ r1 = 0) → av_C E mSH mX5_remembers [av_r 0] s1 (fun v s2 => v = none ∧ (av_C E mSH mX5_deepIn [av_r 0, av_i ((s2 7 0) + a1)] (av_st s2 7 0 ((s2 7 0) + a1)) (fun v s3 => ∃ r3 : Int, v = some (av_i r3) ∧ (Q (some (av_i r3)) s3))))) ∧ ((r1 = 0) → Q (some (av_i (-1))) s1))))) :
    av_C E mSH mX5_pass [av_r 0, av_i a1] σ Q := by
  refine av_C.ofW (L := [some (av_r 0), some (av_i a1)]) (by decide) (Nat.le_of_ble_eq_true rfl) rfl ?_
  refine av_iload_n dX5_pass_0 rfl rfl ?_
  refine av_iconst dX5_pass_1 ?_
  refine av_bipush dX5_pass_2 rfl ?_
  refine av_callS mX5_in [av_i a1, av_i 1, av_i 24] [] dX5_pass_4 mbX5_in rfl wT_X5_in rfl wM_X5_109 ⟨Nat.le_of_ble_eq_true rfl, Nat.le_of_ble_eq_true rfl⟩ rfl (Nat.le_of_ble_eq_true rfl) (av_C.mono (fun v s1 hh => ?_) h)
  obtain ⟨r1, rfl, h⟩ := hh
  change av_W E mSH mX5_pass 7 [some (av_r 0), some (av_i a1)] [av_i r1] s1 Q
  refine av_if_ne (tgt := 12) dX5_pass_7 (by decide) h.1 (fun c => ?_) (fun c => ?_)
  · have h := h.2.1 c
    refine av_aload_n dX5_pass_12 rfl rfl ?_
    refine av_callV mX5_remembers [] [] dX5_pass_13 rfl rfl rfl mbX5_remembers rfl wI_X5_remembers wS_X5_remembers rfl wM_X5_244 ⟨Nat.le_of_ble_eq_true rfl, Nat.le_of_ble_eq_true rfl⟩ rfl (Nat.le_of_ble_eq_true rfl) (av_C.mono (fun v s2 hh => ?_) h)
    obtain ⟨rfl, h⟩ := hh
    change av_W E mSH mX5_pass 16 [some (av_r 0), some (av_i a1)] [] s2 Q
    refine av_aload_n dX5_pass_16 rfl rfl ?_
    refine av_getr (k := 8) dX5_pass_17 rfl rfl iuX5 (by decide) rfl wF_X5_28 rfl ?_
    refine av_iconst dX5_pass_20 ?_
    refine av_dup2 dX5_pass_21 (fun _ h9 => nomatch h9) (fun _ h9 => nomatch h9) ?_
    refine av_iald (x := (s2 7 0)) dX5_pass_22 rfl (by decide) (by decide) rfl ?_
    refine av_iload_n dX5_pass_23 rfl rfl ?_
    refine av_iadd dX5_pass_24 ?_
    refine av_iast dX5_pass_25 rfl (by decide) (by decide) ?_
    refine av_aload_n dX5_pass_26 rfl rfl ?_
    refine av_aload_n dX5_pass_27 rfl rfl ?_
    refine av_getr (k := 8) dX5_pass_28 rfl rfl iuX5 (by decide) rfl wF_X5_28 rfl ?_
    refine av_iconst dX5_pass_31 ?_
    refine av_iald (x := ((s2 7 0) + a1)) dX5_pass_32 rfl (by decide) (by decide) rfl ?_
    refine av_callV mX5_deepIn [av_i ((s2 7 0) + a1)] [] dX5_pass_33 rfl rfl rfl mbX5_deepIn rfl wI_X5_deepIn wS_X5_deepIn rfl wM_X5_238 ⟨Nat.le_of_ble_eq_true rfl, Nat.le_of_ble_eq_true rfl⟩ rfl (Nat.le_of_ble_eq_true rfl) (av_C.mono (fun v s3 hh => ?_) h)
    obtain ⟨r3, rfl, h⟩ := hh
    change av_W E mSH mX5_pass 36 [some (av_r 0), some (av_i a1)] [av_i r3] s3 Q
    exact av_ireturn dX5_pass_36 rfl h
  · have h := h.2.2 c
    refine av_iconst dX5_pass_10 ?_
    exact av_ireturn dX5_pass_11 rfl h

theorem uX5_undo {E : av_E} {σ : av_M} {Q : Option av_V → av_M → Prop} (h : (rg (σ 0 9)) ∧ (((¬ (σ 0 9) = 0) → av_C E mSH mX5_copies [av_r 7, av_i 0, av_r 8, av_i (14 * ((σ 0 9) - 1)), av_i 14] (av_st σ 0 9 ((σ 0 9) - 1)) (fun v s1 => v = none ∧ (Q (some (av_i (s1 0 9))) s1))) ∧ (((σ 0 9) = 0) → Q (some (av_i (-2))) σ))) :
    av_C E mSH mX5_undo [av_r 0] σ Q := by
  refine av_C.ofW (L := [some (av_r 0)]) (by decide) (Nat.le_of_ble_eq_true rfl) rfl ?_
  refine av_aload_n dX5_undo_0 rfl rfl ?_
  refine av_get (k := 9) (x := (σ 0 9)) dX5_undo_1 rfl rfl iuX5 (by decide) rfl wF_X5_164 rfl rfl ?_
  refine av_if_ne (tgt := 10) dX5_undo_4 (by decide) h.1 (fun c => ?_) (fun c => ?_)
  · have h := h.2.1 c
    refine av_aload_n dX5_undo_10 rfl rfl ?_
    refine av_dup dX5_undo_11 (fun _ h9 => nomatch h9) ?_
    refine av_get (k := 9) (x := (σ 0 9)) dX5_undo_12 rfl rfl iuX5 (by decide) rfl wF_X5_164 rfl rfl ?_
    refine av_iconst dX5_undo_15 ?_
    refine av_isub dX5_undo_16 ?_
    refine av_put (k := 9) tyX5 dX5_undo_17 rfl rfl iuX5 tyX5_ok nmX5 (by decide) rfl wF_X5_164 rfl rfl rfl ?_
    refine av_aload_n dX5_undo_20 rfl rfl ?_
    refine av_getr (k := 8) dX5_undo_21 rfl rfl iuX5 (by decide) rfl wF_X5_28 rfl ?_
    refine av_iconst dX5_undo_24 ?_
    refine av_aload_n dX5_undo_25 rfl rfl ?_
    refine av_getr (k := 10) dX5_undo_26 rfl rfl iuX5 (by decide) rfl wF_X5_31 rfl ?_
    refine av_bipush dX5_undo_29 rfl ?_
    refine av_aload_n dX5_undo_31 rfl rfl ?_
    refine av_get (k := 9) (x := ((σ 0 9) - 1)) dX5_undo_32 rfl rfl iuX5 (by decide) rfl wF_X5_164 rfl rfl ?_
    refine av_imul dX5_undo_35 ?_
    refine av_bipush dX5_undo_36 rfl ?_
    refine av_callS mX5_copies [av_r 7, av_i 0, av_r 8, av_i (14 * ((σ 0 9) - 1)), av_i 14] [] dX5_undo_38 mbX5_copies rfl wT_X5_copies rfl wM_X5_160 ⟨Nat.le_of_ble_eq_true rfl, Nat.le_of_ble_eq_true rfl⟩ rfl (Nat.le_of_ble_eq_true rfl) (av_C.mono (fun v s1 hh => ?_) h)
    obtain ⟨rfl, h⟩ := hh
    change av_W E mSH mX5_undo 41 [some (av_r 0)] [] s1 Q
    refine av_aload_n dX5_undo_41 rfl rfl ?_
    refine av_get (k := 9) (x := (s1 0 9)) dX5_undo_42 rfl rfl iuX5 (by decide) rfl wF_X5_164 rfl rfl ?_
    exact av_ireturn dX5_undo_45 rfl h
  · have h := h.2.2 c
    refine av_bipush dX5_undo_7 rfl ?_
    exact av_ireturn dX5_undo_9 rfl h

theorem uX5_lowest {E : av_E} {σ : av_M} {Q : Option av_V → av_M → Prop} {a1 a2 a3 : Int} (h : av_W E mSH mX5_lowest 5 [some (av_i a1), some (av_i a2), some (av_i a3), some (av_i a1), some (av_i a2), none] [] σ Q) :
    av_C E mSH mX5_lowest [av_i a1, av_i a2, av_i a3] σ Q := by
  refine av_C.ofW (L := [some (av_i a1), some (av_i a2), some (av_i a3), none, none, none]) (by decide) (Nat.le_of_ble_eq_true rfl) rfl ?_
  refine av_iload_n dX5_lowest_0 rfl rfl ?_
  refine av_istore_n (L' := [some (av_i a1), some (av_i a2), some (av_i a3), some (av_i a1), none, none]) dX5_lowest_1 rfl (by decide) rfl ?_
  refine av_iload_n dX5_lowest_2 rfl rfl ?_
  refine av_istore (L' := [some (av_i a1), some (av_i a2), some (av_i a3), some (av_i a1), some (av_i a2), none]) dX5_lowest_3 (by decide) rfl ?_
  exact h

theorem uX5_lowest_5 {E : av_E} {σ : av_M} {Q : Option av_V → av_M → Prop} {x0 x1 x2 x3 x4 : Int} (h : (rg x4) ∧ (((x4 ≤ 0) → (rg x2) ∧ (((¬ x2 = 0) → (0 ≤ x1 ∧ x1 < 2147483648) ∧ ((0 < x3 ∧ x3 < 2147483648) ∧ (Q (some (av_i (x1 / x3))) σ))) ∧ ((x2 = 0) → (0 ≤ x0 ∧ x0 < 2147483648) ∧ ((0 < x3 ∧ x3 < 2147483648) ∧ (Q (some (av_i (x0 / x3))) σ))))) ∧ ((0 < x4) → (0 ≤ x3 ∧ x3 < 2147483648) ∧ ((0 < x4 ∧ x4 < 2147483648) ∧ (av_W E mSH mX5_lowest 5 [some (av_i x0), some (av_i x1), some (av_i x2), some (av_i x4), some (av_i (x3 % x4)), none] [] σ Q))))) :
    av_W E mSH mX5_lowest 5 [some (av_i x0), some (av_i x1), some (av_i x2), some (av_i x3), some (av_i x4), none] [] σ Q := by
  refine av_iload dX5_lowest_5 rfl ?_
  refine av_if_le (tgt := 26) dX5_lowest_7 (by decide) h.1 (fun c => ?_) (fun c => ?_)
  · have h := h.2.1 c
    refine av_iload_n dX5_lowest_26 rfl rfl ?_
    refine av_if_ne (tgt := 34) dX5_lowest_27 (by decide) h.1 (fun c => ?_) (fun c => ?_)
    · have h := h.2.1 c
      refine av_iload_n dX5_lowest_34 rfl rfl ?_
      refine av_iload_n dX5_lowest_35 rfl rfl ?_
      refine av_idiv dX5_lowest_36 h.1 h.2.1 ?_
      exact av_ireturn dX5_lowest_37 rfl h.2.2
    · have h := h.2.2 c
      refine av_iload_n dX5_lowest_30 rfl rfl ?_
      refine av_goto (tgt := 35) dX5_lowest_31 (by decide) ?_
      refine av_iload_n dX5_lowest_35 rfl rfl ?_
      refine av_idiv dX5_lowest_36 h.1 h.2.1 ?_
      exact av_ireturn dX5_lowest_37 rfl h.2.2
  · have h := h.2.2 c
    refine av_iload_n dX5_lowest_10 rfl rfl ?_
    refine av_iload dX5_lowest_11 rfl ?_
    refine av_irem dX5_lowest_13 h.1 h.2.1 ?_
    refine av_istore (L' := [some (av_i x0), some (av_i x1), some (av_i x2), some (av_i x3), some (av_i x4), some (av_i (x3 % x4))]) dX5_lowest_14 (by decide) rfl ?_
    refine av_iload dX5_lowest_16 rfl ?_
    refine av_istore_n (L' := [some (av_i x0), some (av_i x1), some (av_i x2), some (av_i x4), some (av_i x4), some (av_i (x3 % x4))]) dX5_lowest_18 rfl (by decide) rfl ?_
    refine av_iload dX5_lowest_19 rfl ?_
    refine av_istore (L' := [some (av_i x0), some (av_i x1), some (av_i x2), some (av_i x4), some (av_i (x3 % x4)), some (av_i (x3 % x4))]) dX5_lowest_21 (by decide) rfl ?_
    refine av_goto (tgt := 5) dX5_lowest_23 (by decide) ?_
    refine av_res [true, true, true, true, true, false] (L' := [some (av_i x0), some (av_i x1), some (av_i x2), some (av_i x4), some (av_i (x3 % x4)), none]) rfl ?_
    exact h.2.2

theorem uX5_belief {E : av_E} {σ : av_M} {Q : Option av_V → av_M → Prop} {a1 a2 a3 : Int} (h : av_C E mSH mX5_isReader [av_r 0, av_i a1] σ (fun v s1 => ∃ r1 : Int, v = some (av_i r1) ∧ ((rg r1) ∧ (((r1 = 0) → Q (some (av_i (-1))) s1) ∧ ((¬ r1 = 0) → av_C E mSH mX5_in [av_i a2, av_i 1, av_i 3] s1 (fun v s2 => ∃ r2 : Int, v = some (av_i r2) ∧ ((rg r2) ∧ (((r2 = 0) → Q (some (av_i (-1))) s2) ∧ ((¬ r2 = 0) → av_C E mSH mX5_in [av_i a3, av_i 0, av_i 1] s2 (fun v s3 => ∃ r3 : Int, v = some (av_i r3) ∧ ((rg r3) ∧ (((¬ r3 = 0) → av_C E mSH mX5_all [av_r 0] s3 (fun v s4 => ∃ r4 : Int, v = some (av_i r4) ∧ (av_C E mSH mX5_asWritten [av_r 0, av_i a1, av_i r4] s4 (fun v s5 => v = none ∧ (av_W E mSH mX5_belief 43 [some (av_r 0), some (av_i a1), some (av_i a2), some (av_i a3), some (av_i 0), some (av_i 0)] [] s5 Q))))) ∧ ((r3 = 0) → Q (some (av_i (-1))) s3))))))))))))) :
    av_C E mSH mX5_belief [av_r 0, av_i a1, av_i a2, av_i a3] σ Q := by
  refine av_C.ofW (L := [some (av_r 0), some (av_i a1), some (av_i a2), some (av_i a3), none, none]) (by decide) (Nat.le_of_ble_eq_true rfl) rfl ?_
  refine av_aload_n dX5_belief_0 rfl rfl ?_
  refine av_iload_n dX5_belief_1 rfl rfl ?_
  refine av_callV mX5_isReader [av_i a1] [] dX5_belief_2 rfl rfl rfl mbX5_isReader rfl wI_X5_isReader wS_X5_isReader rfl wM_X5_220 ⟨Nat.le_of_ble_eq_true rfl, Nat.le_of_ble_eq_true rfl⟩ rfl (Nat.le_of_ble_eq_true rfl) (av_C.mono (fun v s1 hh => ?_) h)
  obtain ⟨r1, rfl, h⟩ := hh
  change av_W E mSH mX5_belief 5 [some (av_r 0), some (av_i a1), some (av_i a2), some (av_i a3), none, none] [av_i r1] s1 Q
  refine av_if_eq (tgt := 26) dX5_belief_5 (by decide) h.1 (fun c => ?_) (fun c => ?_)
  · have h := h.2.1 c
    refine av_iconst dX5_belief_26 ?_
    exact av_ireturn dX5_belief_27 rfl h
  · have h := h.2.2 c
    refine av_iload_n dX5_belief_8 rfl rfl ?_
    refine av_iconst dX5_belief_9 ?_
    refine av_iconst dX5_belief_10 ?_
    refine av_callS mX5_in [av_i a2, av_i 1, av_i 3] [] dX5_belief_11 mbX5_in rfl wT_X5_in rfl wM_X5_109 ⟨Nat.le_of_ble_eq_true rfl, Nat.le_of_ble_eq_true rfl⟩ rfl (Nat.le_of_ble_eq_true rfl) (av_C.mono (fun v s2 hh => ?_) h)
    obtain ⟨r2, rfl, h⟩ := hh
    change av_W E mSH mX5_belief 14 [some (av_r 0), some (av_i a1), some (av_i a2), some (av_i a3), none, none] [av_i r2] s2 Q
    refine av_if_eq (tgt := 26) dX5_belief_14 (by decide) h.1 (fun c => ?_) (fun c => ?_)
    · have h := h.2.1 c
      refine av_iconst dX5_belief_26 ?_
      exact av_ireturn dX5_belief_27 rfl h
    · have h := h.2.2 c
      refine av_iload_n dX5_belief_17 rfl rfl ?_
      refine av_iconst dX5_belief_18 ?_
      refine av_iconst dX5_belief_19 ?_
      refine av_callS mX5_in [av_i a3, av_i 0, av_i 1] [] dX5_belief_20 mbX5_in rfl wT_X5_in rfl wM_X5_109 ⟨Nat.le_of_ble_eq_true rfl, Nat.le_of_ble_eq_true rfl⟩ rfl (Nat.le_of_ble_eq_true rfl) (av_C.mono (fun v s3 hh => ?_) h)
      obtain ⟨r3, rfl, h⟩ := hh
      change av_W E mSH mX5_belief 23 [some (av_r 0), some (av_i a1), some (av_i a2), some (av_i a3), none, none] [av_i r3] s3 Q
      refine av_if_ne (tgt := 28) dX5_belief_23 (by decide) h.1 (fun c => ?_) (fun c => ?_)
      · have h := h.2.1 c
        refine av_aload_n dX5_belief_28 rfl rfl ?_
        refine av_iload_n dX5_belief_29 rfl rfl ?_
        refine av_aload_n dX5_belief_30 rfl rfl ?_
        refine av_callV mX5_all [] [av_i a1, av_r 0] dX5_belief_31 rfl rfl rfl mbX5_all rfl wI_X5_all wS_X5_all rfl wM_X5_223 ⟨Nat.le_of_ble_eq_true rfl, Nat.le_of_ble_eq_true rfl⟩ rfl (Nat.le_of_ble_eq_true rfl) (av_C.mono (fun v s4 hh => ?_) h)
        obtain ⟨r4, rfl, h⟩ := hh
        change av_W E mSH mX5_belief 34 [some (av_r 0), some (av_i a1), some (av_i a2), some (av_i a3), none, none] [av_i r4, av_i a1, av_r 0] s4 Q
        refine av_callV mX5_asWritten [av_i a1, av_i r4] [] dX5_belief_34 rfl rfl rfl mbX5_asWritten rfl wI_X5_asWritten wS_X5_asWritten rfl wM_X5_226 ⟨Nat.le_of_ble_eq_true rfl, Nat.le_of_ble_eq_true rfl⟩ rfl (Nat.le_of_ble_eq_true rfl) (av_C.mono (fun v s5 hh => ?_) h)
        obtain ⟨rfl, h⟩ := hh
        change av_W E mSH mX5_belief 37 [some (av_r 0), some (av_i a1), some (av_i a2), some (av_i a3), none, none] [] s5 Q
        refine av_iconst dX5_belief_37 ?_
        refine av_istore (L' := [some (av_r 0), some (av_i a1), some (av_i a2), some (av_i a3), some (av_i 0), none]) dX5_belief_38 (by decide) rfl ?_
        refine av_iconst dX5_belief_40 ?_
        refine av_istore (L' := [some (av_r 0), some (av_i a1), some (av_i a2), some (av_i a3), some (av_i 0), some (av_i 0)]) dX5_belief_41 (by decide) rfl ?_
        exact h
      · have h := h.2.2 c
        refine av_iconst dX5_belief_26 ?_
        exact av_ireturn dX5_belief_27 rfl h

theorem uX5_belief_43 {E : av_E} {σ : av_M} {Q : Option av_V → av_M → Prop} {x1 x2 x3 x4 x5 : Int} (h : av_C E mSH mX5_isNext [av_r 0] σ (fun v s1 => ∃ r1 : Int, v = some (av_i r1) ∧ ((rg r1) ∧ (((r1 = 0) → (rg x5) ∧ (((¬ x5 = 0) → av_C E mSH mX5_lowest [av_i x4, av_i x5, av_i x3] s1 (fun v s2 => ∃ r2 : Int, v = some (av_i r2) ∧ (Q (some (av_i r2)) s2))) ∧ ((x5 = 0) → av_C E mSH mX5_lowest [av_i x4, av_i 1, av_i x3] s1 (fun v s3 => ∃ r3 : Int, v = some (av_i r3) ∧ (Q (some (av_i r3)) s3))))) ∧ ((¬ r1 = 0) → av_C E mSH mX5_verbs [av_r 0] s1 (fun v s4 => ∃ r4 : Int, v = some (av_i r4) ∧ (av_C E mSH mX5_has [av_i r4, av_i x2] s4 (fun v s5 => ∃ r5 : Int, v = some (av_i r5) ∧ ((rg r5) ∧ (((r5 = 0) → av_W E mSH mX5_belief 43 [some (av_r 0), some (av_i x1), some (av_i x2), some (av_i x3), some (av_i (x4 + 0)), some (av_i (x5 + 1))] [] s5 Q) ∧ ((¬ r5 = 0) → av_W E mSH mX5_belief 43 [some (av_r 0), some (av_i x1), some (av_i x2), some (av_i x3), some (av_i (x4 + 1)), some (av_i (x5 + 1))] [] s5 Q))))))))))) :
    av_W E mSH mX5_belief 43 [some (av_r 0), some (av_i x1), some (av_i x2), some (av_i x3), some (av_i x4), some (av_i x5)] [] σ Q := by
  refine av_aload_n dX5_belief_43 rfl rfl ?_
  refine av_callV mX5_isNext [] [] dX5_belief_44 rfl rfl rfl mbX5_isNext rfl wI_X5_isNext wS_X5_isNext rfl wM_X5_202 ⟨Nat.le_of_ble_eq_true rfl, Nat.le_of_ble_eq_true rfl⟩ rfl (Nat.le_of_ble_eq_true rfl) (av_C.mono (fun v s1 hh => ?_) h)
  obtain ⟨r1, rfl, h⟩ := hh
  change av_W E mSH mX5_belief 47 [some (av_r 0), some (av_i x1), some (av_i x2), some (av_i x3), some (av_i x4), some (av_i x5)] [av_i r1] s1 Q
  refine av_if_eq (tgt := 77) dX5_belief_47 (by decide) h.1 (fun c => ?_) (fun c => ?_)
  · have h := h.2.1 c
    refine av_iload dX5_belief_77 rfl ?_
    refine av_iload dX5_belief_79 rfl ?_
    refine av_if_ne (tgt := 88) dX5_belief_81 (by decide) h.1 (fun c => ?_) (fun c => ?_)
    · have h := h.2.1 c
      refine av_iload dX5_belief_88 rfl ?_
      refine av_iload_n dX5_belief_90 rfl rfl ?_
      refine av_callS mX5_lowest [av_i x4, av_i x5, av_i x3] [] dX5_belief_91 mbX5_lowest rfl wT_X5_lowest rfl wM_X5_253 ⟨Nat.le_of_ble_eq_true rfl, Nat.le_of_ble_eq_true rfl⟩ rfl (Nat.le_of_ble_eq_true rfl) (av_C.mono (fun v s2 hh => ?_) h)
      obtain ⟨r2, rfl, h⟩ := hh
      change av_W E mSH mX5_belief 94 [some (av_r 0), some (av_i x1), some (av_i x2), some (av_i x3), some (av_i x4), some (av_i x5)] [av_i r2] s2 Q
      exact av_ireturn dX5_belief_94 rfl h
    · have h := h.2.2 c
      refine av_iconst dX5_belief_84 ?_
      refine av_goto (tgt := 90) dX5_belief_85 (by decide) ?_
      refine av_iload_n dX5_belief_90 rfl rfl ?_
      refine av_callS mX5_lowest [av_i x4, av_i 1, av_i x3] [] dX5_belief_91 mbX5_lowest rfl wT_X5_lowest rfl wM_X5_253 ⟨Nat.le_of_ble_eq_true rfl, Nat.le_of_ble_eq_true rfl⟩ rfl (Nat.le_of_ble_eq_true rfl) (av_C.mono (fun v s3 hh => ?_) h)
      obtain ⟨r3, rfl, h⟩ := hh
      change av_W E mSH mX5_belief 94 [some (av_r 0), some (av_i x1), some (av_i x2), some (av_i x3), some (av_i x4), some (av_i x5)] [av_i r3] s3 Q
      exact av_ireturn dX5_belief_94 rfl h
  · have h := h.2.2 c
    refine av_iload dX5_belief_50 rfl ?_
    refine av_aload_n dX5_belief_52 rfl rfl ?_
    refine av_callV mX5_verbs [] [av_i x4] dX5_belief_53 rfl rfl rfl mbX5_verbs rfl wI_X5_verbs wS_X5_verbs rfl wM_X5_214 ⟨Nat.le_of_ble_eq_true rfl, Nat.le_of_ble_eq_true rfl⟩ rfl (Nat.le_of_ble_eq_true rfl) (av_C.mono (fun v s4 hh => ?_) h)
    obtain ⟨r4, rfl, h⟩ := hh
    change av_W E mSH mX5_belief 56 [some (av_r 0), some (av_i x1), some (av_i x2), some (av_i x3), some (av_i x4), some (av_i x5)] [av_i r4, av_i x4] s4 Q
    refine av_iload_n dX5_belief_56 rfl rfl ?_
    refine av_callS mX5_has [av_i r4, av_i x2] [av_i x4] dX5_belief_57 mbX5_has rfl wT_X5_has rfl wM_X5_192 ⟨Nat.le_of_ble_eq_true rfl, Nat.le_of_ble_eq_true rfl⟩ rfl (Nat.le_of_ble_eq_true rfl) (av_C.mono (fun v s5 hh => ?_) h)
    obtain ⟨r5, rfl, h⟩ := hh
    change av_W E mSH mX5_belief 60 [some (av_r 0), some (av_i x1), some (av_i x2), some (av_i x3), some (av_i x4), some (av_i x5)] [av_i r5, av_i x4] s5 Q
    refine av_if_eq (tgt := 67) dX5_belief_60 (by decide) h.1 (fun c => ?_) (fun c => ?_)
    · have h := h.2.1 c
      refine av_iconst dX5_belief_67 ?_
      refine av_iadd dX5_belief_68 ?_
      refine av_istore (L' := [some (av_r 0), some (av_i x1), some (av_i x2), some (av_i x3), some (av_i (x4 + 0)), some (av_i x5)]) dX5_belief_69 (by decide) rfl ?_
      refine av_iinc (L' := [some (av_r 0), some (av_i x1), some (av_i x2), some (av_i x3), some (av_i (x4 + 0)), some (av_i (x5 + 1))]) dX5_belief_71 rfl (by decide) rfl rfl ?_
      refine av_goto (tgt := 43) dX5_belief_74 (by decide) ?_
      exact h
    · have h := h.2.2 c
      refine av_iconst dX5_belief_63 ?_
      refine av_goto (tgt := 68) dX5_belief_64 (by decide) ?_
      refine av_iadd dX5_belief_68 ?_
      refine av_istore (L' := [some (av_r 0), some (av_i x1), some (av_i x2), some (av_i x3), some (av_i (x4 + 1)), some (av_i x5)]) dX5_belief_69 (by decide) rfl ?_
      refine av_iinc (L' := [some (av_r 0), some (av_i x1), some (av_i x2), some (av_i x3), some (av_i (x4 + 1)), some (av_i (x5 + 1))]) dX5_belief_71 rfl (by decide) rfl rfl ?_
      refine av_goto (tgt := 43) dX5_belief_74 (by decide) ?_
      exact h

theorem uX5_isReadable {E : av_E} {σ : av_M} {Q : Option av_V → av_M → Prop} {a1 a2 : Int} (h : av_C E mSH mX5_asWritten [av_r 0, av_i a1, av_i a2] σ (fun v s1 => v = none ∧ (av_C E mSH mX5_isNext [av_r 0] s1 (fun v s2 => ∃ r2 : Int, v = some (av_i r2) ∧ ((r2 = 0 ∨ r2 = 1) ∧ (Q (some (av_i r2)) s2)))))) :
    av_C E mSH mX5_isReadable [av_r 0, av_i a1, av_i a2] σ Q := by
  refine av_C.ofW (L := [some (av_r 0), some (av_i a1), some (av_i a2)]) (by decide) (Nat.le_of_ble_eq_true rfl) rfl ?_
  refine av_aload_n dX5_isReadable_0 rfl rfl ?_
  refine av_iload_n dX5_isReadable_1 rfl rfl ?_
  refine av_iload_n dX5_isReadable_2 rfl rfl ?_
  refine av_callV mX5_asWritten [av_i a1, av_i a2] [] dX5_isReadable_3 rfl rfl rfl mbX5_asWritten rfl wI_X5_asWritten wS_X5_asWritten rfl wM_X5_226 ⟨Nat.le_of_ble_eq_true rfl, Nat.le_of_ble_eq_true rfl⟩ rfl (Nat.le_of_ble_eq_true rfl) (av_C.mono (fun v s1 hh => ?_) h)
  obtain ⟨rfl, h⟩ := hh
  change av_W E mSH mX5_isReadable 6 [some (av_r 0), some (av_i a1), some (av_i a2)] [] s1 Q
  refine av_aload_n dX5_isReadable_6 rfl rfl ?_
  refine av_callV mX5_isNext [] [] dX5_isReadable_7 rfl rfl rfl mbX5_isNext rfl wI_X5_isNext wS_X5_isNext rfl wM_X5_202 ⟨Nat.le_of_ble_eq_true rfl, Nat.le_of_ble_eq_true rfl⟩ rfl (Nat.le_of_ble_eq_true rfl) (av_C.mono (fun v s2 hh => ?_) h)
  obtain ⟨r2, rfl, h⟩ := hh
  change av_W E mSH mX5_isReadable 10 [some (av_r 0), some (av_i a1), some (av_i a2)] [av_i r2] s2 Q
  exact av_zreturn dX5_isReadable_10 rfl h.1 h.2

theorem uX5_without {E : av_E} {σ : av_M} {Q : Option av_V → av_M → Prop} {a1 : Int} (h : av_C E mSH mX5_isReader [av_r 0, av_i a1] σ (fun v s1 => ∃ r1 : Int, v = some (av_i r1) ∧ ((rg r1) ∧ (((¬ r1 = 0) → av_C E mSH mX5_all [av_r 0] s1 (fun v s2 => ∃ r2 : Int, v = some (av_i r2) ∧ (av_C E mSH mX5_isReadable [av_r 0, av_i a1, av_i r2] s2 (fun v s3 => ∃ r3 : Int, v = some (av_i r3) ∧ ((rg r3) ∧ (((¬ r3 = 0) → av_W E mSH mX5_without 29 [some (av_r 0), some (av_i a1), some (av_i 0), some (av_i 0)] [] s3 Q) ∧ ((r3 = 0) → Q (some (av_i (-4))) s3))))))) ∧ ((r1 = 0) → Q (some (av_i (-1))) s1))))) :
    av_C E mSH mX5_without [av_r 0, av_i a1] σ Q := by
  refine av_C.ofW (L := [some (av_r 0), some (av_i a1), none, none]) (by decide) (Nat.le_of_ble_eq_true rfl) rfl ?_
  refine av_aload_n dX5_without_0 rfl rfl ?_
  refine av_iload_n dX5_without_1 rfl rfl ?_
  refine av_callV mX5_isReader [av_i a1] [] dX5_without_2 rfl rfl rfl mbX5_isReader rfl wI_X5_isReader wS_X5_isReader rfl wM_X5_220 ⟨Nat.le_of_ble_eq_true rfl, Nat.le_of_ble_eq_true rfl⟩ rfl (Nat.le_of_ble_eq_true rfl) (av_C.mono (fun v s1 hh => ?_) h)
  obtain ⟨r1, rfl, h⟩ := hh
  change av_W E mSH mX5_without 5 [some (av_r 0), some (av_i a1), none, none] [av_i r1] s1 Q
  refine av_if_ne (tgt := 10) dX5_without_5 (by decide) h.1 (fun c => ?_) (fun c => ?_)
  · have h := h.2.1 c
    refine av_aload_n dX5_without_10 rfl rfl ?_
    refine av_iload_n dX5_without_11 rfl rfl ?_
    refine av_aload_n dX5_without_12 rfl rfl ?_
    refine av_callV mX5_all [] [av_i a1, av_r 0] dX5_without_13 rfl rfl rfl mbX5_all rfl wI_X5_all wS_X5_all rfl wM_X5_223 ⟨Nat.le_of_ble_eq_true rfl, Nat.le_of_ble_eq_true rfl⟩ rfl (Nat.le_of_ble_eq_true rfl) (av_C.mono (fun v s2 hh => ?_) h)
    obtain ⟨r2, rfl, h⟩ := hh
    change av_W E mSH mX5_without 16 [some (av_r 0), some (av_i a1), none, none] [av_i r2, av_i a1, av_r 0] s2 Q
    refine av_callV mX5_isReadable [av_i a1, av_i r2] [] dX5_without_16 rfl rfl rfl mbX5_isReadable rfl wI_X5_isReadable wS_X5_isReadable rfl wM_X5_257 ⟨Nat.le_of_ble_eq_true rfl, Nat.le_of_ble_eq_true rfl⟩ rfl (Nat.le_of_ble_eq_true rfl) (av_C.mono (fun v s3 hh => ?_) h)
    obtain ⟨r3, rfl, h⟩ := hh
    change av_W E mSH mX5_without 19 [some (av_r 0), some (av_i a1), none, none] [av_i r3] s3 Q
    refine av_if_ne (tgt := 25) dX5_without_19 (by decide) h.1 (fun c => ?_) (fun c => ?_)
    · have h := h.2.1 c
      refine av_iconst dX5_without_25 ?_
      refine av_istore_n (L' := [some (av_r 0), some (av_i a1), some (av_i 0), none]) dX5_without_26 rfl (by decide) rfl ?_
      refine av_iconst dX5_without_27 ?_
      refine av_istore_n (L' := [some (av_r 0), some (av_i a1), some (av_i 0), some (av_i 0)]) dX5_without_28 rfl (by decide) rfl ?_
      exact h
    · have h := h.2.2 c
      refine av_bipush dX5_without_22 rfl ?_
      exact av_ireturn dX5_without_24 rfl h
  · have h := h.2.2 c
    refine av_iconst dX5_without_8 ?_
    exact av_ireturn dX5_without_9 rfl h

theorem uX5_without_29 {E : av_E} {σ : av_M} {Q : Option av_V → av_M → Prop} {x1 x2 x3 : Int} (h : (rg x3) ∧ ((rg (σ 0 0)) ∧ ((((σ 0 0) ≤ x3) → Q (some (av_i x2)) σ) ∧ ((x3 < (σ 0 0)) → av_C E mSH mX5_all [av_r 0] σ (fun v s1 => ∃ r1 : Int, v = some (av_i r1) ∧ (av_C E mSH mX5_isReadable [av_r 0, av_i x1, av_i (i_and r1 (i_xor (i_shl 1 x3) (-1)))] s1 (fun v s2 => ∃ r2 : Int, v = some (av_i r2) ∧ ((rg r2) ∧ (((r2 = 0) → av_W E mSH mX5_without 29 [some (av_r 0), some (av_i x1), some (av_i (i_or x2 (i_shl 1 x3))), some (av_i (x3 + 1))] [] s2 Q) ∧ ((¬ r2 = 0) → av_W E mSH mX5_without 29 [some (av_r 0), some (av_i x1), some (av_i (i_or x2 0)), some (av_i (x3 + 1))] [] s2 Q)))))))))) :
    av_W E mSH mX5_without 29 [some (av_r 0), some (av_i x1), some (av_i x2), some (av_i x3)] [] σ Q := by
  refine av_iload_n dX5_without_29 rfl rfl ?_
  refine av_aload_n dX5_without_30 rfl rfl ?_
  refine av_get (k := 0) (x := (σ 0 0)) dX5_without_31 rfl rfl iuX5 (by decide) rfl wF_X5_157 rfl rfl ?_
  refine av_icmp_ge (tgt := 71) dX5_without_34 (by decide) h.1 h.2.1 (fun c => ?_) (fun c => ?_)
  · have h := h.2.2.1 c
    refine av_iload_n dX5_without_71 rfl rfl ?_
    exact av_ireturn dX5_without_72 rfl h
  · have h := h.2.2.2 c
    refine av_iload_n dX5_without_37 rfl rfl ?_
    refine av_aload_n dX5_without_38 rfl rfl ?_
    refine av_iload_n dX5_without_39 rfl rfl ?_
    refine av_aload_n dX5_without_40 rfl rfl ?_
    refine av_callV mX5_all [] [av_i x1, av_r 0, av_i x2] dX5_without_41 rfl rfl rfl mbX5_all rfl wI_X5_all wS_X5_all rfl wM_X5_223 ⟨Nat.le_of_ble_eq_true rfl, Nat.le_of_ble_eq_true rfl⟩ rfl (Nat.le_of_ble_eq_true rfl) (av_C.mono (fun v s1 hh => ?_) h)
    obtain ⟨r1, rfl, h⟩ := hh
    change av_W E mSH mX5_without 44 [some (av_r 0), some (av_i x1), some (av_i x2), some (av_i x3)] [av_i r1, av_i x1, av_r 0, av_i x2] s1 Q
    refine av_iconst dX5_without_44 ?_
    refine av_iload_n dX5_without_45 rfl rfl ?_
    refine av_ishl dX5_without_46 ?_
    refine av_iconst dX5_without_47 ?_
    refine av_ixor dX5_without_48 ?_
    refine av_iand dX5_without_49 ?_
    refine av_callV mX5_isReadable [av_i x1, av_i (i_and r1 (i_xor (i_shl 1 x3) (-1)))] [av_i x2] dX5_without_50 rfl rfl rfl mbX5_isReadable rfl wI_X5_isReadable wS_X5_isReadable rfl wM_X5_257 ⟨Nat.le_of_ble_eq_true rfl, Nat.le_of_ble_eq_true rfl⟩ rfl (Nat.le_of_ble_eq_true rfl) (av_C.mono (fun v s2 hh => ?_) h)
    obtain ⟨r2, rfl, h⟩ := hh
    change av_W E mSH mX5_without 53 [some (av_r 0), some (av_i x1), some (av_i x2), some (av_i x3)] [av_i r2, av_i x2] s2 Q
    refine av_if_eq (tgt := 60) dX5_without_53 (by decide) h.1 (fun c => ?_) (fun c => ?_)
    · have h := h.2.1 c
      refine av_iconst dX5_without_60 ?_
      refine av_iload_n dX5_without_61 rfl rfl ?_
      refine av_ishl dX5_without_62 ?_
      refine av_ior dX5_without_63 ?_
      refine av_istore_n (L' := [some (av_r 0), some (av_i x1), some (av_i (i_or x2 (i_shl 1 x3))), some (av_i x3)]) dX5_without_64 rfl (by decide) rfl ?_
      refine av_iinc (L' := [some (av_r 0), some (av_i x1), some (av_i (i_or x2 (i_shl 1 x3))), some (av_i (x3 + 1))]) dX5_without_65 rfl (by decide) rfl rfl ?_
      refine av_goto (tgt := 29) dX5_without_68 (by decide) ?_
      exact h
    · have h := h.2.2 c
      refine av_iconst dX5_without_56 ?_
      refine av_goto (tgt := 63) dX5_without_57 (by decide) ?_
      refine av_ior dX5_without_63 ?_
      refine av_istore_n (L' := [some (av_r 0), some (av_i x1), some (av_i (i_or x2 0)), some (av_i x3)]) dX5_without_64 rfl (by decide) rfl ?_
      refine av_iinc (L' := [some (av_r 0), some (av_i x1), some (av_i (i_or x2 0)), some (av_i (x3 + 1))]) dX5_without_65 rfl (by decide) rfl rfl ?_
      refine av_goto (tgt := 29) dX5_without_68 (by decide) ?_
      exact h

theorem uX5_isRow {E : av_E} {σ : av_M} {Q : Option av_V → av_M → Prop} {a1 a2 : Int} (h : av_W E mSH mX5_isRow 12 [some (av_r 0), some (av_i a1), some (av_i a2), some (av_i a1), some (av_i (a2 - 1))] [] (av_st σ 0 31 a2) Q) :
    av_C E mSH mX5_isRow [av_r 0, av_i a1, av_i a2] σ Q := by
  refine av_C.ofW (L := [some (av_r 0), some (av_i a1), some (av_i a2), none, none]) (by decide) (Nat.le_of_ble_eq_true rfl) rfl ?_
  refine av_aload_n dX5_isRow_0 rfl rfl ?_
  refine av_iload_n dX5_isRow_1 rfl rfl ?_
  refine av_put (k := 31) tyX5 dX5_isRow_2 rfl rfl iuX5 tyX5_ok nmX5 (by decide) rfl wF_X5_179 rfl rfl rfl ?_
  refine av_iload_n dX5_isRow_5 rfl rfl ?_
  refine av_istore_n (L' := [some (av_r 0), some (av_i a1), some (av_i a2), some (av_i a1), none]) dX5_isRow_6 rfl (by decide) rfl ?_
  refine av_iload_n dX5_isRow_7 rfl rfl ?_
  refine av_iconst dX5_isRow_8 ?_
  refine av_isub dX5_isRow_9 ?_
  refine av_istore (L' := [some (av_r 0), some (av_i a1), some (av_i a2), some (av_i a1), some (av_i (a2 - 1))]) dX5_isRow_10 (by decide) rfl ?_
  exact h

theorem uX5_isRow_12 {E : av_E} {σ : av_M} {Q : Option av_V → av_M → Prop} {x1 x2 x3 x4 : Int} (h : (rg x4) ∧ (((x4 < 0) → Q none σ) ∧ ((0 ≤ x4) → (0 ≤ x3 ∧ x3 < 2147483648) ∧ ((0 ≤ x4 ∧ x4 < 9) ∧ ((0 ≤ x3 ∧ x3 < 2147483648) ∧ (av_W E mSH mX5_isRow 12 [some (av_r 0), some (av_i x1), some (av_i x2), some (av_i (x3 / 5)), some (av_i (x4 + (-1)))] [] (av_st σ 20 (x4).toNat (x3 % 5)) Q)))))) :
    av_W E mSH mX5_isRow 12 [some (av_r 0), some (av_i x1), some (av_i x2), some (av_i x3), some (av_i x4)] [] σ Q := by
  refine av_iload dX5_isRow_12 rfl ?_
  refine av_if_lt (tgt := 37) dX5_isRow_14 (by decide) h.1 (fun c => ?_) (fun c => ?_)
  · have h := h.2.1 c
    exact av_return dX5_isRow_37 rfl h
  · have h := h.2.2 c
    refine av_aload_n dX5_isRow_17 rfl rfl ?_
    refine av_getr (k := 30) dX5_isRow_18 rfl rfl iuX5 (by decide) rfl wF_X5_67 rfl ?_
    refine av_iload dX5_isRow_21 rfl ?_
    refine av_iload_n dX5_isRow_23 rfl rfl ?_
    refine av_iconst dX5_isRow_24 ?_
    refine av_irem dX5_isRow_25 h.1 (by decide) ?_
    refine av_iast dX5_isRow_26 rfl (by decide) h.2.1 ?_
    refine av_iload_n dX5_isRow_27 rfl rfl ?_
    refine av_iconst dX5_isRow_28 ?_
    refine av_idiv dX5_isRow_29 h.2.2.1 (by decide) ?_
    refine av_istore_n (L' := [some (av_r 0), some (av_i x1), some (av_i x2), some (av_i (x3 / 5)), some (av_i x4)]) dX5_isRow_30 rfl (by decide) rfl ?_
    refine av_iinc (L' := [some (av_r 0), some (av_i x1), some (av_i x2), some (av_i (x3 / 5)), some (av_i (x4 + (-1)))]) dX5_isRow_31 rfl (by decide) rfl rfl ?_
    refine av_goto (tgt := 12) dX5_isRow_34 (by decide) ?_
    exact h.2.2.2

theorem uX5_isReadingOf {E : av_E} {σ : av_M} {Q : Option av_V → av_M → Prop} {a1 a2 a3 : Int} (h : av_C E mSH mX5_isRow [av_r 0, av_i a1, av_i a2] σ (fun v s1 => v = none ∧ (av_C E mSH mX5_all [av_r 0] s1 (fun v s2 => ∃ r2 : Int, v = some (av_i r2) ∧ (av_C E mSH mX5_begins [av_r 0, av_i a3, av_i r2] s2 (fun v s3 => v = none ∧ (av_C E mSH mX5_isNext [av_r 0] s3 (fun v s4 => ∃ r4 : Int, v = some (av_i r4) ∧ ((r4 = 0 ∨ r4 = 1) ∧ (Q (some (av_i r4)) s4)))))))))) :
    av_C E mSH mX5_isReadingOf [av_r 0, av_i a1, av_i a2, av_i a3] σ Q := by
  refine av_C.ofW (L := [some (av_r 0), some (av_i a1), some (av_i a2), some (av_i a3)]) (by decide) (Nat.le_of_ble_eq_true rfl) rfl ?_
  refine av_aload_n dX5_isReadingOf_0 rfl rfl ?_
  refine av_iload_n dX5_isReadingOf_1 rfl rfl ?_
  refine av_iload_n dX5_isReadingOf_2 rfl rfl ?_
  refine av_callV mX5_isRow [av_i a1, av_i a2] [] dX5_isReadingOf_3 rfl rfl rfl mbX5_isRow rfl wI_X5_isRow wS_X5_isRow rfl wM_X5_260 ⟨Nat.le_of_ble_eq_true rfl, Nat.le_of_ble_eq_true rfl⟩ rfl (Nat.le_of_ble_eq_true rfl) (av_C.mono (fun v s1 hh => ?_) h)
  obtain ⟨rfl, h⟩ := hh
  change av_W E mSH mX5_isReadingOf 6 [some (av_r 0), some (av_i a1), some (av_i a2), some (av_i a3)] [] s1 Q
  refine av_aload_n dX5_isReadingOf_6 rfl rfl ?_
  refine av_iload_n dX5_isReadingOf_7 rfl rfl ?_
  refine av_aload_n dX5_isReadingOf_8 rfl rfl ?_
  refine av_callV mX5_all [] [av_i a3, av_r 0] dX5_isReadingOf_9 rfl rfl rfl mbX5_all rfl wI_X5_all wS_X5_all rfl wM_X5_223 ⟨Nat.le_of_ble_eq_true rfl, Nat.le_of_ble_eq_true rfl⟩ rfl (Nat.le_of_ble_eq_true rfl) (av_C.mono (fun v s2 hh => ?_) h)
  obtain ⟨r2, rfl, h⟩ := hh
  change av_W E mSH mX5_isReadingOf 12 [some (av_r 0), some (av_i a1), some (av_i a2), some (av_i a3)] [av_i r2, av_i a3, av_r 0] s2 Q
  refine av_callV mX5_begins [av_i a3, av_i r2] [] dX5_isReadingOf_12 rfl rfl rfl mbX5_begins rfl wI_X5_begins wS_X5_begins rfl wM_X5_185 ⟨Nat.le_of_ble_eq_true rfl, Nat.le_of_ble_eq_true rfl⟩ rfl (Nat.le_of_ble_eq_true rfl) (av_C.mono (fun v s3 hh => ?_) h)
  obtain ⟨rfl, h⟩ := hh
  change av_W E mSH mX5_isReadingOf 15 [some (av_r 0), some (av_i a1), some (av_i a2), some (av_i a3)] [] s3 Q
  refine av_aload_n dX5_isReadingOf_15 rfl rfl ?_
  refine av_callV mX5_isNext [] [] dX5_isReadingOf_16 rfl rfl rfl mbX5_isNext rfl wI_X5_isNext wS_X5_isNext rfl wM_X5_202 ⟨Nat.le_of_ble_eq_true rfl, Nat.le_of_ble_eq_true rfl⟩ rfl (Nat.le_of_ble_eq_true rfl) (av_C.mono (fun v s4 hh => ?_) h)
  obtain ⟨r4, rfl, h⟩ := hh
  change av_W E mSH mX5_isReadingOf 19 [some (av_r 0), some (av_i a1), some (av_i a2), some (av_i a3)] [av_i r4] s4 Q
  exact av_zreturn dX5_isReadingOf_19 rfl h.1 h.2

theorem uX5_numberOf {E : av_E} {σ : av_M} {Q : Option av_V → av_M → Prop} {a1 a2 : Int} (h : av_C E mSH mX5_isRow [av_r 0, av_i a1, av_i a2] σ (fun v s1 => v = none ∧ (av_W E mSH mX5_numberOf 11 [some (av_r 0), some (av_i a1), some (av_i a2), some (av_i 0), some (av_i 0)] [] s1 Q))) :
    av_C E mSH mX5_numberOf [av_r 0, av_i a1, av_i a2] σ Q := by
  refine av_C.ofW (L := [some (av_r 0), some (av_i a1), some (av_i a2), none, none]) (by decide) (Nat.le_of_ble_eq_true rfl) rfl ?_
  refine av_aload_n dX5_numberOf_0 rfl rfl ?_
  refine av_iload_n dX5_numberOf_1 rfl rfl ?_
  refine av_iload_n dX5_numberOf_2 rfl rfl ?_
  refine av_callV mX5_isRow [av_i a1, av_i a2] [] dX5_numberOf_3 rfl rfl rfl mbX5_isRow rfl wI_X5_isRow wS_X5_isRow rfl wM_X5_260 ⟨Nat.le_of_ble_eq_true rfl, Nat.le_of_ble_eq_true rfl⟩ rfl (Nat.le_of_ble_eq_true rfl) (av_C.mono (fun v s1 hh => ?_) h)
  obtain ⟨rfl, h⟩ := hh
  change av_W E mSH mX5_numberOf 6 [some (av_r 0), some (av_i a1), some (av_i a2), none, none] [] s1 Q
  refine av_iconst dX5_numberOf_6 ?_
  refine av_istore_n (L' := [some (av_r 0), some (av_i a1), some (av_i a2), some (av_i 0), none]) dX5_numberOf_7 rfl (by decide) rfl ?_
  refine av_iconst dX5_numberOf_8 ?_
  refine av_istore (L' := [some (av_r 0), some (av_i a1), some (av_i a2), some (av_i 0), some (av_i 0)]) dX5_numberOf_9 (by decide) rfl ?_
  exact h

theorem uX5_numberOf_11 {E : av_E} {σ : av_M} {Q : Option av_V → av_M → Prop} {x1 x2 x3 x4 : Int} (h : (rg x4) ∧ ((rg x2) ∧ (((x2 ≤ x4) → Q (some (av_i x3)) σ) ∧ ((x4 < x2) → (0 ≤ x4 ∧ x4 < 9) ∧ (av_W E mSH mX5_numberOf 11 [some (av_r 0), some (av_i x1), some (av_i x2), some (av_i (((6 * x3) + (σ 20 (x4).toNat)) + 1)), some (av_i (x4 + 1))] [] σ Q))))) :
    av_W E mSH mX5_numberOf 11 [some (av_r 0), some (av_i x1), some (av_i x2), some (av_i x3), some (av_i x4)] [] σ Q := by
  refine av_iload dX5_numberOf_11 rfl ?_
  refine av_iload_n dX5_numberOf_13 rfl rfl ?_
  refine av_icmp_ge (tgt := 38) dX5_numberOf_14 (by decide) h.1 h.2.1 (fun c => ?_) (fun c => ?_)
  · have h := h.2.2.1 c
    refine av_iload_n dX5_numberOf_38 rfl rfl ?_
    exact av_ireturn dX5_numberOf_39 rfl h
  · have h := h.2.2.2 c
    refine av_bipush dX5_numberOf_17 rfl ?_
    refine av_iload_n dX5_numberOf_19 rfl rfl ?_
    refine av_imul dX5_numberOf_20 ?_
    refine av_aload_n dX5_numberOf_21 rfl rfl ?_
    refine av_getr (k := 30) dX5_numberOf_22 rfl rfl iuX5 (by decide) rfl wF_X5_67 rfl ?_
    refine av_iload dX5_numberOf_25 rfl ?_
    refine av_iald (x := (σ 20 (x4).toNat)) dX5_numberOf_27 rfl (by decide) h.1 rfl ?_
    refine av_iadd dX5_numberOf_28 ?_
    refine av_iconst dX5_numberOf_29 ?_
    refine av_iadd dX5_numberOf_30 ?_
    refine av_istore_n (L' := [some (av_r 0), some (av_i x1), some (av_i x2), some (av_i (((6 * x3) + (σ 20 (x4).toNat)) + 1)), some (av_i x4)]) dX5_numberOf_31 rfl (by decide) rfl ?_
    refine av_iinc (L' := [some (av_r 0), some (av_i x1), some (av_i x2), some (av_i (((6 * x3) + (σ 20 (x4).toNat)) + 1)), some (av_i (x4 + 1))]) dX5_numberOf_32 rfl (by decide) rfl rfl ?_
    refine av_goto (tgt := 11) dX5_numberOf_35 (by decide) ?_
    exact h.2

theorem uX5_shortest {E : av_E} {σ : av_M} {Q : Option av_V → av_M → Prop} {a1 a2 : Int} (h : av_C E mSH mX5_isReader [av_r 0, av_i a1] σ (fun v s1 => ∃ r1 : Int, v = some (av_i r1) ∧ ((rg r1) ∧ (((r1 = 0) → Q (some (av_i (-1))) s1) ∧ ((¬ r1 = 0) → av_C E mSH mX5_isReader [av_r 0, av_i a2] s1 (fun v s2 => ∃ r2 : Int, v = some (av_i r2) ∧ ((rg r2) ∧ (((¬ r2 = 0) → av_W E mSH mX5_shortest 23 [some (av_r 0), some (av_i a1), some (av_i a2), some (av_i 1), some (av_i 1), none] [] s2 Q) ∧ ((r2 = 0) → Q (some (av_i (-1))) s2))))))))) :
    av_C E mSH mX5_shortest [av_r 0, av_i a1, av_i a2] σ Q := by
  refine av_C.ofW (L := [some (av_r 0), some (av_i a1), some (av_i a2), none, none, none]) (by decide) (Nat.le_of_ble_eq_true rfl) rfl ?_
  refine av_aload_n dX5_shortest_0 rfl rfl ?_
  refine av_iload_n dX5_shortest_1 rfl rfl ?_
  refine av_callV mX5_isReader [av_i a1] [] dX5_shortest_2 rfl rfl rfl mbX5_isReader rfl wI_X5_isReader wS_X5_isReader rfl wM_X5_220 ⟨Nat.le_of_ble_eq_true rfl, Nat.le_of_ble_eq_true rfl⟩ rfl (Nat.le_of_ble_eq_true rfl) (av_C.mono (fun v s1 hh => ?_) h)
  obtain ⟨r1, rfl, h⟩ := hh
  change av_W E mSH mX5_shortest 5 [some (av_r 0), some (av_i a1), some (av_i a2), none, none, none] [av_i r1] s1 Q
  refine av_if_eq (tgt := 16) dX5_shortest_5 (by decide) h.1 (fun c => ?_) (fun c => ?_)
  · have h := h.2.1 c
    refine av_iconst dX5_shortest_16 ?_
    exact av_ireturn dX5_shortest_17 rfl h
  · have h := h.2.2 c
    refine av_aload_n dX5_shortest_8 rfl rfl ?_
    refine av_iload_n dX5_shortest_9 rfl rfl ?_
    refine av_callV mX5_isReader [av_i a2] [] dX5_shortest_10 rfl rfl rfl mbX5_isReader rfl wI_X5_isReader wS_X5_isReader rfl wM_X5_220 ⟨Nat.le_of_ble_eq_true rfl, Nat.le_of_ble_eq_true rfl⟩ rfl (Nat.le_of_ble_eq_true rfl) (av_C.mono (fun v s2 hh => ?_) h)
    obtain ⟨r2, rfl, h⟩ := hh
    change av_W E mSH mX5_shortest 13 [some (av_r 0), some (av_i a1), some (av_i a2), none, none, none] [av_i r2] s2 Q
    refine av_if_ne (tgt := 18) dX5_shortest_13 (by decide) h.1 (fun c => ?_) (fun c => ?_)
    · have h := h.2.1 c
      refine av_iconst dX5_shortest_18 ?_
      refine av_istore_n (L' := [some (av_r 0), some (av_i a1), some (av_i a2), some (av_i 1), none, none]) dX5_shortest_19 rfl (by decide) rfl ?_
      refine av_iconst dX5_shortest_20 ?_
      refine av_istore (L' := [some (av_r 0), some (av_i a1), some (av_i a2), some (av_i 1), some (av_i 1), none]) dX5_shortest_21 (by decide) rfl ?_
      exact h
    · have h := h.2.2 c
      refine av_iconst dX5_shortest_16 ?_
      exact av_ireturn dX5_shortest_17 rfl h

theorem uX5_shortest_23 {E : av_E} {σ : av_M} {Q : Option av_V → av_M → Prop} {x1 x2 x3 x4 : Int} (h : (rg x4) ∧ (((4 < x4) → Q (some (av_i (-4))) σ) ∧ ((x4 ≤ 4) → av_W E mSH mX5_shortest 36 [some (av_r 0), some (av_i x1), some (av_i x2), some (av_i (x3 * 5)), some (av_i x4), some (av_i 0)] [] σ Q))) :
    av_W E mSH mX5_shortest 23 [some (av_r 0), some (av_i x1), some (av_i x2), some (av_i x3), some (av_i x4), none] [] σ Q := by
  refine av_iload dX5_shortest_23 rfl ?_
  refine av_iconst dX5_shortest_25 ?_
  refine av_icmp_gt (tgt := 87) dX5_shortest_26 (by decide) h.1 (by decide) (fun c => ?_) (fun c => ?_)
  · have h := h.2.1 c
    refine av_bipush dX5_shortest_87 rfl ?_
    exact av_ireturn dX5_shortest_89 rfl h
  · have h := h.2.2 c
    refine av_iload_n dX5_shortest_29 rfl rfl ?_
    refine av_iconst dX5_shortest_30 ?_
    refine av_imul dX5_shortest_31 ?_
    refine av_istore_n (L' := [some (av_r 0), some (av_i x1), some (av_i x2), some (av_i (x3 * 5)), some (av_i x4), none]) dX5_shortest_32 rfl (by decide) rfl ?_
    refine av_iconst dX5_shortest_33 ?_
    refine av_istore (L' := [some (av_r 0), some (av_i x1), some (av_i x2), some (av_i (x3 * 5)), some (av_i x4), some (av_i 0)]) dX5_shortest_34 (by decide) rfl ?_
    exact h

theorem uX5_shortest_36 {E : av_E} {σ : av_M} {Q : Option av_V → av_M → Prop} {x1 x2 x3 x4 x5 : Int} (h : (rg x5) ∧ ((rg x3) ∧ (((x3 ≤ x5) → av_W E mSH mX5_shortest 23 [some (av_r 0), some (av_i x1), some (av_i x2), some (av_i x3), some (av_i (x4 + 1)), none] [] σ Q) ∧ ((x5 < x3) → av_C E mSH mX5_isReadingOf [av_r 0, av_i x5, av_i x4, av_i x1] σ (fun v s1 => ∃ r1 : Int, v = some (av_i r1) ∧ ((rg r1) ∧ (((r1 = 0) → av_W E mSH mX5_shortest 36 [some (av_r 0), some (av_i x1), some (av_i x2), some (av_i x3), some (av_i x4), some (av_i (x5 + 1))] [] s1 Q) ∧ ((¬ r1 = 0) → av_C E mSH mX5_isReadingOf [av_r 0, av_i x5, av_i x4, av_i x2] s1 (fun v s2 => ∃ r2 : Int, v = some (av_i r2) ∧ ((rg r2) ∧ (((¬ r2 = 0) → av_W E mSH mX5_shortest 36 [some (av_r 0), some (av_i x1), some (av_i x2), some (av_i x3), some (av_i x4), some (av_i (x5 + 1))] [] s2 Q) ∧ ((r2 = 0) → av_C E mSH mX5_numberOf [av_r 0, av_i x5, av_i x4] s2 (fun v s3 => ∃ r3 : Int, v = some (av_i r3) ∧ (Q (some (av_i r3)) s3)))))))))))))) :
    av_W E mSH mX5_shortest 36 [some (av_r 0), some (av_i x1), some (av_i x2), some (av_i x3), some (av_i x4), some (av_i x5)] [] σ Q := by
  refine av_iload dX5_shortest_36 rfl ?_
  refine av_iload_n dX5_shortest_38 rfl rfl ?_
  refine av_icmp_ge (tgt := 81) dX5_shortest_39 (by decide) h.1 h.2.1 (fun c => ?_) (fun c => ?_)
  · have h := h.2.2.1 c
    refine av_iinc (L' := [some (av_r 0), some (av_i x1), some (av_i x2), some (av_i x3), some (av_i (x4 + 1)), some (av_i x5)]) dX5_shortest_81 rfl (by decide) rfl rfl ?_
    refine av_goto (tgt := 23) dX5_shortest_84 (by decide) ?_
    refine av_res [true, true, true, true, true, false] (L' := [some (av_r 0), some (av_i x1), some (av_i x2), some (av_i x3), some (av_i (x4 + 1)), none]) rfl ?_
    exact h
  · have h := h.2.2.2 c
    refine av_aload_n dX5_shortest_42 rfl rfl ?_
    refine av_iload dX5_shortest_43 rfl ?_
    refine av_iload dX5_shortest_45 rfl ?_
    refine av_iload_n dX5_shortest_47 rfl rfl ?_
    refine av_callV mX5_isReadingOf [av_i x5, av_i x4, av_i x1] [] dX5_shortest_48 rfl rfl rfl mbX5_isReadingOf rfl wI_X5_isReadingOf wS_X5_isReadingOf rfl wM_X5_263 ⟨Nat.le_of_ble_eq_true rfl, Nat.le_of_ble_eq_true rfl⟩ rfl (Nat.le_of_ble_eq_true rfl) (av_C.mono (fun v s1 hh => ?_) h)
    obtain ⟨r1, rfl, h⟩ := hh
    change av_W E mSH mX5_shortest 51 [some (av_r 0), some (av_i x1), some (av_i x2), some (av_i x3), some (av_i x4), some (av_i x5)] [av_i r1] s1 Q
    refine av_if_eq (tgt := 75) dX5_shortest_51 (by decide) h.1 (fun c => ?_) (fun c => ?_)
    · have h := h.2.1 c
      refine av_iinc (L' := [some (av_r 0), some (av_i x1), some (av_i x2), some (av_i x3), some (av_i x4), some (av_i (x5 + 1))]) dX5_shortest_75 rfl (by decide) rfl rfl ?_
      refine av_goto (tgt := 36) dX5_shortest_78 (by decide) ?_
      exact h
    · have h := h.2.2 c
      refine av_aload_n dX5_shortest_54 rfl rfl ?_
      refine av_iload dX5_shortest_55 rfl ?_
      refine av_iload dX5_shortest_57 rfl ?_
      refine av_iload_n dX5_shortest_59 rfl rfl ?_
      refine av_callV mX5_isReadingOf [av_i x5, av_i x4, av_i x2] [] dX5_shortest_60 rfl rfl rfl mbX5_isReadingOf rfl wI_X5_isReadingOf wS_X5_isReadingOf rfl wM_X5_263 ⟨Nat.le_of_ble_eq_true rfl, Nat.le_of_ble_eq_true rfl⟩ rfl (Nat.le_of_ble_eq_true rfl) (av_C.mono (fun v s2 hh => ?_) h)
      obtain ⟨r2, rfl, h⟩ := hh
      change av_W E mSH mX5_shortest 63 [some (av_r 0), some (av_i x1), some (av_i x2), some (av_i x3), some (av_i x4), some (av_i x5)] [av_i r2] s2 Q
      refine av_if_ne (tgt := 75) dX5_shortest_63 (by decide) h.1 (fun c => ?_) (fun c => ?_)
      · have h := h.2.1 c
        refine av_iinc (L' := [some (av_r 0), some (av_i x1), some (av_i x2), some (av_i x3), some (av_i x4), some (av_i (x5 + 1))]) dX5_shortest_75 rfl (by decide) rfl rfl ?_
        refine av_goto (tgt := 36) dX5_shortest_78 (by decide) ?_
        exact h
      · have h := h.2.2 c
        refine av_aload_n dX5_shortest_66 rfl rfl ?_
        refine av_iload dX5_shortest_67 rfl ?_
        refine av_iload dX5_shortest_69 rfl ?_
        refine av_callV mX5_numberOf [av_i x5, av_i x4] [] dX5_shortest_71 rfl rfl rfl mbX5_numberOf rfl wI_X5_numberOf wS_X5_numberOf rfl wM_X5_266 ⟨Nat.le_of_ble_eq_true rfl, Nat.le_of_ble_eq_true rfl⟩ rfl (Nat.le_of_ble_eq_true rfl) (av_C.mono (fun v s3 hh => ?_) h)
        obtain ⟨r3, rfl, h⟩ := hh
        change av_W E mSH mX5_shortest 74 [some (av_r 0), some (av_i x1), some (av_i x2), some (av_i x3), some (av_i x4), some (av_i x5)] [av_i r3] s3 Q
        exact av_ireturn dX5_shortest_74 rfl h

theorem uX5_until {E : av_E} {σ : av_M} {Q : Option av_V → av_M → Prop} {a1 : Int} (h : av_C E mSH mX5_isReader [av_r 0, av_i a1] σ (fun v s1 => ∃ r1 : Int, v = some (av_i r1) ∧ ((rg r1) ∧ (((¬ r1 = 0) → av_C E mSH mX5_fall [av_r 0] s1 (fun v s2 => ∃ r2 : Int, v = some (av_i r2) ∧ ((0 ≤ ((3 * a1) + 1) ∧ ((3 * a1) + 1) < 15) ∧ (av_C E mSH mX5_verbsBy [av_r 0, av_i a1] s2 (fun v s3 => ∃ r3 : Int, v = some (av_i r3) ∧ (av_C E mSH mX5_has [av_i r3, av_i 1] s3 (fun v s4 => ∃ r4 : Int, v = some (av_i r4) ∧ ((rg r4) ∧ (((r4 = 0) → Q (some (av_i (-4))) s4) ∧ ((¬ r4 = 0) → (rg ((r2 - (s2 5 (((3 * a1) + 1)).toNat)) - 1)) ∧ ((rg (s4 7 0)) ∧ (((((r2 - (s2 5 (((3 * a1) + 1)).toNat)) - 1) < (s4 7 0)) → Q (some (av_i (-4))) s4) ∧ (((s4 7 0) ≤ ((r2 - (s2 5 (((3 * a1) + 1)).toNat)) - 1)) → Q (some (av_i ((r2 - (s2 5 (((3 * a1) + 1)).toNat)) - 1))) s4))))))))))))) ∧ ((r1 = 0) → Q (some (av_i (-1))) s1))))) :
    av_C E mSH mX5_until [av_r 0, av_i a1] σ Q := by
  refine av_C.ofW (L := [some (av_r 0), some (av_i a1), none]) (by decide) (Nat.le_of_ble_eq_true rfl) rfl ?_
  refine av_aload_n dX5_until_0 rfl rfl ?_
  refine av_iload_n dX5_until_1 rfl rfl ?_
  refine av_callV mX5_isReader [av_i a1] [] dX5_until_2 rfl rfl rfl mbX5_isReader rfl wI_X5_isReader wS_X5_isReader rfl wM_X5_220 ⟨Nat.le_of_ble_eq_true rfl, Nat.le_of_ble_eq_true rfl⟩ rfl (Nat.le_of_ble_eq_true rfl) (av_C.mono (fun v s1 hh => ?_) h)
  obtain ⟨r1, rfl, h⟩ := hh
  change av_W E mSH mX5_until 5 [some (av_r 0), some (av_i a1), none] [av_i r1] s1 Q
  refine av_if_ne (tgt := 10) dX5_until_5 (by decide) h.1 (fun c => ?_) (fun c => ?_)
  · have h := h.2.1 c
    refine av_aload_n dX5_until_10 rfl rfl ?_
    refine av_callV mX5_fall [] [] dX5_until_11 rfl rfl rfl mbX5_fall rfl wI_X5_fall wS_X5_fall rfl wM_X5_241 ⟨Nat.le_of_ble_eq_true rfl, Nat.le_of_ble_eq_true rfl⟩ rfl (Nat.le_of_ble_eq_true rfl) (av_C.mono (fun v s2 hh => ?_) h)
    obtain ⟨r2, rfl, h⟩ := hh
    change av_W E mSH mX5_until 14 [some (av_r 0), some (av_i a1), none] [av_i r2] s2 Q
    refine av_aload_n dX5_until_14 rfl rfl ?_
    refine av_getr (k := 6) dX5_until_15 rfl rfl iuX5 (by decide) rfl wF_X5_22 rfl ?_
    refine av_iconst dX5_until_18 ?_
    refine av_iload_n dX5_until_19 rfl rfl ?_
    refine av_imul dX5_until_20 ?_
    refine av_iconst dX5_until_21 ?_
    refine av_iadd dX5_until_22 ?_
    refine av_iald (x := (s2 5 (((3 * a1) + 1)).toNat)) dX5_until_23 rfl (by decide) h.1 rfl ?_
    refine av_isub dX5_until_24 ?_
    refine av_iconst dX5_until_25 ?_
    refine av_isub dX5_until_26 ?_
    refine av_istore_n (L' := [some (av_r 0), some (av_i a1), some (av_i ((r2 - (s2 5 (((3 * a1) + 1)).toNat)) - 1))]) dX5_until_27 rfl (by decide) rfl ?_
    refine av_aload_n dX5_until_28 rfl rfl ?_
    refine av_iload_n dX5_until_29 rfl rfl ?_
    refine av_callV mX5_verbsBy [av_i a1] [] dX5_until_30 rfl rfl rfl mbX5_verbsBy rfl wI_X5_verbsBy wS_X5_verbsBy rfl wM_X5_247 ⟨Nat.le_of_ble_eq_true rfl, Nat.le_of_ble_eq_true rfl⟩ rfl (Nat.le_of_ble_eq_true rfl) (av_C.mono (fun v s3 hh => ?_) h.2)
    obtain ⟨r3, rfl, h⟩ := hh
    change av_W E mSH mX5_until 33 [some (av_r 0), some (av_i a1), some (av_i ((r2 - (s2 5 (((3 * a1) + 1)).toNat)) - 1))] [av_i r3] s3 Q
    refine av_iconst dX5_until_33 ?_
    refine av_callS mX5_has [av_i r3, av_i 1] [] dX5_until_34 mbX5_has rfl wT_X5_has rfl wM_X5_192 ⟨Nat.le_of_ble_eq_true rfl, Nat.le_of_ble_eq_true rfl⟩ rfl (Nat.le_of_ble_eq_true rfl) (av_C.mono (fun v s4 hh => ?_) h)
    obtain ⟨r4, rfl, h⟩ := hh
    change av_W E mSH mX5_until 37 [some (av_r 0), some (av_i a1), some (av_i ((r2 - (s2 5 (((3 * a1) + 1)).toNat)) - 1))] [av_i r4] s4 Q
    refine av_if_eq (tgt := 54) dX5_until_37 (by decide) h.1 (fun c => ?_) (fun c => ?_)
    · have h := h.2.1 c
      refine av_bipush dX5_until_54 rfl ?_
      exact av_ireturn dX5_until_56 rfl h
    · have h := h.2.2 c
      refine av_iload_n dX5_until_40 rfl rfl ?_
      refine av_aload_n dX5_until_41 rfl rfl ?_
      refine av_getr (k := 8) dX5_until_42 rfl rfl iuX5 (by decide) rfl wF_X5_28 rfl ?_
      refine av_iconst dX5_until_45 ?_
      refine av_iald (x := (s4 7 0)) dX5_until_46 rfl (by decide) (by decide) rfl ?_
      refine av_icmp_lt (tgt := 54) dX5_until_47 (by decide) h.1 h.2.1 (fun c => ?_) (fun c => ?_)
      · have h := h.2.2.1 c
        refine av_bipush dX5_until_54 rfl ?_
        exact av_ireturn dX5_until_56 rfl h
      · have h := h.2.2.2 c
        refine av_iload_n dX5_until_50 rfl rfl ?_
        refine av_goto (tgt := 56) dX5_until_51 (by decide) ?_
        exact av_ireturn dX5_until_56 rfl h
  · have h := h.2.2 c
    refine av_iconst dX5_until_8 ?_
    exact av_ireturn dX5_until_9 rfl h

theorem uX5_enough {E : av_E} {σ : av_M} {Q : Option av_V → av_M → Prop} {a1 a2 : Int} (h : av_C E mSH mX5_in [av_i a1, av_i 2, av_i 14] σ (fun v s1 => ∃ r1 : Int, v = some (av_i r1) ∧ ((rg r1) ∧ (((r1 = 0) → Q (some (av_i (-1))) s1) ∧ ((¬ r1 = 0) → (0 ≤ a1 ∧ a1 < 2147483648) ∧ ((rg (a1 % 2)) ∧ ((((a1 % 2) = 1) → Q (some (av_i (-1))) s1) ∧ ((¬ (a1 % 2) = 1) → av_C E mSH mX5_in [av_i a2, av_i 0, av_i 2] s1 (fun v s2 => ∃ r2 : Int, v = some (av_i r2) ∧ ((rg r2) ∧ (((¬ r2 = 0) → av_W E mSH mX5_enough 40 [some (av_r 0), some (av_i a1), some (av_i a2), some (av_i (-4)), some (av_i 0), some (av_i 0), some (av_i 0), none, none, none, none] [] s2 Q) ∧ ((r2 = 0) → Q (some (av_i (-1))) s2)))))))))))) :
    av_C E mSH mX5_enough [av_r 0, av_i a1, av_i a2] σ Q := by
  refine av_C.ofW (L := [some (av_r 0), some (av_i a1), some (av_i a2), none, none, none, none, none, none, none, none]) (by decide) (Nat.le_of_ble_eq_true rfl) rfl ?_
  refine av_iload_n dX5_enough_0 rfl rfl ?_
  refine av_iconst dX5_enough_1 ?_
  refine av_bipush dX5_enough_2 rfl ?_
  refine av_callS mX5_in [av_i a1, av_i 2, av_i 14] [] dX5_enough_4 mbX5_in rfl wT_X5_in rfl wM_X5_109 ⟨Nat.le_of_ble_eq_true rfl, Nat.le_of_ble_eq_true rfl⟩ rfl (Nat.le_of_ble_eq_true rfl) (av_C.mono (fun v s1 hh => ?_) h)
  obtain ⟨r1, rfl, h⟩ := hh
  change av_W E mSH mX5_enough 7 [some (av_r 0), some (av_i a1), some (av_i a2), none, none, none, none, none, none, none, none] [av_i r1] s1 Q
  refine av_if_eq (tgt := 26) dX5_enough_7 (by decide) h.1 (fun c => ?_) (fun c => ?_)
  · have h := h.2.1 c
    refine av_iconst dX5_enough_26 ?_
    exact av_ireturn dX5_enough_27 rfl h
  · have h := h.2.2 c
    refine av_iload_n dX5_enough_10 rfl rfl ?_
    refine av_iconst dX5_enough_11 ?_
    refine av_irem dX5_enough_12 h.1 (by decide) ?_
    refine av_iconst dX5_enough_13 ?_
    refine av_icmp_eq (tgt := 26) dX5_enough_14 (by decide) h.2.1 (by decide) (fun c => ?_) (fun c => ?_)
    · have h := h.2.2.1 c
      refine av_iconst dX5_enough_26 ?_
      exact av_ireturn dX5_enough_27 rfl h
    · have h := h.2.2.2 c
      refine av_iload_n dX5_enough_17 rfl rfl ?_
      refine av_iconst dX5_enough_18 ?_
      refine av_iconst dX5_enough_19 ?_
      refine av_callS mX5_in [av_i a2, av_i 0, av_i 2] [] dX5_enough_20 mbX5_in rfl wT_X5_in rfl wM_X5_109 ⟨Nat.le_of_ble_eq_true rfl, Nat.le_of_ble_eq_true rfl⟩ rfl (Nat.le_of_ble_eq_true rfl) (av_C.mono (fun v s2 hh => ?_) h)
      obtain ⟨r2, rfl, h⟩ := hh
      change av_W E mSH mX5_enough 23 [some (av_r 0), some (av_i a1), some (av_i a2), none, none, none, none, none, none, none, none] [av_i r2] s2 Q
      refine av_if_ne (tgt := 28) dX5_enough_23 (by decide) h.1 (fun c => ?_) (fun c => ?_)
      · have h := h.2.1 c
        refine av_bipush dX5_enough_28 rfl ?_
        refine av_istore_n (L' := [some (av_r 0), some (av_i a1), some (av_i a2), some (av_i (-4)), none, none, none, none, none, none, none]) dX5_enough_30 rfl (by decide) rfl ?_
        refine av_iconst dX5_enough_31 ?_
        refine av_istore (L' := [some (av_r 0), some (av_i a1), some (av_i a2), some (av_i (-4)), some (av_i 0), none, none, none, none, none, none]) dX5_enough_32 (by decide) rfl ?_
        refine av_iconst dX5_enough_34 ?_
        refine av_istore (L' := [some (av_r 0), some (av_i a1), some (av_i a2), some (av_i (-4)), some (av_i 0), some (av_i 0), none, none, none, none, none]) dX5_enough_35 (by decide) rfl ?_
        refine av_iconst dX5_enough_37 ?_
        refine av_istore (L' := [some (av_r 0), some (av_i a1), some (av_i a2), some (av_i (-4)), some (av_i 0), some (av_i 0), some (av_i 0), none, none, none, none]) dX5_enough_38 (by decide) rfl ?_
        exact h
      · have h := h.2.2 c
        refine av_iconst dX5_enough_26 ?_
        exact av_ireturn dX5_enough_27 rfl h

theorem uX5_enough_40 {E : av_E} {σ : av_M} {Q : Option av_V → av_M → Prop} {x1 x2 x3 x4 x5 x6 : Int} (h : (rg x6) ∧ ((rg (i_shl 1 (σ 0 5))) ∧ ((((i_shl 1 (σ 0 5)) ≤ x6) → (rg x3) ∧ (((x3 < 0) → Q (some (av_i x3)) σ) ∧ ((0 ≤ x3) → (rg x2) ∧ (((¬ x2 = 0) → (rg x2) ∧ (((¬ x2 = 1) → Q (some (av_i x5)) σ) ∧ ((x2 = 1) → Q (some (av_i x4)) σ))) ∧ ((x2 = 0) → Q (some (av_i x3)) σ))))) ∧ ((x6 < (i_shl 1 (σ 0 5))) → av_W E mSH mX5_enough 68 [some (av_r 0), some (av_i x1), some (av_i x2), some (av_i x3), some (av_i x4), some (av_i x5), some (av_i x6), some (av_i 0), some (av_i 0), some (av_i (σ 7 2)), some (av_i 0)] [] σ Q)))) :
    av_W E mSH mX5_enough 40 [some (av_r 0), some (av_i x1), some (av_i x2), some (av_i x3), some (av_i x4), some (av_i x5), some (av_i x6), none, none, none, none] [] σ Q := by
  refine av_iload dX5_enough_40 rfl ?_
  refine av_iconst dX5_enough_42 ?_
  refine av_aload_n dX5_enough_43 rfl rfl ?_
  refine av_get (k := 5) (x := (σ 0 5)) dX5_enough_44 rfl rfl iuX5 (by decide) rfl wF_X5_106 rfl rfl ?_
  refine av_ishl dX5_enough_47 ?_
  refine av_icmp_ge (tgt := 225) dX5_enough_48 (by decide) h.1 h.2.1 (fun c => ?_) (fun c => ?_)
  · have h := h.2.2.1 c
    refine av_iload_n dX5_enough_225 rfl rfl ?_
    refine av_if_lt (tgt := 233) dX5_enough_226 (by decide) h.1 (fun c => ?_) (fun c => ?_)
    · have h := h.2.1 c
      refine av_iload_n dX5_enough_233 rfl rfl ?_
      refine av_goto (tgt := 249) dX5_enough_234 (by decide) ?_
      exact av_ireturn dX5_enough_249 rfl h
    · have h := h.2.2 c
      refine av_iload_n dX5_enough_229 rfl rfl ?_
      refine av_if_ne (tgt := 237) dX5_enough_230 (by decide) h.1 (fun c => ?_) (fun c => ?_)
      · have h := h.2.1 c
        refine av_iload_n dX5_enough_237 rfl rfl ?_
        refine av_iconst dX5_enough_238 ?_
        refine av_icmp_ne (tgt := 247) dX5_enough_239 (by decide) h.1 (by decide) (fun c => ?_) (fun c => ?_)
        · have h := h.2.1 c
          refine av_iload dX5_enough_247 rfl ?_
          exact av_ireturn dX5_enough_249 rfl h
        · have h := h.2.2 c
          refine av_iload dX5_enough_242 rfl ?_
          refine av_goto (tgt := 249) dX5_enough_244 (by decide) ?_
          exact av_ireturn dX5_enough_249 rfl h
      · have h := h.2.2 c
        refine av_iload_n dX5_enough_233 rfl rfl ?_
        refine av_goto (tgt := 249) dX5_enough_234 (by decide) ?_
        exact av_ireturn dX5_enough_249 rfl h
  · have h := h.2.2.2 c
    refine av_iconst dX5_enough_51 ?_
    refine av_istore (L' := [some (av_r 0), some (av_i x1), some (av_i x2), some (av_i x3), some (av_i x4), some (av_i x5), some (av_i x6), some (av_i 0), none, none, none]) dX5_enough_52 (by decide) rfl ?_
    refine av_iconst dX5_enough_54 ?_
    refine av_istore (L' := [some (av_r 0), some (av_i x1), some (av_i x2), some (av_i x3), some (av_i x4), some (av_i x5), some (av_i x6), some (av_i 0), some (av_i 0), none, none]) dX5_enough_55 (by decide) rfl ?_
    refine av_aload_n dX5_enough_57 rfl rfl ?_
    refine av_getr (k := 8) dX5_enough_58 rfl rfl iuX5 (by decide) rfl wF_X5_28 rfl ?_
    refine av_iconst dX5_enough_61 ?_
    refine av_iald (x := (σ 7 2)) dX5_enough_62 rfl (by decide) (by decide) rfl ?_
    refine av_istore (L' := [some (av_r 0), some (av_i x1), some (av_i x2), some (av_i x3), some (av_i x4), some (av_i x5), some (av_i x6), some (av_i 0), some (av_i 0), some (av_i (σ 7 2)), none]) dX5_enough_63 (by decide) rfl ?_
    refine av_iconst dX5_enough_65 ?_
    refine av_istore (L' := [some (av_r 0), some (av_i x1), some (av_i x2), some (av_i x3), some (av_i x4), some (av_i x5), some (av_i x6), some (av_i 0), some (av_i 0), some (av_i (σ 7 2)), some (av_i 0)]) dX5_enough_66 (by decide) rfl ?_
    exact h

theorem uX5_enough_68 {E : av_E} {σ : av_M} {Q : Option av_V → av_M → Prop} {x1 x2 x3 x4 x5 x6 x7 x8 x9 x10 : Int} (h : (rg x10) ∧ ((rg (σ 0 5)) ∧ ((((σ 0 5) ≤ x10) → (rg x7) ∧ ((rg (σ 7 1)) ∧ ((((σ 7 1) < x7) → av_W E mSH mX5_enough 40 [some (av_r 0), some (av_i x1), some (av_i x2), some (av_i x3), some (av_i x4), some (av_i x5), some (av_i (x6 + 1)), none, none, none, none] [] σ Q) ∧ ((x7 ≤ (σ 7 1)) → av_C E mSH mX5_fall [av_r 0] σ (fun v s1 => ∃ r1 : Int, v = some (av_i r1) ∧ ((rg ((σ 7 0) + x8)) ∧ ((rg r1) ∧ (((r1 ≤ ((σ 7 0) + x8)) → av_W E mSH mX5_enough 40 [some (av_r 0), some (av_i x1), some (av_i x2), some (av_i x3), some (av_i x4), some (av_i x5), some (av_i (x6 + 1)), none, none, none, none] [] s1 Q) ∧ ((((σ 7 0) + x8) < r1) → (rg (i_and x9 x1)) ∧ ((rg x1) ∧ (((¬ (i_and x9 x1) = x1) → av_W E mSH mX5_enough 40 [some (av_r 0), some (av_i x1), some (av_i x2), some (av_i x3), some (av_i x4), some (av_i x5), some (av_i (x6 + 1)), none, none, none, none] [] s1 Q) ∧ (((i_and x9 x1) = x1) → (rg x3) ∧ (((x3 < 0) → av_W E mSH mX5_enough 40 [some (av_r 0), some (av_i x1), some (av_i x2), some (av_i x6), some (av_i x7), some (av_i x8), some (av_i (x6 + 1)), none, none, none, none] [] s1 Q) ∧ ((0 ≤ x3) → (rg x7) ∧ ((rg x4) ∧ (((x7 < x4) → av_W E mSH mX5_enough 40 [some (av_r 0), some (av_i x1), some (av_i x2), some (av_i x6), some (av_i x7), some (av_i x8), some (av_i (x6 + 1)), none, none, none, none] [] s1 Q) ∧ ((x4 ≤ x7) → (rg x7) ∧ ((rg x4) ∧ (((¬ x7 = x4) → av_W E mSH mX5_enough 40 [some (av_r 0), some (av_i x1), some (av_i x2), some (av_i x3), some (av_i x4), some (av_i x5), some (av_i (x6 + 1)), none, none, none, none] [] s1 Q) ∧ ((x7 = x4) → (rg x8) ∧ ((rg x5) ∧ (((x5 ≤ x8) → av_W E mSH mX5_enough 40 [some (av_r 0), some (av_i x1), some (av_i x2), some (av_i x3), some (av_i x4), some (av_i x5), some (av_i (x6 + 1)), none, none, none, none] [] s1 Q) ∧ ((x8 < x5) → av_W E mSH mX5_enough 40 [some (av_r 0), some (av_i x1), some (av_i x2), some (av_i x6), some (av_i x7), some (av_i x8), some (av_i (x6 + 1)), none, none, none, none] [] s1 Q))))))))))))))))))))))) ∧ ((x10 < (σ 0 5)) → av_C E mSH mX5_has [av_i x6, av_i x10] σ (fun v s2 => ∃ r2 : Int, v = some (av_i r2) ∧ ((rg r2) ∧ (((r2 = 0) → av_W E mSH mX5_enough 68 [some (av_r 0), some (av_i x1), some (av_i x2), some (av_i x3), some (av_i x4), some (av_i x5), some (av_i x6), some (av_i x7), some (av_i x8), some (av_i x9), some (av_i (x10 + 1))] [] s2 Q) ∧ ((¬ r2 = 0) → (0 ≤ ((3 * x10) + 2) ∧ ((3 * x10) + 2) < 15) ∧ ((0 ≤ ((3 * x10) + 1) ∧ ((3 * x10) + 1) < 15) ∧ (av_C E mSH mX5_verbsBy [av_r 0, av_i x10] s2 (fun v s3 => ∃ r3 : Int, v = some (av_i r3) ∧ (av_W E mSH mX5_enough 68 [some (av_r 0), some (av_i x1), some (av_i x2), some (av_i x3), some (av_i x4), some (av_i x5), some (av_i x6), some (av_i (x7 + (s2 5 (((3 * x10) + 2)).toNat))), some (av_i (x8 + (s2 5 (((3 * x10) + 1)).toNat))), some (av_i (i_or x9 r3)), some (av_i (x10 + 1))] [] s3 Q)))))))))))) :
    av_W E mSH mX5_enough 68 [some (av_r 0), some (av_i x1), some (av_i x2), some (av_i x3), some (av_i x4), some (av_i x5), some (av_i x6), some (av_i x7), some (av_i x8), some (av_i x9), some (av_i x10)] [] σ Q := by
  refine av_iload dX5_enough_68 rfl ?_
  refine av_aload_n dX5_enough_70 rfl rfl ?_
  refine av_get (k := 5) (x := (σ 0 5)) dX5_enough_71 rfl rfl iuX5 (by decide) rfl wF_X5_106 rfl rfl ?_
  refine av_icmp_ge (tgt := 136) dX5_enough_74 (by decide) h.1 h.2.1 (fun c => ?_) (fun c => ?_)
  · have h := h.2.2.1 c
    refine av_iload dX5_enough_136 rfl ?_
    refine av_aload_n dX5_enough_138 rfl rfl ?_
    refine av_getr (k := 8) dX5_enough_139 rfl rfl iuX5 (by decide) rfl wF_X5_28 rfl ?_
    refine av_iconst dX5_enough_142 ?_
    refine av_iald (x := (σ 7 1)) dX5_enough_143 rfl (by decide) (by decide) rfl ?_
    refine av_icmp_gt (tgt := 175) dX5_enough_144 (by decide) h.1 h.2.1 (fun c => ?_) (fun c => ?_)
    · have h := h.2.2.1 c
      refine av_iconst dX5_enough_175 ?_
      refine av_istore (L' := [some (av_r 0), some (av_i x1), some (av_i x2), some (av_i x3), some (av_i x4), some (av_i x5), some (av_i x6), some (av_i x7), some (av_i x8), some (av_i x9), some (av_i 0)]) dX5_enough_176 (by decide) rfl ?_
      refine av_iload dX5_enough_178 rfl ?_
      refine av_if_eq (tgt := 219) dX5_enough_180 (by decide) (by decide) (fun _ => ?_) (fun c => absurd c (by decide))
      refine av_iinc (L' := [some (av_r 0), some (av_i x1), some (av_i x2), some (av_i x3), some (av_i x4), some (av_i x5), some (av_i (x6 + 1)), some (av_i x7), some (av_i x8), some (av_i x9), some (av_i 0)]) dX5_enough_219 rfl (by decide) rfl rfl ?_
      refine av_goto (tgt := 40) dX5_enough_222 (by decide) ?_
      refine av_res [true, true, true, true, true, true, true, false, false, false, false] (L' := [some (av_r 0), some (av_i x1), some (av_i x2), some (av_i x3), some (av_i x4), some (av_i x5), some (av_i (x6 + 1)), none, none, none, none]) rfl ?_
      exact h
    · have h := h.2.2.2 c
      refine av_aload_n dX5_enough_147 rfl rfl ?_
      refine av_getr (k := 8) dX5_enough_148 rfl rfl iuX5 (by decide) rfl wF_X5_28 rfl ?_
      refine av_iconst dX5_enough_151 ?_
      refine av_iald (x := (σ 7 0)) dX5_enough_152 rfl (by decide) (by decide) rfl ?_
      refine av_iload dX5_enough_153 rfl ?_
      refine av_iadd dX5_enough_155 ?_
      refine av_aload_n dX5_enough_156 rfl rfl ?_
      refine av_callV mX5_fall [] [av_i ((σ 7 0) + x8)] dX5_enough_157 rfl rfl rfl mbX5_fall rfl wI_X5_fall wS_X5_fall rfl wM_X5_241 ⟨Nat.le_of_ble_eq_true rfl, Nat.le_of_ble_eq_true rfl⟩ rfl (Nat.le_of_ble_eq_true rfl) (av_C.mono (fun v s1 hh => ?_) h)
      obtain ⟨r1, rfl, h⟩ := hh
      change av_W E mSH mX5_enough 160 [some (av_r 0), some (av_i x1), some (av_i x2), some (av_i x3), some (av_i x4), some (av_i x5), some (av_i x6), some (av_i x7), some (av_i x8), some (av_i x9), some (av_i x10)] [av_i r1, av_i ((σ 7 0) + x8)] s1 Q
      refine av_icmp_ge (tgt := 175) dX5_enough_160 (by decide) h.1 h.2.1 (fun c => ?_) (fun c => ?_)
      · have h := h.2.2.1 c
        refine av_iconst dX5_enough_175 ?_
        refine av_istore (L' := [some (av_r 0), some (av_i x1), some (av_i x2), some (av_i x3), some (av_i x4), some (av_i x5), some (av_i x6), some (av_i x7), some (av_i x8), some (av_i x9), some (av_i 0)]) dX5_enough_176 (by decide) rfl ?_
        refine av_iload dX5_enough_178 rfl ?_
        refine av_if_eq (tgt := 219) dX5_enough_180 (by decide) (by decide) (fun _ => ?_) (fun c => absurd c (by decide))
        refine av_iinc (L' := [some (av_r 0), some (av_i x1), some (av_i x2), some (av_i x3), some (av_i x4), some (av_i x5), some (av_i (x6 + 1)), some (av_i x7), some (av_i x8), some (av_i x9), some (av_i 0)]) dX5_enough_219 rfl (by decide) rfl rfl ?_
        refine av_goto (tgt := 40) dX5_enough_222 (by decide) ?_
        refine av_res [true, true, true, true, true, true, true, false, false, false, false] (L' := [some (av_r 0), some (av_i x1), some (av_i x2), some (av_i x3), some (av_i x4), some (av_i x5), some (av_i (x6 + 1)), none, none, none, none]) rfl ?_
        exact h
      · have h := h.2.2.2 c
        refine av_iload dX5_enough_163 rfl ?_
        refine av_iload_n dX5_enough_165 rfl rfl ?_
        refine av_iand dX5_enough_166 ?_
        refine av_iload_n dX5_enough_167 rfl rfl ?_
        refine av_icmp_ne (tgt := 175) dX5_enough_168 (by decide) h.1 h.2.1 (fun c => ?_) (fun c => ?_)
        · have h := h.2.2.1 c
          refine av_iconst dX5_enough_175 ?_
          refine av_istore (L' := [some (av_r 0), some (av_i x1), some (av_i x2), some (av_i x3), some (av_i x4), some (av_i x5), some (av_i x6), some (av_i x7), some (av_i x8), some (av_i x9), some (av_i 0)]) dX5_enough_176 (by decide) rfl ?_
          refine av_iload dX5_enough_178 rfl ?_
          refine av_if_eq (tgt := 219) dX5_enough_180 (by decide) (by decide) (fun _ => ?_) (fun c => absurd c (by decide))
          refine av_iinc (L' := [some (av_r 0), some (av_i x1), some (av_i x2), some (av_i x3), some (av_i x4), some (av_i x5), some (av_i (x6 + 1)), some (av_i x7), some (av_i x8), some (av_i x9), some (av_i 0)]) dX5_enough_219 rfl (by decide) rfl rfl ?_
          refine av_goto (tgt := 40) dX5_enough_222 (by decide) ?_
          refine av_res [true, true, true, true, true, true, true, false, false, false, false] (L' := [some (av_r 0), some (av_i x1), some (av_i x2), some (av_i x3), some (av_i x4), some (av_i x5), some (av_i (x6 + 1)), none, none, none, none]) rfl ?_
          exact h
        · have h := h.2.2.2 c
          refine av_iconst dX5_enough_171 ?_
          refine av_goto (tgt := 176) dX5_enough_172 (by decide) ?_
          refine av_istore (L' := [some (av_r 0), some (av_i x1), some (av_i x2), some (av_i x3), some (av_i x4), some (av_i x5), some (av_i x6), some (av_i x7), some (av_i x8), some (av_i x9), some (av_i 1)]) dX5_enough_176 (by decide) rfl ?_
          refine av_iload dX5_enough_178 rfl ?_
          refine av_if_eq (tgt := 219) dX5_enough_180 (by decide) (by decide) (fun c => absurd c (by decide)) (fun _ => ?_)
          refine av_iload_n dX5_enough_183 rfl rfl ?_
          refine av_if_lt (tgt := 208) dX5_enough_184 (by decide) h.1 (fun c => ?_) (fun c => ?_)
          · have h := h.2.1 c
            refine av_iload dX5_enough_208 rfl ?_
            refine av_istore_n (L' := [some (av_r 0), some (av_i x1), some (av_i x2), some (av_i x6), some (av_i x4), some (av_i x5), some (av_i x6), some (av_i x7), some (av_i x8), some (av_i x9), some (av_i 1)]) dX5_enough_210 rfl (by decide) rfl ?_
            refine av_iload dX5_enough_211 rfl ?_
            refine av_istore (L' := [some (av_r 0), some (av_i x1), some (av_i x2), some (av_i x6), some (av_i x7), some (av_i x5), some (av_i x6), some (av_i x7), some (av_i x8), some (av_i x9), some (av_i 1)]) dX5_enough_213 (by decide) rfl ?_
            refine av_iload dX5_enough_215 rfl ?_
            refine av_istore (L' := [some (av_r 0), some (av_i x1), some (av_i x2), some (av_i x6), some (av_i x7), some (av_i x8), some (av_i x6), some (av_i x7), some (av_i x8), some (av_i x9), some (av_i 1)]) dX5_enough_217 (by decide) rfl ?_
            refine av_iinc (L' := [some (av_r 0), some (av_i x1), some (av_i x2), some (av_i x6), some (av_i x7), some (av_i x8), some (av_i (x6 + 1)), some (av_i x7), some (av_i x8), some (av_i x9), some (av_i 1)]) dX5_enough_219 rfl (by decide) rfl rfl ?_
            refine av_goto (tgt := 40) dX5_enough_222 (by decide) ?_
            refine av_res [true, true, true, true, true, true, true, false, false, false, false] (L' := [some (av_r 0), some (av_i x1), some (av_i x2), some (av_i x6), some (av_i x7), some (av_i x8), some (av_i (x6 + 1)), none, none, none, none]) rfl ?_
            exact h
          · have h := h.2.2 c
            refine av_iload dX5_enough_187 rfl ?_
            refine av_iload dX5_enough_189 rfl ?_
            refine av_icmp_lt (tgt := 208) dX5_enough_191 (by decide) h.1 h.2.1 (fun c => ?_) (fun c => ?_)
            · have h := h.2.2.1 c
              refine av_iload dX5_enough_208 rfl ?_
              refine av_istore_n (L' := [some (av_r 0), some (av_i x1), some (av_i x2), some (av_i x6), some (av_i x4), some (av_i x5), some (av_i x6), some (av_i x7), some (av_i x8), some (av_i x9), some (av_i 1)]) dX5_enough_210 rfl (by decide) rfl ?_
              refine av_iload dX5_enough_211 rfl ?_
              refine av_istore (L' := [some (av_r 0), some (av_i x1), some (av_i x2), some (av_i x6), some (av_i x7), some (av_i x5), some (av_i x6), some (av_i x7), some (av_i x8), some (av_i x9), some (av_i 1)]) dX5_enough_213 (by decide) rfl ?_
              refine av_iload dX5_enough_215 rfl ?_
              refine av_istore (L' := [some (av_r 0), some (av_i x1), some (av_i x2), some (av_i x6), some (av_i x7), some (av_i x8), some (av_i x6), some (av_i x7), some (av_i x8), some (av_i x9), some (av_i 1)]) dX5_enough_217 (by decide) rfl ?_
              refine av_iinc (L' := [some (av_r 0), some (av_i x1), some (av_i x2), some (av_i x6), some (av_i x7), some (av_i x8), some (av_i (x6 + 1)), some (av_i x7), some (av_i x8), some (av_i x9), some (av_i 1)]) dX5_enough_219 rfl (by decide) rfl rfl ?_
              refine av_goto (tgt := 40) dX5_enough_222 (by decide) ?_
              refine av_res [true, true, true, true, true, true, true, false, false, false, false] (L' := [some (av_r 0), some (av_i x1), some (av_i x2), some (av_i x6), some (av_i x7), some (av_i x8), some (av_i (x6 + 1)), none, none, none, none]) rfl ?_
              exact h
            · have h := h.2.2.2 c
              refine av_iload dX5_enough_194 rfl ?_
              refine av_iload dX5_enough_196 rfl ?_
              refine av_icmp_ne (tgt := 219) dX5_enough_198 (by decide) h.1 h.2.1 (fun c => ?_) (fun c => ?_)
              · have h := h.2.2.1 c
                refine av_iinc (L' := [some (av_r 0), some (av_i x1), some (av_i x2), some (av_i x3), some (av_i x4), some (av_i x5), some (av_i (x6 + 1)), some (av_i x7), some (av_i x8), some (av_i x9), some (av_i 1)]) dX5_enough_219 rfl (by decide) rfl rfl ?_
                refine av_goto (tgt := 40) dX5_enough_222 (by decide) ?_
                refine av_res [true, true, true, true, true, true, true, false, false, false, false] (L' := [some (av_r 0), some (av_i x1), some (av_i x2), some (av_i x3), some (av_i x4), some (av_i x5), some (av_i (x6 + 1)), none, none, none, none]) rfl ?_
                exact h
              · have h := h.2.2.2 c
                refine av_iload dX5_enough_201 rfl ?_
                refine av_iload dX5_enough_203 rfl ?_
                refine av_icmp_ge (tgt := 219) dX5_enough_205 (by decide) h.1 h.2.1 (fun c => ?_) (fun c => ?_)
                · have h := h.2.2.1 c
                  refine av_iinc (L' := [some (av_r 0), some (av_i x1), some (av_i x2), some (av_i x3), some (av_i x4), some (av_i x5), some (av_i (x6 + 1)), some (av_i x7), some (av_i x8), some (av_i x9), some (av_i 1)]) dX5_enough_219 rfl (by decide) rfl rfl ?_
                  refine av_goto (tgt := 40) dX5_enough_222 (by decide) ?_
                  refine av_res [true, true, true, true, true, true, true, false, false, false, false] (L' := [some (av_r 0), some (av_i x1), some (av_i x2), some (av_i x3), some (av_i x4), some (av_i x5), some (av_i (x6 + 1)), none, none, none, none]) rfl ?_
                  exact h
                · have h := h.2.2.2 c
                  refine av_iload dX5_enough_208 rfl ?_
                  refine av_istore_n (L' := [some (av_r 0), some (av_i x1), some (av_i x2), some (av_i x6), some (av_i x4), some (av_i x5), some (av_i x6), some (av_i x7), some (av_i x8), some (av_i x9), some (av_i 1)]) dX5_enough_210 rfl (by decide) rfl ?_
                  refine av_iload dX5_enough_211 rfl ?_
                  refine av_istore (L' := [some (av_r 0), some (av_i x1), some (av_i x2), some (av_i x6), some (av_i x7), some (av_i x5), some (av_i x6), some (av_i x7), some (av_i x8), some (av_i x9), some (av_i 1)]) dX5_enough_213 (by decide) rfl ?_
                  refine av_iload dX5_enough_215 rfl ?_
                  refine av_istore (L' := [some (av_r 0), some (av_i x1), some (av_i x2), some (av_i x6), some (av_i x7), some (av_i x8), some (av_i x6), some (av_i x7), some (av_i x8), some (av_i x9), some (av_i 1)]) dX5_enough_217 (by decide) rfl ?_
                  refine av_iinc (L' := [some (av_r 0), some (av_i x1), some (av_i x2), some (av_i x6), some (av_i x7), some (av_i x8), some (av_i (x6 + 1)), some (av_i x7), some (av_i x8), some (av_i x9), some (av_i 1)]) dX5_enough_219 rfl (by decide) rfl rfl ?_
                  refine av_goto (tgt := 40) dX5_enough_222 (by decide) ?_
                  refine av_res [true, true, true, true, true, true, true, false, false, false, false] (L' := [some (av_r 0), some (av_i x1), some (av_i x2), some (av_i x6), some (av_i x7), some (av_i x8), some (av_i (x6 + 1)), none, none, none, none]) rfl ?_
                  exact h
  · have h := h.2.2.2 c
    refine av_iload dX5_enough_77 rfl ?_
    refine av_iload dX5_enough_79 rfl ?_
    refine av_callS mX5_has [av_i x6, av_i x10] [] dX5_enough_81 mbX5_has rfl wT_X5_has rfl wM_X5_192 ⟨Nat.le_of_ble_eq_true rfl, Nat.le_of_ble_eq_true rfl⟩ rfl (Nat.le_of_ble_eq_true rfl) (av_C.mono (fun v s2 hh => ?_) h)
    obtain ⟨r2, rfl, h⟩ := hh
    change av_W E mSH mX5_enough 84 [some (av_r 0), some (av_i x1), some (av_i x2), some (av_i x3), some (av_i x4), some (av_i x5), some (av_i x6), some (av_i x7), some (av_i x8), some (av_i x9), some (av_i x10)] [av_i r2] s2 Q
    refine av_if_eq (tgt := 130) dX5_enough_84 (by decide) h.1 (fun c => ?_) (fun c => ?_)
    · have h := h.2.1 c
      refine av_iinc (L' := [some (av_r 0), some (av_i x1), some (av_i x2), some (av_i x3), some (av_i x4), some (av_i x5), some (av_i x6), some (av_i x7), some (av_i x8), some (av_i x9), some (av_i (x10 + 1))]) dX5_enough_130 rfl (by decide) rfl rfl ?_
      refine av_goto (tgt := 68) dX5_enough_133 (by decide) ?_
      exact h
    · have h := h.2.2 c
      refine av_iload dX5_enough_87 rfl ?_
      refine av_aload_n dX5_enough_89 rfl rfl ?_
      refine av_getr (k := 6) dX5_enough_90 rfl rfl iuX5 (by decide) rfl wF_X5_22 rfl ?_
      refine av_iconst dX5_enough_93 ?_
      refine av_iload dX5_enough_94 rfl ?_
      refine av_imul dX5_enough_96 ?_
      refine av_iconst dX5_enough_97 ?_
      refine av_iadd dX5_enough_98 ?_
      refine av_iald (x := (s2 5 (((3 * x10) + 2)).toNat)) dX5_enough_99 rfl (by decide) h.1 rfl ?_
      refine av_iadd dX5_enough_100 ?_
      refine av_istore (L' := [some (av_r 0), some (av_i x1), some (av_i x2), some (av_i x3), some (av_i x4), some (av_i x5), some (av_i x6), some (av_i (x7 + (s2 5 (((3 * x10) + 2)).toNat))), some (av_i x8), some (av_i x9), some (av_i x10)]) dX5_enough_101 (by decide) rfl ?_
      refine av_iload dX5_enough_103 rfl ?_
      refine av_aload_n dX5_enough_105 rfl rfl ?_
      refine av_getr (k := 6) dX5_enough_106 rfl rfl iuX5 (by decide) rfl wF_X5_22 rfl ?_
      refine av_iconst dX5_enough_109 ?_
      refine av_iload dX5_enough_110 rfl ?_
      refine av_imul dX5_enough_112 ?_
      refine av_iconst dX5_enough_113 ?_
      refine av_iadd dX5_enough_114 ?_
      refine av_iald (x := (s2 5 (((3 * x10) + 1)).toNat)) dX5_enough_115 rfl (by decide) h.2.1 rfl ?_
      refine av_iadd dX5_enough_116 ?_
      refine av_istore (L' := [some (av_r 0), some (av_i x1), some (av_i x2), some (av_i x3), some (av_i x4), some (av_i x5), some (av_i x6), some (av_i (x7 + (s2 5 (((3 * x10) + 2)).toNat))), some (av_i (x8 + (s2 5 (((3 * x10) + 1)).toNat))), some (av_i x9), some (av_i x10)]) dX5_enough_117 (by decide) rfl ?_
      refine av_iload dX5_enough_119 rfl ?_
      refine av_aload_n dX5_enough_121 rfl rfl ?_
      refine av_iload dX5_enough_122 rfl ?_
      refine av_callV mX5_verbsBy [av_i x10] [av_i x9] dX5_enough_124 rfl rfl rfl mbX5_verbsBy rfl wI_X5_verbsBy wS_X5_verbsBy rfl wM_X5_247 ⟨Nat.le_of_ble_eq_true rfl, Nat.le_of_ble_eq_true rfl⟩ rfl (Nat.le_of_ble_eq_true rfl) (av_C.mono (fun v s3 hh => ?_) h.2.2)
      obtain ⟨r3, rfl, h⟩ := hh
      change av_W E mSH mX5_enough 127 [some (av_r 0), some (av_i x1), some (av_i x2), some (av_i x3), some (av_i x4), some (av_i x5), some (av_i x6), some (av_i (x7 + (s2 5 (((3 * x10) + 2)).toNat))), some (av_i (x8 + (s2 5 (((3 * x10) + 1)).toNat))), some (av_i x9), some (av_i x10)] [av_i r3, av_i x9] s3 Q
      refine av_ior dX5_enough_127 ?_
      refine av_istore (L' := [some (av_r 0), some (av_i x1), some (av_i x2), some (av_i x3), some (av_i x4), some (av_i x5), some (av_i x6), some (av_i (x7 + (s2 5 (((3 * x10) + 2)).toNat))), some (av_i (x8 + (s2 5 (((3 * x10) + 1)).toNat))), some (av_i (i_or x9 r3)), some (av_i x10)]) dX5_enough_128 (by decide) rfl ?_
      refine av_iinc (L' := [some (av_r 0), some (av_i x1), some (av_i x2), some (av_i x3), some (av_i x4), some (av_i x5), some (av_i x6), some (av_i (x7 + (s2 5 (((3 * x10) + 2)).toNat))), some (av_i (x8 + (s2 5 (((3 * x10) + 1)).toNat))), some (av_i (i_or x9 r3)), some (av_i (x10 + 1))]) dX5_enough_130 rfl (by decide) rfl rfl ?_
      refine av_goto (tgt := 68) dX5_enough_133 (by decide) ?_
      exact h

theorem uX5_see {E : av_E} {σ : av_M} {Q : Option av_V → av_M → Prop} {a1 a2 : Int} (h : av_C E mSH mX5_isReader [av_r 0, av_i a1] σ (fun v s1 => ∃ r1 : Int, v = some (av_i r1) ∧ ((rg r1) ∧ (((r1 = 0) → Q (some (av_i (-1))) s1) ∧ ((¬ r1 = 0) → av_C E mSH mX5_in [av_i a2, av_i 0, av_i 600] s1 (fun v s2 => ∃ r2 : Int, v = some (av_i r2) ∧ ((rg r2) ∧ (((¬ r2 = 0) → (rg (s2 0 13)) ∧ (((¬ (s2 0 13) = 6) → (0 ≤ (2 * (s2 0 13)) ∧ (2 * (s2 0 13)) < 12) ∧ ((0 ≤ ((2 * (s2 0 13)) + 1) ∧ ((2 * (s2 0 13)) + 1) < 12) ∧ (Q (some (av_i ((s2 0 13) + 1))) (av_st (av_st (av_st s2 10 ((2 * (s2 0 13))).toNat a1) 10 (((2 * (s2 0 13)) + 1)).toNat a2) 0 13 ((s2 0 13) + 1))))) ∧ (((s2 0 13) = 6) → Q (some (av_i (-3))) s2))) ∧ ((r2 = 0) → Q (some (av_i (-1))) s2))))))))) :
    av_C E mSH mX5_see [av_r 0, av_i a1, av_i a2] σ Q := by
  refine av_C.ofW (L := [some (av_r 0), some (av_i a1), some (av_i a2)]) (by decide) (Nat.le_of_ble_eq_true rfl) rfl ?_
  refine av_aload_n dX5_see_0 rfl rfl ?_
  refine av_iload_n dX5_see_1 rfl rfl ?_
  refine av_callV mX5_isReader [av_i a1] [] dX5_see_2 rfl rfl rfl mbX5_isReader rfl wI_X5_isReader wS_X5_isReader rfl wM_X5_220 ⟨Nat.le_of_ble_eq_true rfl, Nat.le_of_ble_eq_true rfl⟩ rfl (Nat.le_of_ble_eq_true rfl) (av_C.mono (fun v s1 hh => ?_) h)
  obtain ⟨r1, rfl, h⟩ := hh
  change av_W E mSH mX5_see 5 [some (av_r 0), some (av_i a1), some (av_i a2)] [av_i r1] s1 Q
  refine av_if_eq (tgt := 19) dX5_see_5 (by decide) h.1 (fun c => ?_) (fun c => ?_)
  · have h := h.2.1 c
    refine av_iconst dX5_see_19 ?_
    exact av_ireturn dX5_see_20 rfl h
  · have h := h.2.2 c
    refine av_iload_n dX5_see_8 rfl rfl ?_
    refine av_iconst dX5_see_9 ?_
    refine av_sipush dX5_see_10 rfl ?_
    refine av_callS mX5_in [av_i a2, av_i 0, av_i 600] [] dX5_see_13 mbX5_in rfl wT_X5_in rfl wM_X5_109 ⟨Nat.le_of_ble_eq_true rfl, Nat.le_of_ble_eq_true rfl⟩ rfl (Nat.le_of_ble_eq_true rfl) (av_C.mono (fun v s2 hh => ?_) h)
    obtain ⟨r2, rfl, h⟩ := hh
    change av_W E mSH mX5_see 16 [some (av_r 0), some (av_i a1), some (av_i a2)] [av_i r2] s2 Q
    refine av_if_ne (tgt := 21) dX5_see_16 (by decide) h.1 (fun c => ?_) (fun c => ?_)
    · have h := h.2.1 c
      refine av_aload_n dX5_see_21 rfl rfl ?_
      refine av_get (k := 13) (x := (s2 0 13)) dX5_see_22 rfl rfl iuX5 (by decide) rfl wF_X5_170 rfl rfl ?_
      refine av_bipush dX5_see_25 rfl ?_
      refine av_icmp_ne (tgt := 33) dX5_see_27 (by decide) h.1 (by decide) (fun c => ?_) (fun c => ?_)
      · have h := h.2.1 c
        refine av_aload_n dX5_see_33 rfl rfl ?_
        refine av_getr (k := 14) dX5_see_34 rfl rfl iuX5 (by decide) rfl wF_X5_37 rfl ?_
        refine av_iconst dX5_see_37 ?_
        refine av_aload_n dX5_see_38 rfl rfl ?_
        refine av_get (k := 13) (x := (s2 0 13)) dX5_see_39 rfl rfl iuX5 (by decide) rfl wF_X5_170 rfl rfl ?_
        refine av_imul dX5_see_42 ?_
        refine av_iload_n dX5_see_43 rfl rfl ?_
        refine av_iast dX5_see_44 rfl (by decide) h.1 ?_
        refine av_aload_n dX5_see_45 rfl rfl ?_
        refine av_getr (k := 14) dX5_see_46 rfl rfl iuX5 (by decide) rfl wF_X5_37 rfl ?_
        refine av_iconst dX5_see_49 ?_
        refine av_aload_n dX5_see_50 rfl rfl ?_
        refine av_get (k := 13) (x := (s2 0 13)) dX5_see_51 rfl rfl iuX5 (by decide) rfl wF_X5_170 rfl rfl ?_
        refine av_imul dX5_see_54 ?_
        refine av_iconst dX5_see_55 ?_
        refine av_iadd dX5_see_56 ?_
        refine av_iload_n dX5_see_57 rfl rfl ?_
        refine av_iast dX5_see_58 rfl (by decide) h.2.1 ?_
        refine av_aload_n dX5_see_59 rfl rfl ?_
        refine av_dup dX5_see_60 (fun _ h9 => nomatch h9) ?_
        refine av_get (k := 13) (x := (s2 0 13)) dX5_see_61 rfl rfl iuX5 (by decide) rfl wF_X5_170 rfl rfl ?_
        refine av_iconst dX5_see_64 ?_
        refine av_iadd dX5_see_65 ?_
        refine av_put (k := 13) tyX5 dX5_see_66 rfl rfl iuX5 tyX5_ok nmX5 (by decide) rfl wF_X5_170 rfl rfl rfl ?_
        refine av_aload_n dX5_see_69 rfl rfl ?_
        refine av_get (k := 13) (x := ((s2 0 13) + 1)) dX5_see_70 rfl rfl iuX5 (by decide) rfl wF_X5_170 rfl rfl ?_
        exact av_ireturn dX5_see_73 rfl h.2.2
      · have h := h.2.2 c
        refine av_bipush dX5_see_30 rfl ?_
        exact av_ireturn dX5_see_32 rfl h
    · have h := h.2.2 c
      refine av_iconst dX5_see_19 ?_
      exact av_ireturn dX5_see_20 rfl h

theorem uX5_forget {E : av_E} {σ : av_M} {Q : Option av_V → av_M → Prop} (h : Q (some (av_i (σ 0 13))) (av_st σ 0 13 0)) :
    av_C E mSH mX5_forget [av_r 0] σ Q := by
  refine av_C.ofW (L := [some (av_r 0), none]) (by decide) (Nat.le_of_ble_eq_true rfl) rfl ?_
  refine av_aload_n dX5_forget_0 rfl rfl ?_
  refine av_get (k := 13) (x := (σ 0 13)) dX5_forget_1 rfl rfl iuX5 (by decide) rfl wF_X5_170 rfl rfl ?_
  refine av_istore_n (L' := [some (av_r 0), some (av_i (σ 0 13))]) dX5_forget_4 rfl (by decide) rfl ?_
  refine av_aload_n dX5_forget_5 rfl rfl ?_
  refine av_iconst dX5_forget_6 ?_
  refine av_put (k := 13) tyX5 dX5_forget_7 rfl rfl iuX5 tyX5_ok nmX5 (by decide) rfl wF_X5_170 rfl rfl rfl ?_
  refine av_iload_n dX5_forget_10 rfl rfl ?_
  exact av_ireturn dX5_forget_11 rfl h

theorem uX5_isSo {E : av_E} {σ : av_M} {Q : Option av_V → av_M → Prop} {a1 a2 : Int} (h : av_W E mSH mX5_isSo 5 [some (av_r 0), some (av_i a1), some (av_i a2), some (av_i 1), some (av_i 0)] [] σ Q) :
    av_C E mSH mX5_isSo [av_r 0, av_i a1, av_i a2] σ Q := by
  refine av_C.ofW (L := [some (av_r 0), some (av_i a1), some (av_i a2), none, none]) (by decide) (Nat.le_of_ble_eq_true rfl) rfl ?_
  refine av_iconst dX5_isSo_0 ?_
  refine av_istore_n (L' := [some (av_r 0), some (av_i a1), some (av_i a2), some (av_i 1), none]) dX5_isSo_1 rfl (by decide) rfl ?_
  refine av_iconst dX5_isSo_2 ?_
  refine av_istore (L' := [some (av_r 0), some (av_i a1), some (av_i a2), some (av_i 1), some (av_i 0)]) dX5_isSo_3 (by decide) rfl ?_
  exact h

theorem uX5_isSo_5 {E : av_E} {σ : av_M} {Q : Option av_V → av_M → Prop} {x1 x2 x3 x4 : Int} (h : (rg x4) ∧ ((rg (σ 0 13)) ∧ ((((σ 0 13) ≤ x4) → (x3 = 0 ∨ x3 = 1) ∧ (Q (some (av_i x3)) σ)) ∧ ((x4 < (σ 0 13)) → (rg x3) ∧ (((x3 = 0) → (x3 = 0 ∨ x3 = 1) ∧ (Q (some (av_i x3)) σ)) ∧ ((¬ x3 = 0) → av_C E mSH mX5_isRow [av_r 0, av_i x1, av_i x2] σ (fun v s1 => v = none ∧ ((0 ≤ (2 * x4) ∧ (2 * x4) < 12) ∧ (av_C E mSH mX5_all [av_r 0] s1 (fun v s2 => ∃ r2 : Int, v = some (av_i r2) ∧ (av_C E mSH mX5_begins [av_r 0, av_i (s1 10 ((2 * x4)).toNat), av_i r2] s2 (fun v s3 => v = none ∧ (av_C E mSH mX5_isTelling [av_r 0] s3 (fun v s4 => ∃ r4 : Int, v = some (av_i r4) ∧ ((rg r4) ∧ (((r4 = 0) → av_W E mSH mX5_isSo 5 [some (av_r 0), some (av_i x1), some (av_i x2), some (av_i 0), some (av_i (x4 + 1))] [] s4 Q) ∧ ((¬ r4 = 0) → (0 ≤ ((2 * x4) + 1) ∧ ((2 * x4) + 1) < 12) ∧ ((rg (s4 0 38)) ∧ ((rg (s4 10 (((2 * x4) + 1)).toNat)) ∧ (((¬ (s4 0 38) = (s4 10 (((2 * x4) + 1)).toNat)) → av_W E mSH mX5_isSo 5 [some (av_r 0), some (av_i x1), some (av_i x2), some (av_i 0), some (av_i (x4 + 1))] [] s4 Q) ∧ (((s4 0 38) = (s4 10 (((2 * x4) + 1)).toNat)) → av_W E mSH mX5_isSo 5 [some (av_r 0), some (av_i x1), some (av_i x2), some (av_i 1), some (av_i (x4 + 1))] [] s4 Q))))))))))))))))))))) :
    av_W E mSH mX5_isSo 5 [some (av_r 0), some (av_i x1), some (av_i x2), some (av_i x3), some (av_i x4)] [] σ Q := by
  refine av_iload dX5_isSo_5 rfl ?_
  refine av_aload_n dX5_isSo_7 rfl rfl ?_
  refine av_get (k := 13) (x := (σ 0 13)) dX5_isSo_8 rfl rfl iuX5 (by decide) rfl wF_X5_170 rfl rfl ?_
  refine av_icmp_ge (tgt := 78) dX5_isSo_11 (by decide) h.1 h.2.1 (fun c => ?_) (fun c => ?_)
  · have h := h.2.2.1 c
    refine av_iload_n dX5_isSo_78 rfl rfl ?_
    exact av_zreturn dX5_isSo_79 rfl h.1 h.2
  · have h := h.2.2.2 c
    refine av_iload_n dX5_isSo_14 rfl rfl ?_
    refine av_if_eq (tgt := 78) dX5_isSo_15 (by decide) h.1 (fun c => ?_) (fun c => ?_)
    · have h := h.2.1 c
      refine av_iload_n dX5_isSo_78 rfl rfl ?_
      exact av_zreturn dX5_isSo_79 rfl h.1 h.2
    · have h := h.2.2 c
      refine av_aload_n dX5_isSo_18 rfl rfl ?_
      refine av_iload_n dX5_isSo_19 rfl rfl ?_
      refine av_iload_n dX5_isSo_20 rfl rfl ?_
      refine av_callV mX5_isRow [av_i x1, av_i x2] [] dX5_isSo_21 rfl rfl rfl mbX5_isRow rfl wI_X5_isRow wS_X5_isRow rfl wM_X5_260 ⟨Nat.le_of_ble_eq_true rfl, Nat.le_of_ble_eq_true rfl⟩ rfl (Nat.le_of_ble_eq_true rfl) (av_C.mono (fun v s1 hh => ?_) h)
      obtain ⟨rfl, h⟩ := hh
      change av_W E mSH mX5_isSo 24 [some (av_r 0), some (av_i x1), some (av_i x2), some (av_i x3), some (av_i x4)] [] s1 Q
      refine av_aload_n dX5_isSo_24 rfl rfl ?_
      refine av_aload_n dX5_isSo_25 rfl rfl ?_
      refine av_getr (k := 14) dX5_isSo_26 rfl rfl iuX5 (by decide) rfl wF_X5_37 rfl ?_
      refine av_iconst dX5_isSo_29 ?_
      refine av_iload dX5_isSo_30 rfl ?_
      refine av_imul dX5_isSo_32 ?_
      refine av_iald (x := (s1 10 ((2 * x4)).toNat)) dX5_isSo_33 rfl (by decide) h.1 rfl ?_
      refine av_aload_n dX5_isSo_34 rfl rfl ?_
      refine av_callV mX5_all [] [av_i (s1 10 ((2 * x4)).toNat), av_r 0] dX5_isSo_35 rfl rfl rfl mbX5_all rfl wI_X5_all wS_X5_all rfl wM_X5_223 ⟨Nat.le_of_ble_eq_true rfl, Nat.le_of_ble_eq_true rfl⟩ rfl (Nat.le_of_ble_eq_true rfl) (av_C.mono (fun v s2 hh => ?_) h.2)
      obtain ⟨r2, rfl, h⟩ := hh
      change av_W E mSH mX5_isSo 38 [some (av_r 0), some (av_i x1), some (av_i x2), some (av_i x3), some (av_i x4)] [av_i r2, av_i (s1 10 ((2 * x4)).toNat), av_r 0] s2 Q
      refine av_callV mX5_begins [av_i (s1 10 ((2 * x4)).toNat), av_i r2] [] dX5_isSo_38 rfl rfl rfl mbX5_begins rfl wI_X5_begins wS_X5_begins rfl wM_X5_185 ⟨Nat.le_of_ble_eq_true rfl, Nat.le_of_ble_eq_true rfl⟩ rfl (Nat.le_of_ble_eq_true rfl) (av_C.mono (fun v s3 hh => ?_) h)
      obtain ⟨rfl, h⟩ := hh
      change av_W E mSH mX5_isSo 41 [some (av_r 0), some (av_i x1), some (av_i x2), some (av_i x3), some (av_i x4)] [] s3 Q
      refine av_aload_n dX5_isSo_41 rfl rfl ?_
      refine av_callV mX5_isTelling [] [] dX5_isSo_42 rfl rfl rfl mbX5_isTelling rfl wI_X5_isTelling wS_X5_isTelling rfl wM_X5_235 ⟨Nat.le_of_ble_eq_true rfl, Nat.le_of_ble_eq_true rfl⟩ rfl (Nat.le_of_ble_eq_true rfl) (av_C.mono (fun v s4 hh => ?_) h)
      obtain ⟨r4, rfl, h⟩ := hh
      change av_W E mSH mX5_isSo 45 [some (av_r 0), some (av_i x1), some (av_i x2), some (av_i x3), some (av_i x4)] [av_i r4] s4 Q
      refine av_if_eq (tgt := 70) dX5_isSo_45 (by decide) h.1 (fun c => ?_) (fun c => ?_)
      · have h := h.2.1 c
        refine av_iconst dX5_isSo_70 ?_
        refine av_istore_n (L' := [some (av_r 0), some (av_i x1), some (av_i x2), some (av_i 0), some (av_i x4)]) dX5_isSo_71 rfl (by decide) rfl ?_
        refine av_iinc (L' := [some (av_r 0), some (av_i x1), some (av_i x2), some (av_i 0), some (av_i (x4 + 1))]) dX5_isSo_72 rfl (by decide) rfl rfl ?_
        refine av_goto (tgt := 5) dX5_isSo_75 (by decide) ?_
        exact h
      · have h := h.2.2 c
        refine av_aload_n dX5_isSo_48 rfl rfl ?_
        refine av_get (k := 38) (x := (s4 0 38)) dX5_isSo_49 rfl rfl iuX5 (by decide) rfl wF_X5_211 rfl rfl ?_
        refine av_aload_n dX5_isSo_52 rfl rfl ?_
        refine av_getr (k := 14) dX5_isSo_53 rfl rfl iuX5 (by decide) rfl wF_X5_37 rfl ?_
        refine av_iconst dX5_isSo_56 ?_
        refine av_iload dX5_isSo_57 rfl ?_
        refine av_imul dX5_isSo_59 ?_
        refine av_iconst dX5_isSo_60 ?_
        refine av_iadd dX5_isSo_61 ?_
        refine av_iald (x := (s4 10 (((2 * x4) + 1)).toNat)) dX5_isSo_62 rfl (by decide) h.1 rfl ?_
        refine av_icmp_ne (tgt := 70) dX5_isSo_63 (by decide) h.2.1 h.2.2.1 (fun c => ?_) (fun c => ?_)
        · have h := h.2.2.2.1 c
          refine av_iconst dX5_isSo_70 ?_
          refine av_istore_n (L' := [some (av_r 0), some (av_i x1), some (av_i x2), some (av_i 0), some (av_i x4)]) dX5_isSo_71 rfl (by decide) rfl ?_
          refine av_iinc (L' := [some (av_r 0), some (av_i x1), some (av_i x2), some (av_i 0), some (av_i (x4 + 1))]) dX5_isSo_72 rfl (by decide) rfl rfl ?_
          refine av_goto (tgt := 5) dX5_isSo_75 (by decide) ?_
          exact h
        · have h := h.2.2.2.2 c
          refine av_iconst dX5_isSo_66 ?_
          refine av_goto (tgt := 71) dX5_isSo_67 (by decide) ?_
          refine av_istore_n (L' := [some (av_r 0), some (av_i x1), some (av_i x2), some (av_i 1), some (av_i x4)]) dX5_isSo_71 rfl (by decide) rfl ?_
          refine av_iinc (L' := [some (av_r 0), some (av_i x1), some (av_i x2), some (av_i 1), some (av_i (x4 + 1))]) dX5_isSo_72 rfl (by decide) rfl rfl ?_
          refine av_goto (tgt := 5) dX5_isSo_75 (by decide) ?_
          exact h

theorem uX5_wrote {E : av_E} {σ : av_M} {Q : Option av_V → av_M → Prop} {a1 : Int} (h : av_C E mSH mX5_in [av_i a1, av_i 0, av_i 1] σ (fun v s1 => ∃ r1 : Int, v = some (av_i r1) ∧ ((rg r1) ∧ (((¬ r1 = 0) → av_W E mSH mX5_wrote 22 [some (av_r 0), some (av_i a1), some (av_i 0), some (av_i (-4)), some (av_i 1), some (av_i 1), none] [] s1 Q) ∧ ((r1 = 0) → Q (some (av_i (-1))) s1))))) :
    av_C E mSH mX5_wrote [av_r 0, av_i a1] σ Q := by
  refine av_C.ofW (L := [some (av_r 0), some (av_i a1), none, none, none, none, none]) (by decide) (Nat.le_of_ble_eq_true rfl) rfl ?_
  refine av_iload_n dX5_wrote_0 rfl rfl ?_
  refine av_iconst dX5_wrote_1 ?_
  refine av_iconst dX5_wrote_2 ?_
  refine av_callS mX5_in [av_i a1, av_i 0, av_i 1] [] dX5_wrote_3 mbX5_in rfl wT_X5_in rfl wM_X5_109 ⟨Nat.le_of_ble_eq_true rfl, Nat.le_of_ble_eq_true rfl⟩ rfl (Nat.le_of_ble_eq_true rfl) (av_C.mono (fun v s1 hh => ?_) h)
  obtain ⟨r1, rfl, h⟩ := hh
  change av_W E mSH mX5_wrote 6 [some (av_r 0), some (av_i a1), none, none, none, none, none] [av_i r1] s1 Q
  refine av_if_ne (tgt := 11) dX5_wrote_6 (by decide) h.1 (fun c => ?_) (fun c => ?_)
  · have h := h.2.1 c
    refine av_iconst dX5_wrote_11 ?_
    refine av_istore_n (L' := [some (av_r 0), some (av_i a1), some (av_i 0), none, none, none, none]) dX5_wrote_12 rfl (by decide) rfl ?_
    refine av_bipush dX5_wrote_13 rfl ?_
    refine av_istore_n (L' := [some (av_r 0), some (av_i a1), some (av_i 0), some (av_i (-4)), none, none, none]) dX5_wrote_15 rfl (by decide) rfl ?_
    refine av_iconst dX5_wrote_16 ?_
    refine av_istore (L' := [some (av_r 0), some (av_i a1), some (av_i 0), some (av_i (-4)), some (av_i 1), none, none]) dX5_wrote_17 (by decide) rfl ?_
    refine av_iconst dX5_wrote_19 ?_
    refine av_istore (L' := [some (av_r 0), some (av_i a1), some (av_i 0), some (av_i (-4)), some (av_i 1), some (av_i 1), none]) dX5_wrote_20 (by decide) rfl ?_
    exact h
  · have h := h.2.2 c
    refine av_iconst dX5_wrote_9 ?_
    exact av_ireturn dX5_wrote_10 rfl h

theorem uX5_wrote_22 {E : av_E} {σ : av_M} {Q : Option av_V → av_M → Prop} {x1 x2 x3 x4 x5 : Int} (h : (rg x5) ∧ (((4 < x5) → (rg x1) ∧ (((¬ x1 = 0) → Q (some (av_i x3)) σ) ∧ ((x1 = 0) → Q (some (av_i x2)) σ))) ∧ ((x5 ≤ 4) → av_W E mSH mX5_wrote 37 [some (av_r 0), some (av_i x1), some (av_i x2), some (av_i x3), some (av_i (x4 * 5)), some (av_i x5), some (av_i 0)] [] σ Q))) :
    av_W E mSH mX5_wrote 22 [some (av_r 0), some (av_i x1), some (av_i x2), some (av_i x3), some (av_i x4), some (av_i x5), none] [] σ Q := by
  refine av_iload dX5_wrote_22 rfl ?_
  refine av_iconst dX5_wrote_24 ?_
  refine av_icmp_gt (tgt := 87) dX5_wrote_25 (by decide) h.1 (by decide) (fun c => ?_) (fun c => ?_)
  · have h := h.2.1 c
    refine av_iload_n dX5_wrote_87 rfl rfl ?_
    refine av_if_ne (tgt := 95) dX5_wrote_88 (by decide) h.1 (fun c => ?_) (fun c => ?_)
    · have h := h.2.1 c
      refine av_iload_n dX5_wrote_95 rfl rfl ?_
      exact av_ireturn dX5_wrote_96 rfl h
    · have h := h.2.2 c
      refine av_iload_n dX5_wrote_91 rfl rfl ?_
      refine av_goto (tgt := 96) dX5_wrote_92 (by decide) ?_
      exact av_ireturn dX5_wrote_96 rfl h
  · have h := h.2.2 c
    refine av_iload dX5_wrote_28 rfl ?_
    refine av_iconst dX5_wrote_30 ?_
    refine av_imul dX5_wrote_31 ?_
    refine av_istore (L' := [some (av_r 0), some (av_i x1), some (av_i x2), some (av_i x3), some (av_i (x4 * 5)), some (av_i x5), none]) dX5_wrote_32 (by decide) rfl ?_
    refine av_iconst dX5_wrote_34 ?_
    refine av_istore (L' := [some (av_r 0), some (av_i x1), some (av_i x2), some (av_i x3), some (av_i (x4 * 5)), some (av_i x5), some (av_i 0)]) dX5_wrote_35 (by decide) rfl ?_
    exact h

theorem uX5_wrote_37 {E : av_E} {σ : av_M} {Q : Option av_V → av_M → Prop} {x1 x2 x3 x4 x5 x6 : Int} (h : (rg x6) ∧ ((rg x4) ∧ (((x4 ≤ x6) → av_W E mSH mX5_wrote 22 [some (av_r 0), some (av_i x1), some (av_i x2), some (av_i x3), some (av_i x4), some (av_i (x5 + 1)), none] [] σ Q) ∧ ((x6 < x4) → av_C E mSH mX5_isSo [av_r 0, av_i x6, av_i x5] σ (fun v s1 => ∃ r1 : Int, v = some (av_i r1) ∧ ((rg r1) ∧ (((r1 = 0) → av_W E mSH mX5_wrote 37 [some (av_r 0), some (av_i x1), some (av_i x2), some (av_i x3), some (av_i x4), some (av_i x5), some (av_i (x6 + 1))] [] s1 Q) ∧ ((¬ r1 = 0) → (rg x2) ∧ (((¬ x2 = 0) → av_W E mSH mX5_wrote 37 [some (av_r 0), some (av_i x1), some (av_i (x2 + 1)), some (av_i x3), some (av_i x4), some (av_i x5), some (av_i (x6 + 1))] [] s1 Q) ∧ ((x2 = 0) → av_C E mSH mX5_numberOf [av_r 0, av_i x6, av_i x5] s1 (fun v s2 => ∃ r2 : Int, v = some (av_i r2) ∧ (av_W E mSH mX5_wrote 37 [some (av_r 0), some (av_i x1), some (av_i (x2 + 1)), some (av_i r2), some (av_i x4), some (av_i x5), some (av_i (x6 + 1))] [] s2 Q)))))))))))) :
    av_W E mSH mX5_wrote 37 [some (av_r 0), some (av_i x1), some (av_i x2), some (av_i x3), some (av_i x4), some (av_i x5), some (av_i x6)] [] σ Q := by
  refine av_iload dX5_wrote_37 rfl ?_
  refine av_iload dX5_wrote_39 rfl ?_
  refine av_icmp_ge (tgt := 81) dX5_wrote_41 (by decide) h.1 h.2.1 (fun c => ?_) (fun c => ?_)
  · have h := h.2.2.1 c
    refine av_iinc (L' := [some (av_r 0), some (av_i x1), some (av_i x2), some (av_i x3), some (av_i x4), some (av_i (x5 + 1)), some (av_i x6)]) dX5_wrote_81 rfl (by decide) rfl rfl ?_
    refine av_goto (tgt := 22) dX5_wrote_84 (by decide) ?_
    refine av_res [true, true, true, true, true, true, false] (L' := [some (av_r 0), some (av_i x1), some (av_i x2), some (av_i x3), some (av_i x4), some (av_i (x5 + 1)), none]) rfl ?_
    exact h
  · have h := h.2.2.2 c
    refine av_aload_n dX5_wrote_44 rfl rfl ?_
    refine av_iload dX5_wrote_45 rfl ?_
    refine av_iload dX5_wrote_47 rfl ?_
    refine av_callV mX5_isSo [av_i x6, av_i x5] [] dX5_wrote_49 rfl rfl rfl mbX5_isSo rfl wI_X5_isSo wS_X5_isSo rfl wM_X5_270 ⟨Nat.le_of_ble_eq_true rfl, Nat.le_of_ble_eq_true rfl⟩ rfl (Nat.le_of_ble_eq_true rfl) (av_C.mono (fun v s1 hh => ?_) h)
    obtain ⟨r1, rfl, h⟩ := hh
    change av_W E mSH mX5_wrote 52 [some (av_r 0), some (av_i x1), some (av_i x2), some (av_i x3), some (av_i x4), some (av_i x5), some (av_i x6)] [av_i r1] s1 Q
    refine av_if_eq (tgt := 75) dX5_wrote_52 (by decide) h.1 (fun c => ?_) (fun c => ?_)
    · have h := h.2.1 c
      refine av_iinc (L' := [some (av_r 0), some (av_i x1), some (av_i x2), some (av_i x3), some (av_i x4), some (av_i x5), some (av_i (x6 + 1))]) dX5_wrote_75 rfl (by decide) rfl rfl ?_
      refine av_goto (tgt := 37) dX5_wrote_78 (by decide) ?_
      exact h
    · have h := h.2.2 c
      refine av_iload_n dX5_wrote_55 rfl rfl ?_
      refine av_if_ne (tgt := 70) dX5_wrote_56 (by decide) h.1 (fun c => ?_) (fun c => ?_)
      · have h := h.2.1 c
        refine av_iload_n dX5_wrote_70 rfl rfl ?_
        refine av_istore_n (L' := [some (av_r 0), some (av_i x1), some (av_i x2), some (av_i x3), some (av_i x4), some (av_i x5), some (av_i x6)]) dX5_wrote_71 rfl (by decide) rfl ?_
        refine av_iinc (L' := [some (av_r 0), some (av_i x1), some (av_i (x2 + 1)), some (av_i x3), some (av_i x4), some (av_i x5), some (av_i x6)]) dX5_wrote_72 rfl (by decide) rfl rfl ?_
        refine av_iinc (L' := [some (av_r 0), some (av_i x1), some (av_i (x2 + 1)), some (av_i x3), some (av_i x4), some (av_i x5), some (av_i (x6 + 1))]) dX5_wrote_75 rfl (by decide) rfl rfl ?_
        refine av_goto (tgt := 37) dX5_wrote_78 (by decide) ?_
        exact h
      · have h := h.2.2 c
        refine av_aload_n dX5_wrote_59 rfl rfl ?_
        refine av_iload dX5_wrote_60 rfl ?_
        refine av_iload dX5_wrote_62 rfl ?_
        refine av_callV mX5_numberOf [av_i x6, av_i x5] [] dX5_wrote_64 rfl rfl rfl mbX5_numberOf rfl wI_X5_numberOf wS_X5_numberOf rfl wM_X5_266 ⟨Nat.le_of_ble_eq_true rfl, Nat.le_of_ble_eq_true rfl⟩ rfl (Nat.le_of_ble_eq_true rfl) (av_C.mono (fun v s2 hh => ?_) h)
        obtain ⟨r2, rfl, h⟩ := hh
        change av_W E mSH mX5_wrote 67 [some (av_r 0), some (av_i x1), some (av_i x2), some (av_i x3), some (av_i x4), some (av_i x5), some (av_i x6)] [av_i r2] s2 Q
        refine av_goto (tgt := 71) dX5_wrote_67 (by decide) ?_
        refine av_istore_n (L' := [some (av_r 0), some (av_i x1), some (av_i x2), some (av_i r2), some (av_i x4), some (av_i x5), some (av_i x6)]) dX5_wrote_71 rfl (by decide) rfl ?_
        refine av_iinc (L' := [some (av_r 0), some (av_i x1), some (av_i (x2 + 1)), some (av_i r2), some (av_i x4), some (av_i x5), some (av_i x6)]) dX5_wrote_72 rfl (by decide) rfl rfl ?_
        refine av_iinc (L' := [some (av_r 0), some (av_i x1), some (av_i (x2 + 1)), some (av_i r2), some (av_i x4), some (av_i x5), some (av_i (x6 + 1))]) dX5_wrote_75 rfl (by decide) rfl rfl ?_
        refine av_goto (tgt := 37) dX5_wrote_78 (by decide) ?_
        exact h

theorem uX5_forgotten {E : av_E} {σ : av_M} {Q : Option av_V → av_M → Prop} {a1 a2 a3 : Int} (h : av_C E mSH mX5_isReader [av_r 0, av_i a1] σ (fun v s1 => ∃ r1 : Int, v = some (av_i r1) ∧ ((rg r1) ∧ (((r1 = 0) → Q (some (av_i (-1))) s1) ∧ ((¬ r1 = 0) → av_C E mSH mX5_in [av_i a2, av_i 0, av_i 10] s1 (fun v s2 => ∃ r2 : Int, v = some (av_i r2) ∧ ((rg r2) ∧ (((r2 = 0) → Q (some (av_i (-1))) s2) ∧ ((¬ r2 = 0) → av_C E mSH mX5_in [av_i a3, av_i 0, av_i 1] s2 (fun v s3 => ∃ r3 : Int, v = some (av_i r3) ∧ ((rg r3) ∧ (((¬ r3 = 0) → av_W E mSH mX5_forgotten 38 [some (av_r 0), some (av_i a1), some (av_i a2), some (av_i a3), some (av_i 0), some (av_i 1), some (av_i 0), none, none] [] s3 Q) ∧ ((r3 = 0) → Q (some (av_i (-1))) s3))))))))))))) :
    av_C E mSH mX5_forgotten [av_r 0, av_i a1, av_i a2, av_i a3] σ Q := by
  refine av_C.ofW (L := [some (av_r 0), some (av_i a1), some (av_i a2), some (av_i a3), none, none, none, none, none]) (by decide) (Nat.le_of_ble_eq_true rfl) rfl ?_
  refine av_aload_n dX5_forgotten_0 rfl rfl ?_
  refine av_iload_n dX5_forgotten_1 rfl rfl ?_
  refine av_callV mX5_isReader [av_i a1] [] dX5_forgotten_2 rfl rfl rfl mbX5_isReader rfl wI_X5_isReader wS_X5_isReader rfl wM_X5_220 ⟨Nat.le_of_ble_eq_true rfl, Nat.le_of_ble_eq_true rfl⟩ rfl (Nat.le_of_ble_eq_true rfl) (av_C.mono (fun v s1 hh => ?_) h)
  obtain ⟨r1, rfl, h⟩ := hh
  change av_W E mSH mX5_forgotten 5 [some (av_r 0), some (av_i a1), some (av_i a2), some (av_i a3), none, none, none, none, none] [av_i r1] s1 Q
  refine av_if_eq (tgt := 27) dX5_forgotten_5 (by decide) h.1 (fun c => ?_) (fun c => ?_)
  · have h := h.2.1 c
    refine av_iconst dX5_forgotten_27 ?_
    exact av_ireturn dX5_forgotten_28 rfl h
  · have h := h.2.2 c
    refine av_iload_n dX5_forgotten_8 rfl rfl ?_
    refine av_iconst dX5_forgotten_9 ?_
    refine av_bipush dX5_forgotten_10 rfl ?_
    refine av_callS mX5_in [av_i a2, av_i 0, av_i 10] [] dX5_forgotten_12 mbX5_in rfl wT_X5_in rfl wM_X5_109 ⟨Nat.le_of_ble_eq_true rfl, Nat.le_of_ble_eq_true rfl⟩ rfl (Nat.le_of_ble_eq_true rfl) (av_C.mono (fun v s2 hh => ?_) h)
    obtain ⟨r2, rfl, h⟩ := hh
    change av_W E mSH mX5_forgotten 15 [some (av_r 0), some (av_i a1), some (av_i a2), some (av_i a3), none, none, none, none, none] [av_i r2] s2 Q
    refine av_if_eq (tgt := 27) dX5_forgotten_15 (by decide) h.1 (fun c => ?_) (fun c => ?_)
    · have h := h.2.1 c
      refine av_iconst dX5_forgotten_27 ?_
      exact av_ireturn dX5_forgotten_28 rfl h
    · have h := h.2.2 c
      refine av_iload_n dX5_forgotten_18 rfl rfl ?_
      refine av_iconst dX5_forgotten_19 ?_
      refine av_iconst dX5_forgotten_20 ?_
      refine av_callS mX5_in [av_i a3, av_i 0, av_i 1] [] dX5_forgotten_21 mbX5_in rfl wT_X5_in rfl wM_X5_109 ⟨Nat.le_of_ble_eq_true rfl, Nat.le_of_ble_eq_true rfl⟩ rfl (Nat.le_of_ble_eq_true rfl) (av_C.mono (fun v s3 hh => ?_) h)
      obtain ⟨r3, rfl, h⟩ := hh
      change av_W E mSH mX5_forgotten 24 [some (av_r 0), some (av_i a1), some (av_i a2), some (av_i a3), none, none, none, none, none] [av_i r3] s3 Q
      refine av_if_ne (tgt := 29) dX5_forgotten_24 (by decide) h.1 (fun c => ?_) (fun c => ?_)
      · have h := h.2.1 c
        refine av_iconst dX5_forgotten_29 ?_
        refine av_istore (L' := [some (av_r 0), some (av_i a1), some (av_i a2), some (av_i a3), some (av_i 0), none, none, none, none]) dX5_forgotten_30 (by decide) rfl ?_
        refine av_iconst dX5_forgotten_32 ?_
        refine av_istore (L' := [some (av_r 0), some (av_i a1), some (av_i a2), some (av_i a3), some (av_i 0), some (av_i 1), none, none, none]) dX5_forgotten_33 (by decide) rfl ?_
        refine av_iconst dX5_forgotten_35 ?_
        refine av_istore (L' := [some (av_r 0), some (av_i a1), some (av_i a2), some (av_i a3), some (av_i 0), some (av_i 1), some (av_i 0), none, none]) dX5_forgotten_36 (by decide) rfl ?_
        exact h
      · have h := h.2.2 c
        refine av_iconst dX5_forgotten_27 ?_
        exact av_ireturn dX5_forgotten_28 rfl h

theorem uX5_forgotten_38 {E : av_E} {σ : av_M} {Q : Option av_V → av_M → Prop} {x1 x2 x3 x4 x5 x6 : Int} (h : (rg x6) ∧ ((rg (σ 0 0)) ∧ ((((σ 0 0) ≤ x6) → av_W E mSH mX5_forgotten 63 [some (av_r 0), some (av_i x1), some (av_i x2), some (av_i x3), some (av_i x4), some (av_i x5), some (av_i 0), none, none] [] σ Q) ∧ ((x6 < (σ 0 0)) → av_W E mSH mX5_forgotten 38 [some (av_r 0), some (av_i x1), some (av_i x2), some (av_i x3), some (av_i x4), some (av_i (x5 * 10)), some (av_i (x6 + 1)), none, none] [] σ Q)))) :
    av_W E mSH mX5_forgotten 38 [some (av_r 0), some (av_i x1), some (av_i x2), some (av_i x3), some (av_i x4), some (av_i x5), some (av_i x6), none, none] [] σ Q := by
  refine av_iload dX5_forgotten_38 rfl ?_
  refine av_aload_n dX5_forgotten_40 rfl rfl ?_
  refine av_get (k := 0) (x := (σ 0 0)) dX5_forgotten_41 rfl rfl iuX5 (by decide) rfl wF_X5_157 rfl rfl ?_
  refine av_icmp_ge (tgt := 60) dX5_forgotten_44 (by decide) h.1 h.2.1 (fun c => ?_) (fun c => ?_)
  · have h := h.2.2.1 c
    refine av_iconst dX5_forgotten_60 ?_
    refine av_istore (L' := [some (av_r 0), some (av_i x1), some (av_i x2), some (av_i x3), some (av_i x4), some (av_i x5), some (av_i 0), none, none]) dX5_forgotten_61 (by decide) rfl ?_
    exact h
  · have h := h.2.2.2 c
    refine av_iload dX5_forgotten_47 rfl ?_
    refine av_bipush dX5_forgotten_49 rfl ?_
    refine av_imul dX5_forgotten_51 ?_
    refine av_istore (L' := [some (av_r 0), some (av_i x1), some (av_i x2), some (av_i x3), some (av_i x4), some (av_i (x5 * 10)), some (av_i x6), none, none]) dX5_forgotten_52 (by decide) rfl ?_
    refine av_iinc (L' := [some (av_r 0), some (av_i x1), some (av_i x2), some (av_i x3), some (av_i x4), some (av_i (x5 * 10)), some (av_i (x6 + 1)), none, none]) dX5_forgotten_54 rfl (by decide) rfl rfl ?_
    refine av_goto (tgt := 38) dX5_forgotten_57 (by decide) ?_
    exact h

theorem uX5_forgotten_63 {E : av_E} {σ : av_M} {Q : Option av_V → av_M → Prop} {x1 x2 x3 x4 x5 x6 : Int} (h : (rg x6) ∧ ((rg (i_shl 1 (σ 0 0))) ∧ ((((i_shl 1 (σ 0 0)) ≤ x6) → av_C E mSH mX5_lowest [av_i x4, av_i x5, av_i x3] σ (fun v s1 => ∃ r1 : Int, v = some (av_i r1) ∧ (Q (some (av_i r1)) s1))) ∧ ((x6 < (i_shl 1 (σ 0 0))) → av_W E mSH mX5_forgotten 80 [some (av_r 0), some (av_i x1), some (av_i x2), some (av_i x3), some (av_i x4), some (av_i x5), some (av_i x6), some (av_i 1), some (av_i 0)] [] σ Q)))) :
    av_W E mSH mX5_forgotten 63 [some (av_r 0), some (av_i x1), some (av_i x2), some (av_i x3), some (av_i x4), some (av_i x5), some (av_i x6), none, none] [] σ Q := by
  refine av_iload dX5_forgotten_63 rfl ?_
  refine av_iconst dX5_forgotten_65 ?_
  refine av_aload_n dX5_forgotten_66 rfl rfl ?_
  refine av_get (k := 0) (x := (σ 0 0)) dX5_forgotten_67 rfl rfl iuX5 (by decide) rfl wF_X5_157 rfl rfl ?_
  refine av_ishl dX5_forgotten_70 ?_
  refine av_icmp_ge (tgt := 150) dX5_forgotten_71 (by decide) h.1 h.2.1 (fun c => ?_) (fun c => ?_)
  · have h := h.2.2.1 c
    refine av_iload dX5_forgotten_150 rfl ?_
    refine av_iload dX5_forgotten_152 rfl ?_
    refine av_iload_n dX5_forgotten_154 rfl rfl ?_
    refine av_callS mX5_lowest [av_i x4, av_i x5, av_i x3] [] dX5_forgotten_155 mbX5_lowest rfl wT_X5_lowest rfl wM_X5_253 ⟨Nat.le_of_ble_eq_true rfl, Nat.le_of_ble_eq_true rfl⟩ rfl (Nat.le_of_ble_eq_true rfl) (av_C.mono (fun v s1 hh => ?_) h)
    obtain ⟨r1, rfl, h⟩ := hh
    change av_W E mSH mX5_forgotten 158 [some (av_r 0), some (av_i x1), some (av_i x2), some (av_i x3), some (av_i x4), some (av_i x5), some (av_i x6), none, none] [av_i r1] s1 Q
    exact av_ireturn dX5_forgotten_158 rfl h
  · have h := h.2.2.2 c
    refine av_iconst dX5_forgotten_74 ?_
    refine av_istore (L' := [some (av_r 0), some (av_i x1), some (av_i x2), some (av_i x3), some (av_i x4), some (av_i x5), some (av_i x6), some (av_i 1), none]) dX5_forgotten_75 (by decide) rfl ?_
    refine av_iconst dX5_forgotten_77 ?_
    refine av_istore (L' := [some (av_r 0), some (av_i x1), some (av_i x2), some (av_i x3), some (av_i x4), some (av_i x5), some (av_i x6), some (av_i 1), some (av_i 0)]) dX5_forgotten_78 (by decide) rfl ?_
    exact h

theorem uX5_forgotten_80 {E : av_E} {σ : av_M} {Q : Option av_V → av_M → Prop} {x1 x2 x3 x4 x5 x6 x7 x8 : Int} (h : (rg x8) ∧ ((rg (σ 0 0)) ∧ ((((σ 0 0) ≤ x8) → (rg x7) ∧ (((x7 ≤ 0) → av_W E mSH mX5_forgotten 63 [some (av_r 0), some (av_i x1), some (av_i x2), some (av_i x3), some (av_i (x4 + 0)), some (av_i x5), some (av_i (x6 + 1)), none, none] [] σ Q) ∧ ((0 < x7) → av_C E mSH mX5_isReadable [av_r 0, av_i x1, av_i x6] σ (fun v s1 => ∃ r1 : Int, v = some (av_i r1) ∧ ((rg r1) ∧ (((r1 = 0) → av_W E mSH mX5_forgotten 63 [some (av_r 0), some (av_i x1), some (av_i x2), some (av_i x3), some (av_i (x4 + 0)), some (av_i x5), some (av_i (x6 + 1)), none, none] [] s1 Q) ∧ ((¬ r1 = 0) → av_W E mSH mX5_forgotten 63 [some (av_r 0), some (av_i x1), some (av_i x2), some (av_i x3), some (av_i (x4 + x7)), some (av_i x5), some (av_i (x6 + 1)), none, none] [] s1 Q))))))) ∧ ((x8 < (σ 0 0)) → av_C E mSH mX5_has [av_i x6, av_i x8] σ (fun v s2 => ∃ r2 : Int, v = some (av_i r2) ∧ ((rg r2) ∧ (((r2 = 0) → av_W E mSH mX5_forgotten 80 [some (av_r 0), some (av_i x1), some (av_i x2), some (av_i x3), some (av_i x4), some (av_i x5), some (av_i x6), some (av_i (x7 * x2)), some (av_i (x8 + 1))] [] s2 Q) ∧ ((¬ r2 = 0) → av_W E mSH mX5_forgotten 80 [some (av_r 0), some (av_i x1), some (av_i x2), some (av_i x3), some (av_i x4), some (av_i x5), some (av_i x6), some (av_i (x7 * (10 - x2))), some (av_i (x8 + 1))] [] s2 Q)))))))) :
    av_W E mSH mX5_forgotten 80 [some (av_r 0), some (av_i x1), some (av_i x2), some (av_i x3), some (av_i x4), some (av_i x5), some (av_i x6), some (av_i x7), some (av_i x8)] [] σ Q := by
  refine av_iload dX5_forgotten_80 rfl ?_
  refine av_aload_n dX5_forgotten_82 rfl rfl ?_
  refine av_get (k := 0) (x := (σ 0 0)) dX5_forgotten_83 rfl rfl iuX5 (by decide) rfl wF_X5_157 rfl rfl ?_
  refine av_icmp_ge (tgt := 118) dX5_forgotten_86 (by decide) h.1 h.2.1 (fun c => ?_) (fun c => ?_)
  · have h := h.2.2.1 c
    refine av_iload dX5_forgotten_118 rfl ?_
    refine av_iload dX5_forgotten_120 rfl ?_
    refine av_if_le (tgt := 140) dX5_forgotten_122 (by decide) h.1 (fun c => ?_) (fun c => ?_)
    · have h := h.2.1 c
      refine av_iconst dX5_forgotten_140 ?_
      refine av_iadd dX5_forgotten_141 ?_
      refine av_istore (L' := [some (av_r 0), some (av_i x1), some (av_i x2), some (av_i x3), some (av_i (x4 + 0)), some (av_i x5), some (av_i x6), some (av_i x7), some (av_i x8)]) dX5_forgotten_142 (by decide) rfl ?_
      refine av_iinc (L' := [some (av_r 0), some (av_i x1), some (av_i x2), some (av_i x3), some (av_i (x4 + 0)), some (av_i x5), some (av_i (x6 + 1)), some (av_i x7), some (av_i x8)]) dX5_forgotten_144 rfl (by decide) rfl rfl ?_
      refine av_goto (tgt := 63) dX5_forgotten_147 (by decide) ?_
      refine av_res [true, true, true, true, true, true, true, false, false] (L' := [some (av_r 0), some (av_i x1), some (av_i x2), some (av_i x3), some (av_i (x4 + 0)), some (av_i x5), some (av_i (x6 + 1)), none, none]) rfl ?_
      exact h
    · have h := h.2.2 c
      refine av_aload_n dX5_forgotten_125 rfl rfl ?_
      refine av_iload_n dX5_forgotten_126 rfl rfl ?_
      refine av_iload dX5_forgotten_127 rfl ?_
      refine av_callV mX5_isReadable [av_i x1, av_i x6] [av_i x4] dX5_forgotten_129 rfl rfl rfl mbX5_isReadable rfl wI_X5_isReadable wS_X5_isReadable rfl wM_X5_257 ⟨Nat.le_of_ble_eq_true rfl, Nat.le_of_ble_eq_true rfl⟩ rfl (Nat.le_of_ble_eq_true rfl) (av_C.mono (fun v s1 hh => ?_) h)
      obtain ⟨r1, rfl, h⟩ := hh
      change av_W E mSH mX5_forgotten 132 [some (av_r 0), some (av_i x1), some (av_i x2), some (av_i x3), some (av_i x4), some (av_i x5), some (av_i x6), some (av_i x7), some (av_i x8)] [av_i r1, av_i x4] s1 Q
      refine av_if_eq (tgt := 140) dX5_forgotten_132 (by decide) h.1 (fun c => ?_) (fun c => ?_)
      · have h := h.2.1 c
        refine av_iconst dX5_forgotten_140 ?_
        refine av_iadd dX5_forgotten_141 ?_
        refine av_istore (L' := [some (av_r 0), some (av_i x1), some (av_i x2), some (av_i x3), some (av_i (x4 + 0)), some (av_i x5), some (av_i x6), some (av_i x7), some (av_i x8)]) dX5_forgotten_142 (by decide) rfl ?_
        refine av_iinc (L' := [some (av_r 0), some (av_i x1), some (av_i x2), some (av_i x3), some (av_i (x4 + 0)), some (av_i x5), some (av_i (x6 + 1)), some (av_i x7), some (av_i x8)]) dX5_forgotten_144 rfl (by decide) rfl rfl ?_
        refine av_goto (tgt := 63) dX5_forgotten_147 (by decide) ?_
        refine av_res [true, true, true, true, true, true, true, false, false] (L' := [some (av_r 0), some (av_i x1), some (av_i x2), some (av_i x3), some (av_i (x4 + 0)), some (av_i x5), some (av_i (x6 + 1)), none, none]) rfl ?_
        exact h
      · have h := h.2.2 c
        refine av_iload dX5_forgotten_135 rfl ?_
        refine av_goto (tgt := 141) dX5_forgotten_137 (by decide) ?_
        refine av_iadd dX5_forgotten_141 ?_
        refine av_istore (L' := [some (av_r 0), some (av_i x1), some (av_i x2), some (av_i x3), some (av_i (x4 + x7)), some (av_i x5), some (av_i x6), some (av_i x7), some (av_i x8)]) dX5_forgotten_142 (by decide) rfl ?_
        refine av_iinc (L' := [some (av_r 0), some (av_i x1), some (av_i x2), some (av_i x3), some (av_i (x4 + x7)), some (av_i x5), some (av_i (x6 + 1)), some (av_i x7), some (av_i x8)]) dX5_forgotten_144 rfl (by decide) rfl rfl ?_
        refine av_goto (tgt := 63) dX5_forgotten_147 (by decide) ?_
        refine av_res [true, true, true, true, true, true, true, false, false] (L' := [some (av_r 0), some (av_i x1), some (av_i x2), some (av_i x3), some (av_i (x4 + x7)), some (av_i x5), some (av_i (x6 + 1)), none, none]) rfl ?_
        exact h
  · have h := h.2.2.2 c
    refine av_iload dX5_forgotten_89 rfl ?_
    refine av_iload dX5_forgotten_91 rfl ?_
    refine av_iload dX5_forgotten_93 rfl ?_
    refine av_callS mX5_has [av_i x6, av_i x8] [av_i x7] dX5_forgotten_95 mbX5_has rfl wT_X5_has rfl wM_X5_192 ⟨Nat.le_of_ble_eq_true rfl, Nat.le_of_ble_eq_true rfl⟩ rfl (Nat.le_of_ble_eq_true rfl) (av_C.mono (fun v s2 hh => ?_) h)
    obtain ⟨r2, rfl, h⟩ := hh
    change av_W E mSH mX5_forgotten 98 [some (av_r 0), some (av_i x1), some (av_i x2), some (av_i x3), some (av_i x4), some (av_i x5), some (av_i x6), some (av_i x7), some (av_i x8)] [av_i r2, av_i x7] s2 Q
    refine av_if_eq (tgt := 108) dX5_forgotten_98 (by decide) h.1 (fun c => ?_) (fun c => ?_)
    · have h := h.2.1 c
      refine av_iload_n dX5_forgotten_108 rfl rfl ?_
      refine av_imul dX5_forgotten_109 ?_
      refine av_istore (L' := [some (av_r 0), some (av_i x1), some (av_i x2), some (av_i x3), some (av_i x4), some (av_i x5), some (av_i x6), some (av_i (x7 * x2)), some (av_i x8)]) dX5_forgotten_110 (by decide) rfl ?_
      refine av_iinc (L' := [some (av_r 0), some (av_i x1), some (av_i x2), some (av_i x3), some (av_i x4), some (av_i x5), some (av_i x6), some (av_i (x7 * x2)), some (av_i (x8 + 1))]) dX5_forgotten_112 rfl (by decide) rfl rfl ?_
      refine av_goto (tgt := 80) dX5_forgotten_115 (by decide) ?_
      exact h
    · have h := h.2.2 c
      refine av_bipush dX5_forgotten_101 rfl ?_
      refine av_iload_n dX5_forgotten_103 rfl rfl ?_
      refine av_isub dX5_forgotten_104 ?_
      refine av_goto (tgt := 109) dX5_forgotten_105 (by decide) ?_
      refine av_imul dX5_forgotten_109 ?_
      refine av_istore (L' := [some (av_r 0), some (av_i x1), some (av_i x2), some (av_i x3), some (av_i x4), some (av_i x5), some (av_i x6), some (av_i (x7 * (10 - x2))), some (av_i x8)]) dX5_forgotten_110 (by decide) rfl ?_
      refine av_iinc (L' := [some (av_r 0), some (av_i x1), some (av_i x2), some (av_i x3), some (av_i x4), some (av_i x5), some (av_i x6), some (av_i (x7 * (10 - x2))), some (av_i (x8 + 1))]) dX5_forgotten_112 rfl (by decide) rfl rfl ?_
      refine av_goto (tgt := 80) dX5_forgotten_115 (by decide) ?_
      exact h

theorem uX5_walls {E : av_E} {σ : av_M} {Q : Option av_V → av_M → Prop} {a1 a2 a3 a4 : Int} (h : av_C E mSH mX5_in [av_i a1, av_i 0, av_i 9999] σ (fun v s1 => ∃ r1 : Int, v = some (av_i r1) ∧ ((rg r1) ∧ (((r1 = 0) → Q (some (av_i (-1))) s1) ∧ ((¬ r1 = 0) → av_C E mSH mX5_in [av_i a2, av_i 1, av_i 40] s1 (fun v s2 => ∃ r2 : Int, v = some (av_i r2) ∧ ((rg r2) ∧ (((r2 = 0) → Q (some (av_i (-1))) s2) ∧ ((¬ r2 = 0) → av_C E mSH mX5_isReader [av_r 0, av_i a3] s2 (fun v s3 => ∃ r3 : Int, v = some (av_i r3) ∧ ((rg r3) ∧ (((r3 = 0) → Q (some (av_i (-1))) s3) ∧ ((¬ r3 = 0) → av_C E mSH mX5_in [av_i a4, av_i 0, av_i 1] s3 (fun v s4 => ∃ r4 : Int, v = some (av_i r4) ∧ ((rg r4) ∧ (((¬ r4 = 0) → av_W E mSH mX5_walls 50 [some (av_r 0), some (av_i a1), some (av_i a2), some (av_i a3), some (av_i a4), some (av_i 0), some (av_i 0), some (av_i 0), none, none, none, none, none] [] s4 Q) ∧ ((r4 = 0) → Q (some (av_i (-1))) s4))))))))))))))))) :
    av_C E mSH mX5_walls [av_r 0, av_i a1, av_i a2, av_i a3, av_i a4] σ Q := by
  refine av_C.ofW (L := [some (av_r 0), some (av_i a1), some (av_i a2), some (av_i a3), some (av_i a4), none, none, none, none, none, none, none, none]) (by decide) (Nat.le_of_ble_eq_true rfl) rfl ?_
  refine av_iload_n dX5_walls_0 rfl rfl ?_
  refine av_iconst dX5_walls_1 ?_
  refine av_sipush dX5_walls_2 rfl ?_
  refine av_callS mX5_in [av_i a1, av_i 0, av_i 9999] [] dX5_walls_5 mbX5_in rfl wT_X5_in rfl wM_X5_109 ⟨Nat.le_of_ble_eq_true rfl, Nat.le_of_ble_eq_true rfl⟩ rfl (Nat.le_of_ble_eq_true rfl) (av_C.mono (fun v s1 hh => ?_) h)
  obtain ⟨r1, rfl, h⟩ := hh
  change av_W E mSH mX5_walls 8 [some (av_r 0), some (av_i a1), some (av_i a2), some (av_i a3), some (av_i a4), none, none, none, none, none, none, none, none] [av_i r1] s1 Q
  refine av_if_eq (tgt := 39) dX5_walls_8 (by decide) h.1 (fun c => ?_) (fun c => ?_)
  · have h := h.2.1 c
    refine av_iconst dX5_walls_39 ?_
    exact av_ireturn dX5_walls_40 rfl h
  · have h := h.2.2 c
    refine av_iload_n dX5_walls_11 rfl rfl ?_
    refine av_iconst dX5_walls_12 ?_
    refine av_bipush dX5_walls_13 rfl ?_
    refine av_callS mX5_in [av_i a2, av_i 1, av_i 40] [] dX5_walls_15 mbX5_in rfl wT_X5_in rfl wM_X5_109 ⟨Nat.le_of_ble_eq_true rfl, Nat.le_of_ble_eq_true rfl⟩ rfl (Nat.le_of_ble_eq_true rfl) (av_C.mono (fun v s2 hh => ?_) h)
    obtain ⟨r2, rfl, h⟩ := hh
    change av_W E mSH mX5_walls 18 [some (av_r 0), some (av_i a1), some (av_i a2), some (av_i a3), some (av_i a4), none, none, none, none, none, none, none, none] [av_i r2] s2 Q
    refine av_if_eq (tgt := 39) dX5_walls_18 (by decide) h.1 (fun c => ?_) (fun c => ?_)
    · have h := h.2.1 c
      refine av_iconst dX5_walls_39 ?_
      exact av_ireturn dX5_walls_40 rfl h
    · have h := h.2.2 c
      refine av_aload_n dX5_walls_21 rfl rfl ?_
      refine av_iload_n dX5_walls_22 rfl rfl ?_
      refine av_callV mX5_isReader [av_i a3] [] dX5_walls_23 rfl rfl rfl mbX5_isReader rfl wI_X5_isReader wS_X5_isReader rfl wM_X5_220 ⟨Nat.le_of_ble_eq_true rfl, Nat.le_of_ble_eq_true rfl⟩ rfl (Nat.le_of_ble_eq_true rfl) (av_C.mono (fun v s3 hh => ?_) h)
      obtain ⟨r3, rfl, h⟩ := hh
      change av_W E mSH mX5_walls 26 [some (av_r 0), some (av_i a1), some (av_i a2), some (av_i a3), some (av_i a4), none, none, none, none, none, none, none, none] [av_i r3] s3 Q
      refine av_if_eq (tgt := 39) dX5_walls_26 (by decide) h.1 (fun c => ?_) (fun c => ?_)
      · have h := h.2.1 c
        refine av_iconst dX5_walls_39 ?_
        exact av_ireturn dX5_walls_40 rfl h
      · have h := h.2.2 c
        refine av_iload dX5_walls_29 rfl ?_
        refine av_iconst dX5_walls_31 ?_
        refine av_iconst dX5_walls_32 ?_
        refine av_callS mX5_in [av_i a4, av_i 0, av_i 1] [] dX5_walls_33 mbX5_in rfl wT_X5_in rfl wM_X5_109 ⟨Nat.le_of_ble_eq_true rfl, Nat.le_of_ble_eq_true rfl⟩ rfl (Nat.le_of_ble_eq_true rfl) (av_C.mono (fun v s4 hh => ?_) h)
        obtain ⟨r4, rfl, h⟩ := hh
        change av_W E mSH mX5_walls 36 [some (av_r 0), some (av_i a1), some (av_i a2), some (av_i a3), some (av_i a4), none, none, none, none, none, none, none, none] [av_i r4] s4 Q
        refine av_if_ne (tgt := 41) dX5_walls_36 (by decide) h.1 (fun c => ?_) (fun c => ?_)
        · have h := h.2.1 c
          refine av_iconst dX5_walls_41 ?_
          refine av_istore (L' := [some (av_r 0), some (av_i a1), some (av_i a2), some (av_i a3), some (av_i a4), some (av_i 0), none, none, none, none, none, none, none]) dX5_walls_42 (by decide) rfl ?_
          refine av_iconst dX5_walls_44 ?_
          refine av_istore (L' := [some (av_r 0), some (av_i a1), some (av_i a2), some (av_i a3), some (av_i a4), some (av_i 0), some (av_i 0), none, none, none, none, none, none]) dX5_walls_45 (by decide) rfl ?_
          refine av_iconst dX5_walls_47 ?_
          refine av_istore (L' := [some (av_r 0), some (av_i a1), some (av_i a2), some (av_i a3), some (av_i a4), some (av_i 0), some (av_i 0), some (av_i 0), none, none, none, none, none]) dX5_walls_48 (by decide) rfl ?_
          exact h
        · have h := h.2.2 c
          refine av_iconst dX5_walls_39 ?_
          exact av_ireturn dX5_walls_40 rfl h

theorem uX5_walls_50 {E : av_E} {σ : av_M} {Q : Option av_V → av_M → Prop} {x1 x2 x3 x4 x5 x6 x7 : Int} (h : (rg x7) ∧ ((rg x2) ∧ (((x2 ≤ x7) → (rg x4) ∧ (((¬ x4 = 0) → Q (some (av_i x6)) σ) ∧ ((x4 = 0) → Q (some (av_i x5)) σ))) ∧ ((x7 < x2) → (rg x1) ∧ ((rg x7) ∧ ((0 ≤ ((((7919 * x1) + (6151 * x7)) + 1) * (((7919 * x1) + (6151 * x7)) + 1)) ∧ ((((7919 * x1) + (6151 * x7)) + 1) * (((7919 * x1) + (6151 * x7)) + 1)) < 9223372036854775808) ∧ ((0 ≤ (((((7919 * x1) + (6151 * x7)) + 1) * (((7919 * x1) + (6151 * x7)) + 1)) % 65521) ∧ (((((7919 * x1) + (6151 * x7)) + 1) * (((7919 * x1) + (6151 * x7)) + 1)) % 65521) < 2147483648) ∧ ((0 ≤ (((((7919 * x1) + (6151 * x7)) + 1) * (((7919 * x1) + (6151 * x7)) + 1)) % 65521) ∧ (((((7919 * x1) + (6151 * x7)) + 1) * (((7919 * x1) + (6151 * x7)) + 1)) % 65521) < 2147483648) ∧ (av_W E mSH mX5_walls 105 [some (av_r 0), some (av_i x1), some (av_i x2), some (av_i x3), some (av_i x4), some (av_i x5), some (av_i x6), some (av_i x7), some (av_l (((7919 * x1) + (6151 * x7)) + 1)), none, some (av_i (((((7919 * x1) + (6151 * x7)) + 1) * (((7919 * x1) + (6151 * x7)) + 1)) % 65521)), some (av_i ((((((7919 * x1) + (6151 * x7)) + 1) * (((7919 * x1) + (6151 * x7)) + 1)) % 65521) / 4)), some (av_i 0)] [] (av_st σ 0 31 (1 + ((((((7919 * x1) + (6151 * x7)) + 1) * (((7919 * x1) + (6151 * x7)) + 1)) % 65521) % 4))) Q))))))))) :
    av_W E mSH mX5_walls 50 [some (av_r 0), some (av_i x1), some (av_i x2), some (av_i x3), some (av_i x4), some (av_i x5), some (av_i x6), some (av_i x7), none, none, none, none, none] [] σ Q := by
  refine av_iload dX5_walls_50 rfl ?_
  refine av_iload_n dX5_walls_52 rfl rfl ?_
  refine av_icmp_ge (tgt := 180) dX5_walls_53 (by decide) h.1 h.2.1 (fun c => ?_) (fun c => ?_)
  · have h := h.2.2.1 c
    refine av_iload dX5_walls_180 rfl ?_
    refine av_if_ne (tgt := 190) dX5_walls_182 (by decide) h.1 (fun c => ?_) (fun c => ?_)
    · have h := h.2.1 c
      refine av_iload dX5_walls_190 rfl ?_
      exact av_ireturn dX5_walls_192 rfl h
    · have h := h.2.2 c
      refine av_iload dX5_walls_185 rfl ?_
      refine av_goto (tgt := 192) dX5_walls_187 (by decide) ?_
      exact av_ireturn dX5_walls_192 rfl h
  · have h := h.2.2.2 c
    refine av_ldc2 dX5_walls_56 rfl wK_X5_273 ?_
    refine av_iload_n dX5_walls_59 rfl rfl ?_
    refine av_i2l dX5_walls_60 h.1 ?_
    refine av_lmul dX5_walls_61 ?_
    refine av_ldc2 dX5_walls_62 rfl wK_X5_275 ?_
    refine av_iload dX5_walls_65 rfl ?_
    refine av_i2l dX5_walls_67 h.2.1 ?_
    refine av_lmul dX5_walls_68 ?_
    refine av_ladd dX5_walls_69 ?_
    refine av_lconst (x := 1) dX5_walls_70 rfl ?_
    refine av_ladd dX5_walls_71 ?_
    refine av_lstore (L' := [some (av_r 0), some (av_i x1), some (av_i x2), some (av_i x3), some (av_i x4), some (av_i x5), some (av_i x6), some (av_i x7), some (av_l (((7919 * x1) + (6151 * x7)) + 1)), none, none, none, none]) dX5_walls_72 (by decide) rfl ?_
    refine av_lload dX5_walls_74 rfl ?_
    refine av_lload dX5_walls_76 rfl ?_
    refine av_lmul dX5_walls_78 ?_
    refine av_ldc2 dX5_walls_79 rfl wK_X5_277 ?_
    refine av_lrem dX5_walls_82 h.2.2.1 (by decide) ?_
    refine av_l2i dX5_walls_83 ?_
    refine av_istore (L' := [some (av_r 0), some (av_i x1), some (av_i x2), some (av_i x3), some (av_i x4), some (av_i x5), some (av_i x6), some (av_i x7), some (av_l (((7919 * x1) + (6151 * x7)) + 1)), none, some (av_i (((((7919 * x1) + (6151 * x7)) + 1) * (((7919 * x1) + (6151 * x7)) + 1)) % 65521)), none, none]) dX5_walls_84 (by decide) rfl ?_
    refine av_aload_n dX5_walls_86 rfl rfl ?_
    refine av_iconst dX5_walls_87 ?_
    refine av_iload dX5_walls_88 rfl ?_
    refine av_iconst dX5_walls_90 ?_
    refine av_irem dX5_walls_91 h.2.2.2.1 (by decide) ?_
    refine av_iadd dX5_walls_92 ?_
    refine av_put (k := 31) tyX5 dX5_walls_93 rfl rfl iuX5 tyX5_ok nmX5 (by decide) rfl wF_X5_179 rfl rfl rfl ?_
    refine av_iload dX5_walls_96 rfl ?_
    refine av_iconst dX5_walls_98 ?_
    refine av_idiv dX5_walls_99 h.2.2.2.2.1 (by decide) ?_
    refine av_istore (L' := [some (av_r 0), some (av_i x1), some (av_i x2), some (av_i x3), some (av_i x4), some (av_i x5), some (av_i x6), some (av_i x7), some (av_l (((7919 * x1) + (6151 * x7)) + 1)), none, some (av_i (((((7919 * x1) + (6151 * x7)) + 1) * (((7919 * x1) + (6151 * x7)) + 1)) % 65521)), some (av_i ((((((7919 * x1) + (6151 * x7)) + 1) * (((7919 * x1) + (6151 * x7)) + 1)) % 65521) / 4)), none]) dX5_walls_100 (by decide) rfl ?_
    refine av_iconst dX5_walls_102 ?_
    refine av_istore (L' := [some (av_r 0), some (av_i x1), some (av_i x2), some (av_i x3), some (av_i x4), some (av_i x5), some (av_i x6), some (av_i x7), some (av_l (((7919 * x1) + (6151 * x7)) + 1)), none, some (av_i (((((7919 * x1) + (6151 * x7)) + 1) * (((7919 * x1) + (6151 * x7)) + 1)) % 65521)), some (av_i ((((((7919 * x1) + (6151 * x7)) + 1) * (((7919 * x1) + (6151 * x7)) + 1)) % 65521) / 4)), some (av_i 0)]) dX5_walls_103 (by decide) rfl ?_
    exact h.2.2.2.2.2

theorem uX5_walls_105 {E : av_E} {σ : av_M} {Q : Option av_V → av_M → Prop} {x1 x2 x3 x4 x5 x6 x7 x8 x10 x11 x12 : Int} (h : (rg x12) ∧ ((rg (σ 0 31)) ∧ ((((σ 0 31) ≤ x12) → av_C E mSH mX5_all [av_r 0] σ (fun v s1 => ∃ r1 : Int, v = some (av_i r1) ∧ (av_C E mSH mX5_begins [av_r 0, av_i x3, av_i r1] s1 (fun v s2 => v = none ∧ (av_C E mSH mX5_manyReadings [av_r 0] s2 (fun v s3 => ∃ r3 : Int, v = some (av_i r3) ∧ ((rg r3) ∧ (((r3 ≤ 0) → av_W E mSH mX5_walls 50 [some (av_r 0), some (av_i x1), some (av_i x2), some (av_i x3), some (av_i x4), some (av_i (x5 + 0)), some (av_i (x6 + r3)), some (av_i (x7 + 1)), none, none, none, none, none] [] s3 Q) ∧ ((0 < r3) → av_W E mSH mX5_walls 50 [some (av_r 0), some (av_i x1), some (av_i x2), some (av_i x3), some (av_i x4), some (av_i (x5 + 1)), some (av_i (x6 + r3)), some (av_i (x7 + 1)), none, none, none, none, none] [] s3 Q))))))))) ∧ ((x12 < (σ 0 31)) → (0 ≤ x11 ∧ x11 < 2147483648) ∧ ((0 ≤ x12 ∧ x12 < 9) ∧ ((0 ≤ x11 ∧ x11 < 2147483648) ∧ (av_W E mSH mX5_walls 105 [some (av_r 0), some (av_i x1), some (av_i x2), some (av_i x3), some (av_i x4), some (av_i x5), some (av_i x6), some (av_i x7), some (av_l x8), none, some (av_i x10), some (av_i (x11 / 5)), some (av_i (x12 + 1))] [] (av_st σ 20 (x12).toNat (x11 % 5)) Q))))))) :
    av_W E mSH mX5_walls 105 [some (av_r 0), some (av_i x1), some (av_i x2), some (av_i x3), some (av_i x4), some (av_i x5), some (av_i x6), some (av_i x7), some (av_l x8), none, some (av_i x10), some (av_i x11), some (av_i x12)] [] σ Q := by
  refine av_iload dX5_walls_105 rfl ?_
  refine av_aload_n dX5_walls_107 rfl rfl ?_
  refine av_get (k := 31) (x := (σ 0 31)) dX5_walls_108 rfl rfl iuX5 (by decide) rfl wF_X5_179 rfl rfl ?_
  refine av_icmp_ge (tgt := 137) dX5_walls_111 (by decide) h.1 h.2.1 (fun c => ?_) (fun c => ?_)
  · have h := h.2.2.1 c
    refine av_aload_n dX5_walls_137 rfl rfl ?_
    refine av_iload_n dX5_walls_138 rfl rfl ?_
    refine av_aload_n dX5_walls_139 rfl rfl ?_
    refine av_callV mX5_all [] [av_i x3, av_r 0] dX5_walls_140 rfl rfl rfl mbX5_all rfl wI_X5_all wS_X5_all rfl wM_X5_223 ⟨Nat.le_of_ble_eq_true rfl, Nat.le_of_ble_eq_true rfl⟩ rfl (Nat.le_of_ble_eq_true rfl) (av_C.mono (fun v s1 hh => ?_) h)
    obtain ⟨r1, rfl, h⟩ := hh
    change av_W E mSH mX5_walls 143 [some (av_r 0), some (av_i x1), some (av_i x2), some (av_i x3), some (av_i x4), some (av_i x5), some (av_i x6), some (av_i x7), some (av_l x8), none, some (av_i x10), some (av_i x11), some (av_i x12)] [av_i r1, av_i x3, av_r 0] s1 Q
    refine av_callV mX5_begins [av_i x3, av_i r1] [] dX5_walls_143 rfl rfl rfl mbX5_begins rfl wI_X5_begins wS_X5_begins rfl wM_X5_185 ⟨Nat.le_of_ble_eq_true rfl, Nat.le_of_ble_eq_true rfl⟩ rfl (Nat.le_of_ble_eq_true rfl) (av_C.mono (fun v s2 hh => ?_) h)
    obtain ⟨rfl, h⟩ := hh
    change av_W E mSH mX5_walls 146 [some (av_r 0), some (av_i x1), some (av_i x2), some (av_i x3), some (av_i x4), some (av_i x5), some (av_i x6), some (av_i x7), some (av_l x8), none, some (av_i x10), some (av_i x11), some (av_i x12)] [] s2 Q
    refine av_aload_n dX5_walls_146 rfl rfl ?_
    refine av_callV mX5_manyReadings [] [] dX5_walls_147 rfl rfl rfl mbX5_manyReadings rfl wI_X5_manyReadings wS_X5_manyReadings rfl wM_X5_229 ⟨Nat.le_of_ble_eq_true rfl, Nat.le_of_ble_eq_true rfl⟩ rfl (Nat.le_of_ble_eq_true rfl) (av_C.mono (fun v s3 hh => ?_) h)
    obtain ⟨r3, rfl, h⟩ := hh
    change av_W E mSH mX5_walls 150 [some (av_r 0), some (av_i x1), some (av_i x2), some (av_i x3), some (av_i x4), some (av_i x5), some (av_i x6), some (av_i x7), some (av_l x8), none, some (av_i x10), some (av_i x11), some (av_i x12)] [av_i r3] s3 Q
    refine av_istore (L' := [some (av_r 0), some (av_i x1), some (av_i x2), some (av_i x3), some (av_i x4), some (av_i x5), some (av_i x6), some (av_i x7), some (av_l x8), none, some (av_i x10), some (av_i x11), some (av_i r3)]) dX5_walls_150 (by decide) rfl ?_
    refine av_iload dX5_walls_152 rfl ?_
    refine av_iload dX5_walls_154 rfl ?_
    refine av_if_le (tgt := 163) dX5_walls_156 (by decide) h.1 (fun c => ?_) (fun c => ?_)
    · have h := h.2.1 c
      refine av_iconst dX5_walls_163 ?_
      refine av_iadd dX5_walls_164 ?_
      refine av_istore (L' := [some (av_r 0), some (av_i x1), some (av_i x2), some (av_i x3), some (av_i x4), some (av_i (x5 + 0)), some (av_i x6), some (av_i x7), some (av_l x8), none, some (av_i x10), some (av_i x11), some (av_i r3)]) dX5_walls_165 (by decide) rfl ?_
      refine av_iload dX5_walls_167 rfl ?_
      refine av_iload dX5_walls_169 rfl ?_
      refine av_iadd dX5_walls_171 ?_
      refine av_istore (L' := [some (av_r 0), some (av_i x1), some (av_i x2), some (av_i x3), some (av_i x4), some (av_i (x5 + 0)), some (av_i (x6 + r3)), some (av_i x7), some (av_l x8), none, some (av_i x10), some (av_i x11), some (av_i r3)]) dX5_walls_172 (by decide) rfl ?_
      refine av_iinc (L' := [some (av_r 0), some (av_i x1), some (av_i x2), some (av_i x3), some (av_i x4), some (av_i (x5 + 0)), some (av_i (x6 + r3)), some (av_i (x7 + 1)), some (av_l x8), none, some (av_i x10), some (av_i x11), some (av_i r3)]) dX5_walls_174 rfl (by decide) rfl rfl ?_
      refine av_goto (tgt := 50) dX5_walls_177 (by decide) ?_
      refine av_res [true, true, true, true, true, true, true, true, false, false, false, false, false] (L' := [some (av_r 0), some (av_i x1), some (av_i x2), some (av_i x3), some (av_i x4), some (av_i (x5 + 0)), some (av_i (x6 + r3)), some (av_i (x7 + 1)), none, none, none, none, none]) rfl ?_
      exact h
    · have h := h.2.2 c
      refine av_iconst dX5_walls_159 ?_
      refine av_goto (tgt := 164) dX5_walls_160 (by decide) ?_
      refine av_iadd dX5_walls_164 ?_
      refine av_istore (L' := [some (av_r 0), some (av_i x1), some (av_i x2), some (av_i x3), some (av_i x4), some (av_i (x5 + 1)), some (av_i x6), some (av_i x7), some (av_l x8), none, some (av_i x10), some (av_i x11), some (av_i r3)]) dX5_walls_165 (by decide) rfl ?_
      refine av_iload dX5_walls_167 rfl ?_
      refine av_iload dX5_walls_169 rfl ?_
      refine av_iadd dX5_walls_171 ?_
      refine av_istore (L' := [some (av_r 0), some (av_i x1), some (av_i x2), some (av_i x3), some (av_i x4), some (av_i (x5 + 1)), some (av_i (x6 + r3)), some (av_i x7), some (av_l x8), none, some (av_i x10), some (av_i x11), some (av_i r3)]) dX5_walls_172 (by decide) rfl ?_
      refine av_iinc (L' := [some (av_r 0), some (av_i x1), some (av_i x2), some (av_i x3), some (av_i x4), some (av_i (x5 + 1)), some (av_i (x6 + r3)), some (av_i (x7 + 1)), some (av_l x8), none, some (av_i x10), some (av_i x11), some (av_i r3)]) dX5_walls_174 rfl (by decide) rfl rfl ?_
      refine av_goto (tgt := 50) dX5_walls_177 (by decide) ?_
      refine av_res [true, true, true, true, true, true, true, true, false, false, false, false, false] (L' := [some (av_r 0), some (av_i x1), some (av_i x2), some (av_i x3), some (av_i x4), some (av_i (x5 + 1)), some (av_i (x6 + r3)), some (av_i (x7 + 1)), none, none, none, none, none]) rfl ?_
      exact h
  · have h := h.2.2.2 c
    refine av_aload_n dX5_walls_114 rfl rfl ?_
    refine av_getr (k := 30) dX5_walls_115 rfl rfl iuX5 (by decide) rfl wF_X5_67 rfl ?_
    refine av_iload dX5_walls_118 rfl ?_
    refine av_iload dX5_walls_120 rfl ?_
    refine av_iconst dX5_walls_122 ?_
    refine av_irem dX5_walls_123 h.1 (by decide) ?_
    refine av_iast dX5_walls_124 rfl (by decide) h.2.1 ?_
    refine av_iload dX5_walls_125 rfl ?_
    refine av_iconst dX5_walls_127 ?_
    refine av_idiv dX5_walls_128 h.2.2.1 (by decide) ?_
    refine av_istore (L' := [some (av_r 0), some (av_i x1), some (av_i x2), some (av_i x3), some (av_i x4), some (av_i x5), some (av_i x6), some (av_i x7), some (av_l x8), none, some (av_i x10), some (av_i (x11 / 5)), some (av_i x12)]) dX5_walls_129 (by decide) rfl ?_
    refine av_iinc (L' := [some (av_r 0), some (av_i x1), some (av_i x2), some (av_i x3), some (av_i x4), some (av_i x5), some (av_i x6), some (av_i x7), some (av_l x8), none, some (av_i x10), some (av_i (x11 / 5)), some (av_i (x12 + 1))]) dX5_walls_131 rfl (by decide) rfl rfl ?_
    refine av_goto (tgt := 105) dX5_walls_134 (by decide) ?_
    exact h.2.2.2

theorem uX5_keep {E : av_E} {σ : av_M} {Q : Option av_V → av_M → Prop} (h : (rg (σ 0 11)) ∧ (((¬ (σ 0 11) = 2) → av_C E mSH mX5_copies [av_r 9, av_i (14 * (σ 0 11)), av_r 7, av_i 0, av_i 14] σ (fun v s1 => v = none ∧ (Q (some (av_i ((s1 0 11) + 1))) (av_st s1 0 11 ((s1 0 11) + 1))))) ∧ (((σ 0 11) = 2) → Q (some (av_i (-3))) σ))) :
    av_C E mSH mX5_keep [av_r 0] σ Q := by
  refine av_C.ofW (L := [some (av_r 0)]) (by decide) (Nat.le_of_ble_eq_true rfl) rfl ?_
  refine av_aload_n dX5_keep_0 rfl rfl ?_
  refine av_get (k := 11) (x := (σ 0 11)) dX5_keep_1 rfl rfl iuX5 (by decide) rfl wF_X5_167 rfl rfl ?_
  refine av_iconst dX5_keep_4 ?_
  refine av_icmp_ne (tgt := 11) dX5_keep_5 (by decide) h.1 (by decide) (fun c => ?_) (fun c => ?_)
  · have h := h.2.1 c
    refine av_aload_n dX5_keep_11 rfl rfl ?_
    refine av_getr (k := 12) dX5_keep_12 rfl rfl iuX5 (by decide) rfl wF_X5_34 rfl ?_
    refine av_bipush dX5_keep_15 rfl ?_
    refine av_aload_n dX5_keep_17 rfl rfl ?_
    refine av_get (k := 11) (x := (σ 0 11)) dX5_keep_18 rfl rfl iuX5 (by decide) rfl wF_X5_167 rfl rfl ?_
    refine av_imul dX5_keep_21 ?_
    refine av_aload_n dX5_keep_22 rfl rfl ?_
    refine av_getr (k := 8) dX5_keep_23 rfl rfl iuX5 (by decide) rfl wF_X5_28 rfl ?_
    refine av_iconst dX5_keep_26 ?_
    refine av_bipush dX5_keep_27 rfl ?_
    refine av_callS mX5_copies [av_r 9, av_i (14 * (σ 0 11)), av_r 7, av_i 0, av_i 14] [] dX5_keep_29 mbX5_copies rfl wT_X5_copies rfl wM_X5_160 ⟨Nat.le_of_ble_eq_true rfl, Nat.le_of_ble_eq_true rfl⟩ rfl (Nat.le_of_ble_eq_true rfl) (av_C.mono (fun v s1 hh => ?_) h)
    obtain ⟨rfl, h⟩ := hh
    change av_W E mSH mX5_keep 32 [some (av_r 0)] [] s1 Q
    refine av_aload_n dX5_keep_32 rfl rfl ?_
    refine av_dup dX5_keep_33 (fun _ h9 => nomatch h9) ?_
    refine av_get (k := 11) (x := (s1 0 11)) dX5_keep_34 rfl rfl iuX5 (by decide) rfl wF_X5_167 rfl rfl ?_
    refine av_iconst dX5_keep_37 ?_
    refine av_iadd dX5_keep_38 ?_
    refine av_put (k := 11) tyX5 dX5_keep_39 rfl rfl iuX5 tyX5_ok nmX5 (by decide) rfl wF_X5_167 rfl rfl rfl ?_
    refine av_aload_n dX5_keep_42 rfl rfl ?_
    refine av_get (k := 11) (x := ((s1 0 11) + 1)) dX5_keep_43 rfl rfl iuX5 (by decide) rfl wF_X5_167 rfl rfl ?_
    exact av_ireturn dX5_keep_46 rfl h
  · have h := h.2.2 c
    refine av_bipush dX5_keep_8 rfl ?_
    exact av_ireturn dX5_keep_10 rfl h

theorem uX5_back {E : av_E} {σ : av_M} {Q : Option av_V → av_M → Prop} (h : (rg (σ 0 11)) ∧ (((¬ (σ 0 11) = 0) → av_C E mSH mX5_copies [av_r 7, av_i 0, av_r 9, av_i (14 * ((σ 0 11) - 1)), av_i 14] (av_st σ 0 11 ((σ 0 11) - 1)) (fun v s1 => v = none ∧ (Q (some (av_i (s1 0 11))) (av_st s1 0 9 0)))) ∧ (((σ 0 11) = 0) → Q (some (av_i (-2))) σ))) :
    av_C E mSH mX5_back [av_r 0] σ Q := by
  refine av_C.ofW (L := [some (av_r 0)]) (by decide) (Nat.le_of_ble_eq_true rfl) rfl ?_
  refine av_aload_n dX5_back_0 rfl rfl ?_
  refine av_get (k := 11) (x := (σ 0 11)) dX5_back_1 rfl rfl iuX5 (by decide) rfl wF_X5_167 rfl rfl ?_
  refine av_if_ne (tgt := 10) dX5_back_4 (by decide) h.1 (fun c => ?_) (fun c => ?_)
  · have h := h.2.1 c
    refine av_aload_n dX5_back_10 rfl rfl ?_
    refine av_dup dX5_back_11 (fun _ h9 => nomatch h9) ?_
    refine av_get (k := 11) (x := (σ 0 11)) dX5_back_12 rfl rfl iuX5 (by decide) rfl wF_X5_167 rfl rfl ?_
    refine av_iconst dX5_back_15 ?_
    refine av_isub dX5_back_16 ?_
    refine av_put (k := 11) tyX5 dX5_back_17 rfl rfl iuX5 tyX5_ok nmX5 (by decide) rfl wF_X5_167 rfl rfl rfl ?_
    refine av_aload_n dX5_back_20 rfl rfl ?_
    refine av_getr (k := 8) dX5_back_21 rfl rfl iuX5 (by decide) rfl wF_X5_28 rfl ?_
    refine av_iconst dX5_back_24 ?_
    refine av_aload_n dX5_back_25 rfl rfl ?_
    refine av_getr (k := 12) dX5_back_26 rfl rfl iuX5 (by decide) rfl wF_X5_34 rfl ?_
    refine av_bipush dX5_back_29 rfl ?_
    refine av_aload_n dX5_back_31 rfl rfl ?_
    refine av_get (k := 11) (x := ((σ 0 11) - 1)) dX5_back_32 rfl rfl iuX5 (by decide) rfl wF_X5_167 rfl rfl ?_
    refine av_imul dX5_back_35 ?_
    refine av_bipush dX5_back_36 rfl ?_
    refine av_callS mX5_copies [av_r 7, av_i 0, av_r 9, av_i (14 * ((σ 0 11) - 1)), av_i 14] [] dX5_back_38 mbX5_copies rfl wT_X5_copies rfl wM_X5_160 ⟨Nat.le_of_ble_eq_true rfl, Nat.le_of_ble_eq_true rfl⟩ rfl (Nat.le_of_ble_eq_true rfl) (av_C.mono (fun v s1 hh => ?_) h)
    obtain ⟨rfl, h⟩ := hh
    change av_W E mSH mX5_back 41 [some (av_r 0)] [] s1 Q
    refine av_aload_n dX5_back_41 rfl rfl ?_
    refine av_iconst dX5_back_42 ?_
    refine av_put (k := 9) tyX5 dX5_back_43 rfl rfl iuX5 tyX5_ok nmX5 (by decide) rfl wF_X5_164 rfl rfl rfl ?_
    refine av_aload_n dX5_back_46 rfl rfl ?_
    refine av_get (k := 11) (x := (s1 0 11)) dX5_back_47 rfl rfl iuX5 (by decide) rfl wF_X5_167 rfl rfl ?_
    exact av_ireturn dX5_back_50 rfl h
  · have h := h.2.2 c
    refine av_bipush dX5_back_7 rfl ?_
    exact av_ireturn dX5_back_9 rfl h

theorem uX5_count {E : av_E} {σ : av_M} {Q : Option av_V → av_M → Prop} {a1 : Int} (h : (rg a1) ∧ ((a1 = 0 → Q (some (av_i (σ 0 0))) σ) ∧ (a1 = 1 → Q (some (av_i (σ 0 5))) σ) ∧ (a1 = 2 → Q (some (av_i (σ 7 4))) σ) ∧ (a1 = 3 → Q (some (av_i (σ 7 0))) σ) ∧ (a1 = 4 → Q (some (av_i (σ 7 1))) σ) ∧ (a1 = 5 → av_C E mSH mX5_deepIn [av_r 0, av_i (σ 7 0)] σ (fun v s1 => ∃ r1 : Int, v = some (av_i r1) ∧ (Q (some (av_i r1)) s1))) ∧ (a1 = 6 → av_C E mSH mX5_fall [av_r 0] σ (fun v s2 => ∃ r2 : Int, v = some (av_i r2) ∧ (Q (some (av_i r2)) s2))) ∧ (a1 = 7 → (rg (σ 7 3)) ∧ (((¬ (σ 7 3) = 1) → av_C E mSH mX5_isFallen [av_r 0] σ (fun v s3 => ∃ r3 : Int, v = some (av_i r3) ∧ ((rg r3) ∧ (((r3 = 0) → Q (some (av_i 0)) s3) ∧ ((¬ r3 = 0) → Q (some (av_i 2)) s3))))) ∧ (((σ 7 3) = 1) → Q (some (av_i 1)) σ))) ∧ (a1 = 8 → Q (some (av_i (σ 7 2))) σ) ∧ (a1 = 9 → Q (some (av_i (σ 0 13))) σ) ∧ (a1 = 10 → Q (some (av_i (σ 0 9))) σ) ∧ (a1 = 11 → Q (some (av_i (σ 0 11))) σ) ∧ (a1 = 12 → Q (some (av_i (σ 0 16))) σ) ∧ ((a1 < 0 ∨ 12 < a1) → Q (some (av_i (-1))) σ))) :
    av_C E mSH mX5_count [av_r 0, av_i a1] σ Q := by
  refine av_C.ofW (L := [some (av_r 0), some (av_i a1)]) (by decide) (Nat.le_of_ble_eq_true rfl) rfl ?_
  refine av_iload_n dX5_count_0 rfl rfl ?_
  refine av_table dX5_count_1 (fun j => if j = 0 then 68 else if j = 1 then 73 else if j = 2 then 78 else if j = 3 then 85 else if j = 4 then 92 else if j = 5 then 99 else if j = 6 then 110 else if j = 7 then 115 else if j = 8 then 142 else if j = 9 then 149 else if j = 10 then 154 else if j = 11 then 159 else if j = 12 then 164 else 169) (by decide) (by decide) (by decide) h.1 (fun j hj hx => ?_) (fun c => ?_)
  · rcases j with _ | _ | _ | _ | _ | _ | _ | _ | _ | _ | _ | _ | _ | j
    · have c : a1 = 0 := by omega
      have h := h.2.1 c
      change av_W E mSH mX5_count 68 [some (av_r 0), some (av_i a1)] [] σ Q
      refine av_aload_n dX5_count_68 rfl rfl ?_
      refine av_get (k := 0) (x := (σ 0 0)) dX5_count_69 rfl rfl iuX5 (by decide) rfl wF_X5_157 rfl rfl ?_
      exact av_ireturn dX5_count_72 rfl h
    · have c : a1 = 1 := by omega
      have h := h.2.2.1 c
      change av_W E mSH mX5_count 73 [some (av_r 0), some (av_i a1)] [] σ Q
      refine av_aload_n dX5_count_73 rfl rfl ?_
      refine av_get (k := 5) (x := (σ 0 5)) dX5_count_74 rfl rfl iuX5 (by decide) rfl wF_X5_106 rfl rfl ?_
      exact av_ireturn dX5_count_77 rfl h
    · have c : a1 = 2 := by omega
      have h := h.2.2.2.1 c
      change av_W E mSH mX5_count 78 [some (av_r 0), some (av_i a1)] [] σ Q
      refine av_aload_n dX5_count_78 rfl rfl ?_
      refine av_getr (k := 8) dX5_count_79 rfl rfl iuX5 (by decide) rfl wF_X5_28 rfl ?_
      refine av_iconst dX5_count_82 ?_
      refine av_iald (x := (σ 7 4)) dX5_count_83 rfl (by decide) (by decide) rfl ?_
      exact av_ireturn dX5_count_84 rfl h
    · have c : a1 = 3 := by omega
      have h := h.2.2.2.2.1 c
      change av_W E mSH mX5_count 85 [some (av_r 0), some (av_i a1)] [] σ Q
      refine av_aload_n dX5_count_85 rfl rfl ?_
      refine av_getr (k := 8) dX5_count_86 rfl rfl iuX5 (by decide) rfl wF_X5_28 rfl ?_
      refine av_iconst dX5_count_89 ?_
      refine av_iald (x := (σ 7 0)) dX5_count_90 rfl (by decide) (by decide) rfl ?_
      exact av_ireturn dX5_count_91 rfl h
    · have c : a1 = 4 := by omega
      have h := h.2.2.2.2.2.1 c
      change av_W E mSH mX5_count 92 [some (av_r 0), some (av_i a1)] [] σ Q
      refine av_aload_n dX5_count_92 rfl rfl ?_
      refine av_getr (k := 8) dX5_count_93 rfl rfl iuX5 (by decide) rfl wF_X5_28 rfl ?_
      refine av_iconst dX5_count_96 ?_
      refine av_iald (x := (σ 7 1)) dX5_count_97 rfl (by decide) (by decide) rfl ?_
      exact av_ireturn dX5_count_98 rfl h
    · have c : a1 = 5 := by omega
      have h := h.2.2.2.2.2.2.1 c
      change av_W E mSH mX5_count 99 [some (av_r 0), some (av_i a1)] [] σ Q
      refine av_aload_n dX5_count_99 rfl rfl ?_
      refine av_aload_n dX5_count_100 rfl rfl ?_
      refine av_getr (k := 8) dX5_count_101 rfl rfl iuX5 (by decide) rfl wF_X5_28 rfl ?_
      refine av_iconst dX5_count_104 ?_
      refine av_iald (x := (σ 7 0)) dX5_count_105 rfl (by decide) (by decide) rfl ?_
      refine av_callV mX5_deepIn [av_i (σ 7 0)] [] dX5_count_106 rfl rfl rfl mbX5_deepIn rfl wI_X5_deepIn wS_X5_deepIn rfl wM_X5_238 ⟨Nat.le_of_ble_eq_true rfl, Nat.le_of_ble_eq_true rfl⟩ rfl (Nat.le_of_ble_eq_true rfl) (av_C.mono (fun v s1 hh => ?_) h)
      obtain ⟨r1, rfl, h⟩ := hh
      change av_W E mSH mX5_count 109 [some (av_r 0), some (av_i a1)] [av_i r1] s1 Q
      exact av_ireturn dX5_count_109 rfl h
    · have c : a1 = 6 := by omega
      have h := h.2.2.2.2.2.2.2.1 c
      change av_W E mSH mX5_count 110 [some (av_r 0), some (av_i a1)] [] σ Q
      refine av_aload_n dX5_count_110 rfl rfl ?_
      refine av_callV mX5_fall [] [] dX5_count_111 rfl rfl rfl mbX5_fall rfl wI_X5_fall wS_X5_fall rfl wM_X5_241 ⟨Nat.le_of_ble_eq_true rfl, Nat.le_of_ble_eq_true rfl⟩ rfl (Nat.le_of_ble_eq_true rfl) (av_C.mono (fun v s2 hh => ?_) h)
      obtain ⟨r2, rfl, h⟩ := hh
      change av_W E mSH mX5_count 114 [some (av_r 0), some (av_i a1)] [av_i r2] s2 Q
      exact av_ireturn dX5_count_114 rfl h
    · have c : a1 = 7 := by omega
      have h := h.2.2.2.2.2.2.2.2.1 c
      change av_W E mSH mX5_count 115 [some (av_r 0), some (av_i a1)] [] σ Q
      refine av_aload_n dX5_count_115 rfl rfl ?_
      refine av_getr (k := 8) dX5_count_116 rfl rfl iuX5 (by decide) rfl wF_X5_28 rfl ?_
      refine av_iconst dX5_count_119 ?_
      refine av_iald (x := (σ 7 3)) dX5_count_120 rfl (by decide) (by decide) rfl ?_
      refine av_iconst dX5_count_121 ?_
      refine av_icmp_ne (tgt := 129) dX5_count_122 (by decide) h.1 (by decide) (fun c => ?_) (fun c => ?_)
      · have h := h.2.1 c
        refine av_aload_n dX5_count_129 rfl rfl ?_
        refine av_callV mX5_isFallen [] [] dX5_count_130 rfl rfl rfl mbX5_isFallen rfl wI_X5_isFallen wS_X5_isFallen rfl wM_X5_250 ⟨Nat.le_of_ble_eq_true rfl, Nat.le_of_ble_eq_true rfl⟩ rfl (Nat.le_of_ble_eq_true rfl) (av_C.mono (fun v s3 hh => ?_) h)
        obtain ⟨r3, rfl, h⟩ := hh
        change av_W E mSH mX5_count 133 [some (av_r 0), some (av_i a1)] [av_i r3] s3 Q
        refine av_if_eq (tgt := 140) dX5_count_133 (by decide) h.1 (fun c => ?_) (fun c => ?_)
        · have h := h.2.1 c
          refine av_iconst dX5_count_140 ?_
          exact av_ireturn dX5_count_141 rfl h
        · have h := h.2.2 c
          refine av_iconst dX5_count_136 ?_
          refine av_goto (tgt := 141) dX5_count_137 (by decide) ?_
          exact av_ireturn dX5_count_141 rfl h
      · have h := h.2.2 c
        refine av_iconst dX5_count_125 ?_
        refine av_goto (tgt := 141) dX5_count_126 (by decide) ?_
        exact av_ireturn dX5_count_141 rfl h
    · have c : a1 = 8 := by omega
      have h := h.2.2.2.2.2.2.2.2.2.1 c
      change av_W E mSH mX5_count 142 [some (av_r 0), some (av_i a1)] [] σ Q
      refine av_aload_n dX5_count_142 rfl rfl ?_
      refine av_getr (k := 8) dX5_count_143 rfl rfl iuX5 (by decide) rfl wF_X5_28 rfl ?_
      refine av_iconst dX5_count_146 ?_
      refine av_iald (x := (σ 7 2)) dX5_count_147 rfl (by decide) (by decide) rfl ?_
      exact av_ireturn dX5_count_148 rfl h
    · have c : a1 = 9 := by omega
      have h := h.2.2.2.2.2.2.2.2.2.2.1 c
      change av_W E mSH mX5_count 149 [some (av_r 0), some (av_i a1)] [] σ Q
      refine av_aload_n dX5_count_149 rfl rfl ?_
      refine av_get (k := 13) (x := (σ 0 13)) dX5_count_150 rfl rfl iuX5 (by decide) rfl wF_X5_170 rfl rfl ?_
      exact av_ireturn dX5_count_153 rfl h
    · have c : a1 = 10 := by omega
      have h := h.2.2.2.2.2.2.2.2.2.2.2.1 c
      change av_W E mSH mX5_count 154 [some (av_r 0), some (av_i a1)] [] σ Q
      refine av_aload_n dX5_count_154 rfl rfl ?_
      refine av_get (k := 9) (x := (σ 0 9)) dX5_count_155 rfl rfl iuX5 (by decide) rfl wF_X5_164 rfl rfl ?_
      exact av_ireturn dX5_count_158 rfl h
    · have c : a1 = 11 := by omega
      have h := h.2.2.2.2.2.2.2.2.2.2.2.2.1 c
      change av_W E mSH mX5_count 159 [some (av_r 0), some (av_i a1)] [] σ Q
      refine av_aload_n dX5_count_159 rfl rfl ?_
      refine av_get (k := 11) (x := (σ 0 11)) dX5_count_160 rfl rfl iuX5 (by decide) rfl wF_X5_167 rfl rfl ?_
      exact av_ireturn dX5_count_163 rfl h
    · have c : a1 = 12 := by omega
      have h := h.2.2.2.2.2.2.2.2.2.2.2.2.2.1 c
      change av_W E mSH mX5_count 164 [some (av_r 0), some (av_i a1)] [] σ Q
      refine av_aload_n dX5_count_164 rfl rfl ?_
      refine av_get (k := 16) (x := (σ 0 16)) dX5_count_165 rfl rfl iuX5 (by decide) rfl wF_X5_113 rfl rfl ?_
      exact av_ireturn dX5_count_168 rfl h
    · exact absurd hj (by simp)
  · have h := h.2.2.2.2.2.2.2.2.2.2.2.2.2.2 c
    change av_W E mSH mX5_count 169 [some (av_r 0), some (av_i a1)] [] σ Q
    refine av_iconst dX5_count_169 ?_
    exact av_ireturn dX5_count_170 rfl h
