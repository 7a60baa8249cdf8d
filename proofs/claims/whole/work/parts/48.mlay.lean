theorem s_readReaderOf {E : av_E} {σ : av_M} {Q : Option av_V → av_M → Prop} {cs : List Nat} {i : Nat} {W : q_W} (hT : mTx σ cs) (hW : mW σ W) (V : p_Wv W) (hi : i ≤ 3000) (hr : pc cs i = 107) (h17 : σ 0 17 = ((i + 1 : Nat) : Int)) (I : mIm E cs i W σ Q) : av_C E mSH mX5_readReaderOf [av_r 0] σ Q := by
  apply uX5_readReaderOf
  obtain ⟨I0, I1⟩ := I
  unfold p_item at I0 I1
  simp only [hr, show ¬ ((107 : Nat) = 114) by decide, if_false, if_true] at I0 I1
  have h24 := hW.2.1.1
  have hl5 := V.2.1.1
  rw [h24]
  refine ⟨by omega, fun c => ?_, fun c => ?_⟩
  · rw [if_pos (show W.2.1.length = 5 by omega)] at I0
    exact I0 rfl σ (mSp.rf σ)
  · simp only [if_neg (show ¬ W.2.1.length = 5 by omega)] at I0 I1
    refine s_nums (n := 3) (by omega) hT h17 (by omega) (fun hn σ' S' => ⟨_, rfl, by decide, fun _ => I0 (by rw [hn]) σ' S'.sp, fun c => absurd rfl c⟩) (fun z hz σ3 S3 k17 kx => ⟨_, rfl, by decide, fun c => absurd c (by decide), fun _ => ?_⟩)
    have hzk := p_nums_ok hz
    obtain ⟨l, j⟩ := z
    match l, hzk, hz, kx with
    | [a, b, d], hzk, hz, kx =>
      simp only [hz] at I0 I1
      have ha := hzk.2.1 a (by simp)
      have hb := hzk.2.1 b (by simp)
      have hd := hzk.2.1 d (by simp)
      have k0 : σ3 12 0 = (a : Int) := kx 0 a rfl
      have k1 : σ3 12 1 = (b : Int) := kx 1 b rfl
      have k2 : σ3 12 2 = (d : Int) := kx 2 d rfl
      have no : ¬ (a ≤ 4 ∧ (1 ≤ b ∧ b ≤ 12) ∧ d ≤ 60) → Q (some (av_i 0)) σ3 := fun hno => I0 (by rw [if_neg hno]) σ3 S3.sp
      refine s_isTold (k := 0) (x := a) (l := 0) (m := 4) (by omega) k0 ha (by omega) (by omega) ⟨_, rfl, ?_⟩
      by_cases c1 : a ≤ 4
      · rw [if_pos ⟨Nat.zero_le _, c1⟩]
        refine ⟨by decide, fun c => absurd c (by decide), fun _ => s_isTold (k := 1) (x := b) (l := 1) (m := 12) (by omega) k1 hb (by omega) (by omega) ⟨_, rfl, ?_⟩⟩
        by_cases c2 : 1 ≤ b ∧ b ≤ 12
        · rw [if_pos c2]
          refine ⟨by decide, fun c => absurd c (by decide), fun _ => s_isTold (k := 2) (x := d) (l := 0) (m := 60) (by omega) k2 hd (by omega) (by omega) ⟨_, rfl, ?_⟩⟩
          by_cases c3 : d ≤ 60
          · rw [if_pos ⟨Nat.zero_le _, c3⟩, k0, k1, k2]
            refine ⟨by decide, fun _ => ?_, fun c => absurd c (by decide)⟩
            apply uX5_tellsReader
            have g24 : σ3 0 24 = (W.2.1.length : Int) := by rw [S3 0 24 (by omega) (by omega)]; exact h24
            have e1 : (3 * (W.2.1.length : Int)).toNat = 3 * W.2.1.length := by omega
            have e2 : (3 * (W.2.1.length : Int) + 1).toNat = 3 * W.2.1.length + 1 := by omega
            have e3 : (3 * (W.2.1.length : Int) + 2).toNat = 3 * W.2.1.length + 2 := by omega
            have e4 : (W.2.1.length : Int) + 1 = ((W.2.1.length + 1 : Nat) : Int) := by omega
            rw [g24, e1, e2, e3, e4]
            refine ⟨by omega, by omega, by omega, rfl, I1 _ (by rw [if_pos ⟨c1, c2, c3⟩]) _ ((((S3.sp.st _ (by omega)).st _ (by omega)).st _ (by omega)).st _ (by omega)) ?_ (by simp [av_st]; exact k17)⟩
            have W3 := hW.st S3
            obtain ⟨⟨a1, a2⟩, ⟨b1, b2⟩, ⟨cc1, cc2⟩, ⟨d1, d2, d3⟩, ee1⟩ := W3
            refine ⟨⟨?_, ?_⟩, ⟨?_, ?_⟩, ⟨?_, ?_⟩, ⟨?_, ?_, ?_⟩, ?_⟩
            · simp [av_st]; exact a1
            · intro q x hx
              obtain ⟨q1, q2, q3, q4⟩ := a2 q x hx
              exact ⟨by simp [av_st]; exact q1, fun u hu => by simp [av_st]; exact q2 u hu, by simp [av_st]; exact q3, by simp [av_st]; exact q4⟩
            · show _ = ((W.2.1 ++ [(a, b, d)]).length : Int)
              simp [av_st]
            · intro q x hx
              rcases gq_app1 hx with ⟨g1, g2⟩ | ⟨g1, g2⟩
              · obtain ⟨q1, q2, q3⟩ := b2 q x g1
                refine ⟨?_, ?_, ?_⟩
                · simp only [av_st]; rw [if_neg (by omega), if_neg (by omega), if_neg (by omega), if_neg (by omega)]; exact q1
                · simp only [av_st]; rw [if_neg (by omega), if_neg (by omega), if_neg (by omega), if_neg (by omega)]; exact q2
                · simp only [av_st]; rw [if_neg (by omega), if_neg (by omega), if_neg (by omega), if_neg (by omega)]; exact q3
              · subst g1; subst g2
                refine ⟨by simp [av_st], by simp [av_st], by simp [av_st]⟩
            · simp [av_st]; exact cc1
            · intro u hu
              simp [av_st]; exact cc2 u hu
            · simp [av_st]; exact d1
            · simp [av_st]; exact d2
            · simp [av_st]; exact d3
            · simp [av_st]; exact ee1
          · rw [if_neg (fun z => c3 z.2)]
            exact ⟨by decide, fun c => absurd rfl c, fun _ => no (fun z => c3 z.2.2)⟩
        · rw [if_neg c2]
          exact ⟨by decide, fun _ => no (fun z => c2 z.2.1), fun c => absurd rfl c⟩
      · rw [if_neg (fun z => c1 z.2)]
        exact ⟨by decide, fun _ => no (fun z => c1 z.1), fun c => absurd rfl c⟩
theorem s_readRiverOf {E : av_E} {σ : av_M} {Q : Option av_V → av_M → Prop} {cs : List Nat} {i : Nat} {W : q_W} (hT : mTx σ cs) (hW : mW σ W) (hi : i ≤ 3000) (hr : pc cs i = 118) (h17 : σ 0 17 = ((i + 1 : Nat) : Int)) (I : mIm E cs i W σ Q) : av_C E mSH mX5_readRiverOf [av_r 0] σ Q := by
  apply uX5_readRiverOf
  obtain ⟨I0, I1⟩ := I
  unfold p_item at I0 I1
  simp only [hr, show ¬ ((118 : Nat) = 114) by decide, show ¬ ((118 : Nat) = 107) by decide, show ¬ ((118 : Nat) = 119) by decide, if_false, if_true] at I0 I1
  refine s_nums (n := 3) (by omega) hT h17 (by omega) (fun hn σ' S' => ⟨_, rfl, by decide, fun _ => I0 (by rw [hn]) σ' S'.sp, fun c => absurd rfl c⟩) (fun z hz σ3 S3 k17 kx => ⟨_, rfl, by decide, fun c => absurd c (by decide), fun _ => ?_⟩)
  have hzk := p_nums_ok hz
  obtain ⟨l, j⟩ := z
  match l, hzk, hz, kx with
  | [a, b, d], hzk, hz, kx =>
    simp only [hz] at I0 I1
    have ha := hzk.2.1 a (by simp)
    have hb := hzk.2.1 b (by simp)
    have hd := hzk.2.1 d (by simp)
    have k0 : σ3 12 0 = (a : Int) := kx 0 a rfl
    have k1 : σ3 12 1 = (b : Int) := kx 1 b rfl
    have k2 : σ3 12 2 = (d : Int) := kx 2 d rfl
    have no : ¬ ((3 ≤ a ∧ a ≤ 60) ∧ b ≤ 24 ∧ 1 ≤ d ∧ d ≤ 20) → Q (some (av_i 0)) σ3 := fun hno => I0 (by rw [if_neg hno]) σ3 S3.sp
    refine s_isTold (k := 0) (x := a) (l := 3) (m := 60) (by omega) k0 ha (by omega) (by omega) ⟨_, rfl, ?_⟩
    by_cases c1 : 3 ≤ a ∧ a ≤ 60
    · rw [if_pos c1]
      refine ⟨by decide, fun c => absurd c (by decide), fun _ => s_isTold (k := 1) (x := b) (l := 0) (m := 24) (by omega) k1 hb (by omega) (by omega) ⟨_, rfl, ?_⟩⟩
      by_cases c2 : b ≤ 24
      · rw [if_pos ⟨Nat.zero_le _, c2⟩]
        refine ⟨by decide, fun c => absurd c (by decide), fun _ => s_isTold (k := 2) (x := d) (l := 1) (m := 20) (by omega) k2 hd (by omega) (by omega) ⟨_, rfl, ?_⟩⟩
        by_cases c3 : 1 ≤ d ∧ d ≤ 20
        · rw [if_pos c3]
          refine ⟨by decide, fun _ => ?_, fun c => absurd c (by decide)⟩
          apply uX5_readRiverOf_45
          refine ⟨by omega, fun c => by omega, fun _ => ⟨by omega, by omega, ?_⟩⟩
          apply uX5_readRiverOf_45
          refine ⟨by omega, fun c => by omega, fun _ => ⟨by omega, by omega, ?_⟩⟩
          apply uX5_readRiverOf_45
          refine ⟨by omega, fun c => by omega, fun _ => ⟨by omega, by omega, ?_⟩⟩
          apply uX5_readRiverOf_45
          refine ⟨by omega, fun _ => ?_, fun c => by omega⟩
          have z0 : (0 : Int).toNat = 0 := rfl
          have z1 : (0 + 1 : Int).toNat = 1 := rfl
          have z2 : (0 + 1 + 1 : Int).toNat = 2 := rfl
          rw [z0, z1, z2]
          refine I1 _ (by rw [if_pos ⟨c1, c2, c3⟩]) _ (((S3.sp.st _ (by omega)).st _ (by omega)).st _ (by omega)) ?_ (by simp [av_st]; exact k17)
          have W3 := hW.st S3
          obtain ⟨⟨a1, a2⟩, ⟨b1, b2⟩, ⟨cc1, cc2⟩, ⟨d1, d2, d3⟩, ee1⟩ := W3
          refine ⟨⟨?_, ?_⟩, ⟨?_, ?_⟩, ⟨?_, ?_⟩, ⟨?_, ?_, ?_⟩, ?_⟩
          · simp [av_st]; exact a1
          · intro q x hx
            obtain ⟨q1, q2, q3, q4⟩ := a2 q x hx
            exact ⟨by simp [av_st]; exact q1, fun u hu => by simp [av_st]; exact q2 u hu, by simp [av_st]; exact q3, by simp [av_st]; exact q4⟩
          · simp [av_st]; exact b1
          · intro q x hx
            have := b2 q x hx
            simp [av_st]; exact this
          · simp [av_st]; exact cc1
          · intro u hu
            simp [av_st]; exact cc2 u hu
          · simp [av_st, k0]
          · simp [av_st, k1]
          · simp [av_st, k2]
          · simp [av_st]; exact ee1
        · rw [if_neg c3]
          exact ⟨by decide, fun c => absurd rfl c, fun _ => no (fun z => c3 z.2.2)⟩
      · rw [if_neg (fun z => c2 z.2)]
        exact ⟨by decide, fun _ => no (fun z => c2 z.2.1), fun c => absurd rfl c⟩
    · rw [if_neg c1]
      exact ⟨by decide, fun _ => no (fun z => c1 z.1), fun c => absurd rfl c⟩
theorem s_readItem {E : av_E} {σ : av_M} {Q : Option av_V → av_M → Prop} {cs : List Nat} {i : Nat} {W : q_W} (hT : mTx σ cs) (hW : mW σ W) (V : p_Wv W) (hi : i < cs.length) (h17 : σ 0 17 = (i : Int)) (I : mIm E cs i W σ Q) : av_C E mSH mX5_readItem [av_r 0] σ Q := by
  apply uX5_readItem
  have hc := hT.2.2.2
  have h200 := hT.2.1
  have hr := mch_rg hc i
  rw [h17]
  refine s_letterAt hT (by omega) ⟨_, rfl, ?_⟩
  have e1 : (i : Int) + 1 = ((i + 1 : Nat) : Int) := by omega
  rw [h17, e1]
  have S1 : mSt σ (av_st σ 0 17 ((i + 1 : Nat) : Int)) := (mSt.rf σ).st _ (by omega)
  have T1 := hT.st S1
  have W1 := hW.st S1
  have g17 : av_st σ 0 17 ((i + 1 : Nat) : Int) 0 17 = ((i + 1 : Nat) : Int) := by simp [av_st]
  have I1 : mIm E cs i W (av_st σ 0 17 ((i + 1 : Nat) : Int)) Q := ⟨fun hn σ' S' => I.1 hn σ' (S1.sp.tr S'), fun r hr σ' S' => I.2 r hr σ' (S1.sp.tr S')⟩
  refine ⟨by omega, fun c => ?_, fun c => ?_, fun c => ?_, fun c => ?_, fun c => ?_, fun c => ?_⟩
  · have hp : pc cs i = 103 := (mch_eq (b := 103) (by omega)).mp c
    obtain ⟨I0, I2⟩ := I1
    unfold p_item at I0 I2
    simp only [hp, show ¬ ((103 : Nat) = 114) by decide, show ¬ ((103 : Nat) = 107) by decide, show ¬ ((103 : Nat) = 119) by decide, show ¬ ((103 : Nat) = 118) by decide, if_false, if_true] at I0 I2
    refine s_nums (n := 1) (by omega) T1 g17 (by omega) (fun hn σ' S' => ⟨_, rfl, by decide, fun _ => ⟨Or.inl rfl, I0 (by rw [hn]) _ (S'.sp.st _ (by omega))⟩, fun c => absurd rfl c⟩) (fun z hz σ3 S3 k17 kx => ⟨_, rfl, by decide, fun c => absurd c (by decide), fun _ => ⟨Or.inr rfl, ?_⟩⟩)
    have hzk := p_nums_ok hz
    obtain ⟨l, j⟩ := z
    match l, hzk, hz, kx with
    | [a], hzk, hz, kx =>
      simp only [hz] at I2
      have k0 : σ3 12 0 = (a : Int) := kx 0 a rfl
      refine I2 _ rfl _ (S3.sp.st _ (by omega)) ?_ (by simp [av_st]; exact k17)
      have W3 := W1.st S3
      obtain ⟨⟨a1, a2⟩, ⟨b1, b2⟩, ⟨cc1, cc2⟩, ⟨d1, d2, d3⟩, ee1⟩ := W3
      refine ⟨⟨?_, ?_⟩, ⟨?_, ?_⟩, ⟨?_, ?_⟩, ⟨?_, ?_, ?_⟩, ?_⟩
      · simp [av_st]; exact a1
      · intro q x hx
        obtain ⟨q1, q2, q3, q4⟩ := a2 q x hx
        exact ⟨by simp [av_st]; exact q1, fun u hu => by simp [av_st]; exact q2 u hu, by simp [av_st]; exact q3, by simp [av_st]; exact q4⟩
      · simp [av_st]; exact b1
      · intro q x hx
        have := b2 q x hx
        simp [av_st]; exact this
      · simp [av_st]; exact cc1
      · intro u hu
        simp [av_st]; exact cc2 u hu
      · simp [av_st]; exact d1
      · simp [av_st]; exact d2
      · simp [av_st]; exact d3
      · simp [av_st, k0]
  · have hp : pc cs i = 107 := (mch_eq (b := 107) (by omega)).mp c
    exact s_readReaderOf T1 W1 V (by omega) hp g17 ⟨fun hn σ' S' => ⟨_, rfl, Or.inl rfl, I1.1 hn σ' S'⟩, fun r hr σ' S' w k => ⟨_, rfl, Or.inr rfl, I1.2 r hr σ' S' w k⟩⟩
  · have hp : pc cs i = 114 := (mch_eq (b := 114) (by omega)).mp c
    exact s_readRootOf T1 W1 V (by omega) hp g17 ⟨fun hn σ' S' => ⟨_, rfl, Or.inl rfl, I1.1 hn σ' S'⟩, fun r hr σ' S' w k => ⟨_, rfl, Or.inr rfl, I1.2 r hr σ' S' w k⟩⟩
  · have hp : pc cs i = 118 := (mch_eq (b := 118) (by omega)).mp c
    exact s_readRiverOf T1 W1 (by omega) hp g17 ⟨fun hn σ' S' => ⟨_, rfl, Or.inl rfl, I1.1 hn σ' S'⟩, fun r hr σ' S' w k => ⟨_, rfl, Or.inr rfl, I1.2 r hr σ' S' w k⟩⟩
  · have hp : pc cs i = 119 := (mch_eq (b := 119) (by omega)).mp c
    obtain ⟨I0, I2⟩ := I1
    unfold p_item at I0 I2
    simp only [hp, show ¬ ((119 : Nat) = 114) by decide, show ¬ ((119 : Nat) = 107) by decide, if_false, if_true] at I0 I2
    refine s_letters_18 (i := i + 1) (d := 0) (m := 9) (b := 59) T1 g17 (by omega) (by omega) (by omega) (fun hn σ' F => ⟨_, rfl, by decide, fun _ => ?_, fun c => absurd c (by decide)⟩) (fun r hrow σ2 F L k17 kx => ⟨_, rfl, ?_⟩)
    · exact I0 (by rw [hn]) _ (mSp.st (fun a b q1 q2 => F a b (by omega) (by omega)) _ (by omega))
    · simp only [hrow] at I2
      have hn9 := p_let_le cs 9 (i + 1)
      have hpos : 0 < p_let cs (i + 1) 9 := by
        unfold p_row at hrow
        split at hrow
        · rename_i z; exact z.1
        · cases hrow
      have hdec : rw_cn 9 r.1 = p_let cs (i + 1) 9 ∧ ∀ u, u < p_let cs (i + 1) 9 → rw_d r.1 (p_let cs (i + 1) 9) u = (pc cs (i + 1 + u) : Int) - 97 := by
        unfold p_row at hrow
        split at hrow
        · cases hrow
          exact p_no_dec cs (i + 1) _ (fun u hu => p_let_in cs 9 (i + 1) u hu) (by omega)
        · cases hrow
      refine ⟨by omega, fun c => by omega, fun _ => ?_⟩
      refine I2 _ rfl _ (mSp.st (fun a b q1 q2 => F a b (by omega) (by omega)) _ (by omega)) ?_ (by simp [av_st]; exact k17)
      obtain ⟨⟨a1, a2⟩, ⟨b1, b2⟩, ⟨cc1, cc2⟩, ⟨d1, d2, d3⟩, ee1⟩ := W1
      refine ⟨⟨?_, ?_⟩, ⟨?_, ?_⟩, ⟨?_, ?_⟩, ⟨?_, ?_, ?_⟩, ?_⟩
      · simp only [av_st]; rw [if_neg (by omega), F 0 19 (by omega) (by omega)]; exact a1
      · intro q x hx
        obtain ⟨q1, q2, q3, q4⟩ := a2 q x hx
        refine ⟨?_, fun u hu => ?_, ?_, ?_⟩
        · simp only [av_st]; rw [if_neg (by omega), F 13 _ (by omega) (by omega)]; exact q1
        · simp only [av_st]; rw [if_neg (by omega), F 14 _ (by omega) (by omega)]; exact q2 u hu
        · simp only [av_st]; rw [if_neg (by omega), F 15 _ (by omega) (by omega)]; exact q3
        · simp only [av_st]; rw [if_neg (by omega), F 16 _ (by omega) (by omega)]; exact q4
      · simp only [av_st]; rw [if_neg (by omega), F 0 24 (by omega) (by omega)]; exact b1
      · intro q x hx
        simp only [av_st]
        rw [if_neg (by omega), if_neg (by omega), if_neg (by omega), F 17 _ (by omega) (by omega), F 17 _ (by omega) (by omega), F 17 _ (by omega) (by omega)]
        exact b2 q x hx
      · show _ = (rw_cn 9 r.1 : Int)
        rw [hdec.1]
        simp [av_st]
      · intro u hu
        have hu' : u < p_let cs (i + 1) 9 := by rw [← hdec.1]; exact hu
        show _ = rw_d r.1 (rw_cn 9 r.1) u
        rw [hdec.1, hdec.2 u hu']
        simp only [av_st]
        rw [if_neg (by omega)]
        have := kx u hu'
        rwa [Nat.zero_add] at this
      · simp only [av_st]; rw [if_neg (by omega), F 19 0 (by omega) (by omega)]; exact d1
      · simp only [av_st]; rw [if_neg (by omega), F 19 1 (by omega) (by omega)]; exact d2
      · simp only [av_st]; rw [if_neg (by omega), F 19 2 (by omega) (by omega)]; exact d3
      · simp only [av_st]; rw [if_neg (by omega), F 0 29 (by omega) (by omega)]; exact ee1
  · refine I1.1 ?_ _ (mSp.rf _)
    unfold p_item
    rw [if_neg (fun z => c.2.2.1 ((mch_eq (b := 114) (by omega)).mpr z)), if_neg (fun z => c.2.1 ((mch_eq (b := 107) (by omega)).mpr z)), if_neg (fun z => c.2.2.2.2 ((mch_eq (b := 119) (by omega)).mpr z)), if_neg (fun z => c.2.2.2.1 ((mch_eq (b := 118) (by omega)).mpr z)), if_neg (fun z => c.1 ((mch_eq (b := 103) (by omega)).mpr z))]
theorem s_fault {E : av_E} {σ : av_M} {Q : Option av_V → av_M → Prop} {cs : List Nat} (hT : mTx σ cs) (hQ : ∀ σ', mSp σ σ' → mW σ' (p_fault cs).2 → p_Wv (p_fault cs).2 → Q (some (av_i (p_fault cs).1)) σ') (hQ0 : ∀ σ', mSp σ σ' → 0 ≤ (p_fault cs).1 → Q (some (av_i (p_fault cs).1)) σ') : av_C E mSH mX5_fault [av_r 0] σ Q := by
  apply uX5_fault
  apply uX5_clearTold
  refine ⟨rfl, ?_⟩
  have h200 := hT.2.1
  have key : ∀ (f i : Nat) (W : q_W) (τ : av_M), cs.length < i + f → i ≤ 400 → mSp σ τ → mW τ W → p_Wv W → τ 0 17 = (i : Int) → p_go cs f i W = p_fault cs → av_W E mSH mX5_fault 9 [some (av_r 0), none] [] τ Q := by
    intro f
    induction f with
    | zero =>
      intro i W τ hf hi S hW V h17 hg
      have Tτ := hT.sp S
      apply uX5_fault_9
      rw [h17, Tτ.1]
      rw [p_go] at hg
      refine ⟨by omega, by omega, fun _ => ?_, fun c => by omega⟩
      have := hQ τ S (by rw [← hg]; exact hW) (by rw [← hg]; exact V)
      rw [← hg] at this
      exact this
    | succ f ih =>
      intro i W τ hf hi S hW V h17 hg
      have Tτ := hT.sp S
      apply uX5_fault_9
      rw [h17, Tτ.1]
      rw [p_go] at hg
      refine ⟨by omega, by omega, fun c => ?_, fun c => ?_⟩
      · rw [if_neg (by omega)] at hg
        have := hQ τ S (by rw [← hg]; exact hW) (by rw [← hg]; exact V)
        rw [← hg] at this
        exact this
      · rw [if_pos (by omega)] at hg
        refine s_readItem Tτ hW V (by omega) h17 ⟨fun hn σ' S' => ⟨_, rfl, by decide, fun c => absurd rfl c, fun _ => ?_⟩, fun r hr σ' S' w k => ⟨_, rfl, by decide, fun _ => ?_, fun c => absurd c (by decide)⟩⟩
        · rw [hn] at hg
          have := hQ0 σ' (S.tr S') (by rw [← hg]; exact Int.natCast_nonneg _)
          rw [← hg] at this
          exact this
        · simp only [hr] at hg
          have hok := p_item_ok V hr
          exact ih r.1 r.2 σ' (by omega) (by omega) (S.tr S') w hok.1 k hg
  refine key 201 0 p_W0 _ (by omega) (by omega) (((((((((mSp.rf σ).st _ (by omega)).st _ (by omega)).st _ (by omega)).st _ (by omega)).st _ (by omega)).st _ (by omega)).st _ (by omega)).st _ (by omega)) ?_ p_W0_v (by simp [av_st]) rfl
  refine ⟨⟨by simp [av_st, p_W0], fun r x hx => by simp [p_W0] at hx⟩, ⟨by simp [av_st, p_W0], fun r x hx => by simp [p_W0] at hx⟩, ⟨by simp [av_st, p_W0, rw_cn], fun i hi => by simp [p_W0, rw_cn] at hi⟩, ⟨by simp [av_st, p_W0], by simp [av_st, p_W0], by simp [av_st, p_W0]⟩, by simp [av_st, p_W0]⟩
