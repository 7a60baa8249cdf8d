/-! the class: the items of a text -/
theorem p_item_r {cs : List Nat} {i : Nat} {W : q_W} (h : pc cs i = 114) : p_item cs i W = if W.1.length = 8 then none else match p_row cs (i + 1) 3 44 with
    | none => none
    | some r => match p_num cs r.2 44 with
      | none => none
      | some q => match p_num cs q.2 59 with
        | none => none
        | some s => if (q.1 ≤ 60 ∧ s.1 ≤ 3 ∧ ¬ q.1 + s.1 = 0) ∧ ¬ r.1 ∈ W.1.map (fun x => x.1) then some (s.2, (W.1 ++ [(r.1, q.1, s.1)], W.2)) else none := by
  unfold p_item
  rw [if_pos h]
  split
  · rfl
  · cases p_row cs (i + 1) 3 44 with
    | none => rfl
    | some r =>
      simp only [p_nums_2]
      cases p_num cs r.2 44 with
      | none => rfl
      | some q =>
        simp only
        cases p_num cs q.2 59 <;> rfl
theorem p_item_k {cs : List Nat} {i : Nat} {W : q_W} (h : pc cs i = 107) : p_item cs i W = if W.2.1.length = 5 then none else match p_num cs (i + 1) 44 with
    | none => none
    | some q => match p_num cs q.2 44 with
      | none => none
      | some s => match p_num cs s.2 59 with
        | none => none
        | some t => if q.1 ≤ 4 ∧ (1 ≤ s.1 ∧ s.1 ≤ 12) ∧ t.1 ≤ 60 then some (t.2, (W.1, W.2.1 ++ [(q.1, s.1, t.1)], W.2.2)) else none := by
  unfold p_item
  rw [if_neg (by omega), if_pos h]
  split
  · rfl
  · simp only [p_nums_3]
    cases p_num cs (i + 1) 44 with
    | none => rfl
    | some q =>
      simp only
      cases p_num cs q.2 44 with
      | none => rfl
      | some s =>
        simp only
        cases p_num cs s.2 59 <;> rfl
theorem p_item_v {cs : List Nat} {i : Nat} {W : q_W} (h : pc cs i = 118) : p_item cs i W = match p_num cs (i + 1) 44 with
    | none => none
    | some q => match p_num cs q.2 44 with
      | none => none
      | some s => match p_num cs s.2 59 with
        | none => none
        | some t => if (3 ≤ q.1 ∧ q.1 ≤ 60) ∧ s.1 ≤ 24 ∧ 1 ≤ t.1 ∧ t.1 ≤ 20 then some (t.2, (W.1, W.2.1, W.2.2.1, (q.1, s.1, t.1), W.2.2.2.2)) else none := by
  unfold p_item
  rw [if_neg (by omega), if_neg (by omega), if_neg (by omega), if_pos h]
  simp only [p_nums_3]
  cases p_num cs (i + 1) 44 with
  | none => rfl
  | some q =>
    simp only
    cases p_num cs q.2 44 with
    | none => rfl
    | some s =>
      simp only
      cases p_num cs s.2 59 <;> rfl
theorem p_item_w {cs : List Nat} {i : Nat} {W : q_W} (h : pc cs i = 119) : p_item cs i W = match p_row cs (i + 1) 9 59 with
    | none => none
    | some r => some (r.2, (W.1, W.2.1, r.1, W.2.2.2)) := by
  unfold p_item
  rw [if_neg (by omega), if_neg (by omega), if_pos h]
  cases p_row cs (i + 1) 9 59 <;> rfl
theorem p_item_g {cs : List Nat} {i : Nat} {W : q_W} (h : pc cs i = 103) : p_item cs i W = match p_num cs (i + 1) 59 with
    | none => none
    | some q => some (q.2, (W.1, W.2.1, W.2.2.1, W.2.2.2.1, q.1)) := by
  unfold p_item
  rw [if_neg (by omega), if_neg (by omega), if_neg (by omega), if_neg (by omega), if_pos h]
  simp only [p_nums_1]
  cases p_num cs (i + 1) 59 <;> rfl
theorem p_item_0 {cs : List Nat} {i : Nat} {W : q_W} (h1 : ¬ pc cs i = 114) (h2 : ¬ pc cs i = 107) (h3 : ¬ pc cs i = 119) (h4 : ¬ pc cs i = 118) (h5 : ¬ pc cs i = 103) : p_item cs i W = none := by
  unfold p_item
  rw [if_neg h1, if_neg h2, if_neg h3, if_neg h4, if_neg h5]
/-- what an item's reading ends with -/
abbrev cIm (b : Nat) (cs : List Nat) (i : Nat) (W : q_W) (σ : av_M) (Q : Option av_V → av_M → Prop) : Prop :=
  (p_item cs i W = none → ∀ σ', cBw b σ σ' → cW1 σ' b W → Q (some (av_i 0)) σ') ∧ ∀ r, p_item cs i W = some r → ∀ σ', cBw b σ σ' → cW2 σ' b r.2 → σ' 1 2 = (r.1 : Int) → Q (some (av_i 1)) σ'

theorem c_readRoot_3 {E : av_E} {σ : av_M} {Q : Option av_V → av_M → Prop} {cs : List Nat} {i : Nat} {W : q_W} (hT : cTx σ cs) (hW : cW2 σ 3 W) (V : p_Wv W) (hi : i ≤ 3000) (hp : pc cs i = 114) (h2 : σ 1 2 = ((i + 1 : Nat) : Int)) (I : cIm 3 cs i W σ Q) : av_C E cSH mX2_readRoot [av_r 1, av_r 3] σ Q := by
  apply uX2_readRoot_3
  rw [cIm, p_item_r hp] at I
  obtain ⟨I0, I1⟩ := I
  have no : ∀ τ, cXf σ τ → _ := fun τ F hn => I0 hn τ F.bw (hW.xf (by omega) F).1
  refine c_readRow (m := 3) (b := 44) hT h2 (by omega) (by omega) (by omega) (fun hn σ1 j1 F1 e1 k1 => ⟨_, rfl, ?_⟩) (fun r hr σ1 F1 e1 => ⟨_, rfl, ?_⟩)
  · refine c_readAny (lo := 0) (hi := 60) (b := 44) (hT.xf F1) e1 (by omega) (by omega) (by omega) (by omega) (fun x σ2 j2 F2 e2 k2 _ _ => ⟨_, rfl, ?_⟩)
    refine c_readAny (lo := 0) (hi := 3) (b := 59) ((hT.xf F1).xf F2) e2 (by omega) (by omega) (by omega) (by omega) (fun y σ3 j3 F3 e3 k3 _ _ => ⟨_, rfl, by decide, fun _ => ?_, fun c => by omega⟩)
    exact no σ3 ((F1.tr F2).tr F3) (by rw [hn]; split <;> rfl)
  · have hro := p_row_ok hr
    have hr3 := p_ok3_lt hro.1
    simp only [hr] at I0 I1 no
    refine c_readNumber (lo := 0) (hi := 60) (b := 44) (hT.xf F1) e1 (by omega) (by omega) (by omega) (by omega) (fun hn σ2 j2 F2 e2 k2 => ⟨_, rfl, ?_⟩) (fun q hq q1 q2 σ2 F2 e2 => ⟨_, rfl, ?_⟩)
    · refine c_readAny (lo := 0) (hi := 3) (b := 59) ((hT.xf F1).xf F2) e2 (by omega) (by omega) (by omega) (by omega) (fun y σ3 j3 F3 e3 k3 _ _ => ⟨_, rfl, by unfold rg; omega, fun c => by omega, fun _ => ⟨by decide, fun _ => ?_, fun c => by omega⟩⟩)
      refine no σ3 ((F1.tr F2).tr F3) ?_
      split
      · rfl
      · cases hq : p_num cs r.2 44 with
        | none => rfl
        | some q =>
          have := hn q hq
          simp only
          cases p_num cs q.2 59 with
          | none => rfl
          | some s =>
            simp only
            rw [if_neg (by omega)]
    · have hqo := p_num_ok hq
      simp only [hq] at I0 I1 no
      refine c_readNumber (lo := 0) (hi := 3) (b := 59) ((hT.xf F1).xf F2) e2 (by omega) (by omega) (by omega) (by omega) (fun hn σ3 j3 F3 e3 k3 => ⟨_, rfl, by unfold rg; omega, fun c => by omega, fun _ => ⟨by unfold rg; omega, fun c => by omega, fun _ => ⟨by decide, fun _ => ?_, fun c => by omega⟩⟩⟩) (fun s hs s1 s2 σ3 F3 e3 => ⟨_, rfl, by unfold rg; omega, fun c => by omega, fun _ => ⟨by unfold rg; omega, fun c => by omega, fun _ => ⟨by unfold rg; omega, fun c => by omega, fun _ => ?_⟩⟩⟩)
      · refine no σ3 ((F1.tr F2).tr F3) ?_
        split
        · rfl
        · cases hs : p_num cs q.2 59 with
          | none => rfl
          | some s =>
            have := hn s hs
            simp only
            rw [if_neg (by omega)]
      · have hso := p_num_ok hs
        simp only [hs] at I0 I1 no
        have F := (F1.tr F2).tr F3
        refine c_addRoot_3 V (hW.xf (by omega) F) hro.1 q2 s2 (fun hn => ⟨_, rfl, by decide, fun _ => ?_, fun c => absurd rfl c⟩) (fun n1 n2 n3 σ4 F4 w4 e4 => ⟨_, rfl, by decide, fun c => absurd c (by decide), fun _ => ?_⟩)
        · refine no σ3 F ?_
          by_cases c8 : W.1.length = 8
          · rw [if_pos c8]
          · rw [if_neg c8, if_neg]
            rintro ⟨z1, z2⟩
            rcases hn with h | h | h
            · exact c8 h
            · exact z1.2.2 h
            · exact z2 h
        · rw [if_neg n1, if_pos ⟨⟨q2, s2, n2⟩, n3⟩] at I1
          exact I1 _ rfl σ4 (F.bw.tr F4) w4 (by rw [e4]; exact e3)
theorem c_readReader_3 {E : av_E} {σ : av_M} {Q : Option av_V → av_M → Prop} {cs : List Nat} {i : Nat} {W : q_W} (hT : cTx σ cs) (hW : cW2 σ 3 W) (V : p_Wv W) (hi : i ≤ 3000) (hp : pc cs i = 107) (h2 : σ 1 2 = ((i + 1 : Nat) : Int)) (I : cIm 3 cs i W σ Q) : av_C E cSH mX2_readReader [av_r 1, av_r 3] σ Q := by
  apply uX2_readReader_3
  rw [cIm, p_item_k hp] at I
  obtain ⟨I0, I1⟩ := I
  have no : ∀ τ, cXf σ τ → _ := fun τ F hn => I0 hn τ F.bw (hW.xf (by omega) F).1
  refine c_readNumber (lo := 0) (hi := 4) (b := 44) hT h2 (by omega) (by omega) (by omega) (by omega) (fun hn σ1 j1 F1 e1 k1 => ⟨_, rfl, ?_⟩) (fun r hr r1 r2 σ1 F1 e1 => ⟨_, rfl, ?_⟩)
  · refine c_readAny (lo := 1) (hi := 12) (b := 44) (hT.xf F1) e1 (by omega) (by omega) (by omega) (by omega) (fun x σ2 j2 F2 e2 k2 _ _ => ⟨_, rfl, ?_⟩)
    refine c_readAny (lo := 0) (hi := 60) (b := 59) ((hT.xf F1).xf F2) e2 (by omega) (by omega) (by omega) (by omega) (fun y σ3 j3 F3 e3 k3 _ _ => ⟨_, rfl, by decide, fun _ => ?_, fun c => by omega⟩)
    refine no σ3 ((F1.tr F2).tr F3) ?_
    split
    · rfl
    · cases hr : p_num cs (i + 1) 44 with
      | none => rfl
      | some r =>
        have := hn r hr
        simp only
        cases p_num cs r.2 44 with
        | none => rfl
        | some q =>
          simp only
          cases p_num cs q.2 59 with
          | none => rfl
          | some s =>
            simp only
            rw [if_neg (by omega)]
  · have hro := p_num_ok hr
    simp only [hr] at I0 I1 no
    refine c_readNumber (lo := 1) (hi := 12) (b := 44) (hT.xf F1) e1 (by omega) (by omega) (by omega) (by omega) (fun hn σ2 j2 F2 e2 k2 => ⟨_, rfl, ?_⟩) (fun q hq q1 q2 σ2 F2 e2 => ⟨_, rfl, ?_⟩)
    · refine c_readAny (lo := 0) (hi := 60) (b := 59) ((hT.xf F1).xf F2) e2 (by omega) (by omega) (by omega) (by omega) (fun y σ3 j3 F3 e3 k3 _ _ => ⟨_, rfl, by unfold rg; omega, fun c => by omega, fun _ => ⟨by decide, fun _ => ?_, fun c => by omega⟩⟩)
      refine no σ3 ((F1.tr F2).tr F3) ?_
      split
      · rfl
      · cases hq : p_num cs r.2 44 with
        | none => rfl
        | some q =>
          have := hn q hq
          simp only
          cases p_num cs q.2 59 with
          | none => rfl
          | some s =>
            simp only
            rw [if_neg (by omega)]
    · have hqo := p_num_ok hq
      simp only [hq] at I0 I1 no
      refine c_readNumber (lo := 0) (hi := 60) (b := 59) ((hT.xf F1).xf F2) e2 (by omega) (by omega) (by omega) (by omega) (fun hn σ3 j3 F3 e3 k3 => ⟨_, rfl, by unfold rg; omega, fun c => by omega, fun _ => ⟨by unfold rg; omega, fun c => by omega, fun _ => ⟨by decide, fun _ => ?_, fun c => by omega⟩⟩⟩) (fun s hs s1 s2 σ3 F3 e3 => ⟨_, rfl, by unfold rg; omega, fun c => by omega, fun _ => ⟨by unfold rg; omega, fun c => by omega, fun _ => ⟨by unfold rg; omega, fun c => by omega, fun _ => ?_⟩⟩⟩)
      · refine no σ3 ((F1.tr F2).tr F3) ?_
        split
        · rfl
        · cases hs : p_num cs q.2 59 with
          | none => rfl
          | some s =>
            have := hn s hs
            simp only
            rw [if_neg (by omega)]
      · have hso := p_num_ok hs
        simp only [hs] at I0 I1 no
        have F := (F1.tr F2).tr F3
        refine c_addReader_3 V (hW.xf (by omega) F) (fun hn => ⟨_, rfl, by decide, fun _ => ?_, fun c => absurd rfl c⟩) (fun n1 σ4 F4 w4 e4 => ⟨_, rfl, by decide, fun c => absurd c (by decide), fun _ => ?_⟩)
        · refine no σ3 F ?_
          rw [if_pos hn]
        · rw [if_neg n1, if_pos ⟨r2, ⟨q1, q2⟩, s2⟩] at I1
          exact I1 _ rfl σ4 (F.bw.tr F4) w4 (by rw [e4]; exact e3)
theorem c_readRiver_3 {E : av_E} {σ : av_M} {Q : Option av_V → av_M → Prop} {cs : List Nat} {i : Nat} {W : q_W} (hT : cTx σ cs) (hW : cW2 σ 3 W) (hi : i ≤ 3000) (hp : pc cs i = 118) (h2 : σ 1 2 = ((i + 1 : Nat) : Int)) (I : cIm 3 cs i W σ Q) : av_C E cSH mX2_readRiver [av_r 1, av_r 3] σ Q := by
  apply uX2_readRiver_3
  rw [cIm, p_item_v hp] at I
  obtain ⟨I0, I1⟩ := I
  have no : ∀ τ (a b c : Int), cXf σ τ → _ := fun τ a b c F hn => I0 hn (av_st (av_st (av_st τ 3 11 a) 3 12 b) 3 13 c) (((F.bw.st _ (by omega)).st _ (by omega)).st _ (by omega)) ((hW.xf (by omega) F).1.congr (fun u k _ _ p => by
    simp only [av_st]
    rw [if_neg (by omega), if_neg (by omega), if_neg (by omega)]) rfl rfl)
  refine c_readNumber (lo := 3) (hi := 60) (b := 44) hT h2 (by omega) (by omega) (by omega) (by omega) (fun hn σ1 j1 F1 e1 k1 => ⟨_, rfl, ?_⟩) (fun r hr r1 r2 σ1 F1 e1 => ⟨_, rfl, ?_⟩)
  · refine c_readAny (lo := 0) (hi := 24) (b := 44) (hT.xf F1) e1 (by omega) (by omega) (by omega) (by omega) (fun x σ2 j2 F2 e2 k2 _ _ => ⟨_, rfl, ?_⟩)
    refine c_readAny (lo := 1) (hi := 20) (b := 59) ((hT.xf F1).xf F2) e2 (by omega) (by omega) (by omega) (by omega) (fun y σ3 j3 F3 e3 k3 _ _ => ⟨_, rfl, c_setRiver_3 ⟨rfl, by decide, fun _ => ?_, fun c => by omega⟩⟩)
    refine no σ3 _ _ _ ((F1.tr F2).tr F3) ?_
    cases hr : p_num cs (i + 1) 44 with
    | none => rfl
    | some r =>
      have := hn r hr
      simp only
      cases p_num cs r.2 44 with
      | none => rfl
      | some q =>
        simp only
        cases p_num cs q.2 59 with
        | none => rfl
        | some s =>
          simp only
          rw [if_neg (by omega)]
  · have hro := p_num_ok hr
    simp only [hr] at I0 I1 no
    refine c_readNumber (lo := 0) (hi := 24) (b := 44) (hT.xf F1) e1 (by omega) (by omega) (by omega) (by omega) (fun hn σ2 j2 F2 e2 k2 => ⟨_, rfl, ?_⟩) (fun q hq q1 q2 σ2 F2 e2 => ⟨_, rfl, ?_⟩)
    · refine c_readAny (lo := 1) (hi := 20) (b := 59) ((hT.xf F1).xf F2) e2 (by omega) (by omega) (by omega) (by omega) (fun y σ3 j3 F3 e3 k3 _ _ => ⟨_, rfl, c_setRiver_3 ⟨rfl, by unfold rg; omega, fun c => by omega, fun _ => ⟨by decide, fun _ => ?_, fun c => by omega⟩⟩⟩)
      refine no σ3 _ _ _ ((F1.tr F2).tr F3) ?_
      cases hq : p_num cs r.2 44 with
      | none => rfl
      | some q =>
        have := hn q hq
        simp only
        cases p_num cs q.2 59 with
        | none => rfl
        | some s =>
          simp only
          rw [if_neg (by omega)]
    · have hqo := p_num_ok hq
      simp only [hq] at I0 I1 no
      refine c_readNumber (lo := 1) (hi := 20) (b := 59) ((hT.xf F1).xf F2) e2 (by omega) (by omega) (by omega) (by omega) (fun hn σ3 j3 F3 e3 k3 => ⟨_, rfl, c_setRiver_3 ⟨rfl, by unfold rg; omega, fun c => by omega, fun _ => ⟨by unfold rg; omega, fun c => by omega, fun _ => ⟨by decide, fun _ => ?_, fun c => by omega⟩⟩⟩⟩) (fun s hs s1 s2 σ3 F3 e3 => ⟨_, rfl, c_setRiver_3 ⟨rfl, by unfold rg; omega, fun c => by omega, fun _ => ⟨by unfold rg; omega, fun c => by omega, fun _ => ⟨by unfold rg; omega, fun c => by omega, fun _ => ?_⟩⟩⟩⟩)
      · refine no σ3 _ _ _ ((F1.tr F2).tr F3) ?_
        cases hs : p_num cs q.2 59 with
        | none => rfl
        | some s =>
          have := hn s hs
          simp only
          rw [if_neg (by omega)]
      · simp only [hs] at I0 I1 no
        have F := (F1.tr F2).tr F3
        rw [if_pos ⟨⟨r1, r2⟩, q2, s1, s2⟩] at I1
        have w3 := hW.xf (by omega) F
        refine I1 _ rfl _ (((F.bw.st _ (by omega)).st _ (by omega)).st _ (by omega)) ⟨w3.1.congr (fun u k _ _ p => by
          simp only [av_st]
          rw [if_neg (by omega), if_neg (by omega), if_neg (by omega)]) rfl rfl, ?_, ⟨?_, ?_, ?_⟩, ?_⟩ ?_
        · simp [av_st]; exact w3.2.1
        · simp [av_st]
        · simp [av_st]
        · simp [av_st]
        · simp [av_st]; exact w3.2.2.2
        · simp [av_st]; exact e3
theorem c_readWriting_3 {E : av_E} {σ : av_M} {Q : Option av_V → av_M → Prop} {cs : List Nat} {i : Nat} {W : q_W} (hT : cTx σ cs) (hW : cW2 σ 3 W) (hi : i ≤ 3000) (hp : pc cs i = 119) (h2 : σ 1 2 = ((i + 1 : Nat) : Int)) (I : cIm 3 cs i W σ Q) : av_C E cSH mX2_readWriting [av_r 1, av_r 3] σ Q := by
  apply uX2_readWriting_3
  rw [cIm, p_item_w hp] at I
  obtain ⟨I0, I1⟩ := I
  refine c_readRow (m := 9) (b := 59) hT h2 (by omega) (by omega) (by omega) (fun hn σ1 j1 F1 e1 k1 => ⟨_, rfl, by decide, fun _ => ?_, fun c => by omega⟩) (fun r hr σ1 F1 e1 => ⟨_, rfl, ?_⟩)
  · exact I0 (by rw [hn]) _ (F1.bw.st _ (by omega)) ((hW.xf (by omega) F1).1.congr (fun u k _ _ p => by
      simp only [av_st]
      rw [if_neg (by omega)]) rfl rfl)
  · simp only [hr] at I1
    have hro := (p_row_ok hr).1
    obtain ⟨n, row, n1, n2, n3, n4⟩ := hro
    have hV := (rw_ok n3 n2 n4).1.1
    have w3 := hW.xf (by omega) F1
    refine ⟨by unfold rg; omega, fun c => by omega, fun _ => I1 _ rfl _ (F1.bw.st _ (by omega)) ⟨w3.1.congr (fun u k _ _ p => by
      simp only [av_st]
      rw [if_neg (by omega)]) rfl rfl, ?_, ⟨?_, ?_, ?_⟩, ?_⟩ ?_⟩
    · simp [av_st]
    · simp [av_st]; exact w3.2.2.1.1
    · simp [av_st]; exact w3.2.2.1.2.1
    · simp [av_st]; exact w3.2.2.1.2.2
    · simp [av_st]; exact w3.2.2.2
    · simp [av_st]; exact e1
theorem c_readGold_3 {E : av_E} {σ : av_M} {Q : Option av_V → av_M → Prop} {cs : List Nat} {i : Nat} {W : q_W} (hT : cTx σ cs) (hW : cW2 σ 3 W) (hi : i ≤ 3000) (hp : pc cs i = 103) (h2 : σ 1 2 = ((i + 1 : Nat) : Int)) (I : cIm 3 cs i W σ Q) : av_C E cSH mX2_readGold [av_r 1, av_r 3] σ Q := by
  apply uX2_readGold_3
  rw [cIm, p_item_g hp] at I
  obtain ⟨I0, I1⟩ := I
  refine c_readNumber (lo := 0) (hi := 99) (b := 59) hT h2 (by omega) (by omega) (by omega) (by omega) (fun hn σ1 j1 F1 e1 k1 => ⟨_, rfl, by decide, fun _ => ?_, fun c => by omega⟩) (fun r hr r1 r2 σ1 F1 e1 => ⟨_, rfl, ?_⟩)
  · refine I0 ?_ _ (F1.bw.st _ (by omega)) ((hW.xf (by omega) F1).1.congr (fun u k _ _ p => by
      simp only [av_st]
      rw [if_neg (by omega)]) rfl rfl)
    cases hr : p_num cs (i + 1) 59 with
    | none => rfl
    | some r =>
      have := hn r hr
      have := p_num_ok hr
      omega
  · simp only [hr] at I1
    have w3 := hW.xf (by omega) F1
    refine ⟨by unfold rg; omega, fun c => by omega, fun _ => I1 _ rfl _ (F1.bw.st _ (by omega)) ⟨w3.1.congr (fun u k _ _ p => by
      simp only [av_st]
      rw [if_neg (by omega)]) rfl rfl, ?_, ⟨?_, ?_, ?_⟩, ?_⟩ ?_⟩
    · simp [av_st]; exact w3.2.1
    · simp [av_st]; exact w3.2.2.1.1
    · simp [av_st]; exact w3.2.2.1.2.1
    · simp [av_st]; exact w3.2.2.1.2.2
    · simp [av_st]
    · simp [av_st]; exact e1
theorem c_readItem_3 {E : av_E} {σ : av_M} {Q : Option av_V → av_M → Prop} {cs : List Nat} {i : Nat} {W : q_W} (hT : cTx σ cs) (hW : cW2 σ 3 W) (V : p_Wv W) (hi : i ≤ 3000) (h2 : σ 1 2 = (i : Int)) (I : cIm 3 cs i W σ Q) : av_C E cSH mX2_readItem [av_r 1, av_r 3] σ Q := by
  apply uX2_readItem_3
  have hle := pc_le hT.2.2.2 i
  refine c_sign hT h2 (by omega) ⟨_, rfl, by unfold rg; omega, ?_⟩
  rw [h2, show (i : Int) + 1 = ((i + 1 : Nat) : Int) by omega]
  have F1 : cXf σ (av_st σ 1 2 ((i + 1 : Nat) : Int)) := (cXf.rf σ).st _
  have g1 : av_st σ 1 2 ((i + 1 : Nat) : Int) 1 2 = ((i + 1 : Nat) : Int) := by simp [av_st]
  have T1 := hT.xf F1
  have W1 := hW.xf (by omega) F1
  have I1 : cIm 3 cs i W (av_st σ 1 2 ((i + 1 : Nat) : Int)) (fun v s2 => ∃ r2 : Int, v = some (av_i r2) ∧ ((r2 = 0 ∨ r2 = 1) ∧ (Q (some (av_i r2)) s2))) := ⟨fun hn σ' F w => ⟨_, rfl, Or.inl rfl, I.1 hn σ' (F1.bw.tr F) w⟩, fun r hr σ' F w e => ⟨_, rfl, Or.inr rfl, I.2 r hr σ' (F1.bw.tr F) w e⟩⟩
  refine ⟨fun c => c_readGold_3 T1 W1 hi (by omega) g1 I1, fun c => c_readReader_3 T1 W1 V hi (by omega) g1 I1, fun c => c_readRoot_3 T1 W1 V hi (by omega) g1 I1, fun c => c_readRiver_3 T1 W1 hi (by omega) g1 I1, fun c => c_readWriting_3 T1 W1 hi (by omega) g1 I1, fun c => ?_⟩
  exact I.1 (p_item_0 (by omega) (by omega) (by omega) (by omega) (by omega)) _ F1.bw W1.1
theorem c_firstFault_3 {E : av_E} {σ : av_M} {Q : Option av_V → av_M → Prop} {cs : List Nat} {l : gq_T × Nat × (Nat → Int)} (hT : cTx σ cs) (V : gq_V l.1) (h : cWd σ 3 l) (hQ : ∀ σ', cBw 3 σ σ' → p_Wv (p_fault cs).2 → cW1 σ' 3 (p_fault cs).2 → ((p_fault cs).1 = -4 → cW2 σ' 3 (p_fault cs).2) → Q (some (av_i (p_fault cs).1)) σ') : av_C E cSH mX2_firstFault [av_r 1, av_r 3] σ Q := by
  apply uX2_firstFault_3
  have h200 := hT.2.1
  have key : ∀ (f n i : Nat) (W : q_W) (τ : av_M), n + f = 200 → n ≤ i → i ≤ 400 → cBw 3 σ τ → cW2 τ 3 W → p_Wv W → τ 1 2 = (i : Int) → p_go cs (f + 1) i W = p_fault cs → av_W E cSH mX2_firstFault 11 [some (av_r 1), some (av_r 3), some (av_i (n : Int)), none] [] τ Q := by
    intro f
    induction f with
    | zero =>
      intro n i W τ hf hn hi F hW V2 h12 hg
      apply uX2_firstFault_3_11
      rw [p_go, if_neg (by omega)] at hg
      have := hQ τ F (by rw [← hg]; exact V2) (by rw [← hg]; exact hW.1) (fun _ => by rw [← hg]; exact hW)
      rw [← hg] at this
      exact ⟨by omega, fun _ => this, fun c => by omega⟩
    | succ f ih =>
      intro n i W τ hf hn hi F hW V2 h12 hg
      apply uX2_firstFault_3_11
      have T1 := hT.bw (by omega) F
      rw [p_go] at hg
      rw [T1.1, h12, show (n : Int) + 1 = ((n + 1 : Nat) : Int) by omega]
      refine ⟨by omega, fun c => by omega, fun _ => ⟨by omega, by omega, fun c => ?_, fun c => ?_⟩⟩
      · rw [if_neg (by omega)] at hg
        have := hQ τ F (by rw [← hg]; exact V2) (by rw [← hg]; exact hW.1) (fun _ => by rw [← hg]; exact hW)
        rw [← hg] at this
        exact this
      · rw [if_pos (by omega)] at hg
        refine c_readItem_3 T1 hW V2 (by omega) h12 ⟨fun hno σ' F' w => ⟨_, rfl, by decide, fun c => absurd rfl c, fun _ => ?_⟩, fun r hr σ' F' w e => ⟨_, rfl, by decide, fun _ => ?_, fun c => absurd c (by decide)⟩⟩
        · rw [hno] at hg
          have := hQ σ' (F.tr F') (by rw [← hg]; exact V2) (by rw [← hg]; exact w) (fun q => by rw [← hg] at q; simp only at q; omega)
          rw [← hg] at this
          exact this
        · simp only [hr] at hg
          have hok := p_item_ok V2 hr
          exact ih (n + 1) r.1 r.2 σ' (by omega) (by omega) (by omega) (F.tr F') w hok.1 e hg
  refine c_clear_3 V h (fun σ1 F1 e1 w1 => ⟨rfl, ?_⟩)
  refine key 200 0 0 p_W0 _ (by omega) (by omega) (by omega) ?_ (w1.xf (by omega) ((cXf.rf σ1).st 0)) p_W0_v (by simp [av_st]) rfl
  exact F1.tr ((cXf.rf σ1).st 0).bw

theorem c_readRoot_12 {E : av_E} {σ : av_M} {Q : Option av_V → av_M → Prop} {cs : List Nat} {i : Nat} {W : q_W} (hT : cTx σ cs) (hW : cW2 σ 12 W) (V : p_Wv W) (hi : i ≤ 3000) (hp : pc cs i = 114) (h2 : σ 1 2 = ((i + 1 : Nat) : Int)) (I : cIm 12 cs i W σ Q) : av_C E cSH mX2_readRoot [av_r 1, av_r 12] σ Q := by
  apply uX2_readRoot_12
  rw [cIm, p_item_r hp] at I
  obtain ⟨I0, I1⟩ := I
  have no : ∀ τ, cXf σ τ → _ := fun τ F hn => I0 hn τ F.bw (hW.xf (by omega) F).1
  refine c_readRow (m := 3) (b := 44) hT h2 (by omega) (by omega) (by omega) (fun hn σ1 j1 F1 e1 k1 => ⟨_, rfl, ?_⟩) (fun r hr σ1 F1 e1 => ⟨_, rfl, ?_⟩)
  · refine c_readAny (lo := 0) (hi := 60) (b := 44) (hT.xf F1) e1 (by omega) (by omega) (by omega) (by omega) (fun x σ2 j2 F2 e2 k2 _ _ => ⟨_, rfl, ?_⟩)
    refine c_readAny (lo := 0) (hi := 3) (b := 59) ((hT.xf F1).xf F2) e2 (by omega) (by omega) (by omega) (by omega) (fun y σ3 j3 F3 e3 k3 _ _ => ⟨_, rfl, by decide, fun _ => ?_, fun c => by omega⟩)
    exact no σ3 ((F1.tr F2).tr F3) (by rw [hn]; split <;> rfl)
  · have hro := p_row_ok hr
    have hr3 := p_ok3_lt hro.1
    simp only [hr] at I0 I1 no
    refine c_readNumber (lo := 0) (hi := 60) (b := 44) (hT.xf F1) e1 (by omega) (by omega) (by omega) (by omega) (fun hn σ2 j2 F2 e2 k2 => ⟨_, rfl, ?_⟩) (fun q hq q1 q2 σ2 F2 e2 => ⟨_, rfl, ?_⟩)
    · refine c_readAny (lo := 0) (hi := 3) (b := 59) ((hT.xf F1).xf F2) e2 (by omega) (by omega) (by omega) (by omega) (fun y σ3 j3 F3 e3 k3 _ _ => ⟨_, rfl, by unfold rg; omega, fun c => by omega, fun _ => ⟨by decide, fun _ => ?_, fun c => by omega⟩⟩)
      refine no σ3 ((F1.tr F2).tr F3) ?_
      split
      · rfl
      · cases hq : p_num cs r.2 44 with
        | none => rfl
        | some q =>
          have := hn q hq
          simp only
          cases p_num cs q.2 59 with
          | none => rfl
          | some s =>
            simp only
            rw [if_neg (by omega)]
    · have hqo := p_num_ok hq
      simp only [hq] at I0 I1 no
      refine c_readNumber (lo := 0) (hi := 3) (b := 59) ((hT.xf F1).xf F2) e2 (by omega) (by omega) (by omega) (by omega) (fun hn σ3 j3 F3 e3 k3 => ⟨_, rfl, by unfold rg; omega, fun c => by omega, fun _ => ⟨by unfold rg; omega, fun c => by omega, fun _ => ⟨by decide, fun _ => ?_, fun c => by omega⟩⟩⟩) (fun s hs s1 s2 σ3 F3 e3 => ⟨_, rfl, by unfold rg; omega, fun c => by omega, fun _ => ⟨by unfold rg; omega, fun c => by omega, fun _ => ⟨by unfold rg; omega, fun c => by omega, fun _ => ?_⟩⟩⟩)
      · refine no σ3 ((F1.tr F2).tr F3) ?_
        split
        · rfl
        · cases hs : p_num cs q.2 59 with
          | none => rfl
          | some s =>
            have := hn s hs
            simp only
            rw [if_neg (by omega)]
      · have hso := p_num_ok hs
        simp only [hs] at I0 I1 no
        have F := (F1.tr F2).tr F3
        refine c_addRoot_12 V (hW.xf (by omega) F) hro.1 q2 s2 (fun hn => ⟨_, rfl, by decide, fun _ => ?_, fun c => absurd rfl c⟩) (fun n1 n2 n3 σ4 F4 w4 e4 => ⟨_, rfl, by decide, fun c => absurd c (by decide), fun _ => ?_⟩)
        · refine no σ3 F ?_
          by_cases c8 : W.1.length = 8
          · rw [if_pos c8]
          · rw [if_neg c8, if_neg]
            rintro ⟨z1, z2⟩
            rcases hn with h | h | h
            · exact c8 h
            · exact z1.2.2 h
            · exact z2 h
        · rw [if_neg n1, if_pos ⟨⟨q2, s2, n2⟩, n3⟩] at I1
          exact I1 _ rfl σ4 (F.bw.tr F4) w4 (by rw [e4]; exact e3)
theorem c_readReader_12 {E : av_E} {σ : av_M} {Q : Option av_V → av_M → Prop} {cs : List Nat} {i : Nat} {W : q_W} (hT : cTx σ cs) (hW : cW2 σ 12 W) (V : p_Wv W) (hi : i ≤ 3000) (hp : pc cs i = 107) (h2 : σ 1 2 = ((i + 1 : Nat) : Int)) (I : cIm 12 cs i W σ Q) : av_C E cSH mX2_readReader [av_r 1, av_r 12] σ Q := by
  apply uX2_readReader_12
  rw [cIm, p_item_k hp] at I
  obtain ⟨I0, I1⟩ := I
  have no : ∀ τ, cXf σ τ → _ := fun τ F hn => I0 hn τ F.bw (hW.xf (by omega) F).1
  refine c_readNumber (lo := 0) (hi := 4) (b := 44) hT h2 (by omega) (by omega) (by omega) (by omega) (fun hn σ1 j1 F1 e1 k1 => ⟨_, rfl, ?_⟩) (fun r hr r1 r2 σ1 F1 e1 => ⟨_, rfl, ?_⟩)
  · refine c_readAny (lo := 1) (hi := 12) (b := 44) (hT.xf F1) e1 (by omega) (by omega) (by omega) (by omega) (fun x σ2 j2 F2 e2 k2 _ _ => ⟨_, rfl, ?_⟩)
    refine c_readAny (lo := 0) (hi := 60) (b := 59) ((hT.xf F1).xf F2) e2 (by omega) (by omega) (by omega) (by omega) (fun y σ3 j3 F3 e3 k3 _ _ => ⟨_, rfl, by decide, fun _ => ?_, fun c => by omega⟩)
    refine no σ3 ((F1.tr F2).tr F3) ?_
    split
    · rfl
    · cases hr : p_num cs (i + 1) 44 with
      | none => rfl
      | some r =>
        have := hn r hr
        simp only
        cases p_num cs r.2 44 with
        | none => rfl
        | some q =>
          simp only
          cases p_num cs q.2 59 with
          | none => rfl
          | some s =>
            simp only
            rw [if_neg (by omega)]
  · have hro := p_num_ok hr
    simp only [hr] at I0 I1 no
    refine c_readNumber (lo := 1) (hi := 12) (b := 44) (hT.xf F1) e1 (by omega) (by omega) (by omega) (by omega) (fun hn σ2 j2 F2 e2 k2 => ⟨_, rfl, ?_⟩) (fun q hq q1 q2 σ2 F2 e2 => ⟨_, rfl, ?_⟩)
    · refine c_readAny (lo := 0) (hi := 60) (b := 59) ((hT.xf F1).xf F2) e2 (by omega) (by omega) (by omega) (by omega) (fun y σ3 j3 F3 e3 k3 _ _ => ⟨_, rfl, by unfold rg; omega, fun c => by omega, fun _ => ⟨by decide, fun _ => ?_, fun c => by omega⟩⟩)
      refine no σ3 ((F1.tr F2).tr F3) ?_
      split
      · rfl
      · cases hq : p_num cs r.2 44 with
        | none => rfl
        | some q =>
          have := hn q hq
          simp only
          cases p_num cs q.2 59 with
          | none => rfl
          | some s =>
            simp only
            rw [if_neg (by omega)]
    · have hqo := p_num_ok hq
      simp only [hq] at I0 I1 no
      refine c_readNumber (lo := 0) (hi := 60) (b := 59) ((hT.xf F1).xf F2) e2 (by omega) (by omega) (by omega) (by omega) (fun hn σ3 j3 F3 e3 k3 => ⟨_, rfl, by unfold rg; omega, fun c => by omega, fun _ => ⟨by unfold rg; omega, fun c => by omega, fun _ => ⟨by decide, fun _ => ?_, fun c => by omega⟩⟩⟩) (fun s hs s1 s2 σ3 F3 e3 => ⟨_, rfl, by unfold rg; omega, fun c => by omega, fun _ => ⟨by unfold rg; omega, fun c => by omega, fun _ => ⟨by unfold rg; omega, fun c => by omega, fun _ => ?_⟩⟩⟩)
      · refine no σ3 ((F1.tr F2).tr F3) ?_
        split
        · rfl
        · cases hs : p_num cs q.2 59 with
          | none => rfl
          | some s =>
            have := hn s hs
            simp only
            rw [if_neg (by omega)]
      · have hso := p_num_ok hs
        simp only [hs] at I0 I1 no
        have F := (F1.tr F2).tr F3
        refine c_addReader_12 V (hW.xf (by omega) F) (fun hn => ⟨_, rfl, by decide, fun _ => ?_, fun c => absurd rfl c⟩) (fun n1 σ4 F4 w4 e4 => ⟨_, rfl, by decide, fun c => absurd c (by decide), fun _ => ?_⟩)
        · refine no σ3 F ?_
          rw [if_pos hn]
        · rw [if_neg n1, if_pos ⟨r2, ⟨q1, q2⟩, s2⟩] at I1
          exact I1 _ rfl σ4 (F.bw.tr F4) w4 (by rw [e4]; exact e3)
theorem c_readRiver_12 {E : av_E} {σ : av_M} {Q : Option av_V → av_M → Prop} {cs : List Nat} {i : Nat} {W : q_W} (hT : cTx σ cs) (hW : cW2 σ 12 W) (hi : i ≤ 3000) (hp : pc cs i = 118) (h2 : σ 1 2 = ((i + 1 : Nat) : Int)) (I : cIm 12 cs i W σ Q) : av_C E cSH mX2_readRiver [av_r 1, av_r 12] σ Q := by
  apply uX2_readRiver_12
  rw [cIm, p_item_v hp] at I
  obtain ⟨I0, I1⟩ := I
  have no : ∀ τ (a b c : Int), cXf σ τ → _ := fun τ a b c F hn => I0 hn (av_st (av_st (av_st τ 12 11 a) 12 12 b) 12 13 c) (((F.bw.st _ (by omega)).st _ (by omega)).st _ (by omega)) ((hW.xf (by omega) F).1.congr (fun u k _ _ p => by
    simp only [av_st]
    rw [if_neg (by omega), if_neg (by omega), if_neg (by omega)]) rfl rfl)
  refine c_readNumber (lo := 3) (hi := 60) (b := 44) hT h2 (by omega) (by omega) (by omega) (by omega) (fun hn σ1 j1 F1 e1 k1 => ⟨_, rfl, ?_⟩) (fun r hr r1 r2 σ1 F1 e1 => ⟨_, rfl, ?_⟩)
  · refine c_readAny (lo := 0) (hi := 24) (b := 44) (hT.xf F1) e1 (by omega) (by omega) (by omega) (by omega) (fun x σ2 j2 F2 e2 k2 _ _ => ⟨_, rfl, ?_⟩)
    refine c_readAny (lo := 1) (hi := 20) (b := 59) ((hT.xf F1).xf F2) e2 (by omega) (by omega) (by omega) (by omega) (fun y σ3 j3 F3 e3 k3 _ _ => ⟨_, rfl, c_setRiver_12 ⟨rfl, by decide, fun _ => ?_, fun c => by omega⟩⟩)
    refine no σ3 _ _ _ ((F1.tr F2).tr F3) ?_
    cases hr : p_num cs (i + 1) 44 with
    | none => rfl
    | some r =>
      have := hn r hr
      simp only
      cases p_num cs r.2 44 with
      | none => rfl
      | some q =>
        simp only
        cases p_num cs q.2 59 with
        | none => rfl
        | some s =>
          simp only
          rw [if_neg (by omega)]
  · have hro := p_num_ok hr
    simp only [hr] at I0 I1 no
    refine c_readNumber (lo := 0) (hi := 24) (b := 44) (hT.xf F1) e1 (by omega) (by omega) (by omega) (by omega) (fun hn σ2 j2 F2 e2 k2 => ⟨_, rfl, ?_⟩) (fun q hq q1 q2 σ2 F2 e2 => ⟨_, rfl, ?_⟩)
    · refine c_readAny (lo := 1) (hi := 20) (b := 59) ((hT.xf F1).xf F2) e2 (by omega) (by omega) (by omega) (by omega) (fun y σ3 j3 F3 e3 k3 _ _ => ⟨_, rfl, c_setRiver_12 ⟨rfl, by unfold rg; omega, fun c => by omega, fun _ => ⟨by decide, fun _ => ?_, fun c => by omega⟩⟩⟩)
      refine no σ3 _ _ _ ((F1.tr F2).tr F3) ?_
      cases hq : p_num cs r.2 44 with
      | none => rfl
      | some q =>
        have := hn q hq
        simp only
        cases p_num cs q.2 59 with
        | none => rfl
        | some s =>
          simp only
          rw [if_neg (by omega)]
    · have hqo := p_num_ok hq
      simp only [hq] at I0 I1 no
      refine c_readNumber (lo := 1) (hi := 20) (b := 59) ((hT.xf F1).xf F2) e2 (by omega) (by omega) (by omega) (by omega) (fun hn σ3 j3 F3 e3 k3 => ⟨_, rfl, c_setRiver_12 ⟨rfl, by unfold rg; omega, fun c => by omega, fun _ => ⟨by unfold rg; omega, fun c => by omega, fun _ => ⟨by decide, fun _ => ?_, fun c => by omega⟩⟩⟩⟩) (fun s hs s1 s2 σ3 F3 e3 => ⟨_, rfl, c_setRiver_12 ⟨rfl, by unfold rg; omega, fun c => by omega, fun _ => ⟨by unfold rg; omega, fun c => by omega, fun _ => ⟨by unfold rg; omega, fun c => by omega, fun _ => ?_⟩⟩⟩⟩)
      · refine no σ3 _ _ _ ((F1.tr F2).tr F3) ?_
        cases hs : p_num cs q.2 59 with
        | none => rfl
        | some s =>
          have := hn s hs
          simp only
          rw [if_neg (by omega)]
      · simp only [hs] at I0 I1 no
        have F := (F1.tr F2).tr F3
        rw [if_pos ⟨⟨r1, r2⟩, q2, s1, s2⟩] at I1
        have w3 := hW.xf (by omega) F
        refine I1 _ rfl _ (((F.bw.st _ (by omega)).st _ (by omega)).st _ (by omega)) ⟨w3.1.congr (fun u k _ _ p => by
          simp only [av_st]
          rw [if_neg (by omega), if_neg (by omega), if_neg (by omega)]) rfl rfl, ?_, ⟨?_, ?_, ?_⟩, ?_⟩ ?_
        · simp [av_st]; exact w3.2.1
        · simp [av_st]
        · simp [av_st]
        · simp [av_st]
        · simp [av_st]; exact w3.2.2.2
        · simp [av_st]; exact e3
theorem c_readWriting_12 {E : av_E} {σ : av_M} {Q : Option av_V → av_M → Prop} {cs : List Nat} {i : Nat} {W : q_W} (hT : cTx σ cs) (hW : cW2 σ 12 W) (hi : i ≤ 3000) (hp : pc cs i = 119) (h2 : σ 1 2 = ((i + 1 : Nat) : Int)) (I : cIm 12 cs i W σ Q) : av_C E cSH mX2_readWriting [av_r 1, av_r 12] σ Q := by
  apply uX2_readWriting_12
  rw [cIm, p_item_w hp] at I
  obtain ⟨I0, I1⟩ := I
  refine c_readRow (m := 9) (b := 59) hT h2 (by omega) (by omega) (by omega) (fun hn σ1 j1 F1 e1 k1 => ⟨_, rfl, by decide, fun _ => ?_, fun c => by omega⟩) (fun r hr σ1 F1 e1 => ⟨_, rfl, ?_⟩)
  · exact I0 (by rw [hn]) _ (F1.bw.st _ (by omega)) ((hW.xf (by omega) F1).1.congr (fun u k _ _ p => by
      simp only [av_st]
      rw [if_neg (by omega)]) rfl rfl)
  · simp only [hr] at I1
    have hro := (p_row_ok hr).1
    obtain ⟨n, row, n1, n2, n3, n4⟩ := hro
    have hV := (rw_ok n3 n2 n4).1.1
    have w3 := hW.xf (by omega) F1
    refine ⟨by unfold rg; omega, fun c => by omega, fun _ => I1 _ rfl _ (F1.bw.st _ (by omega)) ⟨w3.1.congr (fun u k _ _ p => by
      simp only [av_st]
      rw [if_neg (by omega)]) rfl rfl, ?_, ⟨?_, ?_, ?_⟩, ?_⟩ ?_⟩
    · simp [av_st]
    · simp [av_st]; exact w3.2.2.1.1
    · simp [av_st]; exact w3.2.2.1.2.1
    · simp [av_st]; exact w3.2.2.1.2.2
    · simp [av_st]; exact w3.2.2.2
    · simp [av_st]; exact e1
theorem c_readGold_12 {E : av_E} {σ : av_M} {Q : Option av_V → av_M → Prop} {cs : List Nat} {i : Nat} {W : q_W} (hT : cTx σ cs) (hW : cW2 σ 12 W) (hi : i ≤ 3000) (hp : pc cs i = 103) (h2 : σ 1 2 = ((i + 1 : Nat) : Int)) (I : cIm 12 cs i W σ Q) : av_C E cSH mX2_readGold [av_r 1, av_r 12] σ Q := by
  apply uX2_readGold_12
  rw [cIm, p_item_g hp] at I
  obtain ⟨I0, I1⟩ := I
  refine c_readNumber (lo := 0) (hi := 99) (b := 59) hT h2 (by omega) (by omega) (by omega) (by omega) (fun hn σ1 j1 F1 e1 k1 => ⟨_, rfl, by decide, fun _ => ?_, fun c => by omega⟩) (fun r hr r1 r2 σ1 F1 e1 => ⟨_, rfl, ?_⟩)
  · refine I0 ?_ _ (F1.bw.st _ (by omega)) ((hW.xf (by omega) F1).1.congr (fun u k _ _ p => by
      simp only [av_st]
      rw [if_neg (by omega)]) rfl rfl)
    cases hr : p_num cs (i + 1) 59 with
    | none => rfl
    | some r =>
      have := hn r hr
      have := p_num_ok hr
      omega
  · simp only [hr] at I1
    have w3 := hW.xf (by omega) F1
    refine ⟨by unfold rg; omega, fun c => by omega, fun _ => I1 _ rfl _ (F1.bw.st _ (by omega)) ⟨w3.1.congr (fun u k _ _ p => by
      simp only [av_st]
      rw [if_neg (by omega)]) rfl rfl, ?_, ⟨?_, ?_, ?_⟩, ?_⟩ ?_⟩
    · simp [av_st]; exact w3.2.1
    · simp [av_st]; exact w3.2.2.1.1
    · simp [av_st]; exact w3.2.2.1.2.1
    · simp [av_st]; exact w3.2.2.1.2.2
    · simp [av_st]
    · simp [av_st]; exact e1
theorem c_readItem_12 {E : av_E} {σ : av_M} {Q : Option av_V → av_M → Prop} {cs : List Nat} {i : Nat} {W : q_W} (hT : cTx σ cs) (hW : cW2 σ 12 W) (V : p_Wv W) (hi : i ≤ 3000) (h2 : σ 1 2 = (i : Int)) (I : cIm 12 cs i W σ Q) : av_C E cSH mX2_readItem [av_r 1, av_r 12] σ Q := by
  apply uX2_readItem_12
  have hle := pc_le hT.2.2.2 i
  refine c_sign hT h2 (by omega) ⟨_, rfl, by unfold rg; omega, ?_⟩
  rw [h2, show (i : Int) + 1 = ((i + 1 : Nat) : Int) by omega]
  have F1 : cXf σ (av_st σ 1 2 ((i + 1 : Nat) : Int)) := (cXf.rf σ).st _
  have g1 : av_st σ 1 2 ((i + 1 : Nat) : Int) 1 2 = ((i + 1 : Nat) : Int) := by simp [av_st]
  have T1 := hT.xf F1
  have W1 := hW.xf (by omega) F1
  have I1 : cIm 12 cs i W (av_st σ 1 2 ((i + 1 : Nat) : Int)) (fun v s2 => ∃ r2 : Int, v = some (av_i r2) ∧ ((r2 = 0 ∨ r2 = 1) ∧ (Q (some (av_i r2)) s2))) := ⟨fun hn σ' F w => ⟨_, rfl, Or.inl rfl, I.1 hn σ' (F1.bw.tr F) w⟩, fun r hr σ' F w e => ⟨_, rfl, Or.inr rfl, I.2 r hr σ' (F1.bw.tr F) w e⟩⟩
  refine ⟨fun c => c_readGold_12 T1 W1 hi (by omega) g1 I1, fun c => c_readReader_12 T1 W1 V hi (by omega) g1 I1, fun c => c_readRoot_12 T1 W1 V hi (by omega) g1 I1, fun c => c_readRiver_12 T1 W1 hi (by omega) g1 I1, fun c => c_readWriting_12 T1 W1 hi (by omega) g1 I1, fun c => ?_⟩
  exact I.1 (p_item_0 (by omega) (by omega) (by omega) (by omega) (by omega)) _ F1.bw W1.1
theorem c_firstFault_12 {E : av_E} {σ : av_M} {Q : Option av_V → av_M → Prop} {cs : List Nat} {l : gq_T × Nat × (Nat → Int)} (hT : cTx σ cs) (V : gq_V l.1) (h : cWd σ 12 l) (hQ : ∀ σ', cBw 12 σ σ' → p_Wv (p_fault cs).2 → cW1 σ' 12 (p_fault cs).2 → ((p_fault cs).1 = -4 → cW2 σ' 12 (p_fault cs).2) → Q (some (av_i (p_fault cs).1)) σ') : av_C E cSH mX2_firstFault [av_r 1, av_r 12] σ Q := by
  apply uX2_firstFault_12
  have h200 := hT.2.1
  have key : ∀ (f n i : Nat) (W : q_W) (τ : av_M), n + f = 200 → n ≤ i → i ≤ 400 → cBw 12 σ τ → cW2 τ 12 W → p_Wv W → τ 1 2 = (i : Int) → p_go cs (f + 1) i W = p_fault cs → av_W E cSH mX2_firstFault 11 [some (av_r 1), some (av_r 12), some (av_i (n : Int)), none] [] τ Q := by
    intro f
    induction f with
    | zero =>
      intro n i W τ hf hn hi F hW V2 h12 hg
      apply uX2_firstFault_12_11
      rw [p_go, if_neg (by omega)] at hg
      have := hQ τ F (by rw [← hg]; exact V2) (by rw [← hg]; exact hW.1) (fun _ => by rw [← hg]; exact hW)
      rw [← hg] at this
      exact ⟨by omega, fun _ => this, fun c => by omega⟩
    | succ f ih =>
      intro n i W τ hf hn hi F hW V2 h12 hg
      apply uX2_firstFault_12_11
      have T1 := hT.bw (by omega) F
      rw [p_go] at hg
      rw [T1.1, h12, show (n : Int) + 1 = ((n + 1 : Nat) : Int) by omega]
      refine ⟨by omega, fun c => by omega, fun _ => ⟨by omega, by omega, fun c => ?_, fun c => ?_⟩⟩
      · rw [if_neg (by omega)] at hg
        have := hQ τ F (by rw [← hg]; exact V2) (by rw [← hg]; exact hW.1) (fun _ => by rw [← hg]; exact hW)
        rw [← hg] at this
        exact this
      · rw [if_pos (by omega)] at hg
        refine c_readItem_12 T1 hW V2 (by omega) h12 ⟨fun hno σ' F' w => ⟨_, rfl, by decide, fun c => absurd rfl c, fun _ => ?_⟩, fun r hr σ' F' w e => ⟨_, rfl, by decide, fun _ => ?_, fun c => absurd c (by decide)⟩⟩
        · rw [hno] at hg
          have := hQ σ' (F.tr F') (by rw [← hg]; exact V2) (by rw [← hg]; exact w) (fun q => by rw [← hg] at q; simp only at q; omega)
          rw [← hg] at this
          exact this
        · simp only [hr] at hg
          have hok := p_item_ok V2 hr
          exact ih (n + 1) r.1 r.2 σ' (by omega) (by omega) (by omega) (F.tr F') w hok.1 e hg
  refine c_clear_12 V h (fun σ1 F1 e1 w1 => ⟨rfl, ?_⟩)
  refine key 200 0 0 p_W0 _ (by omega) (by omega) (by omega) ?_ (w1.xf (by omega) ((cXf.rf σ1).st 0)) p_W0_v (by simp [av_st]) rfl
  exact F1.tr ((cXf.rf σ1).st 0).bw
