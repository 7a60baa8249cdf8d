theorem wr_3 : ∀ (i : Fin 8) (w : Fin 16), Nat.testBit (3 * 2 ^ (2 * (i : Nat))) (w : Nat) = decide ((w : Nat) / 2 = (i : Nat)) := by decide +kernel
theorem wr_3lt : ∀ (i : Fin 8), 3 * 2 ^ (2 * (i : Nat)) < 65536 := by decide +kernel
theorem wr_shl {i : Nat} (hi : i < 8) : i_shl 3 (2 * (i : Int)) = ((3 * 2 ^ (2 * i) : Nat) : Int) := by
  have h1 := wr_3lt ⟨i, hi⟩
  have := bt_shl (a := 3) (k := 2 * i) (by omega) (by have : 3 * 2 ^ (2 * i) < 65536 := h1; omega)
  rw [show ((2 * i : Nat) : Int) = 2 * (i : Int) by omega] at this
  exact this
theorem p2_lt {i m : Nat} (hi : i < m) (hm : m ≤ 16) : 2 ^ i < 65536 := Nat.lt_of_lt_of_le (Nat.pow_lt_pow_right (by omega) hi) (Nat.le_trans (Nat.pow_le_pow_right (by omega) hm) (by decide))
theorem i_shl1 {i : Nat} (hi : i < 16) : i_shl 1 (i : Int) = ((2 ^ i : Nat) : Int) := by
  have h := p2_lt hi (Nat.le_refl _)
  have := bt_shl (a := 1) (k := i) (by omega) (by omega)
  rw [Nat.one_mul] at this
  exact this
theorem co_without {E : av_E} {σ : av_M} {Q : Option av_V → av_M → Prop} {T : Nat} {S : q_S} {k : Int} (h : cRM σ S) (V : q_V T S) (hk : rg k) (hQ : ∀ r σ', cGf σ σ' → sp_without (q_D S) k r → Q (some (av_i r)) σ') : av_C E cSH mX4_without [av_r 0, av_i k] σ Q := by
  apply uX4_without
  unfold sp_without at hQ
  have e0 : (q_D S).2.1 = S.1.2.1 := rfl
  have e1 : (q_D S).1 = S.1.1 := rfl
  have h5 := V.1.2.2.1
  have h8 := V.1.1.1
  rw [e0] at hQ
  refine c_isRd h V hk (fun hn => ⟨_, rfl, by decide, fun c => absurd rfl c, fun _ => hQ _ σ (cGf.rf σ) (by rw [if_neg hn])⟩) (fun hy => ⟨_, rfl, by decide, fun _ => ?_, fun c => absurd c (by decide)⟩)
  obtain ⟨k, rfl⟩ := Int.eq_ofNat_of_zero_le hy.1
  simp only [if_pos hy, Int.toNat_natCast] at hQ
  rw [h.wr]
  have hkl : k < S.1.2.1 := by omega
  refine c_readingsOf V.1 h.1 hkl V.wr (fun σ1 F1 R1 => ⟨_, rfl, ?_⟩)
  have hfew : (cA S.1.1 (S.1.2.2 (3 * k)).toNat S.2.2.1.2.2.2.2).length ≤ 10077696 := gq_all_few V.1.1 V.wr.2.1
  have ed : dAA (q_D S) k = cA S.1.1 (S.1.2.2 (3 * k)).toNat S.2.2.1.2.2.2.2 := rfl
  rw [ed] at hQ
  refine ⟨by unfold rg; omega, fun c => ?_, fun c => hQ _ σ1 F1 (by rw [if_pos (List.length_eq_zero_iff.mp (by omega))])⟩
  have hne : ¬ cA S.1.1 (S.1.2.2 (3 * k)).toNat S.2.2.1.2.2.2.2 = [] := fun e => c (by rw [e]; rfl)
  simp only [if_neg hne] at hQ
  have key : ∀ (t i m : Nat) (τ : av_M), i + t = S.1.1.1 → m < 65536 → (∀ j, m.testBit j = (decide (j < i) && decide (dA (q_D S) (fun r => decide (r ≠ j)) k = []))) → cGf σ τ → cGS τ S k → av_W E cSH mX4_without 31 [some (av_r 0), some (av_i (k : Int)), some (av_i (m : Int)), some (av_i (i : Int))] [] τ Q := by
    intro t
    induction t with
    | zero =>
      intro i m τ hi hm hb F G
      apply uX4_without_31
      rw [(h.gf F).1.1]
      have : i = S.1.1.1 := by omega
      subst this
      exact ⟨by omega, by omega, fun _ => hQ _ τ F ⟨m, hb, rfl⟩, fun c => by omega⟩
    | succ t ih =>
      intro i m τ hi hm hb F G
      apply uX4_without_31
      rw [(h.gf F).1.1]
      have e1 : (i : Int) + 1 = ((i + 1 : Nat) : Int) := by omega
      rw [e1]
      refine ⟨by omega, by omega, fun c => by omega, fun _ => ?_⟩
      apply uX4_wordsOfRoot
      refine ⟨_, rfl, ?_⟩
      rw [wr_shl (by omega)]
      have hlt := wr_3lt ⟨i, by omega⟩
      have hlt2 : 3 * 2 ^ (2 * i) < 65536 := hlt
      obtain ⟨a, ha1, ha2, ha3, ha4⟩ := bt_andn (a := 65535) (b := 3 * 2 ^ (2 * i)) (by omega) (by omega)
      rw [show (65535 : Int) = ((65535 : Nat) : Int) from rfl, ha1]
      refine c_tallyP (S := S) (P := fun r => decide (r ≠ i)) V hkl G (by omega) (fun w hw => ?_) (fun σ2 F2 G2 => ⟨_, rfl, ?_⟩)
      · rw [ha4 w, bt_all (by omega), Bool.true_and]
        have := wr_3 ⟨i, by omega⟩ ⟨w, by omega⟩
        rw [show Nat.testBit (3 * 2 ^ (2 * i)) w = decide (w / 2 = i) from this]
        by_cases c : w / 2 = i <;> simp [c]
      · have few2 : (dA (q_D S) (fun r => decide (r ≠ i)) k).length ≤ 10077696 := dA_few (q_DV V) _ k
        refine ⟨by unfold rg; omega, fun c => ?_, fun c => ?_⟩
        · refine ih (i + 1) m σ2 (by omega) hm (fun j => ?_) (F.tr F2) G2
          rw [hb j]
          by_cases hj : j = i
          · subst hj
            rw [show decide (dA (q_D S) (fun r => decide (r ≠ j)) k = []) = false from decide_eq_false (fun e => c (by rw [e]; rfl))]
            simp
          · rw [show decide (j < i + 1) = decide (j < i) from by rw [decide_eq_decide]; omega]
        · have hp := p2_lt (i := i) (m := 8) (by omega) (by omega)
          rw [i_shl1 (by omega), bt_or (by omega) (by omega)]
          refine ih (i + 1) _ σ2 (by omega) (Nat.or_lt_two_pow (n := 16) hm hp) (fun j => ?_) (F.tr F2) G2
          rw [Nat.testBit_or, hb j, Nat.testBit_two_pow]
          by_cases hj : j = i
          · subst hj
            rw [show decide (dA (q_D S) (fun r => decide (r ≠ j)) k = []) = true from decide_eq_true (List.length_eq_zero_iff.mp (by omega))]
            simp
          · rw [show decide (j < i + 1) = decide (j < i) from by rw [decide_eq_decide]; omega, show decide (i = j) = false from decide_eq_false (fun e => hj e.symm)]
            simp
  exact key S.1.1.1 0 0 σ1 (by omega) (by omega) (fun j => by simp) F1 R1.1
-- enough
theorem en_c31 : ∀ j : Fin 32, (4 ≤ (j : Nat) ∨ (j : Nat) = 0) → (BitVec.ofInt 32 (-15)).getLsbD (j : Nat) = true := by decide
theorem en_c15 : ∀ n : Fin 15, (n : Nat) % 2 = 0 → i_and ((n : Nat) : Int) (-15) = 0 := by decide
theorem en_and {a : Int} (ha : rg a) : i_and a (-15) = 0 ↔ (0 ≤ a ∧ a ≤ 14 ∧ a % 2 = 0) := by
  constructor
  · intro h
    have h1 : BitVec.ofInt 32 a &&& BitVec.ofInt 32 (-15) = 0#32 := BitVec.eq_of_toInt_eq h
    have hb : ∀ j : Nat, (4 ≤ j ∨ j = 0) → (BitVec.ofInt 32 a).toNat.testBit j = false := by
      intro j hj
      by_cases hj2 : j < 32
      · have h2 : (BitVec.ofInt 32 a &&& BitVec.ofInt 32 (-15)).getLsbD j = false := by rw [h1]; simp
        rw [BitVec.getLsbD_and, en_c31 ⟨j, hj2⟩ hj, Bool.and_true] at h2
        exact h2
      · exact BitVec.getLsbD_of_ge _ _ (by omega)
    have h16 : (BitVec.ofInt 32 a).toNat < 2 ^ 4 := Nat.lt_pow_two_of_testBit _ (fun i hi => hb i (Or.inl hi))
    have h0 := hb 0 (Or.inr rfl)
    rw [Nat.testBit_zero] at h0
    have h0' : ¬ (BitVec.ofInt 32 a).toNat % 2 = 1 := of_decide_eq_false h0
    rw [BitVec.toNat_ofInt] at h16 h0'
    rw [show ((2 ^ 32 : Nat) : Int) = 4294967296 from rfl] at h16 h0'
    rw [show (2 ^ 4 : Nat) = 16 from rfl] at h16
    unfold rg at ha
    omega
  · rintro ⟨h0, h1, h2⟩
    obtain ⟨n, rfl⟩ := Int.eq_ofNat_of_zero_le h0
    exact en_c15 ⟨n, by omega⟩ (by show n % 2 = 0; omega)
theorem c_priceOf {E : av_E} {σ : av_M} {Q : Option av_V → av_M → Prop} {S : q_S} {set : Nat} (h : cWd σ 3 S.1) (V : q_LV S.1) (hs : set < 2 ^ 31) (hQ : Q (some (av_i (en_g S set S.1.2.1 : Nat))) σ) : av_C E cSH mX3_priceOf [av_r 3, av_i (set : Int)] σ Q := by
  apply uX3_priceOf
  have h5 := V.2.2.1
  have key : ∀ (t i : Nat), i + t = S.1.2.1 → av_W E cSH mX3_priceOf 4 [some (av_r 3), some (av_i (set : Int)), some (av_i (en_g S set i : Nat)), some (av_i (i : Int))] [] σ Q := by
    intro t
    induction t with
    | zero =>
      intro i hi
      apply uX3_priceOf_4
      rw [h.2.1]
      have : i = S.1.2.1 := by omega
      subst this
      exact ⟨by omega, by omega, fun _ => hQ, fun c => by omega⟩
    | succ t ih =>
      intro i hi
      apply uX3_priceOf_4
      rw [h.2.1]
      have hv := V.2.2.2 i (by omega)
      have e1 : (i : Int) + 1 = ((i + 1 : Nat) : Int) := by omega
      have e2 := ih (i + 1) (by omega)
      rw [en_g] at e2
      rw [e1]
      refine ⟨by omega, by omega, fun c => by omega, fun _ => c_holds hs (by omega) ⟨_, rfl, by split <;> decide, fun c => ?_, fun c => ?_⟩⟩
      · rw [if_neg (fun q => by rw [if_pos q] at c; omega)] at e2
        rw [Int.add_zero]
        exact e2
      · have hb : set.testBit i = true := by
          apply Decidable.byContradiction
          intro q
          rw [if_neg q] at c
          exact c rfl
        rw [if_pos hb] at e2
        rw [Int.toNat_natCast, show σ 10 i = _ from (h.2.2.2.1 i (by omega)).2.2]
        refine ⟨by omega, ?_⟩
        rw [show ((en_g S set i + (S.1.2.2 (3 * i + 2)).toNat : Nat) : Int) = (en_g S set i : Int) + S.1.2.2 (3 * i + 2) by omega] at e2
        exact e2
  exact key S.1.2.1 0 (by omega)
theorem c_hoursOf {E : av_E} {σ : av_M} {Q : Option av_V → av_M → Prop} {S : q_S} {set : Nat} (h : cWd σ 3 S.1) (V : q_LV S.1) (hs : set < 2 ^ 31) (hQ : Q (some (av_i (en_h S set S.1.2.1 : Nat))) σ) : av_C E cSH mX3_hoursOf [av_r 3, av_i (set : Int)] σ Q := by
  apply uX3_hoursOf
  have h5 := V.2.2.1
  have key : ∀ (t i : Nat), i + t = S.1.2.1 → av_W E cSH mX3_hoursOf 4 [some (av_r 3), some (av_i (set : Int)), some (av_i (en_h S set i : Nat)), some (av_i (i : Int))] [] σ Q := by
    intro t
    induction t with
    | zero =>
      intro i hi
      apply uX3_hoursOf_4
      rw [h.2.1]
      have : i = S.1.2.1 := by omega
      subst this
      exact ⟨by omega, by omega, fun _ => hQ, fun c => by omega⟩
    | succ t ih =>
      intro i hi
      apply uX3_hoursOf_4
      rw [h.2.1]
      have hv := V.2.2.2 i (by omega)
      have e1 : (i : Int) + 1 = ((i + 1 : Nat) : Int) := by omega
      have e2 := ih (i + 1) (by omega)
      rw [en_h] at e2
      rw [e1]
      refine ⟨by omega, by omega, fun c => by omega, fun _ => c_holds hs (by omega) ⟨_, rfl, by split <;> decide, fun c => ?_, fun c => ?_⟩⟩
      · rw [if_neg (fun q => by rw [if_pos q] at c; omega)] at e2
        rw [Int.add_zero]
        exact e2
      · have hb : set.testBit i = true := by
          apply Decidable.byContradiction
          intro q
          rw [if_neg q] at c
          exact c rfl
        rw [if_pos hb] at e2
        rw [Int.toNat_natCast, show σ 9 i = _ from (h.2.2.2.1 i (by omega)).2.1]
        refine ⟨by omega, ?_⟩
        rw [show ((en_h S set i + (S.1.2.2 (3 * i + 1)).toNat : Nat) : Int) = (en_h S set i : Int) + S.1.2.2 (3 * i + 1) by omega] at e2
        exact e2
  exact key S.1.2.1 0 (by omega)
theorem en_v_lt {S : q_S} {set : Nat} (h0 : S.2.2.1.2.2.1 < 16) (hd : ∀ k, k < S.1.2.1 → dSv (q_D S) k < 16) : ∀ k, k ≤ S.1.2.1 → en_v S set k < 16
  | 0, _ => h0
  | k + 1, h => by
    have := en_v_lt (set := set) h0 hd k (by omega)
    rw [en_v]
    split
    · exact Nat.or_lt_two_pow (n := 4) this (hd k (by omega))
    · exact this
theorem c_isEnough {E : av_E} {σ : av_M} {Q : Option av_V → av_M → Prop} {T : Nat} {S : q_S} {set v : Nat} (hT : T ≤ 50000) (h : cRM σ S) (V : q_V T S) (hs : set < 2 ^ 31) (hv : v < 16) (hd : ∀ k, k < S.1.2.1 → σ 34 k = (dSv (q_D S) k : Int) ∧ dSv (q_D S) k < 16) (hQ : Q (some (av_i (if en_ok S v set = true then 1 else 0))) σ) : av_C E cSH mX4_isEnough [av_r 0, av_i (set : Int), av_i (v : Int)] σ Q := by
  apply uX4_isEnough
  have h5 := V.1.2.2.1
  have m := h.2.2.1
  have hkn := V.2.2.1.2.2.1
  have hvl := en_v_lt (S := S) (set := set) hkn (fun k hk => (hd k hk).2)
  have key : ∀ (t i : Nat), i + t = S.1.2.1 → av_W E cSH mX4_isEnough 10 [some (av_r 0), some (av_i (set : Int)), some (av_i (v : Int)), some (av_i (en_v S set i : Nat)), some (av_i (i : Int))] [] σ Q := by
    intro t
    induction t with
    | zero =>
      intro i hi
      apply uX4_isEnough_10
      rw [h.1.2.1]
      have : i = S.1.2.1 := by omega
      subst this
      refine ⟨by omega, by omega, fun _ => ?_, fun c => by omega⟩
      refine c_hoursOf h.1 V.1 hs ⟨_, rfl, c_fall h.2.1 V.2.1 ⟨_, rfl, ?_⟩⟩
      have hf := q_fall_lt V.2.1
      have hh := V.2.2.1.1
      have hg := V.2.2.1.2.1
      have e3 := en_h_le V.1 set S.1.2.1 (Nat.le_refl _)
      have e4 := en_g_le V.1 set S.1.2.1 (Nat.le_refl _)
      have hva := hvl S.1.2.1 (Nat.le_refl _)
      have hand : en_v S set S.1.2.1 &&& v < 16 := Nat.lt_of_le_of_lt Nat.and_le_left hva
      rw [show σ 27 0 = (S.2.2.1.1 : Int) from m.1, bt_and (by omega) (by omega)]
      refine ⟨by unfold rg; omega, by unfold rg; omega, fun c => ⟨by omega, by omega, ?_⟩, fun c => ⟨by omega, by omega, fun d => ?_, fun d => c_priceOf h.1 V.1 hs ⟨_, rfl, by unfold rg; omega, ?_⟩⟩⟩
      · have q : Q (some (av_i 0)) σ := by
          have n1 : ¬ S.2.2.1.1 + en_h S set S.1.2.1 < q_fall S.2.1 := by omega
          rw [show en_ok S v set = false by unfold en_ok; simp [n1]] at hQ
          exact hQ
        exact ⟨fun _ => q, fun _ => q⟩
      · have n1 : ¬ en_v S set S.1.2.1 &&& v = v := by omega
        rw [show en_ok S v set = false by unfold en_ok; simp [n1]] at hQ
        exact hQ
      · rw [show σ 27 1 = (S.2.2.1.2.1 : Int) from m.2.1]
        refine ⟨by unfold rg; omega, fun e => ?_, fun e => ?_⟩
        · have n1 : ¬ en_g S set S.1.2.1 ≤ S.2.2.1.2.1 := by omega
          rw [show en_ok S v set = false by unfold en_ok; simp [n1]] at hQ
          exact hQ
        · have q1 : en_g S set S.1.2.1 ≤ S.2.2.1.2.1 := by omega
          have q2 : S.2.2.1.1 + en_h S set S.1.2.1 < q_fall S.2.1 := by omega
          have q3 : en_v S set S.1.2.1 &&& v = v := by omega
          rw [show en_ok S v set = true by unfold en_ok; simp [q1, q2, q3]] at hQ
          exact hQ
    | succ t ih =>
      intro i hi
      apply uX4_isEnough_10
      rw [h.1.2.1]
      have e1 : (i : Int) + 1 = ((i + 1 : Nat) : Int) := by omega
      have e2 := ih (i + 1) (by omega)
      have hvi := hvl i (by omega)
      have hdi := hd i (by omega)
      rw [en_v] at e2
      rw [e1]
      refine ⟨by omega, by omega, fun c => by omega, fun _ => c_holds hs (by omega) ⟨_, rfl, by split <;> decide, fun c => ?_, fun c => ?_⟩⟩
      · rw [if_neg (fun q => by rw [if_pos q] at c; omega)] at e2
        rw [show (0 : Int) = ((0 : Nat) : Int) from rfl, bt_or (by omega) (by omega), Nat.or_zero]
        exact e2
      · have hb : set.testBit i = true := by
          apply Decidable.byContradiction
          intro q
          rw [if_neg q] at c
          exact c rfl
        rw [if_pos hb] at e2
        rw [Int.toNat_natCast, hdi.1, bt_or (by omega) (by omega)]
        exact ⟨by omega, e2⟩
  rw [show σ 27 2 = (S.2.2.1.2.2.1 : Int) from m.2.2.1]
  exact key S.1.2.1 0 (by omega)
theorem c_isCheaper {E : av_E} {σ : av_M} {Q : Option av_V → av_M → Prop} {S : q_S} {s o : Nat} (h : cWd σ 3 S.1) (V : q_LV S.1) (hs : s < 2 ^ 31) (ho : o < 2 ^ 31) (hQ : Q (some (av_i (if en_g S s S.1.2.1 < en_g S o S.1.2.1 ∨ (en_g S s S.1.2.1 = en_g S o S.1.2.1 ∧ en_h S s S.1.2.1 < en_h S o S.1.2.1) then 1 else 0))) σ) : av_C E cSH mX4_isCheaper [av_r 0, av_i (s : Int), av_i (o : Int)] σ Q := by
  apply uX4_isCheaper
  have h5 := V.2.2.1
  have g1 := en_g_le V s S.1.2.1 (Nat.le_refl _)
  have g2 := en_g_le V o S.1.2.1 (Nat.le_refl _)
  have g3 := en_h_le V s S.1.2.1 (Nat.le_refl _)
  have g4 := en_h_le V o S.1.2.1 (Nat.le_refl _)
  refine c_priceOf h V ho ⟨_, rfl, c_priceOf h V hs ⟨_, rfl, by unfold rg; omega, fun c => ?_, fun c => ⟨by unfold rg; omega, fun d => ?_, fun d => c_hoursOf h V hs ⟨_, rfl, c_hoursOf h V ho ⟨_, rfl, by unfold rg; omega, by unfold rg; omega, fun e => ?_, fun e => ?_⟩⟩⟩⟩⟩
  · rw [if_pos (by omega)] at hQ; exact hQ
  · rw [if_neg (by omega)] at hQ; exact hQ
  · rw [if_neg (by omega)] at hQ; exact hQ
  · rw [if_pos (by omega)] at hQ; exact hQ
theorem co_enough {E : av_E} {σ : av_M} {Q : Option av_V → av_M → Prop} {T : Nat} {S : q_S} {v w : Int} (hT : T ≤ 50000) (h : cRM σ S) (V : q_V T S) (hv : rg v) (hw : rg w) (hQ : ∀ σ', cRM σ' S → Q (some (av_i (sp_enough S v w))) σ') : av_C E cSH mX4_enough [av_r 0, av_i v, av_i w] σ Q := by
  apply uX4_enough
  unfold sp_enough at hQ
  have h5 := V.1.2.2.1
  refine ⟨hv, fun c => ?_, fun c => ⟨by unfold i_and rg; exact ⟨Int32.le_toInt _, Int32.toInt_lt _⟩, fun d => ?_, fun d => ⟨hw, fun e => ?_, fun e => ⟨hw, fun f => ?_, fun f => ?_⟩⟩⟩⟩
  · rw [if_neg (by omega)] at hQ; exact hQ σ h
  · rw [if_neg (fun q => d ((en_and hv).mpr (by omega)))] at hQ; exact hQ σ h
  · rw [if_neg (by omega)] at hQ; exact hQ σ h
  rotate_left
  · rw [if_neg (by omega)] at hQ; exact hQ σ h
  have hv2 := (en_and hv).mp d
  obtain ⟨v, rfl⟩ := Int.eq_ofNat_of_zero_le hv2.1
  rw [if_pos ⟨by omega, by omega, by omega⟩, Int.toNat_natCast] at hQ
  have h2R : 2 ^ S.1.2.1 ≤ 32 := Nat.le_trans (Nat.pow_le_pow_right (by omega) h5) (by decide)
  have second : ∀ (t m : Nat) (τ : av_M), m + t = 2 ^ S.1.2.1 → cRM τ S → (∀ k, k < S.1.2.1 → τ 34 k = (dSv (q_D S) k : Int) ∧ dSv (q_D S) k < 16) → av_W E cSH mX4_enough 58 [some (av_r 0), some (av_i (v : Int)), some (av_i w), some (av_i (en_b S v m)), some (av_i (m : Int))] [] τ Q := by
    intro t
    induction t with
    | zero =>
      intro m τ hm ht hd
      apply uX4_enough_58
      have : m = 2 ^ S.1.2.1 := by omega
      subst this
      obtain ⟨b1, b2, b3⟩ := en_b_lt (S := S) (v := v) (2 ^ S.1.2.1)
      rw [ht.1.2.1, i_shl1 (by omega)]
      refine ⟨by omega, by omega, fun _ => ⟨by unfold rg; omega, fun c => ?_, fun c => ⟨hw, fun d => ⟨hw, fun e => ?_, fun e => ?_⟩, fun d => ?_⟩⟩, fun c => by omega⟩
      · rw [if_pos (by omega)] at hQ; exact hQ τ ht
      · rw [if_neg (by omega), if_neg e] at hQ
        obtain ⟨b, hb⟩ := Int.eq_ofNat_of_zero_le (show 0 ≤ en_b S v (2 ^ S.1.2.1) by omega)
        rw [hb, Int.toNat_natCast] at hQ
        rw [hb]
        exact c_hoursOf ht.1 V.1 (by omega) ⟨_, rfl, hQ τ ht⟩
      · rw [if_neg (by omega), if_pos e] at hQ
        obtain ⟨b, hb⟩ := Int.eq_ofNat_of_zero_le (show 0 ≤ en_b S v (2 ^ S.1.2.1) by omega)
        rw [hb, Int.toNat_natCast] at hQ
        rw [hb]
        exact c_priceOf ht.1 V.1 (by omega) ⟨_, rfl, hQ τ ht⟩
      · rw [if_pos (by omega)] at hQ; exact hQ τ ht
    | succ t ih =>
      intro m τ hm ht hd
      apply uX4_enough_58
      obtain ⟨b1, b2, b3⟩ := en_b_lt (S := S) (v := v) m
      have nx := ih (m + 1) τ (by omega) ht hd
      rw [en_b] at nx
      have e1 : (m : Int) + 1 = ((m + 1 : Nat) : Int) := by omega
      rw [ht.1.2.1, i_shl1 (by omega), e1]
      refine ⟨by omega, by omega, fun c => by omega, fun _ => c_isEnough hT ht V (by omega) (by omega) hd ⟨_, rfl, by split <;> decide, fun c => ?_, fun c => ⟨by unfold rg; omega, fun d => ?_, fun d => ?_⟩⟩⟩
      · rw [if_neg (fun q => by rw [if_pos q.1] at c; omega)] at nx
        exact nx
      · have hok : en_ok S v m = true := by
          apply Decidable.byContradiction
          intro q
          rw [if_neg q] at c
          exact c rfl
        rw [if_pos ⟨hok, Or.inl (by omega)⟩] at nx
        exact nx
      · have hok : en_ok S v m = true := by
          apply Decidable.byContradiction
          intro q
          rw [if_neg q] at c
          exact c rfl
        obtain ⟨b, hb⟩ := Int.eq_ofNat_of_zero_le (show 0 ≤ en_b S v m by omega)
        rw [hb, Int.toNat_natCast] at nx
        rw [hb]
        rw [hb] at b2
        refine c_isCheaper ht.1 V.1 (by omega) (by omega) ⟨_, rfl, by split <;> decide, fun e => ?_, fun e => ?_⟩
        · rw [if_neg] at nx
          · exact nx
          · rintro ⟨-, q | q⟩
            · omega
            · rw [if_pos q] at e; omega
        · have hc : en_g S m S.1.2.1 < en_g S b S.1.2.1 ∨ (en_g S m S.1.2.1 = en_g S b S.1.2.1 ∧ en_h S m S.1.2.1 < en_h S b S.1.2.1) := by
            apply Decidable.byContradiction
            intro q
            rw [if_neg q] at e
            exact e rfl
          rw [if_pos ⟨hok, Or.inr hc⟩] at nx
          exact nx
  have first : ∀ (t i : Nat) (τ : av_M), i + t = S.1.2.1 → cRM τ S → (∀ k, k < i → τ 34 k = (dSv (q_D S) k : Int) ∧ dSv (q_D S) k < 16) → av_W E cSH mX4_enough 24 [some (av_r 0), some (av_i (v : Int)), some (av_i w), some (av_i (i : Int)), none] [] τ Q := by
    intro t
    induction t with
    | zero =>
      intro i τ hi ht hd
      apply uX4_enough_24
      rw [ht.1.2.1]
      have : i = S.1.2.1 := by omega
      subst this
      exact ⟨by omega, by omega, fun _ => second (2 ^ S.1.2.1) 0 τ (by omega) ht hd, fun c => by omega⟩
    | succ t ih =>
      intro i τ hi ht hd
      apply uX4_enough_24
      rw [ht.1.2.1]
      have e1 : (i : Int) + 1 = ((i + 1 : Nat) : Int) := by omega
      rw [e1]
      refine ⟨by omega, by omega, fun c => by omega, fun _ => c_verbsToldBy ht.1 ht.wr V (by omega) (fun σ1 F1 hlt => ⟨_, rfl, by omega, ?_⟩)⟩
      rw [Int.toNat_natCast]
      refine ih (i + 1) _ (by omega) (ht.congr (fun a b p q _ => ?_)) (fun k hk => ?_)
      · simp only [av_st]
        rw [if_neg (by omega)]
        exact F1 a b (by omega)
      · by_cases hki : k = i
        · subst hki
          exact ⟨by simp [av_st], hlt⟩
        · have := hd k (by omega)
          refine ⟨?_, this.2⟩
          simp only [av_st]
          rw [if_neg (by omega), F1 34 k (by omega)]
          exact this.1
  exact first S.1.2.1 0 σ (by omega) h (fun k hk => by omega)
