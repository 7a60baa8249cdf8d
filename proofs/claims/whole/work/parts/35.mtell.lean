/-- all but the search's cells and its row stays -/
def mS2 (σ0 σ : av_M) : Prop := ∀ a b, a ≠ 20 → a ≠ 21 → a ≠ 22 → ¬ (a = 0 ∧ 31 ≤ b ∧ b ≤ 39) → σ a b = σ0 a b
theorem mS2.rf (σ : av_M) : mS2 σ σ := fun _ _ _ _ _ _ => rfl
theorem mS2.tr {a b c : av_M} (h : mS2 a b) (k : mS2 b c) : mS2 a c := fun x y p q r s => (k x y p q r s).trans (h x y p q r s)
theorem mSm.s2 {a b : av_M} (h : mSm a b) : mS2 a b := fun x y _ q r s => h x y q r (by omega)
theorem mS2.st {σ0 σ : av_M} (h : mS2 σ0 σ) {c k : Nat} (x : Int) (hc : c = 20 ∨ c = 21 ∨ c = 22 ∨ (c = 0 ∧ 31 ≤ k ∧ k ≤ 39)) : mS2 σ0 (av_st σ c k x) := by
  intro a b h0 h1 h2 h3
  rw [← h a b h0 h1 h2 h3]
  unfold av_st
  rw [if_neg]
  rintro ⟨rfl, rfl⟩
  omega
/-- the model's laid grammar -/
def mG (σ : av_M) (g : gq_T) : Prop := gq_V g ∧ σ 0 0 = (g.1 : Int) ∧ (∀ r, r < g.1 → σ 1 r = (g.2.1 r : Int)) ∧ (∀ r i, r < g.1 → i < g.2.1 r → σ 2 (3 * r + i) = g.2.2.1 (3 * r + i)) ∧ (∀ r, r < g.1 → σ 3 r = g.2.2.2.1 r) ∧ (∀ r, r < g.1 → σ 4 r = g.2.2.2.2 r)
theorem mG.s2 {σ σ' : av_M} {g : gq_T} (h : mG σ g) (e : mS2 σ σ') : mG σ' g := by
  obtain ⟨V, h1, h2, h3, h4, h5⟩ := h
  refine ⟨V, ?_, ?_, ?_, ?_, ?_⟩
  · rw [e 0 0 (by omega) (by omega) (by omega) (by omega)]; exact h1
  · intro r hr; rw [e 1 r (by omega) (by omega) (by omega) (by omega)]; exact h2 r hr
  · intro r i hr hi; rw [e 2 _ (by omega) (by omega) (by omega) (by omega)]; exact h3 r i hr hi
  · intro r hr; rw [e 3 r (by omega) (by omega) (by omega) (by omega)]; exact h4 r hr
  · intro r hr; rw [e 4 r (by omega) (by omega) (by omega) (by omega)]; exact h5 r hr
def gq_row (kd n : Nat) (row : Nat → Int) : Nat → Int := fun i => if kd = 3 then row (n - 1 - i) else row i
/-- all readings of a row by a kind of reader, by the words that are allowed -/
def gq_all (g : gq_T) (kw : Nat → Bool) (kd : Nat) (row : Nat → Int) (n : Nat) : List (List Nat) := if n = 0 then [] else gq_rd g kw (gq_row kd n row) n (macc kd) 0 0
theorem gq_all_few {g : gq_T} {kw : Nat → Bool} {kd : Nat} {row : Nat → Int} {n : Nat} (V : gq_V g) (hn : n ≤ 9) : (gq_all g kw kd row n).length ≤ 10077696 := by
  unfold gq_all
  split
  · simp
  · exact gq_few V hn 0 0 (Nat.zero_le _)
theorem mIt.start {σ : av_M} {g : gq_T} {kn : Nat} {row : Nat → Int} {n kd : Nat} (G : mG σ g) (hn : σ 0 31 = (n : Int)) (hn9 : n ≤ 9) (hkd : σ 0 33 = (kd : Int)) (hkd4 : kd ≤ 4) (hkn : σ 0 32 = (kn : Int)) (hkn2 : kn < 256) (hrow : ∀ i, i < n → σ 20 i = gq_row kd n row i ∧ rg (gq_row kd n row i))
    (hd : σ 0 36 = if n = 0 then -1 else 0) (hw : σ 21 0 = -1) (hf : σ 22 0 = 0) : mIt σ g kn (gq_row kd n row) n kd (gq_all g (mkw kn kd) kd row n) := by
  obtain ⟨V, h1, h2, h3, h4, h5⟩ := G
  refine ⟨⟨⟨h1, V.1⟩, fun r hr => ⟨h2 r hr, V.2.1 r hr⟩, fun r i hr hi => ⟨h3 r i hr hi, by have := V.2.2.1 r i hr hi; omega⟩, fun r hr => ⟨h4 r hr, V.2.2.2.1 r hr⟩, fun r hr => ⟨h5 r hr, V.2.2.2.2.1 r hr⟩, ⟨hn, hn9⟩, ⟨hkd, hkd4⟩, ⟨hkn, hkn2⟩, hrow⟩, ?_⟩
  unfold gq_all
  by_cases h0 : n = 0
  · rw [if_pos h0] at hd ⊢
    exact Or.inl ⟨hd, rfl⟩
  · rw [if_neg h0] at hd ⊢
    refine Or.inr ⟨by omega, [], -1, by omega, by omega, ⟨hd, hw, hf⟩, ?_⟩
    show gq_op g (mkw kn kd) (gq_row kd n row) n (macc kd) [] 0 ++ [] = _
    rw [List.append_nil, gq_op_0 (fun r hr => (V.2.1 r hr).1) (show gq_pl g [] < n from by show 0 < n; omega)]
    show (gq_rd g (mkw kn kd) (gq_row kd n row) n (macc kd) 0 0).map (fun t => [].reverse ++ t) = _
    simp
/-- the row turned around, so far as j steps go -/
def mRv (σ : av_M) (n j : Nat) : av_M := fun a b => if a = 20 ∧ b < n ∧ (b < j ∨ n - 1 - b < j) then σ 20 (n - 1 - b) else σ a b
theorem mRv_0 (σ : av_M) (n : Nat) : mRv σ n 0 = σ := by
  funext a b
  unfold mRv
  rw [if_neg (by omega)]
theorem mRv_step {σ : av_M} {n j : Nat} (h : j < n / 2) : av_st (av_st (mRv σ n j) 20 j (mRv σ n j 20 (n - 1 - j))) 20 (n - 1 - j) (mRv σ n j 20 j) = mRv σ n (j + 1) := by
  have e1 : mRv σ n j 20 (n - 1 - j) = σ 20 (n - 1 - j) := by
    unfold mRv
    rw [if_neg (by omega)]
  have e2 : mRv σ n j 20 j = σ 20 j := by
    unfold mRv
    rw [if_neg (by omega)]
  rw [e1, e2]
  funext a b
  unfold av_st
  by_cases ha : a = 20
  · subst ha
    by_cases hb1 : b = n - 1 - j
    · subst hb1
      rw [if_pos ⟨rfl, rfl⟩]
      unfold mRv
      rw [if_pos ⟨rfl, by omega, by omega⟩]
      congr 1
      omega
    · rw [if_neg (fun z => hb1 z.2)]
      by_cases hb2 : b = j
      · subst hb2
        rw [if_pos ⟨rfl, rfl⟩]
        unfold mRv
        rw [if_pos ⟨rfl, by omega, by omega⟩]
      · rw [if_neg (fun z => hb2 z.2)]
        unfold mRv
        by_cases hc : b < n ∧ (b < j ∨ n - 1 - b < j)
        · rw [if_pos ⟨rfl, hc⟩, if_pos ⟨rfl, hc.1, by omega⟩]
        · rw [if_neg (fun z => hc z.2), if_neg (by omega)]
  · rw [if_neg (fun z => ha z.1), if_neg (fun z => ha z.1)]
    unfold mRv
    rw [if_neg (fun z => ha z.1), if_neg (fun z => ha z.1)]
theorem mRv_end {σ : av_M} {n b : Nat} (h : b < n) : mRv σ n (n / 2) 20 b = σ 20 (n - 1 - b) := by
  unfold mRv
  by_cases hc : b < n / 2 ∨ n - 1 - b < n / 2
  · rw [if_pos ⟨rfl, h, hc⟩]
  · rw [if_neg (fun z => hc z.2.2)]
    congr 1
    omega
theorem s_begins {E : av_E} {σ : av_M} {Q : Option av_V → av_M → Prop} {k kd n : Nat} {kn : Int} (hk : k < 5) (hkd : σ 5 (3 * k) = (kd : Int)) (hkd4 : kd ≤ 4) (hn : σ 0 31 = (n : Int)) (hn9 : n ≤ 9)
    (hQ : ∀ σ', mS2 σ σ' → σ' 0 31 = (n : Int) → σ' 0 33 = (kd : Int) → σ' 0 32 = kn → (∀ i, i < n → σ' 20 i = gq_row kd n (σ 20) i) → (σ' 0 36 = if n = 0 then -1 else 0) → σ' 21 0 = -1 → σ' 22 0 = 0 → Q none σ') : av_C E mSH mX5_begins [av_r 0, av_i (k : Int), av_i kn] σ Q := by
  apply uX5_begins
  have e1 : (3 * (k : Int)).toNat = 3 * k := by omega
  rw [e1, hkd, hn]
  refine ⟨by omega, by omega, fun c => ⟨by omega, fun c2 => ?_, fun c2 => ?_⟩, fun c => ?_⟩
  · have k3 : ¬ kd = 3 := by omega
    have n0 : ¬ n = 0 := by omega
    refine hQ _ ?_ ?_ ?_ ?_ ?_ ?_ ?_ ?_
    · exact (((((mS2.rf σ).st _ (by omega)).st _ (by omega)).st _ (by omega)).st _ (by omega)).st _ (by omega)
    · simp [av_st, hn]
    · simp [av_st]
    · simp [av_st]
    · intro i hi
      simp [av_st, gq_row, k3]
    · simp [av_st, n0]
    · simp [av_st]
    · simp [av_st]
  · have k3 : ¬ kd = 3 := by omega
    have n0 : n = 0 := by omega
    refine hQ _ ?_ ?_ ?_ ?_ ?_ ?_ ?_ ?_
    · exact (((((mS2.rf σ).st _ (by omega)).st _ (by omega)).st _ (by omega)).st _ (by omega)).st _ (by omega)
    · simp [av_st, hn]
    · simp [av_st]
    · simp [av_st]
    · intro i hi
      omega
    · simp [av_st, n0]
    · simp [av_st]
    · simp [av_st]
  · have k3 : kd = 3 := by omega
    obtain ⟨σ1, hσ1⟩ : ∃ σ1, σ1 = av_st (av_st σ 0 33 (kd : Int)) 0 32 kn := ⟨_, rfl⟩
    rw [← hσ1]
    have key : ∀ (q j : Nat), n / 2 - j = q → j ≤ n / 2 → av_W E mSH mX5_begins 27 [some (av_r 0), some (av_i (k : Int)), some (av_i kn), some (av_i (j : Int)), none] [] (mRv σ1 n j) Q := by
      intro q
      induction q with
      | zero =>
        intro j hq hj
        have hj2 : j = n / 2 := by omega
        subst hj2
        apply uX5_begins_27
        have r1 : mRv σ1 n (n / 2) 0 31 = (n : Int) := by simp [mRv, hσ1, av_st, hn]
        rw [r1]
        refine ⟨by omega, by omega, by omega, fun c => ⟨by omega, fun c2 => ?_, fun c2 => ?_⟩, fun c => by omega⟩
        · have n0 : ¬ n = 0 := by omega
          refine hQ _ ?_ ?_ ?_ ?_ ?_ ?_ ?_ ?_
          · refine ((mS2.st ?_ _ (by omega)).st _ (by omega)).st _ (by omega)
            intro a b h0 h1 h2 h3
            have q1 : ¬ (a = 0 ∧ b = 33) := by omega
            have q2 : ¬ (a = 0 ∧ b = 32) := by omega
            simp [mRv, h0, hσ1, av_st, q1, q2]
          · simp [mRv, hσ1, av_st, hn]
          · simp [mRv, hσ1, av_st]
          · simp [mRv, hσ1, av_st]
          · intro i hi
            have := mRv_end (σ := σ1) hi
            simp only [av_st]
            rw [if_neg (by omega), if_neg (by omega), if_neg (by omega), this]
            simp [hσ1, av_st, gq_row, k3]
          · simp [av_st, n0]
          · simp [av_st]
          · simp [av_st]
        · have n0 : n = 0 := by omega
          refine hQ _ ?_ ?_ ?_ ?_ ?_ ?_ ?_ ?_
          · refine ((mS2.st ?_ _ (by omega)).st _ (by omega)).st _ (by omega)
            intro a b h0 h1 h2 h3
            have q1 : ¬ (a = 0 ∧ b = 33) := by omega
            have q2 : ¬ (a = 0 ∧ b = 32) := by omega
            simp [mRv, h0, hσ1, av_st, q1, q2]
          · simp [mRv, hσ1, av_st, hn]
          · simp [mRv, hσ1, av_st]
          · simp [mRv, hσ1, av_st]
          · intro i hi
            omega
          · simp [av_st, n0]
          · simp [av_st]
          · simp [av_st]
      | succ q ih =>
        intro j hq hj
        apply uX5_begins_27
        have r1 : mRv σ1 n j 0 31 = (n : Int) := by simp [mRv, hσ1, av_st, hn]
        have e2 : ((n : Int) - 1 - (j : Int)).toNat = n - 1 - j := by omega
        have e3 : (j : Int) + 1 = ((j + 1 : Nat) : Int) := by omega
        rw [r1, e2, e3, Int.toNat_natCast, mRv_step (by omega)]
        exact ⟨by omega, by omega, by omega, fun c => by omega, fun c => ⟨by omega, by omega, by omega, by omega, ih (j + 1) (by omega) (by omega)⟩⟩
    have := key _ 0 rfl (Nat.zero_le _)
    rw [mRv_0] at this
    exact this
/-- the model's reader k has this kind -/
def mKd (σ : av_M) (k kd : Nat) : Prop := k < 5 ∧ σ 5 (3 * k) = (kd : Int) ∧ kd ≤ 4
theorem mKd.s2 {σ σ' : av_M} {k kd : Nat} (h : mKd σ k kd) (e : mS2 σ σ') : mKd σ' k kd := ⟨h.1, by rw [e 5 _ (by omega) (by omega) (by omega) (by omega)]; exact h.2.1, h.2.2⟩
theorem s_begins2 {E : av_E} {σ : av_M} {Q : Option av_V → av_M → Prop} {g : gq_T} {k kd n kn : Nat} {row : Nat → Int} (G : mG σ g) (K : mKd σ k kd) (hn : σ 0 31 = (n : Int)) (hn9 : n ≤ 9) (hkn : kn < 256) (hrow : ∀ i, i < n → σ 20 i = row i ∧ rg (row i))
    (hQ : ∀ σ', mS2 σ σ' → mIt σ' g kn (gq_row kd n row) n kd (gq_all g (mkw kn kd) kd row n) → Q none σ') : av_C E mSH mX5_begins [av_r 0, av_i (k : Int), av_i (kn : Int)] σ Q := by
  refine s_begins K.1 K.2.1 K.2.2 hn hn9 (fun σ' S h1 h2 h3 h4 h5 h6 h7 => hQ σ' S (mIt.start (G.s2 S) h1 hn9 h2 K.2.2 h3 hkn (fun i hi => ?_) h5 h6 h7))
  rw [h4 i hi]
  unfold gq_row
  by_cases k3 : kd = 3
  · rw [if_pos k3, if_pos k3]
    exact hrow _ (by omega)
  · rw [if_neg k3, if_neg k3]
    exact hrow i hi
/-- what is written in the model -/
def mWt (σ : av_M) (row : Nat → Int) (n : Nat) : Prop := σ 7 4 = (n : Int) ∧ n ≤ 9 ∧ ∀ i, i < n → σ 7 (5 + i) = row i ∧ 0 ≤ row i ∧ row i ≤ 4
theorem mWt.s2 {σ σ' : av_M} {row : Nat → Int} {n : Nat} (h : mWt σ row n) (e : mS2 σ σ') : mWt σ' row n := ⟨by rw [e 7 _ (by omega) (by omega) (by omega) (by omega)]; exact h.1, h.2.1, fun i hi => by rw [e 7 _ (by omega) (by omega) (by omega) (by omega)]; exact h.2.2 i hi⟩
theorem s_asWritten {E : av_E} {σ : av_M} {Q : Option av_V → av_M → Prop} {g : gq_T} {k kd n kn : Nat} {row : Nat → Int} (G : mG σ g) (K : mKd σ k kd) (Wt : mWt σ row n) (hkn : kn < 256)
    (hQ : ∀ σ', mS2 σ σ' → mIt σ' g kn (gq_row kd n row) n kd (gq_all g (mkw kn kd) kd row n) → Q none σ') : av_C E mSH mX5_asWritten [av_r 0, av_i (k : Int), av_i (kn : Int)] σ Q := by
  apply uX5_asWritten
  obtain ⟨w1, w2, w3⟩ := id Wt
  rw [w1]
  refine s_copies (n0 := 9) (n1 := 14) (d := 0) (s := 5) rfl rfl (by omega) (by omega) (by omega) (by omega) (by omega) ⟨rfl, ?_⟩
  have S1 : mS2 σ (av_cp (av_st σ 0 31 (n : Int)) 7 5 20 0 n) := by
    intro a b h0 h1 h2 h3
    have q1 : ¬ (a = 0 ∧ b = 31) := by omega
    simp [av_cp, av_st, h0, q1]
  refine s_begins2 (row := row) (G.s2 S1) (K.s2 S1) (by simp [av_cp, av_st]) w2 hkn (fun i hi => ?_) (fun σ' S' I' => ⟨rfl, hQ σ' (S1.tr S') I'⟩)
  have := w3 i hi
  refine ⟨?_, by omega⟩
  have q2 : i < 0 + n := by omega
  simp [av_cp, av_st, hi, this.1]
