theorem s_letters_14 {E : av_E} {σ : av_M} {Q : Option av_V → av_M → Prop} {cs : List Nat} {i d m b : Nat} (hT : mTx σ cs) (h17 : σ 0 17 = (i : Int)) (hi : i ≤ 4000) (hd : d + m ≤ 24) (hb : 0 < b ∧ b < 1000)
    (h0 : p_row cs i m b = none → ∀ σ', (∀ a c, a ≠ 14 → ¬ (a = 0 ∧ c = 17) → σ' a c = σ a c) → Q (some (av_i (-1))) σ')
    (h1 : ∀ r, p_row cs i m b = some r → ∀ σ', (∀ a c, a ≠ 14 → ¬ (a = 0 ∧ c = 17) → σ' a c = σ a c) → (∀ c, c < d → σ' 14 c = σ 14 c) → σ' 0 17 = (r.2 : Int) → (∀ u, u < p_let cs i m → σ' 14 (d + u) = (pc cs (i + u) : Int) - 97) → Q (some (av_i (p_let cs i m : Int))) σ') :
    av_C E mSH mX5_readLetters [av_r 0, av_r 14, av_i (d : Int), av_i (m : Int), av_i (b : Int)] σ Q := by
  apply uX5_readLetters_14
  have hc := hT.2.2.2
  have hnm := p_let_le cs m i
  have key : ∀ (t u : Nat) (τ : av_M), m - u = t → u ≤ p_let cs i m → (∀ a c, a ≠ 14 → ¬ (a = 0 ∧ c = 17) → τ a c = σ a c) → (∀ c, c < d → τ 14 c = σ 14 c) → τ 0 17 = ((i + u : Nat) : Int) → (∀ v, v < u → τ 14 (d + v) = (pc cs (i + v) : Int) - 97) →
      av_W E mSH mX5_readLetters 3 [some (av_r 0), some (av_r 14), some (av_i (d : Int)), some (av_i (m : Int)), some (av_i (b : Int)), some (av_i (u : Int)), none] [] τ Q := by
    intro t
    induction t with
    | zero =>
      intro u τ ht hu F L g17 gx
      have hun : u = p_let cs i m := by omega
      have hTτ := hT.congr (F 0 16 (by omega) (by omega)) (fun c => F 11 c (by omega) (by omega))
      have hr := mch_rg hc (i + u)
      have fin : (u = 0 → Q (some (av_i (-1))) (av_st τ 0 17 (((i + u : Nat) : Int) + 1))) ∧ (0 < u → (¬ mch cs (i + u) = (b : Int) → Q (some (av_i (-1))) (av_st τ 0 17 (((i + u : Nat) : Int) + 1))) ∧ (mch cs (i + u) = (b : Int) → Q (some (av_i (u : Int))) (av_st τ 0 17 (((i + u : Nat) : Int) + 1)))) := by
        have FF : ∀ a c, a ≠ 14 → ¬ (a = 0 ∧ c = 17) → av_st τ 0 17 (((i + u : Nat) : Int) + 1) a c = σ a c := fun a c q1 q2 => by
          rw [← F a c q1 q2]
          simp [av_st, q2]
        refine ⟨fun z => h0 (by rw [p_row, if_neg (by omega)]) _ FF, fun z => ⟨fun c => h0 ?_ _ FF, fun c => ?_⟩⟩
        · rw [p_row, if_neg]
          rintro ⟨-, q⟩
          rw [← hun] at q
          exact c ((mch_eq hb.1).mpr q)
        · have := h1 (p_no cs i (p_let cs i m), i + p_let cs i m + 1) (by rw [p_row, if_pos ⟨by omega, by rw [← hun]; exact (mch_eq hb.1).mp c⟩]) (av_st τ 0 17 (((i + u : Nat) : Int) + 1)) FF (fun c hc => by rw [← L c hc]; simp [av_st]) (by simp [av_st]; omega) (fun v hv => by rw [← gx v (by omega)]; simp [av_st])
          rw [← hun] at this
          exact this
      apply uX5_readLetters_14_3
      rw [g17]
      refine s_letterAt hTτ (by omega) ⟨_, rfl, s_in (by omega) (by decide) (by decide) ⟨_, rfl, ?_⟩⟩
      have last : (rg (u : Int)) ∧ ((((u : Int) ≤ 0) → Q (some (av_i (-1))) (av_st τ 0 17 ((τ 0 17) + 1))) ∧ ((0 < (u : Int)) → av_C E mSH mX5_letterAt [av_r 0, av_i (τ 0 17)] τ (fun v s3 => ∃ r3 : Int, v = some (av_i r3) ∧ ((rg r3) ∧ ((rg (b : Int)) ∧ (((¬ r3 = (b : Int)) → Q (some (av_i (-1))) (av_st s3 0 17 ((s3 0 17) + 1))) ∧ ((r3 = (b : Int)) → Q (some (av_i (u : Int))) (av_st s3 0 17 ((s3 0 17) + 1))))))))) := by
        rw [g17]
        refine ⟨by omega, fun c => fin.1 (by omega), fun c => s_letterAt hTτ (by omega) ⟨_, rfl, by omega, by omega, ?_⟩⟩
        rw [g17]
        exact fin.2 (by omega)
      by_cases hl : 97 ≤ mch cs (i + u) ∧ mch cs (i + u) ≤ 101
      · rw [if_pos hl]
        exact ⟨by decide, fun c => absurd c (by decide), fun _ => ⟨by omega, by omega, fun _ => last, fun c => by omega⟩⟩
      · rw [if_neg hl]
        exact ⟨by decide, fun _ => last, fun c => absurd rfl c⟩
    | succ t ih =>
      intro u τ ht hu F L g17 gx
      have hTτ := hT.congr (F 0 16 (by omega) (by omega)) (fun c => F 11 c (by omega) (by omega))
      have hr := mch_rg hc (i + u)
      apply uX5_readLetters_14_3
      rw [g17]
      refine s_letterAt hTτ (by omega) ⟨_, rfl, s_in (by omega) (by decide) (by decide) ⟨_, rfl, ?_⟩⟩
      by_cases hl : 97 ≤ mch cs (i + u) ∧ mch cs (i + u) ≤ 101
      · rw [if_pos hl]
        have hl2 : 97 ≤ pc cs (i + u) ∧ pc cs (i + u) ≤ 101 := by
          have := (mch_in (u := 101) (l := 97) (by omega)).mp hl
          omega
        have hun : u < p_let cs i m := by
          rcases Nat.lt_or_ge u (p_let cs i m) with q | q
          · exact q
          · have e : u = p_let cs i m := by omega
            have := p_let_out cs m i (by omega)
            rw [← e] at this
            exact absurd hl2 this
        refine ⟨by decide, fun c => absurd c (by decide), fun _ => ⟨by omega, by omega, fun c => by omega, fun _ => ?_⟩⟩
        rw [g17]
        refine s_letterAt hTτ (by omega) ⟨_, rfl, by omega, ?_⟩
        have e1 : ((d : Int) + (u : Int)).toNat = d + u := by omega
        have e2 : (u : Int) + 1 = ((u + 1 : Nat) : Int) := by omega
        have e3 : ((i + u : Nat) : Int) + 1 = ((i + (u + 1) : Nat) : Int) := by omega
        rw [e1, e2, g17, e3, mch_pc (by omega)]
        refine ih (u + 1) _ (by omega) (by omega) (fun a c q1 q2 => ?_) (fun c hc => ?_) (by simp [av_st]) (fun v hv => ?_)
        · rw [← F a c q1 q2]
          simp [av_st, q1, q2]
        · rw [← L c hc]
          have : ¬ c = d + u := by omega
          simp [av_st, this]
        · by_cases hvu : v = u
          · subst hvu
            simp [av_st]
          · rw [← gx v (by omega)]
            have : ¬ d + v = d + u := by omega
            simp [av_st, hvu]
      · rw [if_neg hl]
        have hun : u = p_let cs i m := by
          rcases Nat.lt_or_ge u (p_let cs i m) with q | q
          · have := p_let_in cs m i u q
            exact absurd ((mch_in (u := 101) (l := 97) (by omega)).mpr (by omega)) hl
          · omega
        have FF : ∀ a c, a ≠ 14 → ¬ (a = 0 ∧ c = 17) → av_st τ 0 17 (((i + u : Nat) : Int) + 1) a c = σ a c := fun a c q1 q2 => by
          rw [← F a c q1 q2]
          simp [av_st, q2]
        refine ⟨by decide, fun _ => ⟨by omega, fun c => ?_, fun c => ?_⟩, fun c => absurd rfl c⟩
        · rw [g17]
          exact h0 (by rw [p_row, if_neg (by omega)]) _ FF
        · rw [g17]
          refine s_letterAt hTτ (by omega) ⟨_, rfl, by omega, by omega, fun c => ?_, fun c => ?_⟩
          · rw [g17]
            refine h0 ?_ _ FF
            rw [p_row, if_neg]
            rintro ⟨-, q⟩
            rw [← hun] at q
            exact c ((mch_eq hb.1).mpr q)
          · rw [g17]
            have := h1 (p_no cs i (p_let cs i m), i + p_let cs i m + 1) (by rw [p_row, if_pos ⟨by omega, by rw [← hun]; exact (mch_eq hb.1).mp c⟩]) (av_st τ 0 17 (((i + u : Nat) : Int) + 1)) FF (fun c hc => by rw [← L c hc]; simp [av_st]) (by simp [av_st]; omega) (fun v hv => by rw [← gx v (by omega)]; simp [av_st])
            rw [← hun] at this
            exact this
  have := key m 0 σ (by omega) (Nat.zero_le _) (fun _ _ _ _ => rfl) (fun _ _ => rfl) (by rw [h17]; rfl) (fun v hv => by omega)
  exact this

theorem s_letters_18 {E : av_E} {σ : av_M} {Q : Option av_V → av_M → Prop} {cs : List Nat} {i d m b : Nat} (hT : mTx σ cs) (h17 : σ 0 17 = (i : Int)) (hi : i ≤ 4000) (hd : d + m ≤ 9) (hb : 0 < b ∧ b < 1000)
    (h0 : p_row cs i m b = none → ∀ σ', (∀ a c, a ≠ 18 → ¬ (a = 0 ∧ c = 17) → σ' a c = σ a c) → Q (some (av_i (-1))) σ')
    (h1 : ∀ r, p_row cs i m b = some r → ∀ σ', (∀ a c, a ≠ 18 → ¬ (a = 0 ∧ c = 17) → σ' a c = σ a c) → (∀ c, c < d → σ' 18 c = σ 18 c) → σ' 0 17 = (r.2 : Int) → (∀ u, u < p_let cs i m → σ' 18 (d + u) = (pc cs (i + u) : Int) - 97) → Q (some (av_i (p_let cs i m : Int))) σ') :
    av_C E mSH mX5_readLetters [av_r 0, av_r 18, av_i (d : Int), av_i (m : Int), av_i (b : Int)] σ Q := by
  apply uX5_readLetters_18
  have hc := hT.2.2.2
  have hnm := p_let_le cs m i
  have key : ∀ (t u : Nat) (τ : av_M), m - u = t → u ≤ p_let cs i m → (∀ a c, a ≠ 18 → ¬ (a = 0 ∧ c = 17) → τ a c = σ a c) → (∀ c, c < d → τ 18 c = σ 18 c) → τ 0 17 = ((i + u : Nat) : Int) → (∀ v, v < u → τ 18 (d + v) = (pc cs (i + v) : Int) - 97) →
      av_W E mSH mX5_readLetters 3 [some (av_r 0), some (av_r 18), some (av_i (d : Int)), some (av_i (m : Int)), some (av_i (b : Int)), some (av_i (u : Int)), none] [] τ Q := by
    intro t
    induction t with
    | zero =>
      intro u τ ht hu F L g17 gx
      have hun : u = p_let cs i m := by omega
      have hTτ := hT.congr (F 0 16 (by omega) (by omega)) (fun c => F 11 c (by omega) (by omega))
      have hr := mch_rg hc (i + u)
      have fin : (u = 0 → Q (some (av_i (-1))) (av_st τ 0 17 (((i + u : Nat) : Int) + 1))) ∧ (0 < u → (¬ mch cs (i + u) = (b : Int) → Q (some (av_i (-1))) (av_st τ 0 17 (((i + u : Nat) : Int) + 1))) ∧ (mch cs (i + u) = (b : Int) → Q (some (av_i (u : Int))) (av_st τ 0 17 (((i + u : Nat) : Int) + 1)))) := by
        have FF : ∀ a c, a ≠ 18 → ¬ (a = 0 ∧ c = 17) → av_st τ 0 17 (((i + u : Nat) : Int) + 1) a c = σ a c := fun a c q1 q2 => by
          rw [← F a c q1 q2]
          simp [av_st, q2]
        refine ⟨fun z => h0 (by rw [p_row, if_neg (by omega)]) _ FF, fun z => ⟨fun c => h0 ?_ _ FF, fun c => ?_⟩⟩
        · rw [p_row, if_neg]
          rintro ⟨-, q⟩
          rw [← hun] at q
          exact c ((mch_eq hb.1).mpr q)
        · have := h1 (p_no cs i (p_let cs i m), i + p_let cs i m + 1) (by rw [p_row, if_pos ⟨by omega, by rw [← hun]; exact (mch_eq hb.1).mp c⟩]) (av_st τ 0 17 (((i + u : Nat) : Int) + 1)) FF (fun c hc => by rw [← L c hc]; simp [av_st]) (by simp [av_st]; omega) (fun v hv => by rw [← gx v (by omega)]; simp [av_st])
          rw [← hun] at this
          exact this
      apply uX5_readLetters_18_3
      rw [g17]
      refine s_letterAt hTτ (by omega) ⟨_, rfl, s_in (by omega) (by decide) (by decide) ⟨_, rfl, ?_⟩⟩
      have last : (rg (u : Int)) ∧ ((((u : Int) ≤ 0) → Q (some (av_i (-1))) (av_st τ 0 17 ((τ 0 17) + 1))) ∧ ((0 < (u : Int)) → av_C E mSH mX5_letterAt [av_r 0, av_i (τ 0 17)] τ (fun v s3 => ∃ r3 : Int, v = some (av_i r3) ∧ ((rg r3) ∧ ((rg (b : Int)) ∧ (((¬ r3 = (b : Int)) → Q (some (av_i (-1))) (av_st s3 0 17 ((s3 0 17) + 1))) ∧ ((r3 = (b : Int)) → Q (some (av_i (u : Int))) (av_st s3 0 17 ((s3 0 17) + 1))))))))) := by
        rw [g17]
        refine ⟨by omega, fun c => fin.1 (by omega), fun c => s_letterAt hTτ (by omega) ⟨_, rfl, by omega, by omega, ?_⟩⟩
        rw [g17]
        exact fin.2 (by omega)
      by_cases hl : 97 ≤ mch cs (i + u) ∧ mch cs (i + u) ≤ 101
      · rw [if_pos hl]
        exact ⟨by decide, fun c => absurd c (by decide), fun _ => ⟨by omega, by omega, fun _ => last, fun c => by omega⟩⟩
      · rw [if_neg hl]
        exact ⟨by decide, fun _ => last, fun c => absurd rfl c⟩
    | succ t ih =>
      intro u τ ht hu F L g17 gx
      have hTτ := hT.congr (F 0 16 (by omega) (by omega)) (fun c => F 11 c (by omega) (by omega))
      have hr := mch_rg hc (i + u)
      apply uX5_readLetters_18_3
      rw [g17]
      refine s_letterAt hTτ (by omega) ⟨_, rfl, s_in (by omega) (by decide) (by decide) ⟨_, rfl, ?_⟩⟩
      by_cases hl : 97 ≤ mch cs (i + u) ∧ mch cs (i + u) ≤ 101
      · rw [if_pos hl]
        have hl2 : 97 ≤ pc cs (i + u) ∧ pc cs (i + u) ≤ 101 := by
          have := (mch_in (u := 101) (l := 97) (by omega)).mp hl
          omega
        have hun : u < p_let cs i m := by
          rcases Nat.lt_or_ge u (p_let cs i m) with q | q
          · exact q
          · have e : u = p_let cs i m := by omega
            have := p_let_out cs m i (by omega)
            rw [← e] at this
            exact absurd hl2 this
        refine ⟨by decide, fun c => absurd c (by decide), fun _ => ⟨by omega, by omega, fun c => by omega, fun _ => ?_⟩⟩
        rw [g17]
        refine s_letterAt hTτ (by omega) ⟨_, rfl, by omega, ?_⟩
        have e1 : ((d : Int) + (u : Int)).toNat = d + u := by omega
        have e2 : (u : Int) + 1 = ((u + 1 : Nat) : Int) := by omega
        have e3 : ((i + u : Nat) : Int) + 1 = ((i + (u + 1) : Nat) : Int) := by omega
        rw [e1, e2, g17, e3, mch_pc (by omega)]
        refine ih (u + 1) _ (by omega) (by omega) (fun a c q1 q2 => ?_) (fun c hc => ?_) (by simp [av_st]) (fun v hv => ?_)
        · rw [← F a c q1 q2]
          simp [av_st, q1, q2]
        · rw [← L c hc]
          have : ¬ c = d + u := by omega
          simp [av_st, this]
        · by_cases hvu : v = u
          · subst hvu
            simp [av_st]
          · rw [← gx v (by omega)]
            have : ¬ d + v = d + u := by omega
            simp [av_st, hvu]
      · rw [if_neg hl]
        have hun : u = p_let cs i m := by
          rcases Nat.lt_or_ge u (p_let cs i m) with q | q
          · have := p_let_in cs m i u q
            exact absurd ((mch_in (u := 101) (l := 97) (by omega)).mpr (by omega)) hl
          · omega
        have FF : ∀ a c, a ≠ 18 → ¬ (a = 0 ∧ c = 17) → av_st τ 0 17 (((i + u : Nat) : Int) + 1) a c = σ a c := fun a c q1 q2 => by
          rw [← F a c q1 q2]
          simp [av_st, q2]
        refine ⟨by decide, fun _ => ⟨by omega, fun c => ?_, fun c => ?_⟩, fun c => absurd rfl c⟩
        · rw [g17]
          exact h0 (by rw [p_row, if_neg (by omega)]) _ FF
        · rw [g17]
          refine s_letterAt hTτ (by omega) ⟨_, rfl, by omega, by omega, fun c => ?_, fun c => ?_⟩
          · rw [g17]
            refine h0 ?_ _ FF
            rw [p_row, if_neg]
            rintro ⟨-, q⟩
            rw [← hun] at q
            exact c ((mch_eq hb.1).mpr q)
          · rw [g17]
            have := h1 (p_no cs i (p_let cs i m), i + p_let cs i m + 1) (by rw [p_row, if_pos ⟨by omega, by rw [← hun]; exact (mch_eq hb.1).mp c⟩]) (av_st τ 0 17 (((i + u : Nat) : Int) + 1)) FF (fun c hc => by rw [← L c hc]; simp [av_st]) (by simp [av_st]; omega) (fun v hv => by rw [← gx v (by omega)]; simp [av_st])
            rw [← hun] at this
            exact this
  have := key m 0 σ (by omega) (Nat.zero_le _) (fun _ _ _ _ => rfl) (fun _ _ => rfl) (by rw [h17]; rfl) (fun v hv => by omega)
  exact this

/-- what the model has been told so far -/
def mW (σ : av_M) (W : q_W) : Prop :=
  (σ 0 19 = (W.1.length : Int) ∧ ∀ (r : Nat) (x : Nat × Nat × Nat), W.1[r]? = some x → σ 13 r = (rw_cn 9 x.1 : Int) ∧ (∀ i, i < rw_cn 9 x.1 → σ 14 (3 * r + i) = rw_d x.1 (rw_cn 9 x.1) i) ∧ σ 15 r = (x.2.1 : Int) ∧ σ 16 r = (x.2.2 : Int)) ∧
  (σ 0 24 = (W.2.1.length : Int) ∧ ∀ (k : Nat) (x : Nat × Nat × Nat), W.2.1[k]? = some x → σ 17 (3 * k) = (x.1 : Int) ∧ σ 17 (3 * k + 1) = (x.2.1 : Int) ∧ σ 17 (3 * k + 2) = (x.2.2 : Int)) ∧
  (σ 0 26 = (rw_cn 9 W.2.2.1 : Int) ∧ ∀ i, i < rw_cn 9 W.2.2.1 → σ 18 i = rw_d W.2.2.1 (rw_cn 9 W.2.2.1) i) ∧ (σ 19 0 = (W.2.2.2.1.1 : Int) ∧ σ 19 1 = (W.2.2.2.1.2.1 : Int) ∧ σ 19 2 = (W.2.2.2.1.2.2 : Int)) ∧ σ 0 29 = (W.2.2.2.2 : Int)
theorem p_ok_dec {m r : Nat} (h : p_ok m r) (hm : m ≤ 9) : 1 ≤ rw_cn 9 r ∧ rw_cn 9 r ≤ m ∧ (∀ i, i < rw_cn 9 r → 0 ≤ rw_d r (rw_cn 9 r) i ∧ rw_d r (rw_cn 9 r) i ≤ 4) ∧ rw_nu (rw_d r (rw_cn 9 r)) (rw_cn 9 r) = (r : Int) := by
  obtain ⟨n, row, h1, h2, h3, h4⟩ := h
  obtain ⟨e1, e2⟩ := rw_dec n row r 9 h3 h4 (by omega)
  rw [e1]
  refine ⟨h1, h2, fun i hi => by rw [e2 i hi]; exact h3 i hi, ?_⟩
  rw [← h4]
  exact rw_nu_congr n e2
theorem p_ok_eq {a b m : Nat} (ha : p_ok m a) (hb : p_ok m b) (hm : m ≤ 9) : (rw_cn 9 a = rw_cn 9 b ∧ ∀ i, i < rw_cn 9 b → rw_d a (rw_cn 9 a) i = rw_d b (rw_cn 9 b) i) ↔ a = b := by
  constructor
  · rintro ⟨h1, h2⟩
    have h3 := (p_ok_dec ha hm).2.2.2
    have h4 := (p_ok_dec hb hm).2.2.2
    rw [h1] at h3 h2
    rw [rw_nu_congr _ h2] at h3
    omega
  · rintro rfl
    exact ⟨rfl, fun _ _ => rfl⟩
theorem s_isNew {E : av_E} {σ : av_M} {Q : Option av_V → av_M → Prop} {W : q_W} {b : Nat} (hW : ∀ (r : Nat) (x : Nat × Nat × Nat), W.1[r]? = some x → σ 13 r = (rw_cn 9 x.1 : Int) ∧ (∀ i, i < rw_cn 9 x.1 → σ 14 (3 * r + i) = rw_d x.1 (rw_cn 9 x.1) i)) (V : p_Wv W) (hl : W.1.length < 8) (hb : p_ok 3 b) (h13 : σ 13 W.1.length = (rw_cn 9 b : Int)) (h14 : ∀ i, i < rw_cn 9 b → σ 14 (3 * W.1.length + i) = rw_d b (rw_cn 9 b) i)
    (hQ : Q (some (av_i (if b ∈ W.1.map (fun x => x.1) then 0 else 1))) σ) : av_C E mSH mX5_isNew [av_r 0, av_i (W.1.length : Int)] σ Q := by
  apply uX5_isNew
  have hbd := p_ok_dec hb (by omega)
  have key : ∀ (t e : Nat) (x2 : Int), W.1.length - e = t → e ≤ W.1.length → (x2 = if b ∈ (W.1.take e).map (fun x => x.1) then 0 else 1) → av_W E mSH mX5_isNew 4 [some (av_r 0), some (av_i (W.1.length : Int)), some (av_i x2), some (av_i (e : Int)), none, none] [] σ Q := by
    intro t
    induction t with
    | zero =>
      intro e x2 ht he hx
      apply uX5_isNew_4
      have ee : e = W.1.length := by omega
      rw [ee, List.take_length] at hx
      rw [← hx] at hQ
      refine ⟨by omega, by omega, fun _ => ⟨?_, hQ⟩, fun c => by omega⟩
      rw [hx]
      split
      · exact Or.inl rfl
      · exact Or.inr rfl
    | succ t ih =>
      intro e x2 ht he hx
      have hel : e < W.1.length := by omega
      obtain ⟨w1, w2⟩ := hW e _ (List.getElem?_eq_getElem hel)
      have hv := V.1.2.1 _ (List.getElem_mem hel)
      have hvd := p_ok_dec hv.1 (by omega)
      have heq := p_ok_eq hv.1 hb (by omega)
      have htk : b ∈ (W.1.take (e + 1)).map (fun x => x.1) ↔ (b ∈ (W.1.take e).map (fun x => x.1) ∨ W.1[e].1 = b) := by
        rw [List.take_succ, List.getElem?_eq_getElem hel, List.map_append, List.mem_append]
        simp only [Option.toList_some, List.map_cons, List.map_nil, List.mem_singleton]
        exact or_congr_right ⟨fun z => z.symm, fun z => z.symm⟩
      have e3 : (e : Int) + 1 = ((e + 1 : Nat) : Int) := by omega
      have x201 : x2 = 0 ∨ x2 = 1 := by rw [hx]; split; exact Or.inl rfl; exact Or.inr rfl
      have inner : ∀ (s k : Nat) (x4 : Int), rw_cn 9 b - k = s → k ≤ rw_cn 9 b → (x4 = 0 ∨ x4 = 1) → ((x4 = 1 ∧ (∀ i, i < rw_cn 9 b → k ≤ i → rw_d W.1[e].1 (rw_cn 9 W.1[e].1) i = rw_d b (rw_cn 9 b) i)) ↔ W.1[e].1 = b) → (x4 = 1 → rw_cn 9 W.1[e].1 = rw_cn 9 b) → av_W E mSH mX5_isNew 34 [some (av_r 0), some (av_i (W.1.length : Int)), some (av_i x2), some (av_i (e : Int)), some (av_i x4), some (av_i (k : Int))] [] σ Q := by
        intro s
        induction s with
        | zero =>
          intro k x4 hs hk h4 hiff hmn
          have hkk : k = rw_cn 9 b := by omega
          have hiff2 : x4 = 1 ↔ W.1[e].1 = b := by
            rw [← hiff]
            exact ⟨fun z => ⟨z, fun i h1 h2 => by omega⟩, fun z => z.1⟩
          apply uX5_isNew_34
          rw [Int.toNat_natCast, h13, e3]
          refine ⟨by omega, by omega, by omega, fun _ => ⟨by omega, fun c => ih (e + 1) 0 (by omega) (by omega) ?_, fun c => ⟨by omega, fun c2 => ih (e + 1) 0 (by omega) (by omega) ?_, fun c2 => ih (e + 1) 1 (by omega) (by omega) ?_⟩⟩, fun c => by omega⟩
          · rw [if_pos]
            rw [htk]
            left
            apply Classical.byContradiction
            intro z
            rw [if_neg z] at hx
            omega
          · rw [if_pos]
            rw [htk]
            right
            exact hiff2.mp (by omega)
          · rw [if_neg]
            rw [htk]
            rintro (z | z)
            · rw [if_pos z] at hx
              omega
            · have := hiff2.mpr z
              omega
        | succ s ih2 =>
          intro k x4 hs hk h4 hiff hmn
          apply uX5_isNew_34
          have e4 : (k : Int) + 1 = ((k + 1 : Nat) : Int) := by omega
          have e5 : (3 * (e : Int) + (k : Int)).toNat = 3 * e + k := by omega
          have e6 : (3 * (W.1.length : Int) + (k : Int)).toNat = 3 * W.1.length + k := by omega
          rw [Int.toNat_natCast, h13, e4, e5, e6]
          refine ⟨by omega, by omega, by omega, fun c => by omega, fun _ => ⟨by omega, fun c => ?_, fun c => ?_⟩⟩
          · refine ih2 (k + 1) 0 (by omega) (by omega) (Or.inl rfl) ⟨fun z => absurd z.1 (by decide), fun z => ?_⟩ (fun z => absurd z (by decide))
            have := hiff.mpr z
            omega
          · have x41 : x4 = 1 := by omega
            have hm := hmn x41
            have d1 := hvd.2.2.1 k (by omega)
            have d2 := hbd.2.2.1 k (by omega)
            rw [w2 k (by omega), h14 k (by omega)]
            refine ⟨by omega, by omega, by omega, by omega, fun c2 => ?_, fun c2 => ?_⟩
            · refine ih2 (k + 1) 0 (by omega) (by omega) (Or.inl rfl) ⟨fun z => absurd z.1 (by decide), fun z => ?_⟩ (fun z => absurd z (by decide))
              exact absurd ((hiff.mpr z).2 k (by omega) (Nat.le_refl _)) c2
            · refine ih2 (k + 1) 1 (by omega) (by omega) (Or.inr rfl) ?_ (fun _ => hm)
              rw [← hiff]
              constructor
              · rintro ⟨-, z⟩
                refine ⟨x41, fun i h1 h2 => ?_⟩
                rcases Nat.eq_or_lt_of_le h2 with rfl | h2
                · exact c2
                · exact z i h1 h2
              · rintro ⟨-, z⟩
                exact ⟨rfl, fun i h1 h2 => z i h1 (by omega)⟩
      apply uX5_isNew_4
      rw [Int.toNat_natCast, Int.toNat_natCast, w1, h13]
      refine ⟨by omega, by omega, fun c => by omega, fun _ => ⟨by omega, by omega, by omega, by omega, fun c => ?_, fun c => ?_⟩⟩
      · refine inner _ 0 0 rfl (Nat.zero_le _) (Or.inl rfl) ⟨fun z => absurd z.1 (by decide), fun z => ?_⟩ (fun z => absurd z (by decide))
        rw [z] at c
        exact absurd rfl c
      · refine inner _ 0 1 rfl (Nat.zero_le _) (Or.inr rfl) ?_ (fun _ => by omega)
        rw [← heq]
        exact ⟨fun z => ⟨by omega, fun i hi => z.2 i hi (Nat.zero_le _)⟩, fun z => ⟨rfl, fun i hi _ => z.2 i hi⟩⟩
  exact key _ 0 1 rfl (Nat.zero_le _) (by simp)
