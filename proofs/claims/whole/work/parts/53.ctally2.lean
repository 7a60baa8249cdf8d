/-! tally, and which readings these are -/
theorem c_tally {E : av_E} {σ : av_M} {Q : Option av_V → av_M → Prop} {g : gq_T} {kd n a : Nat} {row : Nat → Int} (V : gq_V g) (G : cGr σ g kd row n n) (hk : kd ≤ 4) (ha : a < 65536) (hn : n ≤ 9)
    (hQ : ∀ σ', cGf σ σ' → cGr σ' g kd row n n → cTl σ' g kd row n a 0 → Q (some (av_i (if n = 0 then 0 else ((cR g kd row n a 0 0).length : Int)))) σ') : av_C E cSH mX0_tally [av_r 21, av_i (a : Int)] σ Q := by
  apply uX0_tally
  have down : ∀ (p : Nat) (τ : av_M), p ≤ n → cGf σ τ → cGr τ g kd row n n → cTl τ g kd row n a p → av_W E cSH mX0_tally 51 [some (av_r 21), some (av_i (a : Int)), some (av_i ((p : Int) - 1))] [] τ Q := by
    intro p
    induction p with
    | zero =>
      intro τ hp F G T
      apply uX0_tally_51
      have hQ' := hQ τ F G T
      rw [G.2.1]
      refine ⟨by omega, fun _ => ⟨by omega, fun c => ?_, fun c => ?_⟩, fun c => by omega⟩
      · rw [if_neg (by omega)] at hQ'
        rw [show τ 24 0 = _ from T.2 0 (Nat.le_refl _) (by omega) 0 (by omega)]
        exact hQ'
      · rw [if_pos (by omega)] at hQ'
        exact hQ'
    | succ p ih =>
      intro τ hp F G T
      apply uX0_tally_51
      rw [G.2.1]
      refine ⟨by omega, fun c => by omega, fun _ => ?_⟩
      rw [show ((p + 1 : Nat) : Int) - 1 = (p : Int) by omega]
      refine c_tallyFrom V G T ha hn (by omega) (fun σ' F' G' T' => ⟨rfl, ?_⟩)
      exact ih σ' (by omega) (F.tr F') G' T'
  have stg : ∀ (k s : Nat) (τ : av_M), s + k = 3 → cGf σ τ → cGr τ g kd row n n → τ 21 7 = (a : Int) → (∀ u, u < s → τ 24 (3 * n + u) = ((cR g kd row n a n u).length : Int)) → av_W E cSH mX0_tally 7 [some (av_r 21), some (av_i (a : Int)), some (av_i (s : Int))] [] τ Q := by
    intro k
    induction k with
    | zero =>
      intro s τ hs F G h7 hu
      apply uX0_tally_7
      refine ⟨by omega, fun _ => ?_, fun c => by omega⟩
      rw [G.2.1]
      refine down n τ (Nat.le_refl _) F G ⟨h7, fun q hq hqn u hu3 => ?_⟩
      have : q = n := by omega
      subst this
      exact hu u (by omega)
    | succ k ih =>
      intro s τ hs F G h7 hu
      apply uX0_tally_7
      refine ⟨by omega, fun c => by omega, fun _ => ?_⟩
      refine c_mayEndAt G.1 hk (by omega) ⟨_, rfl, ?_, ?_⟩
      · split <;> decide
      have e : (((n : Int) * 3) + (s : Int)).toNat = 3 * n + s := by omega
      rw [G.2.1]
      have go : ∀ y : Int, y = ((cR g kd row n a n s).length : Int) → av_W E cSH mX0_tally 7 [some (av_r 21), some (av_i (a : Int)), some (av_i ((s : Int) + 1))] [] (av_st τ 24 (((n : Int) * 3) + (s : Int)).toNat y) Q := by
        intro y hy
        rw [e]
        refine ih (s + 1) _ (by omega) (F.st _ (by omega)) ⟨by simp [av_st]; exact G.1, by simp [av_st]; exact G.2.1, fun j hj => by simp [av_st]; exact G.2.2.1 j hj, fun q hq j hj => ?_⟩ (by simp [av_st]; exact h7) (fun u hus => ?_)
        · simp only [av_st]
          rw [if_neg (by omega)]
          exact G.2.2.2 q hq j hj
        · by_cases huu : u = s
          · subst huu
            simp [av_st, hy]
          · have := hu u (by omega)
            simp only [av_st]
            rw [if_neg (by omega)]
            exact this
      have hl : (cR g kd row n a n s).length = if cacc kd s = true then 1 else 0 := by
        unfold cR
        rw [gq_rd_n]
        split <;> rfl
      refine ⟨fun c => ⟨by omega, go 0 ?_⟩, fun c => ⟨by omega, go 1 ?_⟩⟩
      · rw [hl]
        split at c
        · omega
        · rename_i h; rw [if_neg h]; rfl
      · rw [hl]
        split at c
        · rename_i h; rw [if_pos h]; rfl
        · omega
  exact stg 3 0 (av_st σ 21 7 (a : Int)) rfl ((cGf.rf σ).st _ (by omega)) ⟨by simp [av_st]; exact G.1, by simp [av_st]; exact G.2.1, fun j hj => by simp [av_st]; exact G.2.2.1 j hj, fun q hq j hj => by simp [av_st]; exact G.2.2.2 q hq j hj⟩ (by simp [av_st]) (fun u hu => by omega)
/-- no counter's reading has a verb -/
theorem gq_f_cnt0 {g : gq_T} {kw : Nat → Bool} {row : Nat → Int} {n : Nat} : ∀ (f p s : Nat), ¬ s = 0 → gq_f g kw row n (cacc 1) f p s = []
  | 0, p, s, h => by
    rw [gq_f, if_neg (fun c => by have := c.2; simp [cacc] at this; exact h this)]
  | f + 1, p, s, h => by
    rw [gq_f]
    split
    · rw [if_neg (fun c => by simp [cacc] at c; exact h c)]
    · rw [List.flatMap_eq_nil_iff]
      intro w hw
      split
      · rw [gq_f_cnt0 f _ _ (by unfold gq_nx; rw [if_neg h]; split <;> decide)]
        rfl
      · rfl
theorem gq_f_cnt {g : gq_T} {kw : Nat → Bool} {row : Nat → Int} {n : Nat} : ∀ (f p : Nat), gq_f g kw row n (cacc 1) f p 0 = gq_f g (fun w => kw w && !(decide (w % 2 = 1))) row n (macc 1) f p 0
  | 0, p => by simp [gq_f, cacc, macc]
  | f + 1, p => by
    rw [gq_f, gq_f]
    split
    · simp [cacc, macc]
    · refine gq_fm (fun w hw => ?_)
      by_cases ho : w % 2 = 1
      · have e : gq_ok g (fun w => kw w && !(decide (w % 2 = 1))) row n p 0 w = false := by simp [gq_ok, ho]
        rw [e, if_neg (show ¬ (false = true) by decide)]
        split
        · rw [gq_f_cnt0 f _ _ (by simp [gq_nx, ho])]
          rfl
        · rfl
      · have e : gq_ok g (fun w => kw w && !(decide (w % 2 = 1))) row n p 0 w = gq_ok g kw row n p 0 w := by simp [gq_ok, ho]
        rw [e, show gq_nx 0 w = 0 by simp [gq_nx, ho], gq_f_cnt f _]
/-- what the class reads is what the document has read -/
theorem cR_all {g : gq_T} {kd n a : Nat} {row : Nat → Int} {kw : Nat → Bool} (hkw : ∀ w, w < 2 * g.1 → kw w = a.testBit w) : cR g kd row n a 0 0 = gq_rd g (fun w => kw w && !(decide (kd = 1) && decide (w % 2 = 1))) row n (macc kd) 0 0 := by
  unfold cR gq_rd
  by_cases h1 : kd = 1
  · subst h1
    rw [gq_f_cnt]
    refine gq_f_kw (fun w hw => ?_) _ _ _
    rw [hkw w hw]
    simp
  · rw [show cacc kd = macc kd from by funext s; simp [cacc, macc, h1]]
    refine gq_f_kw (fun w hw => ?_) _ _ _
    rw [hkw w hw]
    simp [h1]
