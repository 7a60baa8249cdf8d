/-! fault and lay over the state -/
theorem mRM.tx {σ : av_M} {S : q_S} {T : Nat} (h : mRM σ S) (V : q_V T S) : mTx σ S.2.2.2.2.2.2 :=
  ⟨h.2.2.2.2.2.2.2.1, V.2.2.2.2.2.2.2, h.2.2.2.2.2.2.2.2, V.2.2.2.2.2.2.1⟩
theorem p_go_rg (cs : List Nat) (hc : cs.length ≤ 3000) : ∀ (f i : Nat) (W : q_W), rg (p_go cs f i W).1
  | 0, i, W => by rw [p_go]; exact (by decide : rg (-4))
  | f + 1, i, W => by
    rw [p_go]
    split
    · split
      · unfold rg; dsimp only; omega
      · exact p_go_rg cs hc f _ _
    · exact (by decide : rg (-4))
theorem mRM.sp {σ σ' : av_M} {S : q_S} (h : mRM σ S) (e : mSp σ σ') : mRM σ' S := h.congr (fun a b q => e a b (by omega) (by omega))
def sp_fault (S : q_S) : Int := (p_fault S.2.2.2.2.2.2).1
theorem mo_fault {E : av_E} {σ : av_M} {Q : Option av_V → av_M → Prop} {T : Nat} {S : q_S} (h : mRM σ S) (V : q_V T S) (hQ : ∀ σ', mRM σ' S → Q (some (av_i (sp_fault S))) σ') : av_C E mSH mX5_fault [av_r 0] σ Q :=
  s_fault (h.tx V) (fun σ' k _ _ => hQ σ' (h.sp k)) (fun σ' k _ => hQ σ' (h.sp k))
def q_rt (W : q_W) (r : Nat) : Nat × Nat × Nat := W.1.getD r (0, 0, 0)
def q_rr (W : q_W) (k : Nat) : Nat × Nat × Nat := W.2.1.getD k (0, 0, 0)
def q_lg (W : q_W) : gq_T := (W.1.length, fun r => rw_cn 9 (q_rt W r).1, fun j => rw_d (q_rt W (j / 3)).1 (rw_cn 9 (q_rt W (j / 3)).1) (j % 3), fun r => ((q_rt W r).2.1 : Int), fun r => ((q_rt W r).2.2 : Int))
def q_lr (W : q_W) (j : Nat) : Int := if j % 3 = 0 then ((q_rr W (j / 3)).1 : Int) else if j % 3 = 1 then ((q_rr W (j / 3)).2.1 : Int) else ((q_rr W (j / 3)).2.2 : Int)
def q_lay (W : q_W) (cs : List Nat) : q_S := ((q_lg W, W.2.1.length, q_lr W), W.2.2.2.1, (0, W.2.2.2.2, 0, 0, W.2.2.1), [], [], [], cs)
noncomputable def sp_lay (S : q_S) : Int × q_S := if (p_fault S.2.2.2.2.2.2).1 = -4 ∧ ¬ (p_fault S.2.2.2.2.2.2).2.1.length = 0 ∧ ¬ (p_fault S.2.2.2.2.2.2).2.2.1.length = 0 then (((p_fault S.2.2.2.2.2.2).2.1.length : Int), q_lay (p_fault S.2.2.2.2.2.2).2 S.2.2.2.2.2.2) else (-2, S)
theorem q_rt_mem {W : q_W} {r : Nat} (h : r < W.1.length) : W.1[r]? = some (q_rt W r) ∧ q_rt W r ∈ W.1 := by
  have e : W.1[r]? = some (W.1[r]) := List.getElem?_eq_getElem h
  have d : q_rt W r = W.1[r] := by unfold q_rt; rw [List.getD_eq_getElem?_getD, e]; rfl
  rw [d]
  exact ⟨e, List.getElem_mem h⟩
theorem q_rr_mem {W : q_W} {r : Nat} (h : r < W.2.1.length) : W.2.1[r]? = some (q_rr W r) ∧ q_rr W r ∈ W.2.1 := by
  have e : W.2.1[r]? = some (W.2.1[r]) := List.getElem?_eq_getElem h
  have d : q_rr W r = W.2.1[r] := by unfold q_rr; rw [List.getD_eq_getElem?_getD, e]; rfl
  rw [d]
  exact ⟨e, List.getElem_mem h⟩
theorem q_lg_V {W : q_W} (V : p_Wv W) : gq_V (q_lg W) := by
  obtain ⟨⟨v1, v2, v3⟩, -⟩ := V
  refine ⟨v1, fun r hr => ?_, fun r i hr hi => ?_, fun r hr => ?_, fun r hr => ?_, fun r q hr hq e k => ?_⟩
  · have := p_ok_dec (v2 _ (q_rt_mem hr).2).1 (by omega)
    exact ⟨this.1, this.2.1⟩
  · have := p_ok_dec (v2 _ (q_rt_mem hr).2).1 (by omega)
    have hi3 : i < 3 := by have : i < rw_cn 9 (q_rt W r).1 := hi; omega
    show 0 ≤ rw_d (q_rt W ((3 * r + i) / 3)).1 (rw_cn 9 (q_rt W ((3 * r + i) / 3)).1) ((3 * r + i) % 3) ∧ rw_d (q_rt W ((3 * r + i) / 3)).1 (rw_cn 9 (q_rt W ((3 * r + i) / 3)).1) ((3 * r + i) % 3) ≤ 4
    rw [show (3 * r + i) / 3 = r by omega, show (3 * r + i) % 3 = i by omega]
    exact this.2.2.1 i hi
  · have := (v2 _ (q_rt_mem hr).2).2
    show 0 ≤ ((q_rt W r).2.1 : Int) ∧ ((q_rt W r).2.1 : Int) ≤ 60
    omega
  · have := (v2 _ (q_rt_mem hr).2).2
    show 0 ≤ ((q_rt W r).2.2 : Int) ∧ ((q_rt W r).2.2 : Int) ≤ 3
    omega
  · have o1 := (v2 _ (q_rt_mem hr).2).1
    have o2 := (v2 _ (q_rt_mem hq).2).1
    have d1 := p_ok_dec o1 (by omega)
    have d2 := p_ok_dec o2 (by omega)
    have e' : rw_cn 9 (q_rt W r).1 = rw_cn 9 (q_rt W q).1 := e
    have E : (q_rt W r).1 = (q_rt W q).1 := by
      refine (p_ok_eq o1 o2 (by omega)).mp ⟨e', fun i hi => ?_⟩
      have k' := k i (by show i < rw_cn 9 (q_rt W r).1; omega)
      have k2 : rw_d (q_rt W ((3 * r + i) / 3)).1 (rw_cn 9 (q_rt W ((3 * r + i) / 3)).1) ((3 * r + i) % 3) = rw_d (q_rt W ((3 * q + i) / 3)).1 (rw_cn 9 (q_rt W ((3 * q + i) / 3)).1) ((3 * q + i) % 3) := k'
      rwa [show (3 * r + i) / 3 = r by omega, show (3 * r + i) % 3 = i by omega, show (3 * q + i) / 3 = q by omega, show (3 * q + i) % 3 = i by omega] at k2
    have a1 : (W.1.map (fun x => x.1))[r]? = some (q_rt W r).1 := by rw [List.getElem?_map, (q_rt_mem hr).1]; rfl
    have a2 : (W.1.map (fun x => x.1))[q]? = some (q_rt W q).1 := by rw [List.getElem?_map, (q_rt_mem hq).1]; rfl
    rw [← E] at a2
    exact (List.getElem?_inj (by rw [List.length_map]; exact hr) v3).mp (a1.trans a2.symm)
theorem q_lay_V {W : q_W} (V : p_Wv W) {T : Nat} {cs : List Nat} (hn : ¬ W.2.1.length = 0) (hc : (∀ c ∈ cs, 32 ≤ c ∧ c ≤ 126) ∧ cs.length ≤ 200) : q_V T (q_lay W cs) := by
  refine ⟨⟨q_lg_V V, by show 1 ≤ W.2.1.length; omega, V.2.1.1, fun k hk => ?_⟩, V.2.2.2.1, ⟨Nat.zero_le _, V.2.2.2.2, (by decide : (0 : Nat) < 16), (by decide : (0 : Nat) ≤ 1), ?_⟩, ⟨fun m hm => (by cases hm), Nat.zero_le _⟩, ⟨fun m hm => (by cases hm), Nat.zero_le _⟩, ⟨fun m hm => (by cases hm), Nat.zero_le _⟩, hc⟩
  · have := V.2.1.2 _ (q_rr_mem hk).2
    show (0 ≤ q_lr W (3 * k) ∧ q_lr W (3 * k) ≤ 4) ∧ (1 ≤ q_lr W (3 * k + 1) ∧ q_lr W (3 * k + 1) ≤ 12) ∧ (0 ≤ q_lr W (3 * k + 2) ∧ q_lr W (3 * k + 2) ≤ 60)
    unfold q_lr
    rw [if_pos (by omega), if_neg (by omega), if_pos (by omega), if_neg (by omega), if_neg (by omega), show 3 * k / 3 = k by omega, show (3 * k + 1) / 3 = k by omega, show (3 * k + 2) / 3 = k by omega]
    omega
  · rcases V.2.2.1 with h0 | ⟨n, row, h1, h2, h3, h4⟩
    · exact ⟨0, fun _ => 0, by omega, fun i hi => by omega, by show (0 : Int) = (W.2.2.1 : Int); omega⟩
    · exact ⟨n, row, h2, h3, h4⟩
theorem s_settles {E : av_E} {σ : av_M} {Q : Option av_V → av_M → Prop} {W : q_W} {cs : List Nat} (hT : mTx σ cs) (hW : mW σ W) (V : p_Wv W) (hQ : ∀ σ', mRM σ' (q_lay W cs) → Q none σ') : av_C E mSH mX5_settles [av_r 0] σ Q := by
  apply uX5_settles
  obtain ⟨⟨a1, a2⟩, ⟨b1, b2⟩, ⟨c1, c2⟩, ⟨d1, d2, d3⟩, e1⟩ := hW
  have h9 : rw_cn 9 W.2.2.1 ≤ 9 := by
    rcases V.2.2.1 with h0 | h0
    · rw [h0]; decide
    · exact (p_ok_dec h0 (by omega)).2.1
  refine s_copies (n0 := 8) (n1 := 8) (d := 0) (s := 0) (n := 8) rfl rfl (by omega) (by omega) (by omega) (by omega) (by omega) ⟨rfl, ?_⟩
  refine s_copies (n0 := 24) (n1 := 24) (d := 0) (s := 0) (n := 24) rfl rfl (by omega) (by omega) (by omega) (by omega) (by omega) ⟨rfl, ?_⟩
  refine s_copies (n0 := 8) (n1 := 8) (d := 0) (s := 0) (n := 8) rfl rfl (by omega) (by omega) (by omega) (by omega) (by omega) ⟨rfl, ?_⟩
  refine s_copies (n0 := 8) (n1 := 8) (d := 0) (s := 0) (n := 8) rfl rfl (by omega) (by omega) (by omega) (by omega) (by omega) ⟨rfl, ?_⟩
  refine s_copies (n0 := 15) (n1 := 15) (d := 0) (s := 0) (n := 15) rfl rfl (by omega) (by omega) (by omega) (by omega) (by omega) ⟨rfl, ?_⟩
  refine s_copies (n0 := 3) (n1 := 3) (d := 0) (s := 0) (n := 3) rfl rfl (by omega) (by omega) (by omega) (by omega) (by omega) ⟨rfl, ?_⟩
  have hgen : ∀ (τ : av_M), τ 0 0 = (W.1.length : Int) → (∀ b, b < 8 → τ 1 b = σ 13 b) → (∀ b, b < 24 → τ 2 b = σ 14 b) → (∀ b, b < 8 → τ 3 b = σ 15 b) → (∀ b, b < 8 → τ 4 b = σ 16 b) → τ 0 5 = (W.2.1.length : Int) → (∀ b, b < 15 → τ 5 b = σ 17 b) → (∀ b, b < 3 → τ 6 b = σ 19 b) → (∀ b, τ 18 b = σ 18 b) → τ 0 29 = σ 0 29 → τ 0 26 = σ 0 26 → τ 0 16 = σ 0 16 → (∀ b, τ 11 b = σ 11 b) → av_W E mSH mX5_settles 107 [some (av_r 0), some (av_i 0)] [] τ Q := by
    intro τ t0 t1 t2 t3 t4 t5 t6 t7 t8 t9 t10 t11 t12
    have key : ∀ (k j : Nat) (ρ : av_M), 14 - j = k → j ≤ 14 → (∀ a b, a ≠ 7 → ρ a b = τ a b) → (∀ b, b < j → ρ 7 b = 0) → av_W E mSH mX5_settles 107 [some (av_r 0), some (av_i (j : Int))] [] ρ Q := by
      intro k
      induction k with
      | zero =>
        intro j ρ hk hj g1 g2
        apply uX5_settles_107
        refine ⟨by omega, fun _ => ?_, fun c => by omega⟩
        rw [g1 0 29 (by omega), g1 0 26 (by omega), t9, t10, e1, c1]
        refine s_copies (n0 := 14) (n1 := 9) (d := 5) (s := 0) (n := rw_cn 9 W.2.2.1) rfl rfl (by omega) (by omega) (by omega) (by omega) (by omega) ⟨rfl, ?_⟩
        apply hQ
        refine ⟨⟨?_, fun r hr => ?_, fun r i hr hi => ?_, fun r hr => ?_, fun r hr => ?_⟩, ⟨?_, fun j hj => ?_⟩, ⟨?_, ?_, ?_⟩, ⟨?_, ?_, ?_, ?_, rw_cn 9 W.2.2.1, ?_, h9, ?_, ?_⟩, ⟨?_, fun i m hm => by simp [q_lay] at hm⟩, ⟨?_, fun i m hm => by simp [q_lay] at hm⟩, ⟨?_, fun i m hm => by simp [q_lay] at hm⟩, ?_, fun i c hc => ?_⟩
        · simp [av_st, av_cp]; rw [g1 0 0 (by omega), t0]; rfl
        · have hr' : r < W.1.length := hr
          have h8 := V.1.1
          have := (a2 r _ (q_rt_mem hr').1).1
          simp only [av_st, av_cp]
          rw [if_neg (by omega), if_neg (by omega), if_neg (by omega), if_neg (by omega), if_neg (by omega), if_neg (by omega), g1 1 r (by omega), t1 r (by omega)]
          exact this
        · have hr' : r < W.1.length := hr
          have h8 := V.1.1
          have hi' : i < rw_cn 9 (q_rt W r).1 := hi
          have hi3 := (p_ok_dec (V.1.2.1 _ (q_rt_mem hr').2).1 (by omega)).2.1
          have := (a2 r _ (q_rt_mem hr').1).2.1 i hi'
          simp only [av_st, av_cp]
          rw [if_neg (by omega), if_neg (by omega), if_neg (by omega), if_neg (by omega), if_neg (by omega), if_neg (by omega), g1 2 _ (by omega), t2 _ (by omega), this]
          show _ = rw_d (q_rt W ((3 * r + i) / 3)).1 (rw_cn 9 (q_rt W ((3 * r + i) / 3)).1) ((3 * r + i) % 3)
          rw [show (3 * r + i) / 3 = r by omega, show (3 * r + i) % 3 = i by omega]
        · have hr' : r < W.1.length := hr
          have h8 := V.1.1
          have := (a2 r _ (q_rt_mem hr').1).2.2.1
          simp only [av_st, av_cp]
          rw [if_neg (by omega), if_neg (by omega), if_neg (by omega), if_neg (by omega), if_neg (by omega), if_neg (by omega), g1 3 r (by omega), t3 r (by omega)]
          exact this
        · have hr' : r < W.1.length := hr
          have h8 := V.1.1
          have := (a2 r _ (q_rt_mem hr').1).2.2.2
          simp only [av_st, av_cp]
          rw [if_neg (by omega), if_neg (by omega), if_neg (by omega), if_neg (by omega), if_neg (by omega), if_neg (by omega), g1 4 r (by omega), t4 r (by omega)]
          exact this
        · simp [av_st, av_cp]; rw [g1 0 5 (by omega), t5]; rfl
        · have hj' : j < 3 * W.2.1.length := hj
          have h5 := V.2.1.1
          have hk5 : j / 3 < W.2.1.length := by omega
          have := b2 (j / 3) _ (q_rr_mem hk5).1
          simp only [av_st, av_cp]
          rw [if_neg (by omega), if_neg (by omega), if_neg (by omega), if_neg (by omega), if_neg (by omega), if_neg (by omega), g1 5 j (by omega), t6 j (by omega)]
          show _ = q_lr W j
          unfold q_lr
          by_cases m0 : j % 3 = 0
          · rw [if_pos m0, ← this.1, show 3 * (j / 3) = j by omega]
          · by_cases m1 : j % 3 = 1
            · rw [if_neg m0, if_pos m1, ← this.2.1, show 3 * (j / 3) + 1 = j by omega]
            · rw [if_neg m0, if_neg m1, ← this.2.2, show 3 * (j / 3) + 2 = j by omega]
        · simp [av_st, av_cp]; rw [g1 6 0 (by omega), t7 0 (by omega), d1]; rfl
        · simp [av_st, av_cp]; rw [g1 6 1 (by omega), t7 1 (by omega), d2]; rfl
        · simp [av_st, av_cp]; rw [g1 6 2 (by omega), t7 2 (by omega), d3]; rfl
        · simp [av_st, av_cp]; rw [g2 0 (by omega)]; rfl
        · simp [av_st, av_cp]; rfl
        · simp [av_st, av_cp]; rw [g2 2 (by omega)]; rfl
        · simp [av_st, av_cp]; rw [g2 3 (by omega)]; rfl
        · simp [av_st, av_cp]
        · intro i hi
          have hv := c2 i hi
          have hw : W.2.2.1 ≠ 0 := by
            intro h0
            rw [h0] at hi
            simp [rw_cn] at hi
          have hd := (p_ok_dec (V.2.2.1.resolve_left hw) (by omega)).2.2.1 i hi
          simp only [av_st, av_cp]
          rw [if_neg (by omega), if_neg (by omega), if_neg (by omega), if_pos ⟨trivial, by omega, by omega⟩, if_neg (by omega), if_neg (by omega), g1 18 _ (by omega), t8, show 0 + (0 + (5 + i) - 5) = i by omega, hv]
          exact hd
        · have hcg : rw_nu (fun i => av_st (av_st (av_st (av_cp (av_st (av_st ρ 7 1 (W.2.2.2.2 : Int)) 7 4 (rw_cn 9 W.2.2.1 : Int)) 18 0 7 5 (rw_cn 9 W.2.2.1)) 0 9 0) 0 11 0) 0 13 0 7 (0 + (5 + i))) (rw_cn 9 W.2.2.1) = rw_nu (rw_d W.2.2.1 (rw_cn 9 W.2.2.1)) (rw_cn 9 W.2.2.1) := rw_nu_congr _ (fun i hi => by
            simp only [av_st, av_cp]
            rw [if_neg (by omega), if_neg (by omega), if_neg (by omega), if_pos ⟨trivial, by omega, by omega⟩, if_neg (by omega), if_neg (by omega), g1 18 _ (by omega), t8, show 0 + (0 + (5 + i) - 5) = i by omega]
            exact c2 i hi)
          rw [hcg]
          rcases V.2.2.1 with h0 | h0
          · show _ = (W.2.2.1 : Int)
            rw [h0]
            rfl
          · exact (p_ok_dec h0 (by omega)).2.2.2
        · simp [av_st]; rfl
        · simp [av_st]; rfl
        · simp [av_st]; rfl
        · simp [av_st, av_cp]; rw [g1 0 16 (by omega), t11]; exact hT.1
        · simp only [av_st, av_cp]
          rw [if_neg (by omega), if_neg (by omega), if_neg (by omega), if_neg (by omega), if_neg (by omega), if_neg (by omega), g1 11 i (by omega), t12]
          exact hT.2.2.1 i c hc
      | succ k ih =>
        intro j ρ hk hj g1 g2
        apply uX5_settles_107
        refine ⟨by omega, fun c => by omega, fun _ => ⟨by omega, ?_⟩⟩
        have := ih (j + 1) (av_st ρ 7 j 0) (by omega) (by omega) (fun a b h => by rw [← g1 a b h]; simp [av_st, h]) (fun b hb => by
          by_cases hbj : b = j
          · subst hbj; simp [av_st]
          · rw [← g2 b (by omega)]; simp [av_st, hbj])
        rwa [show ((j + 1 : Nat) : Int) = (j : Int) + 1 by omega] at this
    exact key 14 0 τ rfl (by omega) (fun _ _ _ => rfl) (fun b hb => by omega)
  apply hgen
  · simp [av_st, av_cp]; exact a1
  · intro b hb
    simp [av_st, av_cp, hb]
  · intro b hb
    simp [av_st, av_cp, hb]
  · intro b hb
    simp [av_st, av_cp, hb]
  · intro b hb
    simp [av_st, av_cp, hb]
  · simp [av_st, av_cp]; exact b1
  · intro b hb
    simp [av_st, av_cp, hb]
  · intro b hb
    simp [av_st, av_cp, hb]
  · intro b; simp [av_st, av_cp]
  · simp [av_st, av_cp]
  · simp [av_st, av_cp]
  · simp [av_st, av_cp]
  · intro b; simp [av_st, av_cp]
theorem mo_lay {E : av_E} {σ : av_M} {Q : Option av_V → av_M → Prop} {T : Nat} {S : q_S} (h : mRM σ S) (V : q_V T S) (hQ : ∀ σ', mRM σ' (sp_lay S).2 → q_V (T + 24) (sp_lay S).2 → Q (some (av_i (sp_lay S).1)) σ') : av_C E mSH mX5_lay [av_r 0] σ Q := by
  apply uX5_lay
  have hTx := h.tx V
  unfold sp_lay at hQ
  have hmono : q_V (T + 24) S := V.mono (by omega)
  have hrg : rg (p_fault S.2.2.2.2.2.2).1 := p_go_rg _ (by have := V.2.2.2.2.2.2.2; omega) _ _ _
  refine s_fault hTx (fun σ' k w wv => ⟨_, rfl, hrg, ?_⟩) (fun σ' k hp => ⟨_, rfl, hrg, ?_⟩)
  · by_cases h4 : (p_fault S.2.2.2.2.2.2).1 = -4
    · refine ⟨fun c => absurd h4 c, fun _ => ?_⟩
      have a1 := w.1.1
      have b1 := w.2.1.1
      have l1 := wv.1.1
      have l2 := wv.2.1.1
      by_cases hr : (p_fault S.2.2.2.2.2.2).2.1.length = 0
      · rw [if_neg (fun q => q.2.1 hr)] at hQ
        refine ⟨by rw [a1]; omega, fun _ => hQ σ' (h.sp k) hmono, fun c => absurd (by rw [a1, hr]; rfl) c⟩
      · refine ⟨by rw [a1]; omega, fun c => by omega, fun _ => ?_⟩
        by_cases hk : (p_fault S.2.2.2.2.2.2).2.2.1.length = 0
        · rw [if_neg (fun q => q.2.2 hk)] at hQ
          refine ⟨by rw [b1]; omega, fun c => absurd (by rw [b1, hk]; rfl) c, fun _ => hQ σ' (h.sp k) hmono⟩
        · rw [if_pos ⟨h4, hr, hk⟩] at hQ
          refine ⟨by rw [b1]; omega, fun _ => ?_, fun c => by omega⟩
          refine s_settles (hTx.sp k) w wv (fun σ'' m => ⟨rfl, ?_⟩)
          have := hQ σ'' m (q_lay_V wv hk ⟨V.2.2.2.2.2.2.1, V.2.2.2.2.2.2.2⟩)
          rw [show σ'' 0 0 = ((p_fault S.2.2.2.2.2.2).2.1.length : Int) from m.1.1]
          exact this
    · rw [if_neg (fun q => h4 q.1)] at hQ
      exact ⟨fun _ => hQ σ' (h.sp k) hmono, fun c => absurd c h4⟩
  · rw [if_neg (fun q => by omega)] at hQ
    exact ⟨fun _ => hQ σ' (h.sp k) hmono, fun c => by omega⟩
