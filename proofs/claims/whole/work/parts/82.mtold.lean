/-! the first text: what the model is told at first, and what the class reads -/
theorem ap_get {α : Type} {l : List α} {x y : α} {r : Nat} (h : (l ++ [x])[r]? = some y) : (l[r]? = some y ∧ r < l.length) ∨ (r = l.length ∧ y = x) := by
  rw [List.getElem?_append] at h
  split at h
  · rename_i q; exact Or.inl ⟨h, q⟩
  · rename_i q
    have hk0 : r - l.length = 0 := by
      have := (List.getElem?_eq_some_iff.mp h).1
      rw [List.length_singleton] at this
      omega
    rw [hk0] at h
    exact Or.inr ⟨by omega, (Option.some.inj h).symm⟩
theorem s_tellsRoot {E : av_E} {σ : av_M} {Q : Option av_V → av_M → Prop} {W : q_W} {r w v cd many : Nat} (hW : mW σ W) (hs : ∀ x ∈ W.1, rw_cn 9 x.1 ≤ 3) (hl : W.1.length < 8) (hm : rw_cn 9 r = many) (hm3 : many ≤ 3) (hcd : ∀ i, i < many → i_and (i_shr (cd : Int) (3 * (i : Int))) 7 = rw_d r many i) (hQ : ∀ σ', mSp σ σ' → mW σ' (W.1 ++ [(r, w, v)], W.2) → Q none σ') : av_C E mSH mX5_tellsRoot [av_r 0, av_i (many : Int), av_i (cd : Int), av_i (w : Int), av_i (v : Int)] σ Q := by
  apply uX5_tellsRoot
  obtain ⟨⟨a1, a2⟩, ⟨b1, b2⟩, ⟨c1, c2⟩, ⟨d1, d2, d3⟩, e1⟩ := hW
  rw [a1, Int.toNat_natCast]
  refine ⟨by omega, ?_⟩
  have key : ∀ (t k : Nat) (τ : av_M), k + t = 3 → (∀ a b, a ≠ 13 → a ≠ 14 → τ a b = σ a b) → (∀ b, τ 13 b = if b = W.1.length then (many : Int) else σ 13 b) → (∀ j, j < 3 * W.1.length → τ 14 j = σ 14 j) → (∀ i, i < k → τ 14 (3 * W.1.length + i) = i_and (i_shr (cd : Int) (3 * (i : Int))) 7) → av_W E mSH mX5_tellsRoot 13 [some (av_r 0), some (av_i (many : Int)), some (av_i (cd : Int)), some (av_i (w : Int)), some (av_i (v : Int)), some (av_i (k : Int))] [] τ Q := by
    intro t
    induction t with
    | zero =>
      intro k τ hk F h13 h14 hn
      apply uX5_tellsRoot_13
      rw [F 0 19 (by omega) (by omega), a1, Int.toNat_natCast]
      obtain ⟨τ', hτ⟩ : ∃ τ', av_st (av_st (av_st τ 15 W.1.length (w : Int)) 16 W.1.length (v : Int)) 0 19 ((W.1.length : Int) + 1) = τ' := ⟨_, rfl⟩
      have F2 : ∀ a b, a ≠ 13 → a ≠ 14 → ¬ (a = 15 ∧ b = W.1.length) → ¬ (a = 16 ∧ b = W.1.length) → ¬ (a = 0 ∧ b = 19) → τ' a b = σ a b := by
        intro a b p1 p2 p3 p4 p5
        rw [← hτ]
        simp only [av_st]
        rw [if_neg (by omega), if_neg (by omega), if_neg (by omega)]
        exact F a b p1 p2
      have F3 : ∀ a b, a = 13 ∨ a = 14 → τ' a b = τ a b := by
        intro a b p
        rw [← hτ]
        simp only [av_st]
        rw [if_neg (by omega), if_neg (by omega), if_neg (by omega)]
      have n15 : τ' 15 W.1.length = (w : Int) := by rw [← hτ]; simp [av_st]
      have n16 : τ' 16 W.1.length = (v : Int) := by rw [← hτ]; simp [av_st]
      have n19 : τ' 0 19 = ((W.1.length + 1 : Nat) : Int) := by rw [← hτ]; simp [av_st]
      rw [hτ]
      refine ⟨by omega, fun _ => ⟨by omega, by omega, hQ _ (fun a b p1 p2 => F2 a b (by omega) (by omega) (by omega) (by omega) (by omega)) ⟨⟨?_, fun q x hx => ?_⟩, ⟨?_, fun q x hx => ?_⟩, ⟨?_, fun i hi => ?_⟩, ⟨?_, ?_, ?_⟩, ?_⟩⟩, fun c => by omega⟩
      · rw [List.length_append]; exact n19
      · rcases ap_get hx with ⟨q1, q2⟩ | ⟨q1, q2⟩
        · obtain ⟨x1, x2, x3, x4⟩ := a2 q x q1
          have hx3 := hs x (List.mem_of_getElem? q1)
          refine ⟨?_, fun i hi => ?_, ?_, ?_⟩
          · rw [F3 13 q (Or.inl rfl), h13, if_neg (by omega)]; exact x1
          · rw [F3 14 _ (Or.inr rfl), h14 _ (by omega)]; exact x2 i hi
          · rw [F2 15 q (by omega) (by omega) (by omega) (by omega) (by omega)]; exact x3
          · rw [F2 16 q (by omega) (by omega) (by omega) (by omega) (by omega)]; exact x4
        · subst q2
          subst q1
          refine ⟨?_, fun i hi => ?_, n15, n16⟩
          · rw [F3 13 _ (Or.inl rfl), h13, if_pos rfl, hm]
          · have hi' : i < many := by rw [← hm]; exact hi
            show _ = rw_d r (rw_cn 9 r) i
            rw [F3 14 _ (Or.inr rfl), hn i (by omega), hcd i hi', hm]
      · rw [F2 0 24 (by omega) (by omega) (by omega) (by omega) (by omega)]; exact b1
      · rw [F2 17 _ (by omega) (by omega) (by omega) (by omega) (by omega), F2 17 _ (by omega) (by omega) (by omega) (by omega) (by omega), F2 17 _ (by omega) (by omega) (by omega) (by omega) (by omega)]; exact b2 q x hx
      · rw [F2 0 26 (by omega) (by omega) (by omega) (by omega) (by omega)]; exact c1
      · rw [F2 18 i (by omega) (by omega) (by omega) (by omega) (by omega)]; exact c2 i hi
      · rw [F2 19 0 (by omega) (by omega) (by omega) (by omega) (by omega)]; exact d1
      · rw [F2 19 1 (by omega) (by omega) (by omega) (by omega) (by omega)]; exact d2
      · rw [F2 19 2 (by omega) (by omega) (by omega) (by omega) (by omega)]; exact d3
      · rw [F2 0 29 (by omega) (by omega) (by omega) (by omega) (by omega)]; exact e1
    | succ t ih =>
      intro k τ hk F h13 h14 hn
      apply uX5_tellsRoot_13
      rw [F 0 19 (by omega) (by omega), a1, show (k : Int) + 1 = ((k + 1 : Nat) : Int) by omega, show (3 * (W.1.length : Int) + (k : Int)).toNat = 3 * W.1.length + k by omega]
      refine ⟨by omega, fun c => by omega, fun _ => ⟨by omega, ih (k + 1) _ (by omega) (fun a b p1 p2 => ?_) (fun b => ?_) (fun j hj => ?_) (fun i hi => ?_)⟩⟩
      · simp only [av_st]; rw [if_neg (by omega)]; exact F a b p1 p2
      · simp only [av_st]; rw [if_neg (by omega)]; exact h13 b
      · simp only [av_st]; rw [if_neg (by omega)]; exact h14 j hj
      · simp only [av_st]
        by_cases hik : i = k
        · subst hik
          rw [if_pos ⟨trivial, rfl⟩]
        · rw [if_neg (by omega)]
          exact hn i (by omega)
  exact key 3 0 _ (by omega) (fun a b p1 p2 => by simp only [av_st]; rw [if_neg (by omega)]) (fun b => by simp only [av_st]; by_cases hb : b = W.1.length <;> simp [hb]) (fun j hj => by simp only [av_st]; rw [if_neg (by omega)]) (fun i hi => by omega)
theorem s_tellsReader {E : av_E} {σ : av_M} {Q : Option av_V → av_M → Prop} {W : q_W} {a b c : Nat} (hW : mW σ W) (hl : W.2.1.length < 5) (hQ : ∀ σ', mSp σ σ' → mW σ' (W.1, W.2.1 ++ [(a, b, c)], W.2.2) → Q none σ') : av_C E mSH mX5_tellsReader [av_r 0, av_i (a : Int), av_i (b : Int), av_i (c : Int)] σ Q := by
  apply uX5_tellsReader
  obtain ⟨⟨a1, a2⟩, ⟨b1, b2⟩, ⟨c1, c2⟩, ⟨d1, d2, d3⟩, e1⟩ := hW
  rw [b1, show (3 * (W.2.1.length : Int)).toNat = 3 * W.2.1.length by omega, show (3 * (W.2.1.length : Int) + 1).toNat = 3 * W.2.1.length + 1 by omega, show (3 * (W.2.1.length : Int) + 2).toNat = 3 * W.2.1.length + 2 by omega]
  obtain ⟨τ', hτ⟩ : ∃ τ', av_st (av_st (av_st (av_st σ 17 (3 * W.2.1.length) (a : Int)) 17 (3 * W.2.1.length + 1) (b : Int)) 17 (3 * W.2.1.length + 2) (c : Int)) 0 24 ((W.2.1.length : Int) + 1) = τ' := ⟨_, rfl⟩
  have F2 : ∀ x y, ¬ (x = 17 ∧ 3 * W.2.1.length ≤ y) → ¬ (x = 0 ∧ y = 24) → τ' x y = σ x y := by
    intro x y p1 p2
    rw [← hτ]
    simp only [av_st]
    rw [if_neg (by omega), if_neg (by omega), if_neg (by omega), if_neg (by omega)]
  have n0 : τ' 17 (3 * W.2.1.length) = (a : Int) := by rw [← hτ]; simp [av_st]
  have n1 : τ' 17 (3 * W.2.1.length + 1) = (b : Int) := by rw [← hτ]; simp [av_st]
  have n2 : τ' 17 (3 * W.2.1.length + 2) = (c : Int) := by rw [← hτ]; simp [av_st]
  have n24 : τ' 0 24 = ((W.2.1.length + 1 : Nat) : Int) := by rw [← hτ]; simp [av_st]
  rw [hτ]
  refine ⟨by omega, by omega, by omega, hQ _ (fun x y p1 p2 => F2 x y (by omega) (by omega)) ⟨⟨?_, fun q x hx => ?_⟩, ⟨?_, fun q x hx => ?_⟩, ⟨?_, fun i hi => ?_⟩, ⟨?_, ?_, ?_⟩, ?_⟩⟩
  · rw [F2 0 19 (by omega) (by omega)]; exact a1
  · obtain ⟨x1, x2, x3, x4⟩ := a2 q x hx
    refine ⟨?_, fun i hi => ?_, ?_, ?_⟩
    · rw [F2 13 q (by omega) (by omega)]; exact x1
    · rw [F2 14 _ (by omega) (by omega)]; exact x2 i hi
    · rw [F2 15 q (by omega) (by omega)]; exact x3
    · rw [F2 16 q (by omega) (by omega)]; exact x4
  · rw [n24]
    show _ = ((W.2.1 ++ [(a, b, c)]).length : Int)
    rw [List.length_append]
    rfl
  · rcases ap_get hx with ⟨q1, q2⟩ | ⟨q1, q2⟩
    · rw [F2 17 _ (by omega) (by omega), F2 17 _ (by omega) (by omega), F2 17 _ (by omega) (by omega)]
      exact b2 q x q1
    · subst q2
      subst q1
      exact ⟨n0, n1, n2⟩
  · rw [F2 0 26 (by omega) (by omega)]; exact c1
  · rw [F2 18 i (by omega) (by omega)]; exact c2 i hi
  · rw [F2 19 0 (by omega) (by omega)]; exact d1
  · rw [F2 19 1 (by omega) (by omega)]; exact d2
  · rw [F2 19 2 (by omega) (by omega)]; exact d3
  · rw [F2 0 29 (by omega) (by omega)]; exact e1
/-- the first text, and what it tells -/
def f_cs : List Nat := [114, 97, 44, 53, 44, 49, 59, 114, 98, 44, 48, 44, 50, 59, 114, 97, 98, 44, 49, 50, 44, 48, 59, 114, 98, 97, 44, 55, 44, 51, 59, 114, 99, 44, 51, 44, 48, 59, 114, 99, 100, 44, 50, 48, 44, 50, 59, 114, 100, 44, 49, 44, 49, 59, 114, 100, 97, 98, 44, 52, 48, 44, 48, 59, 107, 48, 44, 50, 44, 53, 59, 107, 49, 44, 49, 44, 51, 59, 107, 50, 44, 51, 44, 49, 50, 59, 107, 51, 44, 49, 44, 48, 59, 107, 52, 44, 52, 44, 56, 59, 119, 97, 98, 97, 99, 100, 97, 98, 59, 118, 49, 56, 44, 52, 44, 51, 59, 103, 50, 53, 59]
def f_W : q_W := ([(1, 5, 1), (2, 0, 2), (8, 12, 0), (13, 7, 3), (3, 3, 0), (22, 20, 2), (4, 1, 1), (152, 40, 0)], [(0, 2, 5), (1, 1, 3), (2, 3, 12), (3, 1, 0), (4, 4, 8)], 64304, (18, 4, 3), 25)
theorem f_len : f_cs.length = 121 := by decide +kernel
theorem f_rg : ∀ c ∈ f_cs, 32 ≤ c ∧ c ≤ 126 := by decide +kernel
theorem f_fault1 : (p_fault f_cs).1 = -4 := by decide +kernel
theorem f_fault2 : (p_fault f_cs).2.1 = f_W.1 := by decide +kernel
theorem f_fault3 : (p_fault f_cs).2.2.1 = f_W.2.1 := by decide +kernel
theorem f_fault4 : (p_fault f_cs).2.2.2.1 = f_W.2.2.1 := by decide +kernel
theorem f_fault5 : (p_fault f_cs).2.2.2.2.1.1 = 18 ∧ (p_fault f_cs).2.2.2.2.1.2.1 = 4 ∧ (p_fault f_cs).2.2.2.2.1.2.2 = 3 := by decide +kernel
theorem f_fault6 : (p_fault f_cs).2.2.2.2.2 = f_W.2.2.2.2 := by decide +kernel
theorem f_fault : p_fault f_cs = (-4, f_W) := Prod.ext f_fault1 (Prod.ext f_fault2 (Prod.ext f_fault3 (Prod.ext f_fault4 (Prod.ext (Prod.ext f_fault5.1 (Prod.ext f_fault5.2.1 f_fault5.2.2)) f_fault6))))
theorem p_go_v (cs : List Nat) : ∀ (f i : Nat) (W : q_W), p_Wv W → p_Wv (p_go cs f i W).2
  | 0, i, W, h => by rw [p_go]; exact h
  | f + 1, i, W, h => by
    rw [p_go]
    split
    · split
      · exact h
      · rename_i r hr
        exact p_go_v cs f _ _ (p_item_ok h hr).1
    · exact h
theorem f_Wv : p_Wv f_W := by
  have := p_go_v f_cs 201 0 p_W0 p_W0_v
  have e : p_go f_cs 201 0 p_W0 = (-4, f_W) := f_fault
  rw [e] at this
  exact this
theorem s_tellsAll {E : av_E} {σ : av_M} {Q : Option av_V → av_M → Prop} (hW : mW σ p_W0) (hQ : ∀ σ', mSp σ σ' → mW σ' f_W → Q none σ') : av_C E mSH mX5_tellsAll [av_r 0] σ Q := by
  apply uX5_tellsAll
  have small : ∀ (l : List (Nat × Nat × Nat)), (l.all fun x => decide (rw_cn 9 x.1 ≤ 3)) = true → ∀ x ∈ l, rw_cn 9 x.1 ≤ 3 := fun l h x hx => of_decide_eq_true (List.all_eq_true.mp h x hx)
  have cd : ∀ (c r many : Nat), (∀ i : Fin 3, (i : Nat) < many → i_and (i_shr (c : Int) (3 * ((i : Nat) : Int))) 7 = rw_d r many (i : Nat)) → many ≤ 3 → ∀ i, i < many → i_and (i_shr (c : Int) (3 * (i : Int))) 7 = rw_d r many i := fun c r many h hm i hi => h ⟨i, by omega⟩ hi
  refine s_tellsRoot (r := 1) (w := 5) (v := 1) (cd := 0) (many := 1) hW (small _ (by decide)) (by decide) (by decide) (by decide) (cd 0 1 1 (by decide) (by decide)) (fun σ1 S1 W1 => ⟨rfl, ?_⟩)
  refine s_tellsRoot (r := 2) (w := 0) (v := 2) (cd := 1) (many := 1) W1 (small _ (by decide)) (by decide) (by decide) (by decide) (cd 1 2 1 (by decide) (by decide)) (fun σ2 S2 W2 => ⟨rfl, ?_⟩)
  refine s_tellsRoot (r := 8) (w := 12) (v := 0) (cd := 8) (many := 2) W2 (small _ (by decide)) (by decide) (by decide) (by decide) (cd 8 8 2 (by decide) (by decide)) (fun σ3 S3 W3 => ⟨rfl, ?_⟩)
  refine s_tellsRoot (r := 13) (w := 7) (v := 3) (cd := 1) (many := 2) W3 (small _ (by decide)) (by decide) (by decide) (by decide) (cd 1 13 2 (by decide) (by decide)) (fun σ4 S4 W4 => ⟨rfl, ?_⟩)
  refine s_tellsRoot (r := 3) (w := 3) (v := 0) (cd := 2) (many := 1) W4 (small _ (by decide)) (by decide) (by decide) (by decide) (cd 2 3 1 (by decide) (by decide)) (fun σ5 S5 W5 => ⟨rfl, ?_⟩)
  refine s_tellsRoot (r := 22) (w := 20) (v := 2) (cd := 26) (many := 2) W5 (small _ (by decide)) (by decide) (by decide) (by decide) (cd 26 22 2 (by decide) (by decide)) (fun σ6 S6 W6 => ⟨rfl, ?_⟩)
  refine s_tellsRoot (r := 4) (w := 1) (v := 1) (cd := 3) (many := 1) W6 (small _ (by decide)) (by decide) (by decide) (by decide) (cd 3 4 1 (by decide) (by decide)) (fun σ7 S7 W7 => ⟨rfl, ?_⟩)
  refine s_tellsRoot (r := 152) (w := 40) (v := 0) (cd := 67) (many := 3) W7 (small _ (by decide)) (by decide) (by decide) (by decide) (cd 67 152 3 (by decide) (by decide)) (fun σ8 S8 W8 => ⟨rfl, ?_⟩)
  refine s_tellsReader (a := 0) (b := 2) (c := 5) W8 (by decide) (fun σ9 S9 W9 => ⟨rfl, ?_⟩)
  refine s_tellsReader (a := 1) (b := 1) (c := 3) W9 (by decide) (fun σ10 S10 W10 => ⟨rfl, ?_⟩)
  refine s_tellsReader (a := 2) (b := 3) (c := 12) W10 (by decide) (fun σ11 S11 W11 => ⟨rfl, ?_⟩)
  refine s_tellsReader (a := 3) (b := 1) (c := 0) W11 (by decide) (fun σ12 S12 W12 => ⟨rfl, ?_⟩)
  refine s_tellsReader (a := 4) (b := 4) (c := 8) W12 (by decide) (fun σ13 S13 W13 => ⟨rfl, ?_⟩)
  obtain ⟨⟨a1, a2⟩, ⟨b1, b2⟩, -, -, -⟩ := W13
  have S := ((((((((((((S1.tr S2).tr S3).tr S4).tr S5).tr S6).tr S7).tr S8).tr S9).tr S10).tr S11).tr S12).tr S13)
  refine hQ _ ((((((((((((S.st _ (by omega)).st _ (by omega)).st _ (by omega)).st _ (by omega)).st _ (by omega)).st _ (by omega)).st _ (by omega)).st _ (by omega)).st _ (by omega)).st _ (by omega)).st _ (by omega)).st _ (by omega)) ⟨⟨?_, fun q x hx => ?_⟩, ⟨?_, fun q x hx => ?_⟩, ⟨?_, fun i hi => ?_⟩, ⟨?_, ?_, ?_⟩, ?_⟩
  · simp [av_st]; exact a1
  · have := a2 q x hx
    simp [av_st]; exact this
  · simp [av_st]; exact b1
  · have := b2 q x hx
    simp [av_st]; exact this
  · have e : rw_cn 9 f_W.2.2.1 = 7 := by decide
    rw [e]
    simp [av_st]
  · have e : rw_cn 9 f_W.2.2.1 = 7 := by decide
    rw [e] at hi ⊢
    have hd : ∀ i : Fin 7, rw_d f_W.2.2.1 7 (i : Nat) = ([0, 1, 0, 2, 3, 0, 1] : List Int).getD (i : Nat) 0 := by decide
    rw [hd ⟨i, hi⟩]
    match i, hi with
    | 0, _ => simp [av_st]
    | 1, _ => simp [av_st]
    | 2, _ => simp [av_st]
    | 3, _ => simp [av_st]
    | 4, _ => simp [av_st]
    | 5, _ => simp [av_st]
    | 6, _ => simp [av_st]
    | n + 7, h => omega
  · simp [av_st, f_W]
  · simp [av_st, f_W]
  · simp [av_st, f_W]
  · simp [av_st, f_W]
theorem s_clearTold {E : av_E} {σ : av_M} {Q : Option av_V → av_M → Prop} (hQ : ∀ σ', mSp σ σ' → mW σ' p_W0 → Q none σ') : av_C E mSH mX5_clearTold [av_r 0] σ Q := by
  apply uX5_clearTold
  refine hQ _ ((((((((mSp.rf σ).st _ (by omega)).st _ (by omega)).st _ (by omega)).st _ (by omega)).st _ (by omega)).st _ (by omega)).st _ (by omega)) ?_
  refine ⟨⟨by simp [av_st, p_W0], fun r x hx => by simp [p_W0] at hx⟩, ⟨by simp [av_st, p_W0], fun r x hx => by simp [p_W0] at hx⟩, ⟨by simp [av_st, p_W0, rw_cn], fun i hi => by simp [p_W0, rw_cn] at hi⟩, ⟨by simp [av_st, p_W0], by simp [av_st, p_W0], by simp [av_st, p_W0]⟩, by simp [av_st, p_W0]⟩
