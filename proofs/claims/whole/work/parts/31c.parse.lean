/-! the text, item by item -/
def pc (cs : List Nat) (i : Nat) : Nat := cs.getD i 0
def p_num (cs : List Nat) (i b : Nat) : Option (Nat × Nat) :=
  if 48 ≤ pc cs i ∧ pc cs i ≤ 57 then
    (if 48 ≤ pc cs (i + 1) ∧ pc cs (i + 1) ≤ 57 then (if pc cs (i + 2) = b then some (10 * (pc cs i - 48) + (pc cs (i + 1) - 48), i + 3) else none)
     else if pc cs (i + 1) = b then some (pc cs i - 48, i + 2) else none) else none
def p_nums (cs : List Nat) (i : Nat) : Nat → Option (List Nat × Nat)
  | 0 => some ([], i)
  | t + 1 => match p_num cs i (if t = 0 then 59 else 44) with
    | none => none
    | some q => match p_nums cs q.2 t with
      | none => none
      | some r => some (q.1 :: r.1, r.2)
def p_let (cs : List Nat) (i : Nat) : Nat → Nat
  | 0 => 0
  | m + 1 => if 97 ≤ pc cs i ∧ pc cs i ≤ 101 then 1 + p_let cs (i + 1) m else 0
def p_no (cs : List Nat) (i : Nat) : Nat → Nat
  | 0 => 0
  | n + 1 => 6 * p_no cs i n + (pc cs (i + n) - 96)
def p_row (cs : List Nat) (i m b : Nat) : Option (Nat × Nat) := if 0 < p_let cs i m ∧ pc cs (i + p_let cs i m) = b then some (p_no cs i (p_let cs i m), i + p_let cs i m + 1) else none
/-- what is told so far: roots (letters as a number, weight, verb), readers (kind, hours, price), what is written, the river, gold -/
abbrev q_W : Type := List (Nat × Nat × Nat) × List (Nat × Nat × Nat) × Nat × (Nat × Nat × Nat) × Nat
def p_W0 : q_W := ([], [], 0, (20, 6, 3), 30)
def p_item (cs : List Nat) (i : Nat) (W : q_W) : Option (Nat × q_W) :=
  if pc cs i = 114 then (if W.1.length = 8 then none else match p_row cs (i + 1) 3 44 with
    | none => none
    | some r => match p_nums cs r.2 2 with
      | some ([w, v], j) => if (w ≤ 60 ∧ v ≤ 3 ∧ ¬ w + v = 0) ∧ ¬ r.1 ∈ W.1.map (fun x => x.1) then some (j, (W.1 ++ [(r.1, w, v)], W.2)) else none
      | _ => none)
  else if pc cs i = 107 then (if W.2.1.length = 5 then none else match p_nums cs (i + 1) 3 with
    | some ([a, b, c], j) => if a ≤ 4 ∧ (1 ≤ b ∧ b ≤ 12) ∧ c ≤ 60 then some (j, (W.1, W.2.1 ++ [(a, b, c)], W.2.2)) else none
    | _ => none)
  else if pc cs i = 119 then (match p_row cs (i + 1) 9 59 with
    | none => none
    | some r => some (r.2, (W.1, W.2.1, r.1, W.2.2.2)))
  else if pc cs i = 118 then (match p_nums cs (i + 1) 3 with
    | some ([a, b, c], j) => if (3 ≤ a ∧ a ≤ 60) ∧ b ≤ 24 ∧ 1 ≤ c ∧ c ≤ 20 then some (j, (W.1, W.2.1, W.2.2.1, (a, b, c), W.2.2.2.2)) else none
    | _ => none)
  else if pc cs i = 103 then (match p_nums cs (i + 1) 1 with
    | some ([a], j) => some (j, (W.1, W.2.1, W.2.2.1, W.2.2.2.1, a))
    | _ => none)
  else none
def p_go (cs : List Nat) : Nat → Nat → q_W → Int × q_W
  | 0, _, W => (-4, W)
  | f + 1, i, W => if i < cs.length then (match p_item cs i W with | none => ((i : Int), W) | some r => p_go cs f r.1 r.2) else (-4, W)
def p_fault (cs : List Nat) : Int × q_W := p_go cs 201 0 p_W0
-- facts
theorem p_let_le (cs : List Nat) : ∀ (m i : Nat), p_let cs i m ≤ m
  | 0, _ => Nat.le_refl _
  | m + 1, i => by
    have := p_let_le cs m (i + 1)
    rw [p_let]
    split <;> omega
theorem p_let_in (cs : List Nat) : ∀ (m i u : Nat), u < p_let cs i m → 97 ≤ pc cs (i + u) ∧ pc cs (i + u) ≤ 101
  | 0, _, u, h => by simp [p_let] at h
  | m + 1, i, u, h => by
    rw [p_let] at h
    split at h
    · rename_i hc
      cases u with
      | zero => exact hc
      | succ u =>
        have := p_let_in cs m (i + 1) u (by omega)
        rwa [show i + 1 + u = i + (u + 1) by omega] at this
    · omega
theorem p_let_out (cs : List Nat) : ∀ (m i : Nat), p_let cs i m < m → ¬ (97 ≤ pc cs (i + p_let cs i m) ∧ pc cs (i + p_let cs i m) ≤ 101)
  | 0, _, h => by omega
  | m + 1, i, h => by
    rw [p_let] at h ⊢
    split at h
    · rename_i hc
      rw [if_pos hc]
      have := p_let_out cs m (i + 1) (by omega)
      rwa [show i + 1 + p_let cs (i + 1) m = i + (1 + p_let cs (i + 1) m) by omega] at this
    · rename_i hc
      rw [if_neg hc]
      exact hc
/-- the letters of a row by its number -/
theorem p_no_nu (cs : List Nat) (i : Nat) : ∀ (n : Nat), (∀ u, u < n → 97 ≤ pc cs (i + u) ∧ pc cs (i + u) ≤ 101) → rw_nu (fun u => (pc cs (i + u) : Int) - 97) n = (p_no cs i n : Int)
  | 0, _ => rfl
  | n + 1, h => by
    have := h n (by omega)
    rw [rw_nu, p_no_nu cs i n (fun u hu => h u (by omega)), p_no]
    omega
theorem p_no_dec (cs : List Nat) (i n : Nat) (h : ∀ u, u < n → 97 ≤ pc cs (i + u) ∧ pc cs (i + u) ≤ 101) (h9 : n ≤ 9) : rw_cn 9 (p_no cs i n) = n ∧ ∀ u, u < n → rw_d (p_no cs i n) n u = (pc cs (i + u) : Int) - 97 :=
  rw_dec n _ _ 9 (fun u hu => by have := h u hu; omega) (p_no_nu cs i n h) h9
/-- a row's number is one -/
def p_ok (m r : Nat) : Prop := ∃ (n : Nat) (row : Nat → Int), 1 ≤ n ∧ n ≤ m ∧ (∀ i, i < n → 0 ≤ row i ∧ row i ≤ 4) ∧ rw_nu row n = (r : Int)
def p_Wv (W : q_W) : Prop := (W.1.length ≤ 8 ∧ (∀ x ∈ W.1, p_ok 3 x.1 ∧ x.2.1 ≤ 60 ∧ x.2.2 ≤ 3 ∧ ¬ x.2.1 + x.2.2 = 0) ∧ (W.1.map (fun x => x.1)).Nodup) ∧ (W.2.1.length ≤ 5 ∧ ∀ x ∈ W.2.1, x.1 ≤ 4 ∧ (1 ≤ x.2.1 ∧ x.2.1 ≤ 12) ∧ x.2.2 ≤ 60) ∧ (W.2.2.1 = 0 ∨ p_ok 9 W.2.2.1) ∧ q_RV W.2.2.2.1 ∧ W.2.2.2.2 ≤ 99
theorem p_row_ok {cs : List Nat} {i m b : Nat} {r : Nat × Nat} (h : p_row cs i m b = some r) : p_ok m r.1 ∧ i < r.2 ∧ r.2 ≤ i + m + 1 := by
  unfold p_row at h
  split at h
  · rename_i hc
    cases h
    have h1 := p_let_le cs m i
    refine ⟨⟨_, _, hc.1, h1, fun u hu => ?_, p_no_nu cs i _ (fun u hu => p_let_in cs m i u hu)⟩, by show i < i + _ + 1; omega, by show i + _ + 1 ≤ _; omega⟩
    have := p_let_in cs m i u hu
    omega
  · cases h
theorem p_num_ok {cs : List Nat} {i b : Nat} {r : Nat × Nat} (h : p_num cs i b = some r) : r.1 ≤ 99 ∧ i < r.2 ∧ r.2 ≤ i + 3 := by
  unfold p_num at h
  split at h
  · split at h
    · split at h
      · cases h
        refine ⟨?_, ?_, ?_⟩ <;> dsimp only <;> omega
      · cases h
    · split at h
      · cases h
        refine ⟨?_, ?_, ?_⟩ <;> dsimp only <;> omega
      · cases h
  · cases h
theorem p_nums_ok {cs : List Nat} : ∀ {t i : Nat} {r : List Nat × Nat}, p_nums cs i t = some r → r.1.length = t ∧ (∀ x ∈ r.1, x ≤ 99) ∧ i ≤ r.2 ∧ r.2 ≤ i + 3 * t
  | 0, i, r, h => by
    rw [p_nums] at h
    cases h
    exact ⟨rfl, fun x hx => (by cases hx), Nat.le_refl _, Nat.le_refl _⟩
  | t + 1, i, r, h => by
    rw [p_nums] at h
    split at h
    · cases h
    · rename_i q hq
      split at h
      · cases h
      · rename_i r' hr'
        cases h
        have h1 := p_num_ok hq
        have h2 := p_nums_ok hr'
        refine ⟨by show (q.1 :: r'.1).length = _; rw [List.length_cons, h2.1], fun x hx => ?_, by show i ≤ r'.2; omega, by show r'.2 ≤ _; omega⟩
        rcases List.mem_cons.mp hx with rfl | hx
        · exact h1.1
        · exact h2.2.1 x hx
theorem p_item_ok {cs : List Nat} {i : Nat} {W : q_W} (V : p_Wv W) {r : Nat × q_W} (h : p_item cs i W = some r) : p_Wv r.2 ∧ i < r.1 ∧ r.1 ≤ i + 12 := by
  obtain ⟨⟨v1, v2, v3⟩, ⟨v4, v5⟩, v6, v7, v8⟩ := V
  unfold p_item at h
  split at h
  · split at h
    · cases h
    · split at h
      · cases h
      · rename_i hl r1 hr1
        split at h
        · rename_i w v j hn
          split at h
          · rename_i hc
            cases h
            have a1 := p_row_ok hr1
            have a2 := p_nums_ok hn
            refine ⟨⟨⟨?_, ?_, ?_⟩, ⟨v4, v5⟩, v6, v7, v8⟩, ?_, ?_⟩
            · show (W.1 ++ [(r1.1, w, v)]).length ≤ 8
              rw [List.length_append]
              simp
              omega
            · intro x hx
              rcases List.mem_append.mp hx with hx | hx
              · exact v2 x hx
              · rw [List.mem_singleton.mp hx]
                exact ⟨a1.1, hc.1⟩
            · show ((W.1 ++ [(r1.1, w, v)]).map (fun x => x.1)).Nodup
              rw [List.map_append]
              refine List.nodup_append.mpr ⟨v3, by simp, fun a ha b hb => ?_⟩
              simp at hb
              rintro rfl
              subst hb
              exact hc.2 ha
            · show i < j; have := a2.2.2; dsimp only at this; omega
            · show j ≤ _; have := a2.2.2; dsimp only at this; omega
          · cases h
        · cases h
  · split at h
    · split at h
      · cases h
      · rename_i hl
        split at h
        · rename_i a b c j hn
          split at h
          · rename_i hc
            cases h
            have a2 := p_nums_ok hn
            refine ⟨⟨⟨v1, v2, v3⟩, ⟨?_, ?_⟩, v6, v7, v8⟩, ?_, ?_⟩
            · show (W.2.1 ++ [(a, b, c)]).length ≤ 5
              rw [List.length_append]
              simp
              omega
            · intro x hx
              rcases List.mem_append.mp hx with hx | hx
              · exact v5 x hx
              · rw [List.mem_singleton.mp hx]
                exact hc
            · show i < j; have := a2.2.2; dsimp only at this; omega
            · show j ≤ _; have := a2.2.2; dsimp only at this; omega
          · cases h
        · cases h
    · split at h
      · split at h
        · cases h
        · rename_i r1 hr1
          cases h
          have a1 := p_row_ok hr1
          exact ⟨⟨⟨v1, v2, v3⟩, ⟨v4, v5⟩, Or.inr a1.1, v7, v8⟩, by show i < r1.2; omega, by show r1.2 ≤ _; omega⟩
      · split at h
        · split at h
          · rename_i a b c j hn
            split at h
            · rename_i hc
              cases h
              have a2 := p_nums_ok hn
              exact ⟨⟨⟨v1, v2, v3⟩, ⟨v4, v5⟩, v6, hc, v8⟩, by show i < j; have := a2.2.2; dsimp only at this; omega, by show j ≤ _; have := a2.2.2; dsimp only at this; omega⟩
            · cases h
          · cases h
        · split at h
          · split at h
            · rename_i a j hn
              cases h
              have a2 := p_nums_ok hn
              exact ⟨⟨⟨v1, v2, v3⟩, ⟨v4, v5⟩, v6, v7, a2.2.1 a (by simp)⟩, by show i < j; have h7 := p_nums_ok hn; have := a2.2.2; dsimp only at this; omega, by show j ≤ _; have := a2.2.2; dsimp only at this; omega⟩
            · cases h
          · cases h
theorem p_W0_v : p_Wv p_W0 := ⟨⟨by decide, fun x hx => (by cases hx), List.nodup_nil⟩, ⟨by decide, fun x hx => (by cases hx)⟩, Or.inl rfl, ⟨by decide, by decide, by decide, by decide⟩, by decide⟩
