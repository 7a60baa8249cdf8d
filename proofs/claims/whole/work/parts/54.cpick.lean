/-! pick: the reading of a place in the row of them -/
theorem c_holds {E : av_E} {σ : av_M} {Q : Option av_V → av_M → Prop} {a k : Nat} (ha : a < 2 ^ 31) (hk : k < 32) (hQ : Q (some (av_i (if a.testBit k = true then 1 else 0))) σ) : av_C E cSH mX4_holds [av_i (a : Int), av_i (k : Int)] σ Q := by
  apply uX4_holds
  rw [bt_has ha hk]
  refine ⟨by split <;> decide, fun c => ?_, fun c => ?_⟩
  · rw [if_neg (fun h => c (if_pos h))] at hQ
    exact hQ
  · by_cases h : a.testBit k = true
    · rw [if_pos h] at hQ
      exact hQ
    · rw [if_neg h] at c
      omega
theorem c_openAt {E : av_E} {σ : av_M} {Q : Option av_V → av_M → Prop} {g : gq_T} {kd n a p s : Nat} {row : Nat → Int} (V : gq_V g) (G : cGr σ g kd row n n) (h7 : σ 21 7 = (a : Int)) (ha : a < 65536) (hn : n ≤ 9) (hp : p < n) (hs : s < 3)
    (hQ : ∀ r : Nat, r < 65536 → (∀ w, r.testBit w = (decide (w < 2 * g.1) && gq_ok g (fun w => a.testBit w) row n p s w)) → Q (some (av_i (r : Int))) σ) : av_C E cSH mX0_openAt [av_r 21, av_i ((3 * p + s : Nat) : Int)] σ Q := by
  apply uX0_openAt
  have e1 : ((3 * p + s : Nat) : Int) / 3 = (p : Int) := by omega
  have e2 : ((3 * p + s : Nat) : Int) % 3 = (s : Int) := by omega
  rw [e1, e2, h7]
  obtain ⟨t0, a0, b0, c0⟩ := G.2.2.2 p hp 0 (by omega)
  obtain ⟨t1, a1, b1, c1⟩ := G.2.2.2 p hp 1 (by omega)
  obtain ⟨t2, a2, b2, c2⟩ := G.2.2.2 p hp 2 (by omega)
  rw [show ((p : Int) * 3).toNat = 3 * p + 0 by omega, show ((p : Int) * 3 + 1).toNat = 3 * p + 1 by omega, show ((p : Int) * 3 + 2).toNat = 3 * p + 2 by omega, a0, a1, a2]
  have l01 : t0 ||| t1 < 65536 := Nat.or_lt_two_pow (n := 16) b0 b1
  have l012 : t0 ||| t1 ||| t2 < 65536 := Nat.or_lt_two_pow (n := 16) l01 b2
  have l3 : (t0 ||| t1 ||| t2) &&& a ≤ t0 ||| t1 ||| t2 := Nat.and_le_left
  have l4 : ((t0 ||| t1 ||| t2) &&& a) &&& 21845 ≤ (t0 ||| t1 ||| t2) &&& a := Nat.and_le_left
  rw [bt_or (by omega) (by omega), bt_or (by omega) (by omega), bt_and (by omega) (by omega), show (21845 : Int) = ((21845 : Nat) : Int) from rfl, bt_and (by omega) (by omega)]
  have bit : ∀ w, (t0 ||| t1 ||| t2).testBit w = (decide (w < 2 * g.1) && gq_bit g row n p (g.2.1 (w / 2)) w) := by
    intro w
    rw [Nat.testBit_or, Nat.testBit_or, c0, c1, c2]
    by_cases hw : w < 2 * g.1
    · have hm := V.2.1 (w / 2) (by omega)
      have h0 : ∀ i, ¬ g.2.1 (w / 2) = i → gq_bit g row n p i w = false := by
        intro i hi
        unfold gq_bit
        simp [hi]
      have : g.2.1 (w / 2) = 1 ∨ g.2.1 (w / 2) = 2 ∨ g.2.1 (w / 2) = 3 := by omega
      rcases this with h | h | h
      · rw [h, h0 2 (by omega), h0 3 (by omega)]; simp [hw]
      · rw [h, h0 1 (by omega), h0 3 (by omega)]; simp [hw]
      · rw [h, h0 1 (by omega), h0 2 (by omega)]; simp [hw]
    · have h0 : ∀ i, gq_bit g row n p i w = false := by
        intro i
        unfold gq_bit
        simp [hw]
      rw [h0, h0, h0]
      simp [hw]
  refine ⟨by omega, by omega, by omega, by omega, by omega, by unfold rg; omega, fun c => ?_, fun c => ?_⟩
  · refine hQ _ (by omega) (fun w => ?_)
    rw [Nat.testBit_and, bit]
    by_cases hw : w < 2 * g.1
    · rw [gq_ok_bit hw]
      by_cases ho : w % 2 = 1
      · simp [hw, ho, show ¬ s = 2 by omega, Bool.and_comm]
      · simp [hw, ho, Bool.and_comm]
    · simp [hw]
  · refine hQ _ (by omega) (fun w => ?_)
    rw [Nat.testBit_and, Nat.testBit_and, bit, bt_evn]
    have h8 := V.1
    by_cases hw : w < 2 * g.1
    · rw [gq_ok_bit hw]
      by_cases ho : w % 2 = 1
      · simp [hw, ho, show s = 2 by omega]
      · simp [hw, ho, show w % 2 = 0 by omega, show w < 16 by omega, Bool.and_comm]
    · simp [hw]
theorem c_slotBehind {E : av_E} {σ : av_M} {Q : Option av_V → av_M → Prop} {l : gq_T × Nat × (Nat → Int)} {p s w : Nat} (V : gq_V l.1) (h : cWd σ 3 l) {n : Nat} (h6 : σ 21 6 = (n : Int)) (hn : n ≤ 9) (hle : p + l.1.2.1 (w / 2) ≤ n) (hp : p ≤ 9) (hs : s < 3) (hw : w < 2 * l.1.1) (hQ : Q (some (av_i ((3 * (p + l.1.2.1 (w / 2)) + gq_nx s w : Nat) : Int))) σ) : av_C E cSH mX0_slotBehind [av_r 21, av_i ((3 * p + s : Nat) : Int), av_i (w : Int)] σ Q := by
  apply uX0_slotBehind
  have h8 := V.1
  have e1 : ((3 * p + s : Nat) : Int) / 3 = (p : Int) := by omega
  have e2 : ((3 * p + s : Nat) : Int) % 3 = (s : Int) := by omega
  have e5 : σ 5 ((w : Int) / 2).toNat = (l.1.2.1 (w / 2) : Int) := by
    rw [show ((w : Int) / 2).toNat = w / 2 by omega]
    exact (h.2.2.1 (w / 2) (by omega)).2.1
  rw [e1, e2, e5, h6]
  refine ⟨by omega, by omega, by omega, by unfold rg; omega, by unfold rg; omega, fun _ => ⟨by omega, by unfold rg; omega, fun c => ⟨by omega, by unfold rg; omega, fun d => ?_, fun d => ?_⟩, fun c => ?_⟩, fun c => absurd c (by omega)⟩
  · rw [show gq_nx s w = 1 by unfold gq_nx; rw [if_neg (by omega), if_neg (by omega)]] at hQ
    rw [show ((p : Int) + (l.1.2.1 (w / 2) : Int)) * 3 + 1 = ((3 * (p + l.1.2.1 (w / 2)) + 1 : Nat) : Int) by omega]
    exact hQ
  · rw [show gq_nx s w = 0 by unfold gq_nx; rw [if_neg (by omega), if_pos (by omega)]] at hQ
    rw [show ((p : Int) + (l.1.2.1 (w / 2) : Int)) * 3 + 0 = ((3 * (p + l.1.2.1 (w / 2)) + 0 : Nat) : Int) by omega]
    exact hQ
  · rw [show gq_nx s w = 2 by unfold gq_nx; rw [if_pos (by omega)]] at hQ
    rw [show ((p : Int) + (l.1.2.1 (w / 2) : Int)) * 3 + 2 = ((3 * (p + l.1.2.1 (w / 2)) + 2 : Nat) : Int) by omega]
    exact hQ
theorem gq_vs_app (g : gq_T) : ∀ (x y : List Nat) (a : Nat), gq_vs g (x ++ y) a = gq_vs g y (gq_vs g x a)
  | [], _, _ => rfl
  | w :: x, y, a => by rw [List.cons_append, gq_vs, gq_vs, gq_vs_app g x y]
theorem gq_wt_app (g : gq_T) : ∀ (x y : List Nat), gq_wt g (x ++ y) = gq_wt g x + gq_wt g y
  | [], y => by simp [gq_wt]
  | w :: x, y => by rw [List.cons_append, gq_wt, gq_wt, gq_wt_app g x y]; omega
/-- the reading x stands picked -/
def cPk (σ : av_M) (g : gq_T) (x : List Nat) : Prop := σ 21 9 = (x.length : Int) ∧ (∀ (j w : Nat), x[j]? = some w → σ 26 j = (w : Int)) ∧ σ 21 10 = gq_wt g x ∧ σ 21 11 = (gq_vs g x 0 : Int)
/-- all but what is picked stays -/
def cPf (σ0 σ : av_M) : Prop := ∀ a b, a ≠ 26 → ¬ (a = 21 ∧ 9 ≤ b ∧ b ≤ 11) → σ a b = σ0 a b
theorem cPf.rf (σ : av_M) : cPf σ σ := fun _ _ _ _ => rfl
theorem cPf.tr {a b c : av_M} (h : cPf a b) (k : cPf b c) : cPf a c := fun x y p q => (k x y p q).trans (h x y p q)
theorem cPf.st {σ0 σ : av_M} (h : cPf σ0 σ) {c k : Nat} (x : Int) (hc : c = 26 ∨ (c = 21 ∧ 9 ≤ k ∧ k ≤ 11)) : cPf σ0 (av_st σ c k x) := by
  intro a b p q
  rw [← h a b p q]
  simp only [av_st]
  rw [if_neg (by omega)]
theorem cPf.gf {σ σ' : av_M} (h : cPf σ σ') : cGf σ σ' := fun a b p => h a b (by omega) (by omega)
theorem cGr.pf {σ σ' : av_M} {g : gq_T} {kd : Int} {row : Nat → Int} {n m : Nat} (G : cGr σ g kd row n m) (e : cPf σ σ') : cGr σ' g kd row n m := by
  refine ⟨by rw [e 21 5 (by omega) (by omega)]; exact G.1, by rw [e 21 6 (by omega) (by omega)]; exact G.2.1, fun i hi => by rw [e 22 i (by omega) (by omega)]; exact G.2.2.1 i hi, fun p hp i hi => ?_⟩
  rw [e 23 _ (by omega) (by omega)]
  exact G.2.2.2 p hp i hi
theorem cTl.pf {σ σ' : av_M} {g : gq_T} {kd n a m : Nat} {row : Nat → Int} (T : cTl σ g kd row n a m) (e : cPf σ σ') : cTl σ' g kd row n a m := by
  refine ⟨by rw [e 21 7 (by omega) (by omega)]; exact T.1, fun q h1 h2 s hs => ?_⟩
  rw [e 24 _ (by omega) (by omega)]
  exact T.2 q h1 h2 s hs
theorem c_addWord {E : av_E} {σ : av_M} {Q : Option av_V → av_M → Prop} {l : gq_T × Nat × (Nat → Int)} {x : List Nat} {w : Nat} (V : gq_V l.1) (h : cWd σ 3 l) (P : cPk σ l.1 x) (hx : x.length < 9) (hb : ∀ u ∈ x, u < 2 * l.1.1) (hw : w < 2 * l.1.1) (hQ : ∀ σ', cPf σ σ' → cPk σ' l.1 (x ++ [w]) → Q none σ') : av_C E cSH mX0_addWord [av_r 21, av_i (w : Int)] σ Q := by
  apply uX0_addWord
  obtain ⟨p1, p2, p3, p4⟩ := P
  have h8 := V.1
  have hr : w / 2 < l.1.1 := by omega
  have hv := V.2.2.2.2.1 _ hr
  have hvs := gq_vs_lt V x 0 (by decide) hb
  have wd := h.2.2.1 _ hr
  rw [show ((w : Int) / 2).toNat = w / 2 by omega, wd.2.2.1, wd.2.2.2, p1, p3, p4, Int.toNat_natCast]
  refine ⟨by omega, by omega, by unfold rg; omega, fun c => ⟨by omega, by omega, ?_⟩, fun c => ⟨by omega, by omega, ?_⟩⟩
  · refine hQ _ ((((cPf.rf σ).st _ (by omega)).st _ (by omega)).st _ (by omega)) ⟨?_, fun j u hu => ?_, ?_, ?_⟩
    · simp [av_st]
    · simp only [av_st]
      rw [if_neg (by omega), if_neg (by omega)]
      by_cases hj : j = x.length
      · subst hj
        simp at hu
        subst hu
        simp
      · rw [if_neg (fun q => hj q.2)]
        have hjl : j < (x ++ [w]).length := (List.getElem?_eq_some_iff.mp hu).1
        rw [List.length_append, List.length_singleton] at hjl
        rw [List.getElem?_append_left (by omega)] at hu
        exact p2 j u hu
    · rw [gq_wt_app]
      simp [av_st, gq_wt, show ¬ w % 2 = 1 by omega]
    · rw [gq_vs_app]
      simp [av_st, gq_vs, show ¬ w % 2 = 1 by omega]
      exact p4
  · obtain ⟨v, hvv⟩ := Int.eq_ofNat_of_zero_le hv.1
    have hv3 : v ≤ 3 := by omega
    have h2v : 2 ^ v ≤ 2 ^ 3 := Nat.pow_le_pow_right (by omega) hv3
    rw [show 2 ^ 3 = 8 from rfl] at h2v
    have hsh : i_shl 1 (l.1.2.2.2.2 (w / 2)) = ((2 ^ v : Nat) : Int) := by
      rw [hvv]
      have := bt_shl (a := 1) (k := v) (by omega) (by omega)
      rwa [Nat.one_mul] at this
    rw [hsh, bt_or (by omega) (by omega)]
    refine hQ _ ((((cPf.rf σ).st _ (by omega)).st _ (by omega)).st _ (by omega)) ⟨?_, fun j u hu => ?_, ?_, ?_⟩
    · simp [av_st]
    · simp only [av_st]
      rw [if_neg (by omega), if_neg (by omega)]
      by_cases hj : j = x.length
      · subst hj
        simp at hu
        subst hu
        simp
      · rw [if_neg (fun q => hj q.2)]
        have hjl : j < (x ++ [w]).length := (List.getElem?_eq_some_iff.mp hu).1
        rw [List.length_append, List.length_singleton] at hjl
        rw [List.getElem?_append_left (by omega)] at hu
        exact p2 j u hu
    · rw [gq_wt_app]
      simp [av_st, gq_wt, show w % 2 = 1 by omega]
      exact p3
    · rw [gq_vs_app]
      simp [av_st, gq_vs, show w % 2 = 1 by omega, hvv]
/-- the readings from a slot on, with its words from w on -/
def cW (g : gq_T) (kd : Nat) (row : Nat → Int) (n a p s w : Nat) : List (List Nat) := (List.range' w (2 * g.1 - w)).flatMap (fun u => if gq_ok g (fun w => a.testBit w) row n p s u = true then (cR g kd row n a (p + g.2.1 (u / 2)) (gq_nx s u)).map (fun t => u :: t) else [])
theorem cW_end {g : gq_T} {kd n a p s w : Nat} {row : Nat → Int} (h : 2 * g.1 ≤ w) : cW g kd row n a p s w = [] := by
  unfold cW
  rw [Nat.sub_eq_zero_of_le h]
  rfl
theorem cW_step {g : gq_T} {kd n a p s w : Nat} {row : Nat → Int} (h : w < 2 * g.1) : cW g kd row n a p s w = (if gq_ok g (fun w => a.testBit w) row n p s w = true then (cR g kd row n a (p + g.2.1 (w / 2)) (gq_nx s w)).map (fun t => w :: t) else []) ++ cW g kd row n a p s (w + 1) := by
  unfold cW
  obtain ⟨k, hk⟩ : ∃ k, 2 * g.1 - w = k + 1 := ⟨2 * g.1 - w - 1, by omega⟩
  rw [hk, List.range'_succ, List.flatMap_cons, show 2 * g.1 - (w + 1) = k by omega]
theorem cW_0 {g : gq_T} {kd n a p s : Nat} {row : Nat → Int} (V : gq_V g) (hp : p < n) : cW g kd row n a p s 0 = cR g kd row n a p s := by
  unfold cW cR
  rw [gq_rd_lt (fun r hr => (V.2.1 r hr).1) s hp, Nat.sub_zero, ← List.range_eq_range']
theorem cR_n {g : gq_T} {kd n a s : Nat} {row : Nat → Int} : cR g kd row n a n s = if cacc kd s = true then [[]] else [] := gq_rd_n s
theorem getD_app {α : Type} {x y : List α} {i : Nat} {d : α} (h : i < x.length) : (x ++ y).getD i d = x.getD i d := by
  rw [List.getD_eq_getElem?_getD, List.getD_eq_getElem?_getD, List.getElem?_append_left h]
theorem getD_app2 {α : Type} {x y : List α} {i : Nat} {d : α} (h : x.length ≤ i) : (x ++ y).getD i d = y.getD (i - x.length) d := by
  rw [List.getD_eq_getElem?_getD, List.getD_eq_getElem?_getD, List.getElem?_append_right h]
theorem getD_map {α β : Type} {x : List α} {f : α → β} {i : Nat} {d : α} {e : β} (h : i < x.length) : (x.map f).getD i e = f (x.getD i d) := by
  rw [List.getD_eq_getElem?_getD, List.getD_eq_getElem?_getD, List.getElem?_map, List.getElem?_eq_getElem h]
  rfl
theorem c_pick {E : av_E} {σ : av_M} {Q : Option av_V → av_M → Prop} {l : gq_T × Nat × (Nat → Int)} {kd n a i : Nat} {row : Nat → Int} (V : gq_V l.1) (h : cWd σ 3 l) (G : cGr σ l.1 kd row n n) (T : cTl σ l.1 kd row n a 0) (ha : a < 65536) (hn : n ≤ 9) (hi : i < (cR l.1 kd row n a 0 0).length)
    (hQ : ∀ σ', cPf σ σ' → cPk σ' l.1 ((cR l.1 kd row n a 0 0).getD i []) → Q none σ') : av_C E cSH mX0_pick [av_r 21, av_i (i : Int)] σ Q := by
  apply uX0_pick
  obtain ⟨X, hX⟩ : ∃ X, (cR l.1 kd row n a 0 0).getD i [] = X := ⟨_, rfl⟩
  rw [hX] at hQ
  have h8 := V.1
  have key : ∀ (k p s j : Nat) (x : List Nat) (τ : av_M), n - p = k → p ≤ n → s < 3 → x.length ≤ p → (∀ u ∈ x, u < 2 * l.1.1) → cPf σ τ → cPk τ l.1 x → j < (cR l.1 kd row n a p s).length → X = x ++ (cR l.1 kd row n a p s).getD j [] → av_W E cSH mX0_pick 22 [some (av_r 21), some (av_i (i : Int)), some (av_i ((3 * p + s : Nat) : Int)), some (av_i (j : Int)), some (av_i (x.length : Int)), none, none, none] [] τ Q := by
    intro k
    induction k using Nat.strongRecOn with
    | _ k ih =>
      intro p s j x τ hk hp hs hx hb F P hj hXe
      have hl := gq_few (kw := fun w => a.testBit w) (row := row) (acc := cacc kd) V hn p s hp
      have hl' : (cR l.1 kd row n a p s).length ≤ 10077696 := hl
      have Gτ := G.pf F
      have Tτ := T.pf F
      have Wτ := h.congr (σ' := τ) (fun a b h1 h2 => F a b (by omega) (by omega))
      apply uX0_pick_22
      rw [Gτ.2.1]
      have fin : p = n → Q none τ := by
        intro hpn
        subst hpn
        refine hQ τ F ?_
        rw [hXe]
        rw [cR_n] at hj ⊢
        split at hj
        · rename_i hc
          simp at hj
          subst hj
          rw [if_pos hc]
          simpa using P
        · simp at hj
      refine ⟨by omega, fun c => fin (by omega), fun c => ⟨by omega, by unfold rg; omega, fun d => fin (by omega), fun d => ?_⟩⟩
      have hpn : p < n := by omega
      refine c_openAt V Gτ Tτ.1 ha hn hpn hs (fun r hr hrb => ⟨_, rfl, ?_⟩)
      have inner : ∀ (q w j' : Nat), w + q = 16 → j' < (cW l.1 kd row n a p s w).length → j' ≤ 10077696 → (cR l.1 kd row n a p s).getD j [] = (cW l.1 kd row n a p s w).getD j' [] → av_W E cSH mX0_pick 49 [some (av_r 21), some (av_i (i : Int)), some (av_i ((3 * p + s : Nat) : Int)), some (av_i (j' : Int)), some (av_i (x.length : Int)), some (av_i (r : Int)), some (av_i (w : Int)), none] [] τ Q := by
        intro q
        induction q with
        | zero =>
          intro w j' hw hj' hjm he
          rw [cW_end (by omega)] at hj'
          simp at hj'
        | succ q ihq =>
          intro w j' hw hj' hjm he
          have hw2 : w < 2 * l.1.1 := by
            apply Nat.lt_of_not_le
            intro c
            rw [cW_end c] at hj'
            simp at hj'
          rw [cW_step hw2] at hj' he
          apply uX0_pick_49
          refine ⟨by omega, fun c => by omega, fun _ => ?_⟩
          refine c_holds (by omega) (by omega) ⟨_, rfl, by split <;> decide, fun c => ?_, fun c => ?_⟩
          · have hb0 : r.testBit w = false := by
              cases hh : r.testBit w
              · rfl
              · rw [hh] at c; simp at c
            rw [hrb] at hb0
            simp [hw2] at hb0
            rw [if_neg (by rw [hb0]; decide), List.nil_append] at hj' he
            refine ⟨by unfold rg; omega, by unfold rg; omega, fun _ => ⟨by unfold rg; omega, by unfold rg; omega, fun _ => ?_, fun c => by omega⟩, fun c => by omega⟩
            have := ihq (w + 1) j' (by omega) hj' hjm he
            rw [show (j' : Int) - 0 = (j' : Int) by omega]
            exact this
          · have hb1 : r.testBit w = true := by
              cases hh : r.testBit w
              · rw [hh] at c; simp at c
              · rfl
            rw [hrb] at hb1
            simp [hw2] at hb1
            rw [if_pos hb1] at hj' he
            have hm := V.2.1 (w / 2) (by omega)
            have hle := gq_ok_le hb1
            have hs' : gq_nx s w < 3 := by unfold gq_nx; split; · omega
                                           split <;> omega
            refine c_slotBehind V Wτ (G.pf F).2.1 hn hle (by omega) hs hw2 ⟨_, rfl, ?_⟩
            have hway := Tτ.2 (p + l.1.2.1 (w / 2)) (by omega) hle (gq_nx s w) hs'
            have hfew : (cR l.1 kd row n a (p + l.1.2.1 (w / 2)) (gq_nx s w)).length ≤ 10077696 := gq_few (kw := fun w => a.testBit w) (row := row) (acc := cacc kd) V hn _ _ hle
            rw [Int.toNat_natCast, hway]
            have skip : (cR l.1 kd row n a (p + l.1.2.1 (w / 2)) (gq_nx s w)).length ≤ j' → av_W E cSH mX0_pick 49 [some (av_r 21), some (av_i (i : Int)), some (av_i ((3 * p + s : Nat) : Int)), some (av_i ((j' : Int) - ((cR l.1 kd row n a (p + l.1.2.1 (w / 2)) (gq_nx s w)).length : Int))), some (av_i (x.length : Int)), some (av_i (r : Int)), some (av_i ((w : Int) + 1)), none] [] τ Q := by
              intro hge
              rw [getD_app2 (by rw [List.length_map]; exact hge), List.length_map] at he
              rw [List.length_append, List.length_map] at hj'
              have := ihq (w + 1) (j' - (cR l.1 kd row n a (p + l.1.2.1 (w / 2)) (gq_nx s w)).length) (by omega) (by omega) (by omega) he
              rw [show ((j' - (cR l.1 kd row n a (p + l.1.2.1 (w / 2)) (gq_nx s w)).length : Nat) : Int) = (j' : Int) - ((cR l.1 kd row n a (p + l.1.2.1 (w / 2)) (gq_nx s w)).length : Int) by omega] at this
              exact this
            refine ⟨by unfold rg; omega, by unfold rg; omega, fun c => by omega, fun _ => ⟨by omega, by unfold rg; omega, by unfold rg; omega, fun c => ⟨by unfold rg; omega, by unfold rg; omega, fun c => by omega, fun _ => ⟨by omega, skip (by omega)⟩⟩, fun c => ?_⟩⟩
            have hlt : j' < (cR l.1 kd row n a (p + l.1.2.1 (w / 2)) (gq_nx s w)).length := by omega
            refine c_addWord V Wτ P (by omega) hb hw2 (fun σ' F' P' => ⟨rfl, ?_⟩)
            rw [getD_app (by rw [List.length_map]; exact hlt), getD_map (d := []) hlt] at he
            have := ih (n - (p + l.1.2.1 (w / 2))) (by omega) (p + l.1.2.1 (w / 2)) (gq_nx s w) j' (x ++ [w]) σ' rfl hle hs' (by rw [List.length_append, List.length_singleton]; omega) (fun u hu => by
              rcases List.mem_append.mp hu with hu | hu
              · exact hb u hu
              · rw [List.mem_singleton.mp hu]; exact hw2) (F.tr F') P' hlt (by rw [hXe, he, List.append_assoc]; rfl)
            rw [List.length_append, List.length_singleton] at this
            exact this
      refine inner 16 0 j (by omega) (by rw [cW_0 V hpn]; exact hj) (by omega) (by rw [cW_0 V hpn])
  exact key n 0 0 i [] (av_st (av_st (av_st σ 21 9 0) 21 10 0) 21 11 0) (by omega) (Nat.zero_le _) (by omega) (Nat.zero_le _) (fun u hu => by cases hu) ((((cPf.rf σ).st _ (by omega)).st _ (by omega)).st _ (by omega)) ⟨by simp [av_st], fun j w hw => by simp at hw, by simp [av_st, gq_wt], by simp [av_st, gq_vs]⟩ hi (by rw [hX]; rfl)
