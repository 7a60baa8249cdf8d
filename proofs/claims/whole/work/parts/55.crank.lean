/-! what the grammar tells: the best from each slot on -/
def cg_g (g : gq_T) (kd w : Nat) : Int := if kd = 2 then ((w % 2 : Nat) : Int) else if w % 2 = 1 then 0 else g.2.2.2.1 (w / 2)
def cg_s (g : gq_T) (kd : Nat) : List Nat → Int
  | [] => 0
  | w :: l => cg_g g kd w + cg_s g kd l
def cB (g : gq_T) (kd : Nat) : List (List Nat) → Int
  | [] => 0
  | x :: L => max (cg_s g kd x) (cB g kd L)
theorem cB_nn (g : gq_T) (kd : Nat) : ∀ (L : List (List Nat)), 0 ≤ cB g kd L
  | [] => Int.le_refl _
  | x :: L => by have := cB_nn g kd L; rw [cB]; omega
theorem cB_app (g : gq_T) (kd : Nat) : ∀ (A B : List (List Nat)), cB g kd (A ++ B) = max (cB g kd A) (cB g kd B)
  | [], B => by have := cB_nn g kd B; rw [List.nil_append, cB]; omega
  | x :: A, B => by rw [List.cons_append, cB, cB, cB_app g kd A B]; omega
theorem cB_le {g : gq_T} {kd : Nat} : ∀ {L : List (List Nat)} {x : List Nat}, x ∈ L → cg_s g kd x ≤ cB g kd L
  | y :: L, x, h => by
    rw [cB]
    rcases List.mem_cons.mp h with h | h
    · subst h; omega
    · have := cB_le (g := g) (kd := kd) h; omega
theorem cB_map {g : gq_T} {kd w : Nat} (hg : 0 ≤ cg_g g kd w) : ∀ (L : List (List Nat)), (∀ x ∈ L, 0 ≤ cg_s g kd x) → ¬ L = [] → cB g kd (L.map (fun t => w :: t)) = cg_g g kd w + cB g kd L
  | [], _, h => absurd rfl h
  | x :: L, h0, _ => by
    rw [List.map_cons, cB, cB, cg_s]
    have hx := h0 x (List.mem_cons_self ..)
    by_cases hL : L = []
    · subst hL
      simp only [List.map_nil, cB]
      omega
    · rw [cB_map hg L (fun y hy => h0 y (List.mem_cons_of_mem _ hy)) hL]
      omega
theorem cg_g_nn {g : gq_T} {kd w : Nat} (V : gq_V g) (hw : w < 2 * g.1) : 0 ≤ cg_g g kd w ∧ cg_g g kd w ≤ 60 := by
  have := V.2.2.2.1 (w / 2) (by omega)
  unfold cg_g
  split
  · omega
  · split <;> omega
theorem cg_s_nn {g : gq_T} {kd : Nat} (V : gq_V g) : ∀ (x : List Nat), (∀ w ∈ x, w < 2 * g.1) → 0 ≤ cg_s g kd x
  | [], _ => Int.le_refl _
  | w :: x, h => by
    have h1 := (cg_g_nn (kd := kd) V (h w (List.mem_cons_self ..))).1
    have h2 := cg_s_nn (kd := kd) V x (fun u hu => h u (List.mem_cons_of_mem _ hu))
    rw [cg_s]
    omega
theorem gq_f_mem {g : gq_T} {kw : Nat → Bool} {row : Nat → Int} {n : Nat} {acc : Nat → Bool} : ∀ (f p s : Nat) (x : List Nat), x ∈ gq_f g kw row n acc f p s → ∀ w ∈ x, w < 2 * g.1
  | 0, p, s, x, h => by
    rw [gq_f] at h
    split at h
    · rw [List.mem_singleton.mp h]
      intro w hw
      cases hw
    · cases h
  | f + 1, p, s, x, h => by
    rw [gq_f] at h
    split at h
    · split at h
      · rw [List.mem_singleton.mp h]
        intro w hw
        cases hw
      · cases h
    · obtain ⟨u, hu, hx⟩ := List.mem_flatMap.mp h
      split at hx
      · obtain ⟨y, hy, rfl⟩ := List.mem_map.mp hx
        intro w hw
        rcases List.mem_cons.mp hw with rfl | hw
        · exact List.mem_range.mp hu
        · exact gq_f_mem f _ _ y hy w hw
      · cases hx
theorem cR_nn {g : gq_T} {kd n a p s : Nat} {row : Nat → Int} (V : gq_V g) : ∀ x ∈ cR g kd row n a p s, 0 ≤ cg_s g kd x := fun x hx => cg_s_nn V x (gq_f_mem _ _ _ x hx)
theorem cW_nil {g : gq_T} {kd n a p s w : Nat} {row : Nat → Int} (h : ∀ u, w ≤ u → u < 2 * g.1 → gq_ok g (fun w => a.testBit w) row n p s u = false) : cW g kd row n a p s w = [] := by
  unfold cW
  rw [List.flatMap_eq_nil_iff]
  intro u hu
  have := List.mem_range'.mp hu
  rw [if_neg]
  rw [h u (by omega) (by omega)]
  decide
/-- the best of the words from w on: of w, and behind it -/
def cWb (g : gq_T) (kd : Nat) (row : Nat → Int) (n a p s w : Nat) : List (List Nat) := if gq_ok g (fun w => a.testBit w) row n p s w = true then (cR g kd row n a (p + g.2.1 (w / 2)) (gq_nx s w)).map (fun t => w :: t) else []
/-- the best from the slot j on, is held -/
def cBs (σ : av_M) (g : gq_T) (kd : Nat) (row : Nat → Int) (n a j : Nat) : Prop := ∀ p s, p ≤ n → s < 3 → j ≤ 3 * p + s → σ 25 (3 * p + s) = cB g kd (cR g kd row n a p s) ∧ cB g kd (cR g kd row n a p s) ≤ 60 * ((n : Int) - (p : Int))
theorem c_gainOf {E : av_E} {σ : av_M} {Q : Option av_V → av_M → Prop} {l : gq_T × Nat × (Nat → Int)} {kd w : Nat} (V : gq_V l.1) (h : cWd σ 3 l) (h5 : σ 21 5 = (kd : Int)) (hk : kd ≤ 4) (hw : w < 2 * l.1.1) (hQ : Q (some (av_i (cg_g l.1 kd w))) σ) : av_C E cSH mX0_gainOf [av_r 21, av_i (w : Int)] σ Q := by
  apply uX0_gainOf
  have h8 := V.1
  have wd := h.2.2.1 (w / 2) (by omega)
  unfold cg_g at hQ
  rw [h5, show ((w : Int) / 2).toNat = w / 2 by omega, wd.2.2.1]
  refine ⟨by unfold rg; omega, fun c => ⟨by omega, by unfold rg; omega, fun d => ?_, fun d => ⟨by omega, by omega, ?_⟩⟩, fun c => ⟨by omega, ?_⟩⟩
  · rw [if_neg (by omega), if_pos (by omega)] at hQ
    exact hQ
  · rw [if_neg (by omega), if_neg (by omega)] at hQ
    exact hQ
  · rw [if_pos (by omega)] at hQ
    rw [show (w : Int) % 2 = ((w % 2 : Nat) : Int) by omega]
    exact hQ
theorem c_bestFrom {E : av_E} {σ : av_M} {Q : Option av_V → av_M → Prop} {l : gq_T × Nat × (Nat → Int)} {kd n a p s : Nat} {row : Nat → Int} (V : gq_V l.1) (h : cWd σ 3 l) (G : cGr σ l.1 kd row n n) (T : cTl σ l.1 kd row n a 0) (B : cBs σ l.1 kd row n a (3 * p + 3)) (hk : kd ≤ 4) (ha : a < 65536) (hn : n ≤ 9) (hp : p < n) (hs : s < 3)
    (hQ : cB l.1 kd (cR l.1 kd row n a p s) ≤ 60 * ((n : Int) - (p : Int)) → Q (some (av_i (cB l.1 kd (cR l.1 kd row n a p s)))) σ) : av_C E cSH mX0_bestFrom [av_r 21, av_i ((3 * p + s : Nat) : Int)] σ Q := by
  apply uX0_bestFrom
  have h8 := V.1
  refine c_openAt V G T.1 ha hn hp hs (fun r hr hrb => ⟨_, rfl, ?_⟩)
  have key : ∀ (q w : Nat) (m : Int), w + q = 16 → 0 ≤ m → m ≤ 60 * ((n : Int) - (p : Int)) → max m (cB l.1 kd (cW l.1 kd row n a p s w)) = cB l.1 kd (cR l.1 kd row n a p s) → av_W E cSH mX0_bestFrom 11 [some (av_r 21), some (av_i ((3 * p + s : Nat) : Int)), some (av_i (r : Int)), some (av_i m), some (av_i (w : Int)), none] [] σ Q := by
    intro q
    induction q with
    | zero =>
      intro w m hw h0 hm he
      apply uX0_bestFrom_11
      rw [cW_end (by omega), cB, Int.max_eq_left h0] at he
      rw [← he] at hQ
      exact ⟨by unfold rg; omega, fun _ => hQ hm, fun c => by omega⟩
    | succ q ih =>
      intro w m hw h0 hm he
      apply uX0_bestFrom_11
      rw [bt_shr (by omega) (by omega)]
      have hdl : r / 2 ^ w ≤ r := Nat.div_le_self _ _
      obtain ⟨z, hzz⟩ : ∃ z, r / 2 ^ w = z := ⟨_, rfl⟩
      rw [hzz] at hdl ⊢
      refine ⟨by unfold rg; omega, fun c => by omega, fun _ => ⟨by unfold rg; omega, fun c => ?_, fun c => ?_⟩⟩
      · have hz : r < 2 ^ w := by
          have : r / 2 ^ w = 0 := by rw [hzz]; omega
          rcases Nat.div_eq_zero_iff.mp this with h | h
          · have := Nat.two_pow_pos w; omega
          · exact h
        rw [cW_nil (fun u hu hu2 => by
          have hb := hrb u
          rw [Nat.testBit_lt_two_pow (Nat.lt_of_lt_of_le hz (Nat.pow_le_pow_right (by omega) hu))] at hb
          simpa [hu2] using hb), cB, Int.max_eq_left h0] at he
        rw [← he] at hQ
        exact hQ hm
      · refine c_holds (by omega) (by omega) ⟨_, rfl, by split <;> decide, fun c => ?_, fun c => ?_⟩
        · have hb0 : r.testBit w = false := by
            cases hh : r.testBit w
            · rfl
            · rw [hh] at c; simp at c
          refine ⟨by unfold rg; omega, by unfold rg; omega, fun _ => ?_, fun c => by omega⟩
          refine ih (w + 1) m (by omega) h0 hm ?_
          rw [hrb] at hb0
          by_cases hw2 : w < 2 * l.1.1
          · simp [hw2] at hb0
            rw [cW_step hw2, if_neg (by rw [hb0]; decide), List.nil_append] at he
            exact he
          · rw [cW_end (by omega)] at he ⊢
            exact he
        · have hb1 : r.testBit w = true := by
            cases hh : r.testBit w
            · rw [hh] at c; simp at c
            · rfl
          rw [hrb] at hb1
          simp at hb1
          obtain ⟨hw2, hok⟩ := hb1
          have hm' := V.2.1 (w / 2) (by omega)
          have hle := gq_ok_le hok
          have hs' : gq_nx s w < 3 := by
            unfold gq_nx
            split
            · omega
            · split <;> omega
          rw [cW_step hw2, if_pos hok, cB_app] at he
          refine c_slotBehind V h G.2.1 hn hle (by omega) hs hw2 ⟨_, rfl, ?_⟩
          have hway := T.2 (p + l.1.2.1 (w / 2)) (by omega) hle (gq_nx s w) hs'
          have hfew : (cR l.1 kd row n a (p + l.1.2.1 (w / 2)) (gq_nx s w)).length ≤ 10077696 := gq_few (kw := fun w => a.testBit w) (row := row) (acc := cacc kd) V hn _ _ hle
          obtain ⟨b1, b2⟩ := B (p + l.1.2.1 (w / 2)) (gq_nx s w) hle hs' (by omega)
          have hgn := cg_g_nn (kd := kd) V hw2
          have hBn := cB_nn l.1 kd (cR l.1 kd row n a (p + l.1.2.1 (w / 2)) (gq_nx s w))
          rw [Int.toNat_natCast, hway]
          refine ⟨by unfold rg; omega, by unfold rg; omega, fun c => by omega, fun _ => ⟨by omega, by unfold rg; omega, fun c => ?_, fun c => ?_⟩⟩
          · have hnil : cR l.1 kd row n a (p + l.1.2.1 (w / 2)) (gq_nx s w) = [] := List.length_eq_zero_iff.mp (by omega)
            rw [hnil, List.map_nil, cB] at he
            refine ih (w + 1) m (by omega) h0 hm ?_
            have := cB_nn l.1 kd (cW l.1 kd row n a p s (w + 1))
            rw [← he]
            omega
          · have hne : ¬ cR l.1 kd row n a (p + l.1.2.1 (w / 2)) (gq_nx s w) = [] := by
              intro hc
              rw [hc] at c
              simp at c
            rw [cB_map hgn.1 _ (cR_nn V) hne] at he
            refine c_gainOf V h G.1 hk hw2 ⟨_, rfl, by omega, by unfold rg; omega, ?_, ?_⟩
            · rw [b1]; unfold rg; omega
            · rw [b1]
              refine ih (w + 1) _ (by omega) (by omega) (by omega) ?_
              rw [← he]
              omega
  refine key 16 0 0 rfl (Int.le_refl _) (by omega) ?_
  rw [cW_0 V hp]
  have := cB_nn l.1 kd (cR l.1 kd row n a p s)
  omega
