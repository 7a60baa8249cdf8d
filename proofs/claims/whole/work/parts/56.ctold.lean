/-! rank, the first of the best, what is told -/
theorem cBs.mono {σ : av_M} {g : gq_T} {kd n a i j : Nat} {row : Nat → Int} (h : cBs σ g kd row n a i) (e : i ≤ j) : cBs σ g kd row n a j := fun p s hp hs hj => h p s hp hs (by omega)
/-- all but the best stays -/
def cBf (σ0 σ : av_M) : Prop := ∀ a b, a ≠ 25 → σ a b = σ0 a b
theorem cBf.rf (σ : av_M) : cBf σ σ := fun _ _ _ => rfl
theorem cBf.st {σ0 σ : av_M} (h : cBf σ0 σ) {k : Nat} (x : Int) : cBf σ0 (av_st σ 25 k x) := by
  intro a b p
  rw [← h a b p]
  simp only [av_st]
  rw [if_neg (by omega)]
theorem cBf.gf {σ σ' : av_M} (h : cBf σ σ') : cGf σ σ' := fun a b p => h a b (by omega)
theorem cGr.bf {σ σ' : av_M} {g : gq_T} {kd : Int} {row : Nat → Int} {n m : Nat} (G : cGr σ g kd row n m) (e : cBf σ σ') : cGr σ' g kd row n m := by
  refine ⟨by rw [e 21 5 (by omega)]; exact G.1, by rw [e 21 6 (by omega)]; exact G.2.1, fun i hi => by rw [e 22 i (by omega)]; exact G.2.2.1 i hi, fun p hp i hi => ?_⟩
  rw [e 23 _ (by omega)]
  exact G.2.2.2 p hp i hi
theorem cTl.bf {σ σ' : av_M} {g : gq_T} {kd n a m : Nat} {row : Nat → Int} (T : cTl σ g kd row n a m) (e : cBf σ σ') : cTl σ' g kd row n a m := by
  refine ⟨by rw [e 21 7 (by omega)]; exact T.1, fun q h1 h2 s hs => ?_⟩
  rw [e 24 _ (by omega)]
  exact T.2 q h1 h2 s hs
theorem c_rank {E : av_E} {σ : av_M} {Q : Option av_V → av_M → Prop} {l : gq_T × Nat × (Nat → Int)} {kd n a : Nat} {row : Nat → Int} (V : gq_V l.1) (h : cWd σ 3 l) (G : cGr σ l.1 kd row n n) (T : cTl σ l.1 kd row n a 0) (hk : kd ≤ 4) (ha : a < 65536) (hn : n ≤ 9)
    (hQ : ∀ σ', cBf σ σ' → cBs σ' l.1 kd row n a 0 → Q none σ') : av_C E cSH mX0_rank [av_r 21] σ Q := by
  apply uX0_rank
  have down : ∀ (j : Nat) (τ : av_M), j ≤ 3 * n → cBf σ τ → cBs τ l.1 kd row n a j → av_W E cSH mX0_rank 36 [some (av_r 21), some (av_i ((j : Int) - 1))] [] τ Q := by
    intro j
    induction j with
    | zero =>
      intro τ hj F B
      apply uX0_rank_36
      exact ⟨by unfold rg; omega, fun _ => hQ τ F B, fun c => by omega⟩
    | succ j ih =>
      intro τ hj F B
      apply uX0_rank_36
      obtain ⟨p, s, hps, hs⟩ : ∃ p s, j = 3 * p + s ∧ s < 3 := ⟨j / 3, j % 3, by omega, by omega⟩
      have hp : p < n := by omega
      have Tτ := T.bf F
      have Gτ := G.bf F
      have Wτ := h.congr (σ' := τ) (fun a b h1 h2 => F a b (by omega))
      have hway := Tτ.2 p (by omega) (by omega) s hs
      have hfew : (cR l.1 kd row n a p s).length ≤ 10077696 := gq_few (kw := fun w => a.testBit w) (row := row) (acc := cacc kd) V hn _ _ (by omega)
      rw [show ((j + 1 : Nat) : Int) - 1 = ((3 * p + s : Nat) : Int) by omega, Int.toNat_natCast, hway]
      have go : ∀ y : Int, y = cB l.1 kd (cR l.1 kd row n a p s) → cB l.1 kd (cR l.1 kd row n a p s) ≤ 60 * ((n : Int) - (p : Int)) → av_W E cSH mX0_rank 36 [some (av_r 21), some (av_i (((3 * p + s : Nat) : Int) + (-1)))] [] (av_st τ 25 (3 * p + s) y) Q := by
        intro y hy hb
        rw [show ((3 * p + s : Nat) : Int) + (-1) = (j : Int) - 1 by omega]
        refine ih _ (by omega) (F.st _) (fun p' s' hp' hs' hj' => ?_)
        by_cases hc : 3 * p' + s' = 3 * p + s
        · have : p' = p := by omega
          subst this
          have : s' = s := by omega
          subst this
          exact ⟨by simp [av_st, hy], hb⟩
        · have := B p' s' hp' hs' (by omega)
          simp only [av_st]
          rw [if_neg (by omega)]
          exact this
      refine ⟨by unfold rg; omega, fun c => by omega, fun _ => ⟨by omega, by unfold rg; omega, fun c => ⟨by omega, ?_⟩, fun c => ?_⟩⟩
      · have hnil : cR l.1 kd row n a p s = [] := List.length_eq_zero_iff.mp (by omega)
        refine go 0 (by rw [hnil]; rfl) ?_
        rw [hnil, cB]
        omega
      · refine c_bestFrom V Wτ Gτ Tτ (B.mono (by omega)) hk ha hn hp hs (fun hb => ⟨_, rfl, by omega, go _ rfl hb⟩)
  have stg : ∀ (k s : Nat) (τ : av_M), s + k = 3 → cBf σ τ → (∀ u, u < s → τ 25 (3 * n + u) = 0) → av_W E cSH mX0_rank 2 [some (av_r 21), some (av_i (s : Int))] [] τ Q := by
    intro k
    induction k with
    | zero =>
      intro s τ hs F hu
      apply uX0_rank_2
      rw [F 21 6 (by omega), G.2.1]
      refine ⟨by unfold rg; omega, fun _ => ?_, fun c => by omega⟩
      rw [show (n : Int) * 3 - 1 = ((3 * n : Nat) : Int) - 1 by omega]
      refine down (3 * n) τ (Nat.le_refl _) F (fun p u hp hu3 hj => ?_)
      have : p = n := by omega
      subst this
      have e0 : cB l.1 kd (cR l.1 kd row p a p u) = 0 := by
        rw [cR_n]
        split
        · simp [cB, cg_s]
        · rfl
      rw [e0]
      exact ⟨hu u (by omega), by omega⟩
    | succ k ih =>
      intro s τ hs F hu
      apply uX0_rank_2
      rw [F 21 6 (by omega), G.2.1]
      refine ⟨by unfold rg; omega, fun c => by omega, fun _ => ⟨by omega, ?_⟩⟩
      rw [show ((n : Int) * 3 + (s : Int)).toNat = 3 * n + s by omega]
      refine ih (s + 1) _ (by omega) (F.st _) (fun u hus => ?_)
      by_cases huu : u = s
      · subst huu
        simp [av_st]
      · have := hu u (by omega)
        simp only [av_st]
        rw [if_neg (by omega)]
        exact this
  exact stg 3 0 σ rfl (cBf.rf σ) (fun u hu => by omega)
/-- i is the first of A whose sum is m -/
def cFs (g : gq_T) (kd : Nat) (A : List (List Nat)) (m : Int) (i : Nat) : Prop := i < A.length ∧ cg_s g kd (A.getD i []) = m ∧ ∀ j, j < i → cg_s g kd (A.getD j []) < m
theorem cFs.left {g : gq_T} {kd w i : Nat} {L B : List (List Nat)} {m : Int} (h : cFs g kd L m i) : cFs g kd (L.map (fun t => w :: t) ++ B) (cg_g g kd w + m) i := by
  obtain ⟨h1, h2, h3⟩ := h
  refine ⟨by rw [List.length_append, List.length_map]; omega, ?_, fun j hj => ?_⟩
  · rw [getD_app (by rw [List.length_map]; exact h1), getD_map (d := []) h1, cg_s, h2]
  · have := h3 j hj
    rw [getD_app (by rw [List.length_map]; omega), getD_map (d := []) (by omega), cg_s]
    omega
theorem cFs.right {g : gq_T} {kd i : Nat} {A B : List (List Nat)} {m : Int} (h : cFs g kd B m i) (hA : cB g kd A < m ∨ A = []) : cFs g kd (A ++ B) m (A.length + i) := by
  obtain ⟨h1, h2, h3⟩ := h
  refine ⟨by rw [List.length_append]; omega, ?_, fun j hj => ?_⟩
  · rw [getD_app2 (by omega), show A.length + i - A.length = i by omega, h2]
  · by_cases hja : j < A.length
    · rw [getD_app hja]
      rcases hA with hA | hA
      · have hmem : A.getD j [] ∈ A := by
          rw [List.getD_eq_getElem?_getD, List.getElem?_eq_getElem hja]
          exact List.getElem_mem hja
        have := cB_le (g := g) (kd := kd) hmem
        omega
      · subst hA
        simp at hja
    · rw [getD_app2 (by omega)]
      exact h3 _ (by omega)
theorem c_firstOfBest {E : av_E} {σ : av_M} {Q : Option av_V → av_M → Prop} {l : gq_T × Nat × (Nat → Int)} {kd n a : Nat} {row : Nat → Int} (V : gq_V l.1) (h : cWd σ 3 l) (G : cGr σ l.1 kd row n n) (T : cTl σ l.1 kd row n a 0) (B : cBs σ l.1 kd row n a 0) (hk : kd ≤ 4) (ha : a < 65536) (hn : n ≤ 9) (hne : ¬ cR l.1 kd row n a 0 0 = [])
    (hQ : ∀ i : Nat, cFs l.1 kd (cR l.1 kd row n a 0 0) (cB l.1 kd (cR l.1 kd row n a 0 0)) i → Q (some (av_i (i : Int))) σ) : av_C E cSH mX0_firstOfBest [av_r 21] σ Q := by
  apply uX0_firstOfBest
  have h8 := V.1
  obtain ⟨P, hP⟩ : ∃ P : Nat → Prop, P = cFs l.1 kd (cR l.1 kd row n a 0 0) (cB l.1 kd (cR l.1 kd row n a 0 0)) := ⟨_, rfl⟩
  have key : ∀ (k p s cn i0 : Nat), n - p = k → p ≤ n → s < 3 → cn ≤ p → ¬ cR l.1 kd row n a p s = [] → (∀ i, cFs l.1 kd (cR l.1 kd row n a p s) (cB l.1 kd (cR l.1 kd row n a p s)) i → P (i0 + i)) → av_W E cSH mX0_firstOfBest 6 [some (av_r 21), some (av_i (i0 : Int)), some (av_i ((3 * p + s : Nat) : Int)), some (av_i (cn : Int)), none, none, none] [] σ Q := by
    intro k
    induction k using Nat.strongRecOn with
    | _ k ih =>
      intro p s cn i0 hk' hp hs hc hnn hi0
      apply uX0_firstOfBest_6
      rw [G.2.1]
      have fin : p = n → Q (some (av_i (i0 : Int))) σ := by
        intro hpn
        subst hpn
        refine hQ i0 ?_
        have hl : cR l.1 kd row p a p s = [[]] := by
          rw [cR_n] at hnn ⊢
          split
          · rfl
          · rename_i hcc; rw [if_neg hcc] at hnn; exact absurd rfl hnn
        have := hi0 0 (by rw [hl]; exact ⟨by decide, by simp [cB, cg_s], fun j hj => by omega⟩)
        rw [hP] at this
        exact this
      refine ⟨by unfold rg; omega, fun d => fin (by omega), fun _ => ⟨by unfold rg; omega, by unfold rg; omega, fun d => fin (by omega), fun d => ?_⟩⟩
      have hpn : p < n := by omega
      obtain ⟨m, hm⟩ : ∃ m, cB l.1 kd (cR l.1 kd row n a p s) = m := ⟨_, rfl⟩
      rw [hm] at hi0
      obtain ⟨B1, B2⟩ := B p s hp hs (Nat.zero_le _)
      rw [hm] at B1 B2
      have hm0 := cB_nn l.1 kd (cR l.1 kd row n a p s)
      rw [hm] at hm0
      refine c_openAt V G T.1 ha hn hpn hs (fun r hr hrb => ⟨_, rfl, ?_⟩)
      have inner : ∀ (q w i1 : Nat), w + q = 16 → ¬ cW l.1 kd row n a p s w = [] → cB l.1 kd (cW l.1 kd row n a p s w) = m → (∀ i, cFs l.1 kd (cW l.1 kd row n a p s w) m i → P (i1 + i)) → av_W E cSH mX0_firstOfBest 32 [some (av_r 21), some (av_i (i1 : Int)), some (av_i ((3 * p + s : Nat) : Int)), some (av_i (cn : Int)), some (av_i (r : Int)), some (av_i (w : Int)), none] [] σ Q := by
        intro q
        induction q with
        | zero =>
          intro w i1 hw hnw hmw hi1
          exact absurd (cW_end (by omega)) hnw
        | succ q ihq =>
          intro w i1 hw hnw hmw hi1
          have hw2 : w < 2 * l.1.1 := by
            apply Nat.lt_of_not_le
            intro c
            exact hnw (cW_end c)
          rw [cW_step hw2] at hnw hmw hi1
          apply uX0_firstOfBest_32
          refine ⟨by unfold rg; omega, fun c => by omega, fun _ => ?_⟩
          refine c_holds (by omega) (by omega) ⟨_, rfl, by split <;> decide, fun c => ?_, fun c => ?_⟩
          · have hb0 : r.testBit w = false := by
              cases hh : r.testBit w
              · rfl
              · rw [hh] at c; simp at c
            rw [hrb] at hb0
            simp [hw2] at hb0
            rw [if_neg (by rw [hb0]; decide), List.nil_append] at hnw hmw hi1
            refine ⟨by unfold rg; omega, by unfold rg; omega, fun _ => ⟨by unfold rg; omega, by unfold rg; omega, fun _ => ?_, fun c => by omega⟩, fun c => by omega⟩
            have := ihq (w + 1) i1 (by omega) hnw hmw hi1
            rw [show (i1 : Int) + 0 = (i1 : Int) by omega]
            exact this
          · have hb1 : r.testBit w = true := by
              cases hh : r.testBit w
              · rw [hh] at c; simp at c
              · rfl
            rw [hrb] at hb1
            simp [hw2] at hb1
            rw [if_pos hb1] at hnw hmw hi1
            have hm' := V.2.1 (w / 2) (by omega)
            have hle := gq_ok_le hb1
            have hs' : gq_nx s w < 3 := by
              unfold gq_nx
              split
              · omega
              · split <;> omega
            refine c_slotBehind V h G.2.1 hn hle (by omega) hs hw2 ⟨_, rfl, ?_⟩
            have hway := T.2 (p + l.1.2.1 (w / 2)) (by omega) hle (gq_nx s w) hs'
            have hfew : (cR l.1 kd row n a (p + l.1.2.1 (w / 2)) (gq_nx s w)).length ≤ 10077696 := gq_few (kw := fun w => a.testBit w) (row := row) (acc := cacc kd) V hn _ _ hle
            obtain ⟨b1, b2⟩ := B (p + l.1.2.1 (w / 2)) (gq_nx s w) hle hs' (Nat.zero_le _)
            have hgn := cg_g_nn (kd := kd) V hw2
            have hBn := cB_nn l.1 kd (cR l.1 kd row n a (p + l.1.2.1 (w / 2)) (gq_nx s w))
            obtain ⟨bl, hbl⟩ : ∃ bl, (cR l.1 kd row n a (p + l.1.2.1 (w / 2)) (gq_nx s w)).map (fun t => w :: t) = bl := ⟨_, rfl⟩
            have hbll : (cR l.1 kd row n a (p + l.1.2.1 (w / 2)) (gq_nx s w)).length = bl.length := by rw [← hbl, List.length_map]
            have skip : (cB l.1 kd bl < m ∨ bl = []) → av_W E cSH mX0_firstOfBest 32 [some (av_r 21), some (av_i ((i1 : Int) + ((cR l.1 kd row n a (p + l.1.2.1 (w / 2)) (gq_nx s w)).length : Int))), some (av_i ((3 * p + s : Nat) : Int)), some (av_i (cn : Int)), some (av_i (r : Int)), some (av_i ((w : Int) + 1)), none] [] σ Q := by
              intro hge
              rw [hbl] at hnw hmw hi1
              have hBr := cB_nn l.1 kd (cW l.1 kd row n a p s (w + 1))
              have hBb := cB_nn l.1 kd bl
              have hmr : cB l.1 kd (cW l.1 kd row n a p s (w + 1)) = m := by
                rw [cB_app] at hmw
                rcases hge with hge | hge
                · omega
                · rw [hge, cB] at hmw
                  omega
              have hnr : ¬ cW l.1 kd row n a p s (w + 1) = [] := by
                intro hc
                rcases hge with hge | hge
                · rw [hc, cB] at hmr
                  omega
                · rw [hge, hc] at hnw
                  exact hnw rfl
              have := ihq (w + 1) (i1 + bl.length) (by omega) hnr hmr (fun i hi => by
                rw [Nat.add_assoc]
                exact hi1 _ (hi.right hge))
              rw [hbll, show (i1 : Int) + (bl.length : Int) = ((i1 + bl.length : Nat) : Int) by omega]
              exact this
            rw [Int.toNat_natCast, hway]
            refine ⟨by unfold rg; omega, by unfold rg; omega, fun c => by omega, fun _ => ⟨by omega, by unfold rg; omega, fun c => ⟨by unfold rg; omega, by unfold rg; omega, fun c => by omega, fun _ => ⟨by omega, ?_⟩⟩, fun c => ?_⟩⟩
            · refine skip (Or.inr ?_)
              rw [← List.length_eq_zero_iff]
              omega
            · have hnb : ¬ cR l.1 kd row n a (p + l.1.2.1 (w / 2)) (gq_nx s w) = [] := by
                intro hcc
                rw [hcc] at c
                simp at c
              have hcb : cB l.1 kd bl = cg_g l.1 kd w + cB l.1 kd (cR l.1 kd row n a (p + l.1.2.1 (w / 2)) (gq_nx s w)) := by
                rw [← hbl]
                exact cB_map hgn.1 _ (cR_nn V) hnb
              refine c_gainOf V h G.1 hk hw2 ⟨_, rfl, by omega, by omega, ?_, ?_, fun d => ⟨by unfold rg; omega, by unfold rg; omega, fun c => by omega, fun _ => ⟨by omega, ?_⟩⟩, fun d => ?_⟩
              · rw [b1]; unfold rg; omega
              · rw [Int.toNat_natCast, B1]; unfold rg; omega
              · rw [hway]
                refine skip (Or.inl ?_)
                rw [Int.toNat_natCast, b1, B1] at d
                rw [hbl, cB_app] at hmw
                rw [hcb] at hmw ⊢
                omega
              · rw [Int.toNat_natCast, b1, B1] at d
                have := ih (n - (p + l.1.2.1 (w / 2))) (by omega) (p + l.1.2.1 (w / 2)) (gq_nx s w) (cn + 1) i1 rfl hle hs' (by omega) hnb (fun i hi => hi1 i (by rw [← d]; exact hi.left))
                exact this
      refine inner 16 0 i0 (by omega) (by rw [cW_0 V hpn]; exact hnn) (by rw [cW_0 V hpn]; exact hm) (by rw [cW_0 V hpn]; exact hi0)
  refine key n 0 0 0 0 (by omega) (Nat.zero_le _) (by omega) (Nat.le_refl _) hne (fun i hi => ?_)
  rw [hP, Nat.zero_add]
  exact hi
