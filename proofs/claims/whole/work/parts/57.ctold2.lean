/-! what is told; the readings of a row by a reader -/
theorem cg_by {g : gq_T} {kd i : Nat} (hk : kd = 1 ∨ kd = 2) : ∀ (x : List Nat), gq_by g kd i x = cg_s g kd x := by
  intro x
  unfold gq_by
  rcases hk with rfl | rfl
  · rw [if_pos rfl]
    induction x with
    | nil => rfl
    | cons w x ih => rw [gq_wt, cg_s, ih]; rfl
  · rw [if_neg (by decide), if_pos rfl]
    induction x with
    | nil => rfl
    | cons w x ih =>
      rw [gq_vn, cg_s, ← ih]
      unfold cg_g
      rw [if_pos rfl]
      omega
theorem cFs.top {g : gq_T} {kd i : Nat} {L : List (List Nat)} (hk : kd = 1 ∨ kd = 2) (h : cFs g kd L (cB g kd L) i) : gq_top g kd L L.length i := by
  obtain ⟨h1, h2, h3⟩ := h
  refine ⟨h1, fun j hj => ?_, fun j hj => ?_⟩
  · rw [cg_by hk, cg_by hk, h2]
    refine cB_le ?_
    rw [List.getD_eq_getElem?_getD, List.getElem?_eq_getElem hj]
    exact List.getElem_mem hj
  · rw [cg_by hk, cg_by hk, h2]
    exact h3 j hj
theorem c_told {E : av_E} {σ : av_M} {Q : Option av_V → av_M → Prop} {l : gq_T × Nat × (Nat → Int)} {kd n a : Nat} {row : Nat → Int} (V : gq_V l.1) (h : cWd σ 3 l) (G : cGr σ l.1 kd row n n) (T : cTl σ l.1 kd row n a 0) (hk : kd ≤ 4) (ha : a < 65536) (hn : n ≤ 9) (hne : ¬ cR l.1 kd row n a 0 0 = [])
    (hQ : ∀ (i : Nat) σ', cBf σ σ' → gq_top l.1 kd (cR l.1 kd row n a 0 0) (cR l.1 kd row n a 0 0).length i → Q (some (av_i (i : Int))) σ') : av_C E cSH mX0_told [av_r 21] σ Q := by
  apply uX0_told
  have hlen : 0 < (cR l.1 kd row n a 0 0).length := List.length_pos_iff.mpr hne
  have best : (kd = 1 ∨ kd = 2) → av_C E cSH mX0_rank [av_r 21] σ (fun v s1 => v = none ∧ (av_C E cSH mX0_firstOfBest [av_r 21] s1 (fun v s2 => ∃ r2 : Int, v = some (av_i r2) ∧ (Q (some (av_i r2)) s2)))) := by
    intro hk2
    refine c_rank V h G T hk ha hn (fun σ' F B => ⟨rfl, ?_⟩)
    exact c_firstOfBest V (h.congr (fun a b h1 h2 => F a b (by omega))) (G.bf F) (T.bf F) B hk ha hn hne (fun i hi => ⟨_, rfl, hQ i σ' F (hi.top hk2)⟩)
  rw [G.1]
  refine ⟨by unfold rg; omega, fun c => ⟨by unfold rg; omega, fun d => best (by omega), fun d => ⟨by unfold rg; omega, fun e => best (by omega), fun e => ?_⟩⟩, fun c => ?_⟩
  · refine hQ 0 σ (cBf.rf σ) ⟨hlen, fun j hj => ?_, fun j hj => by omega⟩
    unfold gq_by
    rw [if_neg (by omega), if_neg (by omega), if_neg (by omega), if_neg (by omega), if_neg (by omega), if_neg (by omega)]
    exact Int.le_refl _
  · have := T.2 0 (Nat.le_refl _) (Nat.zero_le _) 0 (by omega)
    rw [show σ 24 0 = _ from this]
    have hq := hQ ((cR l.1 kd row n a 0 0).length - 1) σ (cBf.rf σ) ⟨by omega, fun j hj => ?_, fun j hj => ?_⟩
    · rw [show (((cR l.1 kd row n a 0 0).length - 1 : Nat) : Int) = ((cR l.1 kd row n a 0 0).length : Int) - 1 by omega] at hq
      exact hq
    · unfold gq_by
      rw [if_neg (by omega), if_neg (by omega), if_pos (by omega), if_neg (by omega), if_neg (by omega), if_pos (by omega)]
      omega
    · unfold gq_by
      rw [if_neg (by omega), if_neg (by omega), if_pos (by omega), if_neg (by omega), if_neg (by omega), if_pos (by omega)]
      omega
/-- the readings of the row w by a reader of kind kd, of the words that kw lets -/
def cA (g : gq_T) (kd w : Nat) : List (List Nat) := gq_all g (dkw kd (fun _ => true)) kd (rw_d w (rw_cn 9 w)) (rw_cn 9 w)
/-- a row of up to nine letters, by its number -/
def rw_V (w : Nat) : Prop := w < 10077696 ∧ rw_cn 9 w ≤ 9 ∧ ∀ i, i < rw_cn 9 w → 0 ≤ rw_d w (rw_cn 9 w) i ∧ rw_d w (rw_cn 9 w) i ≤ 4
theorem bt_all {w : Nat} (h : w < 16) : Nat.testBit 65535 w = true := by
  have : ∀ v : Fin 16, Nat.testBit 65535 v = true := by decide
  exact this ⟨w, h⟩
theorem cA_eq {g : gq_T} {kd w : Nat} (V : gq_V g) (hn : ¬ rw_cn 9 w = 0) : cA g kd w = cR g kd (gq_row kd (rw_cn 9 w) (rw_d w (rw_cn 9 w))) (rw_cn 9 w) 65535 0 0 := by
  have h8 := V.1
  rw [cR_all (kw := fun _ => true) (fun u hu => (bt_all (by omega)).symm)]
  unfold cA gq_all
  rw [if_neg hn]
  rfl
/-- after the readings of row w were counted for kind kd -/
def cRd (σ : av_M) (g : gq_T) (kd w a : Nat) : Prop := cGr σ g kd (gq_row kd (rw_cn 9 w) (rw_d w (rw_cn 9 w))) (rw_cn 9 w) (rw_cn 9 w) ∧ cTl σ g kd (gq_row kd (rw_cn 9 w) (rw_d w (rw_cn 9 w))) (rw_cn 9 w) a 0
theorem c_readingsOf {E : av_E} {σ : av_M} {Q : Option av_V → av_M → Prop} {l : gq_T × Nat × (Nat → Int)} {k w : Nat} (V : q_LV l) (h : cWd σ 3 l) (hk : k < l.2.1) (hw : rw_V w)
    (hQ : ∀ σ', cGf σ σ' → cRd σ' l.1 (l.2.2 (3 * k)).toNat w 65535 → Q (some (av_i ((cA l.1 (l.2.2 (3 * k)).toNat w).length : Int))) σ') : av_C E cSH mX4_readingsOf [av_r 0, av_i (k : Int), av_i (w : Int)] σ Q := by
  apply uX4_readingsOf
  obtain ⟨v1, v2, v3, v4⟩ := V
  have hv := (v4 k hk).1
  have h8 : σ 8 (k : Int).toNat = (((l.2.2 (3 * k)).toNat : Nat) : Int) := by
    rw [Int.toNat_natCast, show σ 8 k = l.2.2 (3 * k) from (h.2.2.2.1 k hk).1]
    omega
  rw [h8]
  refine ⟨by omega, ?_⟩
  refine c_take v1 h (by omega) (by have := hw.1; omega) hw.2.2 hw.2.1 (fun σ1 F1 G1 => ⟨rfl, ?_⟩)
  refine c_tally (a := 65535) v1 G1 (by omega) (by omega) hw.2.1 (fun σ2 F2 G2 T2 => ⟨_, rfl, ?_⟩)
  have := hQ σ2 (F1.tr F2) ⟨G2, T2⟩
  by_cases hn : rw_cn 9 w = 0
  · rw [if_pos hn]
    rw [show (cA l.1 (l.2.2 (3 * k)).toNat w) = [] by unfold cA gq_all; rw [if_pos hn]] at this
    exact this
  · rw [if_neg hn, ← cA_eq v1 hn]
    exact this
theorem c_toldBy {E : av_E} {σ : av_M} {Q : Option av_V → av_M → Prop} {l : gq_T × Nat × (Nat → Int)} {k w : Nat} (V : q_LV l) (h : cWd σ 3 l) (hk : k < l.2.1) (hw : rw_V w)
    (hQ0 : ∀ σ', cGf σ σ' → cA l.1 (l.2.2 (3 * k)).toNat w = [] → Q (some (av_i (-4))) σ')
    (hQ : ∀ (i : Nat) σ', cGf σ σ' → gq_top l.1 (l.2.2 (3 * k)).toNat (cA l.1 (l.2.2 (3 * k)).toNat w) (cA l.1 (l.2.2 (3 * k)).toNat w).length i → i ≤ 10077696 → cPk σ' l.1 ((cA l.1 (l.2.2 (3 * k)).toNat w).getD i []) → Q (some (av_i (i : Int))) σ') : av_C E cSH mX4_toldBy [av_r 0, av_i (k : Int), av_i (w : Int)] σ Q := by
  apply uX4_toldBy
  have hv := (V.2.2.2 k hk).1
  refine c_readingsOf V h hk hw (fun σ1 F1 R1 => ⟨_, rfl, ?_⟩)
  have hfew : (cA l.1 (l.2.2 (3 * k)).toNat w).length ≤ 10077696 := gq_all_few V.1 hw.2.1
  have W1 := h.congr (σ' := σ1) (fun a b h1 h2 => F1 a b (by omega))
  refine ⟨by unfold rg; omega, fun c => ?_, fun c => ?_⟩
  · have hn : ¬ rw_cn 9 w = 0 := by
      intro hc
      apply c
      rw [show (cA l.1 (l.2.2 (3 * k)).toNat w) = [] by unfold cA gq_all; rw [if_pos hc]]
      rfl
    have e := cA_eq (kd := (l.2.2 (3 * k)).toNat) V.1 hn
    rw [e] at hQ hfew c
    refine c_told V.1 W1 R1.1 R1.2 (by omega) (by omega) hw.2.1 (fun hc => c (by rw [hc]; rfl)) (fun i σ2 F2 tp => ⟨_, rfl, ?_⟩)
    refine c_pick V.1 (W1.congr (fun a b h1 h2 => F2 a b (by omega))) (R1.1.bf F2) (R1.2.bf F2) (by omega) hw.2.1 tp.1 (fun σ3 F3 P3 => ⟨rfl, ?_⟩)
    exact hQ i σ3 ((F1.tr F2.gf).tr F3.gf) tp (by have := tp.1; omega) P3
  · exact hQ0 σ1 F1 (List.length_eq_zero_iff.mp (by omega))
