/-! the class: rows of up to four letters; shortest, wrote -/
theorem gq_ok_row {g : gq_T} {kw : Nat → Bool} {row row' : Nat → Int} {n p s w : Nat} (e : ∀ j, j < n → row j = row' j) : gq_ok g kw row n p s w = gq_ok g kw row' n p s w := by
  unfold gq_ok
  by_cases h : p + g.2.1 (w / 2) ≤ n
  · congr 1
    rw [decide_eq_decide]
    constructor
    · intro q i hi
      rw [← e _ (by omega)]
      exact q i hi
    · intro q i hi
      rw [e _ (by omega)]
      exact q i hi
  · rw [show decide (p + g.2.1 (w / 2) ≤ n) = false from decide_eq_false h]
    simp
theorem gq_f_row {g : gq_T} {kw : Nat → Bool} {row row' : Nat → Int} {n : Nat} {acc : Nat → Bool} (e : ∀ j, j < n → row j = row' j) : ∀ (f p s : Nat), gq_f g kw row n acc f p s = gq_f g kw row' n acc f p s
  | 0, p, s => rfl
  | f + 1, p, s => by
    rw [gq_f, gq_f]
    split
    · rfl
    · refine gq_fm (fun w hw => ?_)
      rw [gq_ok_row e, gq_f_row e f]
theorem gq_all_row {g : gq_T} {kw : Nat → Bool} {kd : Nat} {row row' : Nat → Int} {n : Nat} (e : ∀ j, j < n → row j = row' j) : gq_all g kw kd row n = gq_all g kw kd row' n := by
  unfold gq_all gq_rd
  split
  · rfl
  · refine gq_f_row (fun j hj => ?_) _ _ _
    unfold gq_row
    split
    · exact e _ (by omega)
    · exact e _ hj
/-- a row that has the number w -/
theorem rw_ok {row : Nat → Int} {m w : Nat} (hr : ∀ i, i < m → 0 ≤ row i ∧ row i ≤ 4) (hm : m ≤ 9) (hw : rw_nu row m = (w : Int)) : rw_V w ∧ rw_cn 9 w = m ∧ ∀ i, i < m → rw_d w m i = row i := by
  obtain ⟨e1, e2⟩ := rw_dec m row w 9 hr hw hm
  refine ⟨⟨?_, by rw [e1]; exact hm, fun i hi => ?_⟩, e1, e2⟩
  · have h1 := rw_nu_lt m hr
    have h2 : 6 ^ m ≤ 6 ^ 9 := Nat.pow_le_pow_right (by omega) hm
    rw [show 6 ^ 9 = 10077696 from rfl] at h2
    omega
  · rw [e1] at hi ⊢
    rw [e2 i hi]
    exact hr i hi
theorem cA_of {g : gq_T} {kd : Nat} {row : Nat → Int} {m w : Nat} (hr : ∀ i, i < m → 0 ≤ row i ∧ row i ≤ 4) (hm : m ≤ 9) (hw : rw_nu row m = (w : Int)) : cA g kd w = gq_all g (dkw kd (fun _ => true)) kd row m := by
  obtain ⟨-, e1, e2⟩ := rw_ok hr hm hw
  unfold cA
  rw [e1]
  exact gq_all_row e2
def sh_f : Nat → Nat → Bool
  | 0, left => decide (left = 0)
  | f + 1, left => if left = 0 then true else if left % 6 = 0 then false else sh_f f (left / 6)
def sh_n (q : Nat × Nat) : Nat := (rw_no q.1 q.2).toNat
theorem sh_list : (rw_rest 1).map sh_n = (List.range' 1 1295).filter (sh_f 4) := by decide +kernel
theorem sh_mem {q : Nat × Nat} (h : q ∈ rw_rest 1) : q.1 ≤ 4 := by
  unfold rw_rest at h
  obtain ⟨m, hm, hq⟩ := List.mem_flatMap.mp h
  obtain ⟨y, hy, rfl⟩ := List.mem_map.mp hq
  have := List.mem_range'_1.mp hm
  show m ≤ 4
  omega
theorem sh_no (q : Nat × Nat) : rw_no q.1 q.2 = (sh_n q : Int) := by
  unfold sh_n
  have : 0 ≤ rw_no q.1 q.2 := rw_nu_nn q.1 (fun i _ => rw_dg_rg q.2 q.1 i)
  omega
theorem sh_cA {g : gq_T} {kd : Nat} {q : Nat × Nat} (h : q ∈ rw_rest 1) : cA g kd (sh_n q) = gq_all g (dkw kd (fun _ => true)) kd (rw_dg q.2 q.1) q.1 :=
  cA_of (fun i _ => rw_dg_rg q.2 q.1 i) (by have := sh_mem h; omega) (sh_no q)
theorem sh_V {x : Nat} (h1 : 1 ≤ x) (h2 : x < 1296) (h : sh_f 4 x = true) : rw_V x := by
  have hm : x ∈ (rw_rest 1).map sh_n := by
    rw [sh_list]
    exact List.mem_filter.mpr ⟨List.mem_range'_1.mpr ⟨h1, by omega⟩, h⟩
  obtain ⟨q, hq, rfl⟩ := List.mem_map.mp hm
  exact (rw_ok (fun i _ => rw_dg_rg q.2 q.1 i) (by have := sh_mem hq; omega) (sh_no q)).1
def sh_fd (P : Nat → Bool) (L : List Nat) : Int := match L.find? P with | some w => (w : Int) | none => -4
theorem sh_fd_cons {P : Nat → Bool} {w : Nat} {L : List Nat} : sh_fd P (w :: L) = if P w = true then (w : Int) else sh_fd P L := by
  unfold sh_fd
  rw [List.find?_cons]
  cases P w <;> rfl
theorem sh_fd_eq {P : Nat × Nat → Bool} {P' : Nat → Bool} : ∀ (L : List (Nat × Nat)), (∀ q ∈ L, P q = P' (sh_n q)) → rw_fd P L = sh_fd P' (L.map sh_n)
  | [], _ => rfl
  | q :: L, h => by
    rw [rw_fd_app, List.map_cons, sh_fd_cons, h q List.mem_cons_self, sh_no, sh_fd_eq L (fun x hx => h x (List.mem_cons_of_mem _ hx))]
theorem sh_ct_eq {P : Nat × Nat → Bool} {P' : Nat → Bool} (L : List (Nat × Nat)) (h : ∀ q ∈ L, P q = P' (sh_n q)) : L.countP P = (L.map sh_n).countP P' := by
  rw [List.countP_map]
  exact List.countP_congr (fun q hq => by rw [h q hq]; rfl)
theorem c_isShortRow {E : av_E} {σ : av_M} {Q : Option av_V → av_M → Prop} {w : Nat} (hw : w < 2147483648) (hQ : Q (some (av_i (if sh_f 4 w = true then 1 else 0))) σ) : av_C E cSH mX4_isShortRow [av_i (w : Int)] σ Q := by
  apply uX4_isShortRow
  have key : ∀ (f i l : Nat), i + f = 4 → l < 2147483648 → sh_f f l = sh_f 4 w → av_W E cSH mX4_isShortRow 4 [some (av_i (w : Int)), some (av_i (l : Int)), some (av_i (i : Int))] [] σ Q := by
    intro f
    induction f with
    | zero =>
      intro i l hi hl he
      apply uX4_isShortRow_4
      rw [← he] at hQ
      refine ⟨by omega, fun _ => ⟨by omega, fun c => ?_, fun c => ?_⟩, fun c => by omega⟩
      · rw [if_neg (by rw [sh_f]; simp; omega)] at hQ; exact hQ
      · rw [if_pos (by rw [sh_f]; simp; omega)] at hQ; exact hQ
    | succ f ih =>
      intro i l hi hl he
      apply uX4_isShortRow_4
      rw [show (i : Int) + 1 = ((i + 1 : Nat) : Int) by omega]
      refine ⟨by omega, fun c => by omega, fun _ => ⟨by omega, fun c => ⟨by omega, fun d => by omega, fun d => ?_⟩, fun c => ⟨by omega, by unfold rg; omega, fun d => ⟨by omega, ?_⟩, fun d => ?_⟩⟩⟩
      · rw [← he, sh_f, if_pos (show l = 0 by omega)] at hQ; exact hQ
      · rw [show (l : Int) / 6 = ((l / 6 : Nat) : Int) by omega]
        refine ih (i + 1) (l / 6) (by omega) (by omega) ?_
        rw [← he, sh_f, if_neg (show ¬ l = 0 by omega), if_neg (show ¬ l % 6 = 0 by omega)]
      · rw [← he, sh_f, if_neg (show ¬ l = 0 by omega), if_pos (show l % 6 = 0 by omega)] at hQ; exact hQ
  exact key 4 0 w rfl hw rfl
def sr_P (g : gq_T) (ka kb w : Nat) : Bool := decide (cA g ka w ≠ []) && decide (cA g kb w = [])
theorem co_shortest {E : av_E} {σ : av_M} {Q : Option av_V → av_M → Prop} {T : Nat} {S : q_S} {k j : Int} (h : cRM σ S) (V : q_V T S) (hk : rg k) (hj : rg j) (hQ : ∀ σ', cGf σ σ' → Q (some (av_i (sp_shortest (q_D S) k j))) σ') : av_C E cSH mX4_shortest [av_r 0, av_i k, av_i j] σ Q := by
  apply uX4_shortest
  unfold sp_shortest at hQ
  have e0 : (q_D S).2.1 = S.1.2.1 := rfl
  rw [e0] at hQ
  refine c_isRd h V hk (fun hn => ⟨_, rfl, by decide, fun _ => ?_, fun c => absurd rfl c⟩) (fun hy => ⟨_, rfl, by decide, fun c => absurd c (by decide), fun _ => ?_⟩)
  · rw [if_neg (fun q => hn q.1)] at hQ; exact hQ σ (cGf.rf σ)
  refine c_isRd h V hj (fun hn => ⟨_, rfl, by decide, fun c => absurd rfl c, fun _ => ?_⟩) (fun hz => ⟨_, rfl, by decide, fun _ => ?_, fun c => absurd c (by decide)⟩)
  · rw [if_neg (fun q => hn q.2)] at hQ; exact hQ σ (cGf.rf σ)
  obtain ⟨k, rfl⟩ := Int.eq_ofNat_of_zero_le hy.1
  obtain ⟨j, rfl⟩ := Int.eq_ofNat_of_zero_le hz.1
  rw [if_pos ⟨hy, hz⟩, Int.toNat_natCast, Int.toNat_natCast] at hQ
  obtain ⟨ka, hka⟩ : ∃ ka, (S.1.2.2 (3 * k)).toNat = ka := ⟨_, rfl⟩
  obtain ⟨kb, hkb⟩ : ∃ kb, (S.1.2.2 (3 * j)).toNat = kb := ⟨_, rfl⟩
  have hfd : rw_fd (sh_P (q_D S) k j) (rw_rest 1) = sh_fd (sr_P S.1.1 ka kb) ((List.range' 1 1295).filter (sh_f 4)) := by
    rw [← sh_list]
    refine sh_fd_eq _ (fun q hq => ?_)
    unfold sr_P
    rw [sh_cA hq, sh_cA hq, ← hka, ← hkb]
    rfl
  rw [hfd] at hQ
  have key : ∀ (t x : Nat) (τ : av_M), x + t = 1296 → 1 ≤ x → cGf σ τ → sh_fd (sr_P S.1.1 ka kb) ((List.range' x t).filter (sh_f 4)) = sh_fd (sr_P S.1.1 ka kb) ((List.range' 1 1295).filter (sh_f 4)) → av_W E cSH mX4_shortest 20 [some (av_r 0), some (av_i (k : Int)), some (av_i (j : Int)), some (av_i (x : Int))] [] τ Q := by
    intro t
    induction t with
    | zero =>
      intro x τ hx h1 F he
      apply uX4_shortest_20
      have hQ' := hQ τ F
      rw [← he] at hQ'
      exact ⟨by omega, fun _ => hQ', fun c => by omega⟩
    | succ t ih =>
      intro x τ hx h1 F he
      apply uX4_shortest_20
      have hQ' : ∀ τ', cGf σ τ' → Q (some (av_i (sh_fd (sr_P S.1.1 ka kb) ((List.range' x (t + 1)).filter (sh_f 4))))) τ' := fun τ' F' => by rw [he]; exact hQ τ' F'
      rw [List.range'_succ, List.filter_cons] at he hQ'
      rw [show (x : Int) + 1 = ((x + 1 : Nat) : Int) by omega]
      refine ⟨by omega, fun c => by omega, fun _ => c_isShortRow (by omega) ⟨_, rfl, by split <;> decide, fun c => ?_, fun c => ?_⟩⟩
      · rw [if_neg (fun q => by rw [if_pos q] at c; omega)] at he
        exact ih (x + 1) τ (by omega) (by omega) F he
      · have hs : sh_f 4 x = true := by
          apply Decidable.byContradiction
          intro q
          rw [if_neg q] at c
          exact c rfl
        rw [if_pos hs, sh_fd_cons] at he hQ'
        have hV := sh_V h1 (by omega) hs
        refine c_readingsOf V.1 (h.gf F).1 (by omega) hV (fun σ1 F1 _ => ⟨_, rfl, ?_⟩)
        have hfew : (cA S.1.1 (S.1.2.2 (3 * k)).toNat x).length ≤ 10077696 := gq_all_few V.1.1 hV.2.1
        rw [hka] at hfew ⊢
        have F01 := F.tr F1
        refine ⟨by unfold rg; omega, fun d => ?_, fun d => ?_⟩
        · rw [if_neg (fun q => by
            unfold sr_P at q
            rw [show cA S.1.1 ka x = [] from List.length_eq_zero_iff.mp (by omega)] at q
            simp at q)] at he
          exact ih (x + 1) σ1 (by omega) (by omega) F01 he
        · have hne : cA S.1.1 ka x ≠ [] := fun q => by rw [q] at d; simp at d
          refine c_readingsOf V.1 (h.gf F01).1 (by omega) hV (fun σ2 F2 _ => ⟨_, rfl, ?_⟩)
          have hfew2 : (cA S.1.1 (S.1.2.2 (3 * j)).toNat x).length ≤ 10077696 := gq_all_few V.1.1 hV.2.1
          rw [hkb] at hfew2 ⊢
          have F02 := F01.tr F2
          refine ⟨by unfold rg; omega, fun e => ?_, fun e => ?_⟩
          · rw [if_neg (fun q => by
              unfold sr_P at q
              rw [show decide (cA S.1.1 kb x = []) = false from decide_eq_false (fun z => e (by rw [z]; rfl))] at q
              simp at q)] at he
            exact ih (x + 1) σ2 (by omega) (by omega) F02 he
          · have hz0 : cA S.1.1 kb x = [] := List.length_eq_zero_iff.mp (by omega)
            have := hQ' σ2 F02
            rw [if_pos (show sr_P S.1.1 ka kb x = true by unfold sr_P; rw [hz0]; simp [hne])] at this
            exact this
  exact key 1295 1 σ (by omega) (by omega) (cGf.rf σ) rfl
/-- all that is seen would be so of the row w -/
def sn_P (S : q_S) (w : Nat) : Prop := ∀ i, i < S.2.2.2.2.2.1.length → ∃ t, gq_top S.1.1 (S.1.2.2 (3 * (S.2.2.2.2.2.1.getD i (0, 0)).1)).toNat (cA S.1.1 (S.1.2.2 (3 * (S.2.2.2.2.2.1.getD i (0, 0)).1)).toNat w) (cA S.1.1 (S.1.2.2 (3 * (S.2.2.2.2.2.1.getD i (0, 0)).1)).toNat w).length t ∧ gq_wt S.1.1 ((cA S.1.1 (S.1.2.2 (3 * (S.2.2.2.2.2.1.getD i (0, 0)).1)).toNat w).getD t []) = ((S.2.2.2.2.2.1.getD i (0, 0)).2 : Int)
noncomputable def sn_B (S : q_S) (w : Nat) : Bool := @decide (sn_P S w) (Classical.propDecidable _)
theorem sn_B_iff {S : q_S} {w : Nat} : sn_B S w = true ↔ sn_P S w := by
  unfold sn_B
  exact @decide_eq_true_iff _ (Classical.propDecidable _)
theorem c_isAsSeen {E : av_E} {σ : av_M} {Q : Option av_V → av_M → Prop} {T : Nat} {S : q_S} {w : Nat} (h : cRM σ S) (V : q_V T S) (hw : rw_V w) (hQ : ∀ σ', cGf σ σ' → Q (some (av_i (if sn_B S w = true then 1 else 0))) σ') : av_C E cSH mX4_isAsSeen [av_r 0, av_i (w : Int)] σ Q := by
  apply uX4_isAsSeen
  have h6 := V.2.2.2.2.2.1.2
  have key : ∀ (t i : Nat) (τ : av_M), i + t = S.2.2.2.2.2.1.length → cGf σ τ → (∀ u, u < i → ∃ t, gq_top S.1.1 (S.1.2.2 (3 * (S.2.2.2.2.2.1.getD u (0, 0)).1)).toNat (cA S.1.1 (S.1.2.2 (3 * (S.2.2.2.2.2.1.getD u (0, 0)).1)).toNat w) (cA S.1.1 (S.1.2.2 (3 * (S.2.2.2.2.2.1.getD u (0, 0)).1)).toNat w).length t ∧ gq_wt S.1.1 ((cA S.1.1 (S.1.2.2 (3 * (S.2.2.2.2.2.1.getD u (0, 0)).1)).toNat w).getD t []) = ((S.2.2.2.2.2.1.getD u (0, 0)).2 : Int)) → av_W E cSH mX4_isAsSeen 2 [some (av_r 0), some (av_i (w : Int)), some (av_i (i : Int))] [] τ Q := by
    intro t
    induction t with
    | zero =>
      intro i τ hi F hall
      apply uX4_isAsSeen_2
      have h1 := h.gf F
      rw [h1.2.2.2.2.2.1.1]
      have : i = S.2.2.2.2.2.1.length := by omega
      subst this
      refine ⟨by omega, by omega, fun _ => ?_, fun c => by omega⟩
      have := hQ τ F
      rw [if_pos (sn_B_iff.mpr hall)] at this
      exact this
    | succ t ih =>
      intro i τ hi F hall
      apply uX4_isAsSeen_2
      have h1 := h.gf F
      have hil : i < S.2.2.2.2.2.1.length := by omega
      have hq : S.2.2.2.2.2.1[i]? = some (S.2.2.2.2.2.1[i]) := List.getElem?_eq_getElem hil
      have hd : S.2.2.2.2.2.1.getD i (0, 0) = S.2.2.2.2.2.1[i] := by rw [List.getD_eq_getElem?_getD, hq]; rfl
      have hv := V.2.2.2.2.2.1.1 _ (List.getElem_mem hil)
      obtain ⟨q1, q2⟩ := h1.2.2.2.2.2.1.2 i _ hq
      rw [← hd] at hv q1 q2
      rw [h1.2.2.2.2.2.1.1, Int.toNat_natCast, q1, show (i : Int) + 1 = ((i + 1 : Nat) : Int) by omega]
      have no : ∀ τ', cGf σ τ' → ¬ sn_P S w → Q (some (av_i 0)) τ' := fun τ' F' hn => by
        have := hQ τ' F'
        rw [if_neg (fun q => hn (sn_B_iff.mp q))] at this
        exact this
      refine ⟨by omega, by omega, fun c => by omega, fun _ => ⟨by omega, c_toldBy V.1 h1.1 hv.1 hw (fun σ1 F1 hn => ⟨_, rfl, by decide, fun _ => ?_, fun c => absurd rfl c⟩) (fun j σ1 F1 tp hb P => ⟨_, rfl, by unfold rg; omega, fun c => by omega, fun _ => ⟨by omega, ?_⟩⟩)⟩⟩
      · refine no σ1 (F.tr F1) (fun hp => ?_)
        obtain ⟨u, hu, -⟩ := hp i hil
        rw [hn] at hu
        exact gq_top_ne hu rfl
      · have h2 := h1.gf F1
        obtain ⟨q3, q4⟩ := h2.2.2.2.2.2.1.2 i _ hq
        rw [← hd] at q4
        have hmm := cA_mem (g := S.1.1) (kd := (S.1.2.2 (3 * (S.2.2.2.2.2.1.getD i (0, 0)).1)).toNat) (w := w) (i := j)
        have h9 := cA_len9 (g := S.1.1) (kd := (S.1.2.2 (3 * (S.2.2.2.2.2.1.getD i (0, 0)).1)).toNat) (w := w) (i := j) hw.2.1
        have hwt := gq_wt_le V.1.1 _ hmm
        rw [P.2.2.1, q4]
        refine ⟨by unfold rg; omega, by unfold rg; omega, fun c => ?_, fun c => ?_⟩
        · refine ih (i + 1) σ1 (by omega) (F.tr F1) (fun u hu => ?_)
          by_cases hui : u = i
          · subst hui
            exact ⟨j, tp, c⟩
          · exact hall u (by omega)
        · refine no σ1 (F.tr F1) (fun hp => ?_)
          obtain ⟨u, hu, hu2⟩ := hp i hil
          rw [gq_top_uniq hu tp] at hu2
          exact c hu2
  exact key S.2.2.2.2.2.1.length 0 σ (by omega) (cGf.rf σ) (fun u hu => by omega)
theorem co_wrote {E : av_E} {σ : av_M} {Q : Option av_V → av_M → Prop} {T : Nat} {S : q_S} {w : Int} (h : cRM σ S) (V : q_V T S) (hw : rg w) (hQ : ∀ σ', cGf σ σ' → Q (some (av_i (sp_wrote (so_B (q_D S) S.2.2.2.2.2.1.length (fun i => (S.2.2.2.2.2.1.getD i (0, 0)).1) (fun i => ((S.2.2.2.2.2.1.getD i (0, 0)).2 : Int))) w))) σ') : av_C E cSH mX4_wrote [av_r 0, av_i w] σ Q := by
  apply uX4_wrote
  unfold sp_wrote at hQ
  have hP : ∀ q ∈ rw_rest 1, so_B (q_D S) S.2.2.2.2.2.1.length (fun i => (S.2.2.2.2.2.1.getD i (0, 0)).1) (fun i => ((S.2.2.2.2.2.1.getD i (0, 0)).2 : Int)) q = sn_B S (sh_n q) := by
    intro q hq
    rw [Bool.eq_iff_iff, so_B_iff, sn_B_iff]
    unfold so_P sn_P so_i
    constructor
    · intro z i hi
      rw [sh_cA hq]
      exact z i hi
    · intro z i hi
      have := z i hi
      rw [sh_cA hq] at this
      exact this
  rw [sh_fd_eq _ hP, sh_ct_eq _ hP, sh_list] at hQ
  refine ⟨hw, fun c => ?_, fun c => ⟨hw, fun d => ?_, fun d => ?_⟩⟩
  · rw [if_neg (by omega)] at hQ; exact hQ σ (cGf.rf σ)
  rotate_left
  · rw [if_neg (by omega)] at hQ; exact hQ σ (cGf.rf σ)
  rw [if_pos ⟨c, d⟩] at hQ
  have hlen : ((List.range' 1 1295).filter (sh_f 4)).length ≤ 1295 := Nat.le_trans (List.length_filter_le _ _) (by rw [List.length_range']; omega)
  have hct := List.countP_le_length (p := sn_B S) (l := (List.range' 1 1295).filter (sh_f 4))
  have key : ∀ (t x n : Nat) (τ : av_M), x + t = 1296 → 1 ≤ x → cGf σ τ → n + ((List.range' x t).filter (sh_f 4)).countP (sn_B S) = ((List.range' 1 1295).filter (sh_f 4)).countP (sn_B S) → (w = 1 → sh_fd (sn_B S) ((List.range' x t).filter (sh_f 4)) = sh_fd (sn_B S) ((List.range' 1 1295).filter (sh_f 4))) → av_W E cSH mX4_wrote 15 [some (av_r 0), some (av_i w), some (av_i (n : Int)), some (av_i (x : Int))] [] τ Q := by
    intro t
    induction t with
    | zero =>
      intro x n τ hx h1 F hc he
      apply uX4_wrote_15
      have hQ' := hQ τ F
      refine ⟨by omega, fun _ => ⟨hw, fun e => ?_, fun e => ?_⟩, fun c => by omega⟩
      · rw [if_pos (by omega), ← hc] at hQ'
        exact hQ'
      · rw [if_neg (by omega), ← he e] at hQ'
        exact hQ'
    | succ t ih =>
      intro x n τ hx h1 F hc he
      apply uX4_wrote_15
      rw [List.range'_succ, List.filter_cons] at he hc
      rw [show (x : Int) + 1 = ((x + 1 : Nat) : Int) by omega]
      refine ⟨by omega, fun c => by omega, fun _ => c_isShortRow (by omega) ⟨_, rfl, by split <;> decide, fun c => ?_, fun c => ?_⟩⟩
      · have hs : ¬ sh_f 4 x = true := fun q => by rw [if_pos q] at c; omega
        rw [if_neg hs] at he hc
        exact ih (x + 1) n τ (by omega) (by omega) F hc he
      · have hs : sh_f 4 x = true := by
          apply Decidable.byContradiction
          intro q
          rw [if_neg q] at c
          exact c rfl
        rw [if_pos hs, sh_fd_cons] at he
        rw [if_pos hs, List.countP_cons] at hc
        have hV := sh_V h1 (by omega) hs
        refine c_isAsSeen (h.gf F) V hV (fun σ1 F1 => ⟨_, rfl, by split <;> decide, fun d => ?_, fun d => ⟨hw, fun e => ?_, fun e => ?_⟩⟩)
        · have hb : ¬ sn_B S x = true := fun q => by rw [if_pos q] at d; omega
          rw [if_neg hb] at he hc
          exact ih (x + 1) n σ1 (by omega) (by omega) (F.tr F1) (by omega) he
        · have hb : sn_B S x = true := by
            apply Decidable.byContradiction
            intro q
            rw [if_neg q] at d
            exact d rfl
          rw [if_pos hb] at hc
          rw [show (n : Int) + 1 = ((n + 1 : Nat) : Int) by omega]
          exact ih (x + 1) (n + 1) σ1 (by omega) (by omega) (F.tr F1) (by omega) (fun z => absurd z e)
        · have hb : sn_B S x = true := by
            apply Decidable.byContradiction
            intro q
            rw [if_neg q] at d
            exact d rfl
          have hq := hQ σ1 (F.tr F1)
          have := he e
          rw [if_pos hb] at this
          rw [if_neg (by omega), ← this] at hq
          exact hq
  exact key 1295 1 0 σ (by omega) (by omega) (cGf.rf σ) (by omega) (fun _ => rfl)
