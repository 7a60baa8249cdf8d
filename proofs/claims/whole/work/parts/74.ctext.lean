/-! the class: the text, sign by sign -/
def cTx (σ : av_M) (cs : List Nat) : Prop := σ 1 1 = (cs.length : Int) ∧ cs.length ≤ 200 ∧ (∀ (i c : Nat), cs[i]? = some c → σ 2 i = (c : Int)) ∧ ∀ c ∈ cs, 32 ≤ c ∧ c ≤ 126
def cXf (σ0 σ : av_M) : Prop := ∀ a b, ¬ (a = 1 ∧ b = 2) → σ a b = σ0 a b
theorem cXf.rf (σ : av_M) : cXf σ σ := fun _ _ _ => rfl
theorem cXf.tr {a b c : av_M} (h : cXf a b) (k : cXf b c) : cXf a c := fun x y p => (k x y p).trans (h x y p)
theorem cXf.st {σ0 σ : av_M} (h : cXf σ0 σ) (x : Int) : cXf σ0 (av_st σ 1 2 x) := by
  intro a b p
  rw [← h a b p]
  simp only [av_st]
  rw [if_neg p]
theorem cTx.xf {σ σ' : av_M} {cs : List Nat} (h : cTx σ cs) (e : cXf σ σ') : cTx σ' cs :=
  ⟨by rw [e 1 1 (by omega)]; exact h.1, h.2.1, fun i c hc => by rw [e 2 i (by omega)]; exact h.2.2.1 i c hc, h.2.2.2⟩
theorem pc_in {cs : List Nat} {i : Nat} (h : i < cs.length) : cs[i]? = some (pc cs i) := by
  unfold pc
  rw [List.getD_eq_getElem?_getD, List.getElem?_eq_getElem h]
  rfl
theorem c_sign {E : av_E} {σ : av_M} {Q : Option av_V → av_M → Prop} {cs : List Nat} {i : Nat} (hT : cTx σ cs) (h2 : σ 1 2 = (i : Int)) (hi : i ≤ 100000) (hQ : Q (some (av_i ((pc cs i : Nat) : Int))) σ) : av_C E cSH mX2_sign [av_r 1] σ Q := by
  apply uX2_sign
  have h200 := hT.2.1
  have hle := pc_le hT.2.2.2 i
  rw [hT.1, h2, Int.toNat_natCast]
  refine ⟨by omega, by omega, fun c => ?_, fun c => ⟨by omega, fun d => by omega, fun d => ⟨by omega, ?_⟩⟩⟩
  · rw [pc_out (by omega)] at hQ; exact hQ
  · rw [hT.2.2.1 i _ (pc_in (by omega))]
    exact ⟨by omega, hQ⟩
theorem c_isNext {E : av_E} {σ : av_M} {Q : Option av_V → av_M → Prop} {cs : List Nat} {i b : Nat} (hT : cTx σ cs) (h2 : σ 1 2 = (i : Int)) (hi : i ≤ 100000) (hb : b < 1000) (hQ : Q (some (av_i (if pc cs i = b then 1 else 0))) (av_st σ 1 2 ((i + 1 : Nat) : Int))) : av_C E cSH mX2_isNext [av_r 1, av_i (b : Int)] σ Q := by
  apply uX2_isNext
  have hle := pc_le hT.2.2.2 i
  refine c_sign hT h2 hi ⟨_, rfl, by unfold rg; omega, by unfold rg; omega, ?_⟩
  rw [h2, show (i : Int) + 1 = ((i + 1 : Nat) : Int) by omega]
  refine ⟨fun c => ?_, fun c => ?_⟩
  · rw [if_neg (by omega)] at hQ; exact hQ
  · rw [if_pos (by omega)] at hQ; exact hQ
theorem p_no_lt {cs : List Nat} {i n : Nat} (h : ∀ u, u < n → 97 ≤ pc cs (i + u) ∧ pc cs (i + u) ≤ 101) (h9 : n ≤ 9) : p_no cs i n < 10077696 ∧ (p_no cs i n = 0 → n = 0) := by
  constructor
  · have h1 := rw_nu_lt (f := fun u => (pc cs (i + u) : Int) - 97) n (fun u hu => by have := h u hu; omega)
    rw [p_no_nu cs i n h] at h1
    have h2 : 6 ^ n ≤ 6 ^ 9 := Nat.pow_le_pow_right (by omega) h9
    rw [show 6 ^ 9 = 10077696 from rfl] at h2
    omega
  · intro h0
    cases n with
    | zero => rfl
    | succ n =>
      have := h n (by omega)
      rw [p_no] at h0
      omega
theorem c_readRow {E : av_E} {σ : av_M} {Q : Option av_V → av_M → Prop} {cs : List Nat} {i m b : Nat} (hT : cTx σ cs) (h2 : σ 1 2 = (i : Int)) (hi : i ≤ 4000) (hm : m ≤ 9) (hb : b < 1000)
    (h0 : p_row cs i m b = none → ∀ σ' (j : Nat), cXf σ σ' → σ' 1 2 = (j : Int) → j ≤ i + 10 → Q (some (av_i (-1))) σ') (h1 : ∀ r, p_row cs i m b = some r → ∀ σ', cXf σ σ' → σ' 1 2 = (r.2 : Int) → Q (some (av_i (r.1 : Int))) σ') : av_C E cSH mX2_readRow [av_r 1, av_i (m : Int), av_i (b : Int)] σ Q := by
  apply uX2_readRow
  have term : ∀ (k : Nat) (τ : av_M), k = p_let cs i m → cXf σ τ → τ 1 2 = ((i + k : Nat) : Int) → (rg ((p_no cs i k : Nat) : Int)) ∧ (((((p_no cs i k : Nat) : Int) ≤ 0) → Q (some (av_i (-1))) τ) ∧ ((0 < ((p_no cs i k : Nat) : Int)) → av_C E cSH mX2_isNext [av_r 1, av_i (b : Int)] τ (fun v s1 => ∃ r1 : Int, v = some (av_i r1) ∧ ((rg r1) ∧ (((r1 = 0) → Q (some (av_i (-1))) s1) ∧ ((¬ r1 = 0) → Q (some (av_i ((p_no cs i k : Nat) : Int))) s1)))))) := by
    intro k τ hk F h12
    have hle := p_let_le cs m i
    obtain ⟨n1, n2⟩ := p_no_lt (cs := cs) (i := i) (n := k) (fun u hu => p_let_in cs m i u (by omega)) (by omega)
    refine ⟨by unfold rg; omega, fun c => ?_, fun c => ?_⟩
    · have k0 : k = 0 := n2 (by omega)
      exact h0 (by rw [p_row, if_neg (by omega)]) τ (i + k) F h12 (by omega)
    · have hk0 : ¬ k = 0 := fun e => by rw [e, p_no] at c; omega
      refine c_isNext (hT.xf F) h12 (by omega) hb ⟨_, rfl, by split <;> decide, fun d => ?_, fun d => ?_⟩
      · refine h0 ?_ _ (i + k + 1) (F.st _) (by simp [av_st]) (by omega)
        rw [p_row, if_neg]
        rintro ⟨-, q⟩
        rw [← hk] at q
        rw [if_pos q] at d
        omega
      · have hq : pc cs (i + k) = b := by
          apply Decidable.byContradiction
          intro q
          rw [if_neg q] at d
          exact d rfl
        have := h1 (p_no cs i k, i + k + 1) (by rw [p_row, if_pos ⟨by omega, by rw [← hk]; exact hq⟩, ← hk]) _ (F.st ((i + k + 1 : Nat) : Int)) (by simp [av_st])
        exact this
  have key : ∀ (t k : Nat) (τ : av_M), k + t = m → cXf σ τ → τ 1 2 = ((i + k : Nat) : Int) → k ≤ p_let cs i m → av_W E cSH mX2_readRow 5 [some (av_r 1), some (av_i (m : Int)), some (av_i (b : Int)), some (av_i ((p_no cs i k : Nat) : Int)), some (av_i (k : Int))] [] τ Q := by
    intro t
    induction t with
    | zero =>
      intro k τ hk F h12 hl
      apply uX2_readRow_5
      have hle := p_let_le cs m i
      exact ⟨by omega, by omega, fun _ => term k τ (by omega) F h12, fun c => by omega⟩
    | succ t ih =>
      intro k τ hk F h12 hl
      apply uX2_readRow_5
      have hle := pc_le hT.2.2.2 (i + k)
      have out : ¬ (97 ≤ pc cs (i + k) ∧ pc cs (i + k) ≤ 101) → k = p_let cs i m := by
        intro hn
        apply Decidable.byContradiction
        intro q
        exact hn (p_let_in cs m i k (by omega))
      refine ⟨by omega, by omega, fun c => by omega, fun _ => c_sign (hT.xf F) h12 (by omega) ⟨_, rfl, by unfold rg; omega, fun c => term k τ (out (by omega)) F h12, fun c => c_sign (hT.xf F) h12 (by omega) ⟨_, rfl, by unfold rg; omega, fun d => term k τ (out (by omega)) F h12, fun d => c_sign (hT.xf F) h12 (by omega) ⟨_, rfl, ?_⟩⟩⟩⟩
      have hl2 : k + 1 ≤ p_let cs i m := by
        apply Decidable.byContradiction
        intro q
        have e : p_let cs i m = k := by omega
        have := p_let_out cs m i (by omega)
        rw [e] at this
        exact this (by omega)
      have nx := ih (k + 1) (av_st τ 1 2 ((i + (k + 1) : Nat) : Int)) (by omega) (F.st _) (by simp [av_st]) hl2
      rw [p_no] at nx
      rw [h12, show ((i + k : Nat) : Int) + 1 = ((i + (k + 1) : Nat) : Int) by omega, show (k : Int) + 1 = ((k + 1 : Nat) : Int) by omega, show ((p_no cs i k : Nat) : Int) * 6 + ((pc cs (i + k) : Nat) : Int) - 97 + 1 = ((6 * p_no cs i k + (pc cs (i + k) - 96) : Nat) : Int) by omega]
      exact nx
  have := key m 0 σ (by omega) (cXf.rf σ) h2 (Nat.zero_le _)
  exact this
theorem c_readNumber {E : av_E} {σ : av_M} {Q : Option av_V → av_M → Prop} {cs : List Nat} {i b lo hi : Nat} (hT : cTx σ cs) (h2 : σ 1 2 = (i : Int)) (hi4 : i ≤ 4000) (hb : b < 1000) (hh : hi ≤ 99) (hl : lo ≤ 99)
    (h0 : (∀ r, p_num cs i b = some r → ¬ (lo ≤ r.1 ∧ r.1 ≤ hi)) → ∀ σ' (j : Nat), cXf σ σ' → σ' 1 2 = (j : Int) → j ≤ i + 3 → Q (some (av_i (-1))) σ') (h1 : ∀ r, p_num cs i b = some r → lo ≤ r.1 → r.1 ≤ hi → ∀ σ', cXf σ σ' → σ' 1 2 = (r.2 : Int) → Q (some (av_i (r.1 : Int))) σ') : av_C E cSH mX2_readNumber [av_r 1, av_i (lo : Int), av_i (hi : Int), av_i (b : Int)] σ Q := by
  apply uX2_readNumber
  have term : ∀ (x : Int) (j : Nat) (τ : av_M), cXf σ τ → τ 1 2 = (j : Int) → j ≤ i + 2 → -1 ≤ x → x ≤ 99 → (∀ n : Nat, x = (n : Int) → lo ≤ n → n ≤ hi → pc cs j = b → p_num cs i b = some (n, j + 1)) → (¬ (∃ n : Nat, x = (n : Int) ∧ pc cs j = b ∧ lo ≤ n ∧ n ≤ hi) → ∀ r, p_num cs i b = some r → ¬ (lo ≤ r.1 ∧ r.1 ≤ hi)) →
      (rg x) ∧ ((rg (lo : Int)) ∧ (((x < (lo : Int)) → Q (some (av_i (-1))) τ) ∧ (((lo : Int) ≤ x) → (rg x) ∧ ((rg (hi : Int)) ∧ ((((hi : Int) < x) → Q (some (av_i (-1))) τ) ∧ ((x ≤ (hi : Int)) → av_C E cSH mX2_isNext [av_r 1, av_i (b : Int)] τ (fun v s1 => ∃ r1 : Int, v = some (av_i r1) ∧ ((rg r1) ∧ (((r1 = 0) → Q (some (av_i (-1))) s1) ∧ ((¬ r1 = 0) → Q (some (av_i x)) s1)))))))))) := by
    intro x j τ F h12 hj hx1 hx2 hp hn
    refine ⟨by unfold rg; omega, by unfold rg; omega, fun c => ?_, fun c => ⟨by unfold rg; omega, by unfold rg; omega, fun d => ?_, fun d => ?_⟩⟩
    · exact h0 (hn (by rintro ⟨n, e, -, q1, q2⟩; omega)) τ j F h12 (by omega)
    · exact h0 (hn (by rintro ⟨n, e, -, q1, q2⟩; omega)) τ j F h12 (by omega)
    · obtain ⟨n, rfl⟩ := Int.eq_ofNat_of_zero_le (show 0 ≤ x by omega)
      refine c_isNext (hT.xf F) h12 (by omega) hb ⟨_, rfl, by split <;> decide, fun e => ?_, fun e => ?_⟩
      · refine h0 (hn ?_) _ (j + 1) (F.st _) (by simp [av_st]) (by omega)
        rintro ⟨n', -, q, -, -⟩
        rw [if_pos q] at e
        omega
      · have hq : pc cs j = b := by
          apply Decidable.byContradiction
          intro q
          rw [if_neg q] at e
          exact e rfl
        exact h1 (n, j + 1) (hp n rfl (by omega) (by omega) hq) (by show lo ≤ n; omega) (by show n ≤ hi; omega) _ (F.st _) (by simp [av_st])
  have p0 := pc_le hT.2.2.2 i
  have p1 := pc_le hT.2.2.2 (i + 1)
  -- no figure at all
  have t0 : ∀ τ : av_M, cXf σ τ → τ 1 2 = (i : Int) → ¬ (48 ≤ pc cs i ∧ pc cs i ≤ 57) → _ := fun τ F h12 hd => term (-1) i τ F h12 (by omega) (by omega) (by omega) (fun n e => by omega) (fun _ r hr => by unfold p_num at hr; rw [if_neg hd] at hr; cases hr)
  -- one
  have t1 : ∀ τ : av_M, cXf σ τ → τ 1 2 = ((i + 1 : Nat) : Int) → (48 ≤ pc cs i ∧ pc cs i ≤ 57) → ¬ (48 ≤ pc cs (i + 1) ∧ pc cs (i + 1) ≤ 57) → _ := fun τ F h12 hd hd2 => term ((pc cs i - 48 : Nat) : Int) (i + 1) τ F h12 (by omega) (by omega) (by omega)
    (fun n e _ _ q => by unfold p_num; rw [if_pos hd, if_neg hd2, if_pos q]; congr 2; omega)
    (fun hne r hr => by
      unfold p_num at hr
      rw [if_pos hd, if_neg hd2] at hr
      split at hr
      · rename_i q
        cases hr
        intro z
        exact hne ⟨_, rfl, q, z.1, z.2⟩
      · cases hr)
  have t2 : ∀ τ : av_M, cXf σ τ → τ 1 2 = ((i + 2 : Nat) : Int) → (48 ≤ pc cs i ∧ pc cs i ≤ 57) → (48 ≤ pc cs (i + 1) ∧ pc cs (i + 1) ≤ 57) → _ := fun τ F h12 hd hd2 => term ((10 * (pc cs i - 48) + (pc cs (i + 1) - 48) : Nat) : Int) (i + 2) τ F h12 (by omega) (by omega) (by omega)
    (fun n e _ _ q => by unfold p_num; rw [if_pos hd, if_pos hd2, if_pos q]; congr 2; omega)
    (fun hne r hr => by
      unfold p_num at hr
      rw [if_pos hd, if_pos hd2] at hr
      split at hr
      · rename_i q
        cases hr
        intro z
        exact hne ⟨_, rfl, q, z.1, z.2⟩
      · cases hr)
  apply uX2_readNumber_6
  refine ⟨by decide, fun c => by omega, fun _ => c_sign hT h2 (by omega) ⟨_, rfl, by unfold rg; omega, fun c => t0 σ (cXf.rf σ) h2 (by omega), fun c => c_sign hT h2 (by omega) ⟨_, rfl, by unfold rg; omega, fun d => t0 σ (cXf.rf σ) h2 (by omega), fun d => ⟨by decide, c_sign hT h2 (by omega) ⟨_, rfl, ?_⟩⟩⟩⟩⟩
  have hd : 48 ≤ pc cs i ∧ pc cs i ≤ 57 := by omega
  rw [h2, show (i : Int) + 1 = ((i + 1 : Nat) : Int) by omega, show max 0 (-1 : Int) * 10 + ((pc cs i : Nat) : Int) - 48 = ((pc cs i - 48 : Nat) : Int) by omega]
  have F1 : cXf σ (av_st σ 1 2 ((i + 1 : Nat) : Int)) := (cXf.rf σ).st _
  have g1 : av_st σ 1 2 ((i + 1 : Nat) : Int) 1 2 = ((i + 1 : Nat) : Int) := by simp [av_st]
  have T1 := hT.xf F1
  apply uX2_readNumber_6
  refine ⟨by decide, fun c => by omega, fun _ => c_sign T1 g1 (by omega) ⟨_, rfl, by unfold rg; omega, fun c => t1 _ F1 g1 hd (by omega), fun c => c_sign T1 g1 (by omega) ⟨_, rfl, by unfold rg; omega, fun d => t1 _ F1 g1 hd (by omega), fun d => ⟨by unfold rg; omega, c_sign T1 g1 (by omega) ⟨_, rfl, ?_⟩⟩⟩⟩⟩
  have hd2 : 48 ≤ pc cs (i + 1) ∧ pc cs (i + 1) ≤ 57 := by omega
  rw [g1, show ((i + 1 : Nat) : Int) + 1 = ((i + 2 : Nat) : Int) by omega, show max 0 ((pc cs i - 48 : Nat) : Int) * 10 + ((pc cs (i + 1) : Nat) : Int) - 48 = ((10 * (pc cs i - 48) + (pc cs (i + 1) - 48) : Nat) : Int) by omega]
  apply uX2_readNumber_6
  exact ⟨by decide, fun _ => t2 _ (F1.st _) (by simp [av_st]) hd hd2, fun c => by omega⟩
/-- a number read for nothing -/
theorem c_readAny {E : av_E} {σ : av_M} {Q : Option av_V → av_M → Prop} {cs : List Nat} {i b lo hi : Nat} (hT : cTx σ cs) (h2 : σ 1 2 = (i : Int)) (hi4 : i ≤ 4000) (hb : b < 1000) (hh : hi ≤ 99) (hl : lo ≤ 99)
    (h : ∀ (x : Int) σ' (j : Nat), cXf σ σ' → σ' 1 2 = (j : Int) → j ≤ i + 3 → -1 ≤ x → x ≤ 99 → Q (some (av_i x)) σ') : av_C E cSH mX2_readNumber [av_r 1, av_i (lo : Int), av_i (hi : Int), av_i (b : Int)] σ Q :=
  c_readNumber hT h2 hi4 hb hh hl (fun _ σ' j F e k => h _ σ' j F e k (by omega) (by omega)) (fun r hr _ q σ' F e => by
    have := p_num_ok hr
    exact h _ σ' r.2 F e (by omega) (by omega) (by omega))
-- the items, with each number by itself
theorem p_nums_1 (cs : List Nat) (i : Nat) : p_nums cs i 1 = match p_num cs i 59 with | none => none | some q => some ([q.1], q.2) := by
  rw [p_nums, if_pos rfl]
  cases p_num cs i 59 <;> simp [p_nums]
theorem p_nums_2 (cs : List Nat) (i : Nat) : p_nums cs i 2 = match p_num cs i 44 with | none => none | some q => match p_num cs q.2 59 with | none => none | some s => some ([q.1, s.1], s.2) := by
  rw [p_nums, if_neg (by decide)]
  cases h : p_num cs i 44 with
  | none => rfl
  | some q =>
    simp only [p_nums_1]
    cases p_num cs q.2 59 <;> rfl
theorem p_nums_3 (cs : List Nat) (i : Nat) : p_nums cs i 3 = match p_num cs i 44 with | none => none | some q => match p_num cs q.2 44 with | none => none | some s => match p_num cs s.2 59 with | none => none | some t => some ([q.1, s.1, t.1], t.2) := by
  rw [p_nums, if_neg (by decide)]
  cases h : p_num cs i 44 with
  | none => rfl
  | some q =>
    simp only [p_nums_2]
    cases p_num cs q.2 44 with
    | none => rfl
    | some s =>
      simp only
      cases p_num cs s.2 59 <;> rfl
