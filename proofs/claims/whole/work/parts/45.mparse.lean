/-! the model reads the text -/
def mTx (σ : av_M) (cs : List Nat) : Prop := σ 0 16 = (cs.length : Int) ∧ cs.length ≤ 200 ∧ (∀ (i : Nat) (c : Nat), cs[i]? = some c → σ 11 i = (c : Int)) ∧ ∀ c ∈ cs, 32 ≤ c ∧ c ≤ 126
theorem mTx.congr {σ σ' : av_M} {cs : List Nat} (h : mTx σ cs) (e1 : σ' 0 16 = σ 0 16) (e2 : ∀ b, σ' 11 b = σ 11 b) : mTx σ' cs := ⟨by rw [e1]; exact h.1, h.2.1, fun i c hc => by rw [e2]; exact h.2.2.1 i c hc, h.2.2.2⟩
def mch (cs : List Nat) (i : Nat) : Int := if i < cs.length then (pc cs i : Int) else -1
theorem pc_out {cs : List Nat} {i : Nat} (h : ¬ i < cs.length) : pc cs i = 0 := by
  unfold pc
  rw [List.getD_eq_getElem?_getD, List.getElem?_eq_none (by omega)]
  rfl
theorem pc_le {cs : List Nat} (h : ∀ c ∈ cs, 32 ≤ c ∧ c ≤ 126) (i : Nat) : pc cs i ≤ 126 := by
  by_cases hi : i < cs.length
  · unfold pc
    rw [List.getD_eq_getElem?_getD, List.getElem?_eq_getElem hi]
    exact (h _ (List.getElem_mem hi)).2
  · rw [pc_out hi]
    omega
theorem mch_eq {cs : List Nat} {i b : Nat} (hb : 0 < b) : mch cs i = (b : Int) ↔ pc cs i = b := by
  unfold mch
  split
  · omega
  · rename_i h
    rw [pc_out h]
    omega
theorem mch_in {cs : List Nat} {i : Nat} {l u : Int} (hl : 1 ≤ l) : (l ≤ mch cs i ∧ mch cs i ≤ u) ↔ (l ≤ (pc cs i : Int) ∧ (pc cs i : Int) ≤ u) := by
  unfold mch
  split
  · exact Iff.rfl
  · rename_i h
    rw [pc_out h]
    omega
theorem mch_pc {cs : List Nat} {i : Nat} (h : 1 ≤ pc cs i) : mch cs i = (pc cs i : Int) := by
  unfold mch
  split
  · rfl
  · rename_i h2
    rw [pc_out h2] at h
    omega
theorem mch_rg {cs : List Nat} (h : ∀ c ∈ cs, 32 ≤ c ∧ c ≤ 126) (i : Nat) : -1 ≤ mch cs i ∧ mch cs i ≤ 126 := by
  have := pc_le h i
  unfold mch
  split <;> omega
theorem s_letterAt {E : av_E} {σ : av_M} {Q : Option av_V → av_M → Prop} {cs : List Nat} {i : Nat} (h : mTx σ cs) (hi : i ≤ 100000) (hQ : Q (some (av_i (mch cs i))) σ) : av_C E mSH mX5_letterAt [av_r 0, av_i (i : Int)] σ Q := by
  apply uX5_letterAt
  have h2 := h.2.1
  rw [h.1]
  unfold mch at hQ
  refine ⟨by omega, by omega, fun c => ?_, fun c => ⟨by omega, ?_⟩⟩
  · rwa [if_neg (by omega)] at hQ
  · have hil : i < cs.length := by omega
    rw [if_pos hil] at hQ
    rw [Int.toNat_natCast, h.2.2.1 i _ (List.getElem?_eq_getElem hil)]
    unfold pc at hQ
    rw [List.getD_eq_getElem?_getD, List.getElem?_eq_getElem hil] at hQ
    exact hQ
theorem s_isFigure {E : av_E} {σ : av_M} {Q : Option av_V → av_M → Prop} {cs : List Nat} {i : Nat} (h : ∀ c ∈ cs, 32 ≤ c ∧ c ≤ 126) (hQ : Q (some (av_i (if 48 ≤ pc cs i ∧ pc cs i ≤ 57 then 1 else 0))) σ) : av_C E mSH mX5_isFigure [av_i (mch cs i)] σ Q := by
  apply uX5_isFigure
  have hr := mch_rg h i
  refine s_in (by omega) (by decide) (by decide) ⟨_, rfl, ?_, ?_⟩
  · split <;> simp
  · have e : (48 ≤ mch cs i ∧ mch cs i ≤ 57) ↔ (48 ≤ pc cs i ∧ pc cs i ≤ 57) := by rw [mch_in (by omega)]; omega
    rw [if_iffc e]
    exact hQ
/-- numbers read: told and at change alone -/
def mSt (σ0 σ : av_M) : Prop := ∀ a b, a ≠ 12 → ¬ (a = 0 ∧ b = 17) → σ a b = σ0 a b
theorem mSt.rf (σ : av_M) : mSt σ σ := fun _ _ _ _ => rfl
theorem mSt.tr {a b c : av_M} (h : mSt a b) (k : mSt b c) : mSt a c := fun x y p q => (k x y p q).trans (h x y p q)
theorem mSt.st {σ0 σ : av_M} (h : mSt σ0 σ) {c k : Nat} (x : Int) (hc : c = 12 ∨ (c = 0 ∧ k = 17)) : mSt σ0 (av_st σ c k x) := by
  intro a b h1 h2
  rw [← h a b h1 h2]
  unfold av_st
  rw [if_neg]
  rintro ⟨rfl, rfl⟩
  omega
theorem mTx.st {σ σ' : av_M} {cs : List Nat} (h : mTx σ cs) (e : mSt σ σ') : mTx σ' cs := h.congr (e 0 16 (by omega) (by omega)) (fun b => e 11 b (by omega) (by omega))
theorem l_nums {E : av_E} {Q : Option av_V → av_M → Prop} {cs : List Nat} {n : Nat} (hn : n ≤ 3) : ∀ (t k i : Nat) (σ : av_M), k + t = n → mTx σ cs → σ 0 17 = (i : Int) → i + 3 * t ≤ 5000 →
    (p_nums cs i t = none → ∀ σ', mSt σ σ' → Q (some (av_i 0)) σ') → (∀ r, p_nums cs i t = some r → ∀ σ', mSt σ σ' → σ' 0 17 = (r.2 : Int) → (∀ (u x : Nat), r.1[u]? = some x → σ' 12 (k + u) = (x : Int)) → (∀ u, u < k → σ' 12 u = σ 12 u) → Q (some (av_i 1)) σ') →
    av_W E mSH mX5_readNumbers 2 [some (av_r 0), some (av_i (n : Int)), some (av_i (k : Int))] [] σ Q := by
  intro t
  induction t with
  | zero =>
    intro k i σ hk hT h17 hi h0 h1
    apply uX5_readNumbers_2
    exact ⟨by omega, by omega, fun _ => h1 ([], i) rfl σ (mSt.rf σ) h17 (fun u x hx => by simp at hx) (fun u hu => rfl), fun c => by omega⟩
  | succ t ih =>
    intro k i σ hk hT h17 hi h0 h1
    have hc := hT.2.2.2
    have hp0 := pc_le hc i
    have hp1 := pc_le hc (i + 1)
    have hr2 := mch_rg hc (i + 1)
    have hr3 := mch_rg hc (i + 2)
    rw [p_nums] at h0 h1
    apply uX5_readNumbers_2
    refine ⟨by omega, by omega, fun c => by omega, fun _ => ?_⟩
    rw [h17]
    refine s_letterAt hT (by omega) ⟨_, rfl, s_isFigure hc ⟨_, rfl, ?_⟩⟩
    by_cases hf : 48 ≤ pc cs i ∧ pc cs i ≤ 57
    · rw [if_pos hf]
      refine ⟨by decide, fun _ => ?_, fun c => absurd c (by decide)⟩
      rw [h17]
      refine s_letterAt hT (by omega) ⟨_, rfl, by omega, ?_⟩
      rw [h17, mch_pc (by omega), Int.toNat_natCast]
      have e1 : (i : Int) + 1 = ((i + 1 : Nat) : Int) := by omega
      rw [e1]
      have S1 : mSt σ (av_st (av_st σ 12 k ((pc cs i : Int) - 48)) 0 17 ((i + 1 : Nat) : Int)) := ((mSt.rf σ).st _ (by omega)).st _ (by omega)
      have T1 := hT.st S1
      refine s_letterAt T1 (by omega) ⟨_, rfl, s_isFigure hc ⟨_, rfl, ?_⟩⟩
      have a17 : av_st (av_st σ 12 k ((pc cs i : Int) - 48)) 0 17 ((i + 1 : Nat) : Int) 0 17 = ((i + 1 : Nat) : Int) := by simp [av_st]
      have a12 : av_st (av_st σ 12 k ((pc cs i : Int) - 48)) 0 17 ((i + 1 : Nat) : Int) 12 k = ((pc cs i : Int) - 48) := by simp [av_st]
      have low : ∀ (τ : av_M), (∀ u, u < k → τ 12 u = σ 12 u) → ∀ u, u < k → τ 12 u = σ 12 u := fun _ h => h
      -- behind the number: the sign, then the rest
      have fin : ∀ (v j : Nat) (τ : av_M), mSt σ τ → τ 0 17 = (j : Int) → j ≤ i + 2 → τ 12 k = (v : Int) → (∀ u, u < k → τ 12 u = σ 12 u) → (p_num cs i (if t = 0 then 59 else 44) = if pc cs j = (if t = 0 then 59 else 44) then some (v, j + 1) else none) →
          (∀ (b : Nat), b = (if t = 0 then 59 else 44) → (mch cs j = (b : Int) → av_W E mSH mX5_readNumbers 2 [some (av_r 0), some (av_i (n : Int)), some (av_i ((k : Int) + 1))] [] (av_st τ 0 17 ((j : Int) + 1)) Q) ∧ (¬ mch cs j = (b : Int) → Q (some (av_i 0)) τ)) := by
        intro v j τ Sτ h17' hj hv hlow hpn b hb
        refine ⟨fun c => ?_, fun c => ?_⟩
        · have hbp : 0 < b := by rw [hb]; split <;> omega
          have hpc := (mch_eq hbp).mp c
          rw [hpn, ← hb, if_pos hpc] at h0 h1
          have e2 : (k : Int) + 1 = ((k + 1 : Nat) : Int) := by omega
          have e3 : (j : Int) + 1 = ((j + 1 : Nat) : Int) := by omega
          rw [e2, e3]
          have S2 : mSt σ (av_st τ 0 17 ((j + 1 : Nat) : Int)) := Sτ.st _ (by omega)
          refine ih (k + 1) (j + 1) _ (by omega) (hT.st S2) (by simp [av_st]) (by omega) ?_ ?_
          · intro he σ' S'
            refine h0 ?_ σ' (S2.tr S')
            simp [he]
          · intro r he σ' S' g17 gx glow
            refine h1 (v :: r.1, r.2) ?_ σ' (S2.tr S') g17 ?_ ?_
            · simp [he]
            · intro u x hx
              cases u with
              | zero =>
                simp at hx
                subst hx
                have := glow k (by omega)
                rw [Nat.add_zero, this]
                simp [av_st, hv]
              | succ u =>
                rw [List.getElem?_cons_succ] at hx
                have := gx u x hx
                rwa [show k + 1 + u = k + (u + 1) by omega] at this
            · intro u hu
              rw [glow u (by omega), ← hlow u hu]
              simp [av_st]
        · refine h0 ?_ τ Sτ
          have hbp : 0 < b := by rw [hb]; split <;> omega
          have hpc : ¬ pc cs j = b := fun z => c ((mch_eq hbp).mpr z)
          rw [hpn, ← hb, if_neg hpc]
      by_cases hf2 : 48 ≤ pc cs (i + 1) ∧ pc cs (i + 1) ≤ 57
      · rw [if_pos hf2]
        refine ⟨by decide, fun c => absurd c (by decide), fun _ => ⟨by omega, ?_⟩⟩
        rw [a17]
        refine s_letterAt T1 (by omega) ⟨_, rfl, by omega, ?_⟩
        rw [a17, a12, mch_pc (by omega)]
        have e4 : ((i + 1 : Nat) : Int) + 1 = ((i + 2 : Nat) : Int) := by omega
        rw [e4]
        have S2 := (S1.st (c := 12) (k := k) (10 * ((pc cs i : Int) - 48) + (pc cs (i + 1) : Int) - 48) (by omega)).st (c := 0) (k := 17) ((i + 2 : Nat) : Int) (by omega)
        refine s_letterAt (hT.st S2) (by omega) ⟨_, rfl, ?_⟩
        have F := fin (10 * (pc cs i - 48) + (pc cs (i + 1) - 48)) (i + 2) _ S2 (by simp [av_st]) (by omega) (by simp [av_st]; omega) (low _ (fun u hu => by simp [av_st, Nat.ne_of_lt hu])) (by rw [p_num, if_pos hf, if_pos hf2])
        refine ⟨by omega, by omega, fun c => ⟨by omega, ?_⟩, fun c => ⟨by omega, ?_⟩⟩
        · have FF := F 59 (by rw [if_pos (by omega)])
          have e5 : av_st (av_st (av_st (av_st σ 12 k ((pc cs i : Int) - 48)) 0 17 ((i + 1 : Nat) : Int)) 12 k (10 * ((pc cs i : Int) - 48) + (pc cs (i + 1) : Int) - 48)) 0 17 ((i + 2 : Nat) : Int) 0 17 = ((i + 2 : Nat) : Int) := by simp [av_st]
          rw [e5]
          exact FF
        · have FF := F 44 (by rw [if_neg (by omega)])
          have e5 : av_st (av_st (av_st (av_st σ 12 k ((pc cs i : Int) - 48)) 0 17 ((i + 1 : Nat) : Int)) 12 k (10 * ((pc cs i : Int) - 48) + (pc cs (i + 1) : Int) - 48)) 0 17 ((i + 2 : Nat) : Int) 0 17 = ((i + 2 : Nat) : Int) := by simp [av_st]
          rw [e5]
          exact FF
      · rw [if_neg hf2]
        refine ⟨by decide, fun _ => ?_, fun c => absurd rfl c⟩
        rw [a17]
        refine s_letterAt T1 (by omega) ⟨_, rfl, by omega, by omega, ?_⟩
        have F := fin (pc cs i - 48) (i + 1) _ S1 a17 (by omega) (by rw [a12]; omega) (low _ (fun u hu => by simp [av_st, Nat.ne_of_lt hu])) (by rw [p_num, if_pos hf, if_neg hf2])
        rw [a17]
        refine ⟨fun c => ⟨by omega, ?_⟩, fun c => ⟨by omega, ?_⟩⟩
        · exact F 59 (by rw [if_pos (by omega)])
        · exact F 44 (by rw [if_neg (by omega)])
    · rw [if_neg hf]
      have hpn : p_num cs i (if t = 0 then 59 else 44) = none := by rw [p_num, if_neg hf]
      rw [hpn] at h0
      exact ⟨by decide, fun c => absurd rfl c, fun _ => h0 rfl σ (mSt.rf σ)⟩
theorem s_nums {E : av_E} {σ : av_M} {Q : Option av_V → av_M → Prop} {cs : List Nat} {n i : Nat} (hn : n ≤ 3) (hT : mTx σ cs) (h17 : σ 0 17 = (i : Int)) (hi : i ≤ 4000) (h0 : p_nums cs i n = none → ∀ σ', mSt σ σ' → Q (some (av_i 0)) σ') (h1 : ∀ r, p_nums cs i n = some r → ∀ σ', mSt σ σ' → σ' 0 17 = (r.2 : Int) → (∀ (u x : Nat), r.1[u]? = some x → σ' 12 u = (x : Int)) → Q (some (av_i 1)) σ') : av_C E mSH mX5_readNumbers [av_r 0, av_i (n : Int)] σ Q := by
  apply uX5_readNumbers
  exact l_nums hn n 0 i σ (by omega) hT h17 (by omega) h0 (fun r hr σ' S' g17 gx _ => h1 r hr σ' S' g17 (fun u x hx => by have := gx u x hx; rwa [Nat.zero_add] at this))
