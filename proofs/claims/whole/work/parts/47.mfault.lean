/-- reading: what is told alone changes -/
def mSp (σ0 σ : av_M) : Prop := ∀ a b, ¬ (12 ≤ a ∧ a ≤ 19) → ¬ (a = 0 ∧ 17 ≤ b ∧ b ≤ 29) → σ a b = σ0 a b
theorem mSp.rf (σ : av_M) : mSp σ σ := fun _ _ _ _ => rfl
theorem mSp.tr {a b c : av_M} (h : mSp a b) (k : mSp b c) : mSp a c := fun x y p q => (k x y p q).trans (h x y p q)
theorem mSp.st {σ0 σ : av_M} (h : mSp σ0 σ) {c k : Nat} (x : Int) (hc : (12 ≤ c ∧ c ≤ 19) ∨ (c = 0 ∧ 17 ≤ k ∧ k ≤ 29)) : mSp σ0 (av_st σ c k x) := by
  intro a b h1 h2
  rw [← h a b h1 h2]
  unfold av_st
  rw [if_neg]
  rintro ⟨rfl, rfl⟩
  omega
theorem mSt.sp {a b : av_M} (h : mSt a b) : mSp a b := fun x y p q => h x y (by omega) (by omega)
theorem mTx.sp {σ σ' : av_M} {cs : List Nat} (h : mTx σ cs) (e : mSp σ σ') : mTx σ' cs := h.congr (e 0 16 (by omega) (by omega)) (fun b => e 11 b (by omega) (by omega))
/-- mW through memories that agree on what it reads -/
theorem mW.congr {σ σ' : av_M} {W : q_W} (h : mW σ W) (e : ∀ a b, (13 ≤ a ∧ a ≤ 19) ∨ (a = 0 ∧ 19 ≤ b ∧ b ≤ 29) → σ' a b = σ a b) : mW σ' W := by
  obtain ⟨⟨a1, a2⟩, ⟨b1, b2⟩, ⟨c1, c2⟩, ⟨d1, d2, d3⟩, e1⟩ := h
  refine ⟨⟨?_, ?_⟩, ⟨?_, ?_⟩, ⟨?_, ?_⟩, ⟨?_, ?_, ?_⟩, ?_⟩
  · rw [e 0 19 (by omega)]; exact a1
  · intro r x hx
    obtain ⟨q1, q2, q3, q4⟩ := a2 r x hx
    refine ⟨by rw [e 13 _ (by omega)]; exact q1, fun i hi => by rw [e 14 _ (by omega)]; exact q2 i hi, by rw [e 15 _ (by omega)]; exact q3, by rw [e 16 _ (by omega)]; exact q4⟩
  · rw [e 0 24 (by omega)]; exact b1
  · intro k x hx
    rw [e 17 _ (by omega), e 17 _ (by omega), e 17 _ (by omega)]
    exact b2 k x hx
  · rw [e 0 26 (by omega)]; exact c1
  · intro i hi; rw [e 18 _ (by omega)]; exact c2 i hi
  · rw [e 19 0 (by omega)]; exact d1
  · rw [e 19 1 (by omega)]; exact d2
  · rw [e 19 2 (by omega)]; exact d3
  · rw [e 0 29 (by omega)]; exact e1
theorem mW.st {σ σ' : av_M} {W : q_W} (h : mW σ W) (e : mSt σ σ') : mW σ' W := h.congr (fun a b q => e a b (by omega) (by omega))
theorem s_isTold {E : av_E} {σ : av_M} {Q : Option av_V → av_M → Prop} {k x l m : Nat} (hk : k < 3) (hx : σ 12 k = (x : Int)) (hx2 : x ≤ 99) (hl : l ≤ 99) (hm : m ≤ 99) (hQ : Q (some (av_i (if l ≤ x ∧ x ≤ m then 1 else 0))) σ) : av_C E mSH mX5_isTold [av_r 0, av_i (k : Int), av_i (l : Int), av_i (m : Int)] σ Q := by
  apply uX5_isTold
  rw [Int.toNat_natCast, hx]
  refine ⟨by omega, s_in (by omega) (by omega) (by omega) ⟨_, rfl, ?_, ?_⟩⟩
  · split <;> simp
  · have e : ((l : Int) ≤ (x : Int) ∧ (x : Int) ≤ (m : Int)) ↔ (l ≤ x ∧ x ≤ m) := by omega
    rw [if_iffc e]
    exact hQ
/-- what an item's reader must do -/
abbrev mIm (E : av_E) (cs : List Nat) (i : Nat) (W : q_W) (σ : av_M) (Q : Option av_V → av_M → Prop) : Prop :=
  (p_item cs i W = none → ∀ σ', mSp σ σ' → Q (some (av_i 0)) σ') ∧ ∀ r, p_item cs i W = some r → ∀ σ', mSp σ σ' → mW σ' r.2 → σ' 0 17 = (r.1 : Int) → Q (some (av_i 1)) σ'
theorem s_readRootOf {E : av_E} {σ : av_M} {Q : Option av_V → av_M → Prop} {cs : List Nat} {i : Nat} {W : q_W} (hT : mTx σ cs) (hW : mW σ W) (V : p_Wv W) (hi : i ≤ 3000) (hr : pc cs i = 114) (h17 : σ 0 17 = ((i + 1 : Nat) : Int)) (I : mIm E cs i W σ Q) : av_C E mSH mX5_readRootOf [av_r 0] σ Q := by
  apply uX5_readRootOf
  obtain ⟨I0, I1⟩ := I
  unfold p_item at I0 I1
  simp only [if_pos hr] at I0 I1
  have h19 := hW.1.1
  have hl8 := V.1.1
  rw [h19]
  refine ⟨by omega, fun c => ?_, fun c => ?_⟩
  · rw [if_neg (show ¬ W.1.length = 8 by omega)] at I0
    simp only [if_neg (show ¬ W.1.length = 8 by omega)] at I1
    have e1 : 3 * (W.1.length : Int) = ((3 * W.1.length : Nat) : Int) := by omega
    rw [e1]
    refine s_letters_14 (m := 3) (b := 44) hT h17 (by omega) (by omega) (by omega) (fun hn σ' F => ⟨_, rfl, by decide, fun c => absurd c (by decide), fun _ => ?_⟩) (fun r hrow σ1 F L g17 gx => ⟨_, rfl, ?_⟩)
    · refine I0 (by rw [hn]) σ' (fun a b q1 q2 => F a b (by omega) (by omega))
    · simp only [hrow] at I0 I1
      have hrok := p_row_ok hrow
      have hrd := p_ok_dec hrok.1 (by omega)
      have hn3 := p_let_le cs 3 (i + 1)
      have hdec : rw_cn 9 r.1 = p_let cs (i + 1) 3 ∧ ∀ u, u < p_let cs (i + 1) 3 → rw_d r.1 (p_let cs (i + 1) 3) u = (pc cs (i + 1 + u) : Int) - 97 := by
        unfold p_row at hrow
        split at hrow
        · cases hrow
          exact p_no_dec cs (i + 1) _ (fun u hu => p_let_in cs 3 (i + 1) u hu) (by omega)
        · cases hrow
      have S1 : mSp σ σ1 := fun a b q1 q2 => F a b (by omega) (by omega)
      have g19 : σ1 0 19 = (W.1.length : Int) := by rw [F 0 19 (by omega) (by omega)]; exact h19
      rw [g19, Int.toNat_natCast]
      refine ⟨by omega, fun _ => ⟨by omega, ?_⟩, fun c => by omega⟩
      have S2 : mSp σ (av_st σ1 13 W.1.length (p_let cs (i + 1) 3 : Int)) := S1.st _ (by omega)
      have hWn : ∀ (q : Nat) (x : Nat × Nat × Nat), W.1[q]? = some x → av_st σ1 13 W.1.length (p_let cs (i + 1) 3 : Int) 13 q = (rw_cn 9 x.1 : Int) ∧ (∀ u, u < rw_cn 9 x.1 → av_st σ1 13 W.1.length (p_let cs (i + 1) 3 : Int) 14 (3 * q + u) = rw_d x.1 (rw_cn 9 x.1) u) := by
        intro q x hx
        have hq := (List.getElem?_eq_some_iff.mp hx).1
        obtain ⟨q1, q2, -⟩ := hW.1.2 q x hx
        have hxv := V.1.2.1 x (List.mem_of_getElem? hx)
        have hxd := p_ok_dec hxv.1 (by omega)
        refine ⟨?_, fun u hu => ?_⟩
        · have : ¬ q = W.1.length := by omega
          simp only [av_st, this, and_false, if_false]
          rw [F 13 q (by omega) (by omega)]
          exact q1
        · simp only [av_st]
          rw [if_neg (by omega), L _ (by omega)]
          exact q2 u hu
      have n13 : av_st σ1 13 W.1.length (p_let cs (i + 1) 3 : Int) 13 W.1.length = (rw_cn 9 r.1 : Int) := by rw [hdec.1]; simp [av_st]
      have n14 : ∀ u, u < rw_cn 9 r.1 → av_st σ1 13 W.1.length (p_let cs (i + 1) 3 : Int) 14 (3 * W.1.length + u) = rw_d r.1 (rw_cn 9 r.1) u := by
        intro u hu
        rw [hdec.1] at hu ⊢
        simp only [av_st]
        rw [if_neg (by omega), gx u hu, hdec.2 u hu]
      refine s_isNew (W := W) (b := r.1) hWn V (by omega) hrok.1 n13 n14 ⟨_, rfl, ?_⟩
      by_cases hmem : r.1 ∈ W.1.map (fun x => x.1)
      · rw [if_pos hmem]
        refine ⟨by decide, fun _ => I0 ?_ _ S2, fun c => absurd rfl c⟩
        cases hp : p_nums cs r.2 2 with
        | none => rfl
        | some z =>
          obtain ⟨l, j⟩ := z
          have hlen := (p_nums_ok hp).1
          match l, hlen with
          | [w, v], _ =>
            show (if _ then _ else none) = none
            rw [if_neg (fun z => z.2 hmem)]
      · rw [if_neg hmem]
        refine ⟨by decide, fun c => absurd c (by decide), fun _ => ?_⟩
        refine s_nums (n := 2) (by omega) (hT.sp S2) (i := r.2) (by simp [av_st]; exact g17) (by omega) (fun hn σ' S' => ⟨_, rfl, by decide, fun _ => I0 (by rw [hn]) σ' (S2.tr S'.sp), fun c => absurd rfl c⟩) (fun z hz σ3 S3 k17 kx => ⟨_, rfl, by decide, fun c => absurd c (by decide), fun _ => ?_⟩)
        have hzk := p_nums_ok hz
        obtain ⟨l, j⟩ := z
        match l, hzk, hz, kx with
        | [w, v], hzk, hz, kx =>
          simp only [hz] at I0 I1
          have hw := hzk.2.1 w (by simp)
          have hv := hzk.2.1 v (by simp)
          have k0 : σ3 12 0 = (w : Int) := kx 0 w rfl
          have k1 : σ3 12 1 = (v : Int) := kx 1 v rfl
          have S23 := S2.tr S3.sp
          refine s_isTold (k := 0) (x := w) (l := 0) (m := 60) (by omega) k0 hw (by omega) (by omega) ⟨_, rfl, ?_⟩
          by_cases c1 : w ≤ 60
          · rw [if_pos ⟨Nat.zero_le _, c1⟩]
            refine ⟨by decide, fun c => absurd c (by decide), fun _ => s_isTold (k := 1) (x := v) (l := 0) (m := 3) (by omega) k1 hv (by omega) (by omega) ⟨_, rfl, ?_⟩⟩
            by_cases c2 : v ≤ 3
            · rw [if_pos ⟨Nat.zero_le _, c2⟩]
              refine ⟨by decide, fun c => absurd c (by decide), fun _ => ?_⟩
              rw [k0, k1]
              refine ⟨by omega, fun c3 => ?_, fun c3 => ?_⟩
              · have g3 : σ3 0 19 = (W.1.length : Int) := by
                  rw [S3 0 19 (by omega) (by omega)]
                  simp [av_st, g19]
                have e2 : (W.1.length : Int) + 1 = ((W.1.length + 1 : Nat) : Int) := by omega
                rw [g3, Int.toNat_natCast, e2]
                refine ⟨by omega, by omega, I1 _ (by rw [if_pos ⟨⟨c1, c2, by omega⟩, hmem⟩]) _ (((S23.st _ (by omega)).st _ (by omega)).st _ (by omega)) ?_ (by simp [av_st]; exact k17)⟩
                have base : ∀ a b, (13 ≤ a ∧ a ≤ 19) ∨ (a = 0 ∧ 19 ≤ b ∧ b ≤ 29) → ¬ (a = 13 ∧ b = W.1.length) → (a = 14 → b < 3 * W.1.length) → σ3 a b = σ a b := by
                  intro a b q1 q2 q3
                  rw [S3 a b (by omega) (by omega)]
                  simp only [av_st, q2, if_false]
                  by_cases h14 : a = 14
                  · subst h14
                    exact L b (q3 rfl)
                  · exact F a b h14 (by omega)
                obtain ⟨⟨a1, a2⟩, ⟨b1, b2⟩, ⟨cc1, cc2⟩, ⟨d1, d2, d3⟩, ee1⟩ := hW
                refine ⟨⟨?_, ?_⟩, ⟨?_, ?_⟩, ⟨?_, ?_⟩, ⟨?_, ?_, ?_⟩, ?_⟩
                · show _ = ((W.1 ++ [(r.1, w, v)]).length : Int)
                  simp [av_st]
                · intro q x hx
                  rcases gq_app1 hx with ⟨g1, g2⟩ | ⟨g1, g2⟩
                  · obtain ⟨q1, q2, q3, q4⟩ := a2 q x g1
                    have hxd := p_ok_dec (V.1.2.1 x (List.mem_of_getElem? g1)).1 (by omega)
                    have hq : ¬ q = W.1.length := by omega
                    refine ⟨?_, fun u hu => ?_, ?_, ?_⟩
                    · simp only [av_st]; rw [if_neg (by omega), if_neg (by omega), if_neg (by omega), base 13 q (by omega) (by omega) (by omega)]; exact q1
                    · simp only [av_st]; rw [if_neg (by omega), if_neg (by omega), if_neg (by omega), base 14 _ (by omega) (by omega) (by omega)]; exact q2 u hu
                    · simp only [av_st]; rw [if_neg (by omega), if_neg (by omega), if_neg (by omega), base 15 q (by omega) (by omega) (by omega)]; exact q3
                    · simp only [av_st]; rw [if_neg (by omega), if_neg (by omega), if_neg (by omega), base 16 q (by omega) (by omega) (by omega)]; exact q4
                  · subst g1; subst g2
                    refine ⟨?_, fun u hu => ?_, ?_, ?_⟩
                    · simp only [av_st]; rw [if_neg (by omega), if_neg (by omega), if_neg (by omega), S3 13 _ (by omega) (by omega)]; exact n13
                    · simp only [av_st]; rw [if_neg (by omega), if_neg (by omega), if_neg (by omega), S3 14 _ (by omega) (by omega)]; exact n14 u hu
                    · simp [av_st]
                    · simp [av_st]
                · simp only [av_st]; rw [if_neg (by omega), if_neg (by omega), if_neg (by omega), base 0 24 (by omega) (by omega) (by omega)]; exact b1
                · intro q x hx
                  simp only [av_st]
                  rw [if_neg (by omega), if_neg (by omega), if_neg (by omega), if_neg (by omega), if_neg (by omega), if_neg (by omega), if_neg (by omega), if_neg (by omega), if_neg (by omega), base 17 _ (by omega) (by omega) (by omega), base 17 _ (by omega) (by omega) (by omega), base 17 _ (by omega) (by omega) (by omega)]
                  exact b2 q x hx
                · simp only [av_st]; rw [if_neg (by omega), if_neg (by omega), if_neg (by omega), base 0 26 (by omega) (by omega) (by omega)]; exact cc1
                · intro u hu
                  simp only [av_st]; rw [if_neg (by omega), if_neg (by omega), if_neg (by omega), base 18 _ (by omega) (by omega) (by omega)]; exact cc2 u hu
                · simp only [av_st]; rw [if_neg (by omega), if_neg (by omega), if_neg (by omega), base 19 0 (by omega) (by omega) (by omega)]; exact d1
                · simp only [av_st]; rw [if_neg (by omega), if_neg (by omega), if_neg (by omega), base 19 1 (by omega) (by omega) (by omega)]; exact d2
                · simp only [av_st]; rw [if_neg (by omega), if_neg (by omega), if_neg (by omega), base 19 2 (by omega) (by omega) (by omega)]; exact d3
                · simp only [av_st]; rw [if_neg (by omega), if_neg (by omega), if_neg (by omega), base 0 29 (by omega) (by omega) (by omega)]; exact ee1
              · refine I0 ?_ σ3 S23
                show (if _ then _ else none) = none
                rw [if_neg (fun z => by have := z.1.2.2; omega)]
            · rw [if_neg (fun z => c2 z.2)]
              refine ⟨by decide, fun _ => I0 ?_ σ3 S23, fun c => absurd rfl c⟩
              show (if _ then _ else none) = none
              rw [if_neg (fun z => c2 z.1.2.1)]
          · rw [if_neg (fun z => c1 z.2)]
            refine ⟨by decide, fun _ => I0 ?_ σ3 S23, fun c => absurd rfl c⟩
            show (if _ then _ else none) = none
            rw [if_neg (fun z => c1 z.1.1)]
  · rw [if_pos (show W.1.length = 8 by omega)] at I0
    exact I0 rfl σ (mSp.rf σ)
