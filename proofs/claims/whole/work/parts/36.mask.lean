-- what a reader tells
theorem mWr.congr {σ σ' : av_M} {g : gq_T} {n : Nat} (e : ∀ a b, a = 21 ∨ a = 22 → σ' a b = σ a b) : ∀ {pre : List Nat}, mWr σ g n pre → mWr σ' g n pre
  | [], h => by show σ' 22 0 = 0; rw [e 22 0 (by omega)]; exact h
  | w :: pre, h => ⟨by rw [e 21 _ (by omega)]; exact h.1, h.2.1, by rw [e 22 _ (by omega)]; exact h.2.2.1, h.2.2.2.1, mWr.congr e h.2.2.2.2⟩
theorem mIt.congr {σ σ' : av_M} {g : gq_T} {kn : Nat} {row : Nat → Int} {n kd : Nat} {Ls : List (List Nat)} (e : ∀ a b, ¬ (a = 0 ∧ 37 ≤ b ∧ b ≤ 39) → σ' a b = σ a b) (h : mIt σ g kn row n kd Ls) : mIt σ' g kn row n kd Ls := by
  obtain ⟨⟨h1, h2, h3, h4, h5, h6, h7, h8, h9⟩, hi⟩ := h
  refine ⟨⟨?_, ?_, ?_, ?_, ?_, ?_, ?_, ?_, ?_⟩, ?_⟩
  · rw [e 0 0 (by omega)]; exact h1
  · intro r hr; rw [e 1 r (by omega)]; exact h2 r hr
  · intro r i hr hi; rw [e 2 _ (by omega)]; exact h3 r i hr hi
  · intro r hr; rw [e 3 r (by omega)]; exact h4 r hr
  · intro r hr; rw [e 4 r (by omega)]; exact h5 r hr
  · rw [e 0 31 (by omega)]; exact h6
  · rw [e 0 33 (by omega)]; exact h7
  · rw [e 0 32 (by omega)]; exact h8
  · intro r hr; rw [e 20 r (by omega)]; exact h9 r hr
  · rcases hi with ⟨a, b⟩ | ⟨a, pre, w, b1, b2, ⟨c1, c2, c3⟩, d⟩
    · exact Or.inl ⟨by rw [e 0 36 (by omega)]; exact a, b⟩
    · exact Or.inr ⟨a, pre, w, b1, b2, ⟨by rw [e 0 36 (by omega)]; exact c1, by rw [e 21 _ (by omega)]; exact c2, c3.congr (fun a b h => e a b (by omega))⟩, d⟩
theorem mFd.congr {σ σ' : av_M} {g : gq_T} {x : List Nat} (e : ∀ a b, ¬ (a = 0 ∧ 37 ≤ b ∧ b ≤ 39) → σ' a b = σ a b) (h : mFd σ g x) : mFd σ' g x :=
  ⟨by rw [e 0 36 (by omega)]; exact h.1, h.2.1, h.2.2.1, fun i hi => by rw [e 21 _ (by omega)]; exact h.2.2.2.1 i hi, h.2.2.2.2⟩
theorem mT_st {σ : av_M} {k : Nat} (x : Int) (hk : 37 ≤ k ∧ k ≤ 39) : ∀ a b, ¬ (a = 0 ∧ 37 ≤ b ∧ b ≤ 39) → av_st σ 0 k x a b = σ a b := by
  intro a b h
  unfold av_st
  rw [if_neg]
  rintro ⟨rfl, rfl⟩
  omega
def gq_by (g : gq_T) (kd i : Nat) (x : List Nat) : Int := if kd = 1 then gq_wt g x else if kd = 2 then (gq_vn x : Int) else if kd = 3 then (i : Int) else 0
/-- of the first m of Ls the i-th is the one that is told -/
def gq_top (g : gq_T) (kd : Nat) (Ls : List (List Nat)) (m i : Nat) : Prop := i < m ∧ (∀ j, j < m → gq_by g kd j (Ls.getD j []) ≤ gq_by g kd i (Ls.getD i [])) ∧ ∀ j, j < i → gq_by g kd j (Ls.getD j []) < gq_by g kd i (Ls.getD i [])
theorem gq_top_uniq {g : gq_T} {kd : Nat} {Ls : List (List Nat)} {m i j : Nat} (h : gq_top g kd Ls m i) (k : gq_top g kd Ls m j) : i = j := by
  rcases Nat.lt_trichotomy i j with q | q | q
  · have := k.2.2 i q
    have := h.2.1 j k.1
    omega
  · exact q
  · have := h.2.2 j q
    have := k.2.1 i h.1
    omega
theorem gq_wt_le {g : gq_T} (V : gq_V g) : ∀ (x : List Nat), (∀ w ∈ x, w < 2 * g.1) → 0 ≤ gq_wt g x ∧ gq_wt g x ≤ 60 * (x.length : Int)
  | [], _ => by simp [gq_wt]
  | w :: x, h => by
    have ih := gq_wt_le V x (fun u hu => h u (List.mem_cons_of_mem _ hu))
    have h1 := V.2.2.2.1 (w / 2) (by have := h w List.mem_cons_self; omega)
    have e : ((w :: x).length : Int) = (x.length : Int) + 1 := by simp
    rw [gq_wt, e]
    split <;> omega
theorem s_isTelling {E : av_E} {σ : av_M} {Q : Option av_V → av_M → Prop} {g : gq_T} {kn : Nat} {row : Nat → Int} {n kd : Nat} {Ls : List (List Nat)} (V : gq_V g) (I : mIt σ g kn row n kd Ls) (few : Ls.length ≤ 10077696)
    (h0 : Ls = [] → ∀ σ', mS2 σ σ' → Q (some (av_i 0)) σ') (h1 : ∀ i, gq_top g kd Ls Ls.length i → ∀ σ', mS2 σ σ' → σ' 0 37 = (i : Int) → σ' 0 38 = gq_wt g (Ls.getD i []) → σ' 0 39 = (gq_vs g (Ls.getD i []) 0 : Int) → Q (some (av_i 1)) σ') : av_C E mSH mX5_isTelling [av_r 0] σ Q := by
  apply uX5_isTelling
  have key : ∀ (rest : List (List Nat)) (m : Nat) (x1 : Int) (σ' : av_M), Ls.drop m = rest → m ≤ Ls.length → mS2 σ σ' → mIt σ' g kn row n kd rest →
      (m = 0 ∧ x1 = -1 ∨ ∃ i, gq_top g kd Ls m i ∧ x1 = gq_by g kd i (Ls.getD i []) ∧ σ' 0 37 = (i : Int) ∧ σ' 0 38 = gq_wt g (Ls.getD i []) ∧ σ' 0 39 = (gq_vs g (Ls.getD i []) 0 : Int)) → (-1 ≤ x1 ∧ x1 < 20000000) →
      av_W E mSH mX5_isTelling 10 [some (av_r 0), some (av_i x1), some (av_i (m : Int)), none] [] σ' Q := by
    intro rest
    induction rest with
    | nil =>
      intro m x1 σ' hd hm S I' B hx
      have hml : m = Ls.length := by
        have := congrArg List.length hd
        rw [List.length_drop] at this
        simp at this
        omega
      apply uX5_isTelling_10
      refine s_isNext I' (fun _ σ'' S'' I'' => ⟨_, rfl, by decide, fun _ => ⟨by omega, fun c => ?_, fun c => ?_⟩, fun c => absurd rfl c⟩) (fun x xs e => by cases e)
      · have hL : Ls = [] := List.eq_nil_of_length_eq_zero (by omega)
        exact h0 hL σ'' (S.tr S''.s2)
      · rcases B with ⟨q, -⟩ | ⟨i, b1, b2, b3, b4, b5⟩
        · omega
        · rw [hml] at b1
          exact h1 i b1 σ'' (S.tr S''.s2) (by rw [S'' 0 37 (by omega) (by omega) (by omega)]; exact b3) (by rw [S'' 0 38 (by omega) (by omega) (by omega)]; exact b4) (by rw [S'' 0 39 (by omega) (by omega) (by omega)]; exact b5)
    | cons y ys ih =>
      intro m x1 σ' hd hm S I' B hx
      have hml : m < Ls.length := by
        have := congrArg List.length hd
        rw [List.length_drop] at this
        simp at this
        omega
      have hy : Ls.getD m [] = y := by
        rw [List.drop_eq_getElem_cons hml] at hd
        cases hd
        rw [List.getD_eq_getElem?_getD, List.getElem?_eq_getElem hml]
        rfl
      have hys : Ls.drop (m + 1) = ys := by
        rw [List.drop_eq_getElem_cons hml] at hd
        cases hd
        rfl
      apply uX5_isTelling_10
      refine s_isNext I' (fun e => by cases e) (fun z zs e σ'' S'' I'' H => ⟨_, rfl, by decide, fun c => absurd c (by decide), fun _ => ?_⟩)
      cases e
      obtain ⟨⟨f1, f1'⟩, f2, f3, f4, f5, f6, ⟨f7, f7'⟩, f8, f9⟩ := id I''.1
      have e3 : (m : Int) + 1 = ((m + 1 : Nat) : Int) := by omega
      have hwt := gq_wt_le V y H.2.2.2.2
      have hvn := gq_vn_le y
      have hlen := H.2.2.1
      -- it isn't better
      have stay : gq_by g kd m y ≤ x1 → av_W E mSH mX5_isTelling 10 [some (av_r 0), some (av_i x1), some (av_i ((m + 1 : Nat) : Int)), none] [] σ'' Q := by
        intro hle
        refine ih (m + 1) x1 σ'' hys (by omega) (S.tr S''.s2) I'' (Or.inr ?_) hx
        rcases B with ⟨q, q2⟩ | ⟨i, ⟨b1, b1', b1''⟩, b2, b3, b4, b5⟩
        · exfalso
          have : 0 ≤ gq_by g kd m y := by unfold gq_by; split; omega; split; omega; split <;> omega
          omega
        · refine ⟨i, ⟨by omega, fun j hj => ?_, b1''⟩, b2, by rw [S'' 0 37 (by omega) (by omega) (by omega)]; exact b3, by rw [S'' 0 38 (by omega) (by omega) (by omega)]; exact b4, by rw [S'' 0 39 (by omega) (by omega) (by omega)]; exact b5⟩
          by_cases hjm : j = m
          · rw [hjm, hy, ← b2]; exact hle
          · exact b1' j (by omega)
      -- it is
      have better : ∀ b : Int, b = gq_by g kd m y → x1 < b → av_C E mSH mX5_weighs [av_r 0] (av_st σ'' 0 37 (m : Int)) (fun v s2 => ∃ r2 : Int, v = some (av_i r2) ∧ (av_C E mSH mX5_verbs [av_r 0] (av_st s2 0 38 r2) (fun v s3 => ∃ r3 : Int, v = some (av_i r3) ∧ (av_W E mSH mX5_isTelling 10 [some (av_r 0), some (av_i b), some (av_i ((m + 1 : Nat) : Int)), none] [] (av_st s3 0 39 r3) Q)))) := by
        intro b hb hlt
        refine s_weighs (H.congr (mT_st _ (by omega))) f1' (fun r hr => by rw [mT_st _ (by omega) 3 r (by omega)]; exact (f4 r hr).1) ⟨_, rfl, ?_⟩
        have c2 : ∀ a b, ¬ (a = 0 ∧ 37 ≤ b ∧ b ≤ 39) → av_st (av_st σ'' 0 37 (m : Int)) 0 38 (gq_wt g y) a b = σ'' a b := fun a b h => by rw [mT_st _ (by omega) a b h, mT_st _ (by omega) a b h]
        refine s_verbs (H.congr c2) f1' (fun r hr => by rw [c2 4 r (by omega)]; exact f5 r hr) ⟨_, rfl, ?_⟩
        have c3 : ∀ a b, ¬ (a = 0 ∧ 37 ≤ b ∧ b ≤ 39) → av_st (av_st (av_st σ'' 0 37 (m : Int)) 0 38 (gq_wt g y)) 0 39 (gq_vs g y 0 : Nat) a b = σ'' a b := fun a b h => by rw [mT_st _ (by omega) a b h, c2 a b h]
        refine ih (m + 1) b _ hys (by omega) ((((S.tr S''.s2).st _ (by omega)).st _ (by omega)).st _ (by omega)) (I''.congr c3) (Or.inr ⟨m, ⟨by omega, fun j hj => ?_, fun j hj => ?_⟩, by rw [hy]; exact hb, by simp [av_st], by rw [hy]; simp [av_st], by rw [hy]; simp [av_st]⟩) ?_
        · rw [hy]
          by_cases hjm : j = m
          · rw [hjm, hy]; exact Int.le_refl _
          · rcases B with ⟨q, q2⟩ | ⟨i, ⟨b1, b1', b1''⟩, b2, -⟩
            · omega
            · have := b1' j (by omega)
              omega
        · rw [hy]
          rcases B with ⟨q, q2⟩ | ⟨i, ⟨b1, b1', b1''⟩, b2, -⟩
          · omega
          · have := b1' j (by omega)
            omega
        · rw [hb]
          unfold gq_by
          split
          · omega
          · split
            · omega
            · split <;> omega
      rw [f7, e3]
      refine ⟨by omega, fun c1 => ⟨by omega, fun c2 => ⟨by omega, fun c3 => ⟨by omega, fun c => ?_, fun c => ?_⟩, fun c3 => ⟨by omega, by omega, fun c => ?_, fun c => ?_⟩⟩, fun c2 => ?_⟩, fun c1 => ?_⟩
      · refine stay ?_
        unfold gq_by
        rw [if_neg (by omega), if_neg (by omega), if_neg (by omega)]
        exact c
      · refine better 0 ?_ c
        unfold gq_by
        rw [if_neg (by omega), if_neg (by omega), if_neg (by omega)]
      · refine stay ?_
        unfold gq_by
        rw [if_neg (by omega), if_neg (by omega), if_pos (by omega)]
        exact c
      · refine better (m : Int) ?_ c
        unfold gq_by
        rw [if_neg (by omega), if_neg (by omega), if_pos (by omega)]
      · refine s_verbsIn H.1 H.2.2.1 H.2.2.2.1 (fun w hw => by have := H.2.2.2.2 w hw; omega) ⟨_, rfl, by omega, by omega, fun c => ?_, fun c => ?_⟩
        · refine stay ?_
          unfold gq_by
          rw [if_neg (by omega), if_pos (by omega)]
          exact c
        · refine better _ ?_ c
          unfold gq_by
          rw [if_neg (by omega), if_pos (by omega)]
      · refine s_weighs H f1' (fun r hr => (f4 r hr).1) ⟨_, rfl, by omega, by omega, fun c => ?_, fun c => ?_⟩
        · refine stay ?_
          unfold gq_by
          rw [if_pos (by omega)]
          exact c
        · refine better _ ?_ c
          unfold gq_by
          rw [if_pos (by omega)]
  exact key Ls 0 (-1) _ rfl (Nat.zero_le _) ((mS2.rf σ).st _ (by omega)) (I.congr (mT_st _ (by omega))) (Or.inl ⟨rfl, rfl⟩) (by omega)
