-- a reading in the model's words
def mHas (σ : av_M) (L : List Nat) : Prop := ∀ (i : Nat) (h : i < L.length), σ 21 i = ((L[i] : Nat) : Int)
def gq_vn : List Nat → Nat
  | [] => 0
  | w :: l => w % 2 + gq_vn l
theorem gq_vn_app : ∀ (a b : List Nat), gq_vn (a ++ b) = gq_vn a + gq_vn b
  | [], b => by simp [gq_vn]
  | w :: a, b => by
    show w % 2 + gq_vn (a ++ b) = _
    rw [gq_vn_app a b]
    show _ = (w % 2 + gq_vn a) + gq_vn b
    omega
theorem gq_vn_le : ∀ (a : List Nat), gq_vn a ≤ a.length
  | [] => Nat.le_refl _
  | w :: a => by
    have := gq_vn_le a
    show w % 2 + gq_vn a ≤ a.length + 1
    omega
theorem l_verbsIn {E : av_E} {σ : av_M} {Q : Option av_V → av_M → Prop} {L : List Nat} (hd : σ 0 36 = (L.length : Int) - 1) (h9 : L.length ≤ 9) (hL : mHas σ L) (hb : ∀ w ∈ L, w < 16) (hQ : Q (some (av_i (gq_vn L : Nat))) σ) :
    ∀ (k i : Nat) (x : Int), L.length - i = k → i ≤ L.length → x + (gq_vn (L.drop i) : Int) = (gq_vn L : Int) → av_W E mSH mX5_verbsIn 4 [some (av_r 0), some (av_i x), some (av_i (i : Int))] [] σ Q := by
  intro k
  induction k with
  | zero =>
    intro i x hk hi hx
    apply uX5_verbsIn_4
    rw [hd]
    refine ⟨by omega, by omega, fun c => ?_, fun c => by omega⟩
    rw [show L.drop i = [] from List.drop_eq_nil_of_le (by omega)] at hx
    have : x = (gq_vn L : Nat) := by simpa [gq_vn] using hx
    rw [this]
    exact hQ
  | succ k ih =>
    intro i x hk hi hx
    have hil : i < L.length := by omega
    apply uX5_verbsIn_4
    rw [Int.toNat_natCast, hd, hL i hil]
    have hw := hb _ (List.getElem_mem hil)
    refine ⟨by omega, by omega, fun c => by omega, fun c => ⟨by omega, by omega, ?_⟩⟩
    have e : (i : Int) + 1 = ((i + 1 : Nat) : Int) := by omega
    rw [e]
    refine ih (i + 1) _ (by omega) (by omega) ?_
    rw [List.drop_eq_getElem_cons hil] at hx
    have : gq_vn (L[i] :: L.drop (i + 1)) = L[i] % 2 + gq_vn (L.drop (i + 1)) := rfl
    rw [this] at hx
    omega
theorem s_verbsIn {E : av_E} {σ : av_M} {Q : Option av_V → av_M → Prop} {L : List Nat} (hd : σ 0 36 = (L.length : Int) - 1) (h9 : L.length ≤ 9) (hL : mHas σ L) (hb : ∀ w ∈ L, w < 16) (hQ : Q (some (av_i (gq_vn L : Nat))) σ) : av_C E mSH mX5_verbsIn [av_r 0] σ Q := by
  apply uX5_verbsIn
  exact l_verbsIn hd h9 hL hb hQ _ 0 0 rfl (Nat.zero_le _) (by simp)
/-- the search's lower places -/
def mWr (σ : av_M) (g : gq_T) (n : Nat) : List Nat → Prop
  | [] => σ 22 0 = 0
  | w :: pre => σ 21 pre.length = (w : Int) ∧ w < 2 * g.1 ∧ σ 22 (pre.length + 1) = (gq_pl g (w :: pre) : Int) ∧ gq_pl g (w :: pre) < n ∧ mWr σ g n pre
/-- the search stands at its head: above pre, with word w there -/
def mAt (σ : av_M) (g : gq_T) (n : Nat) (pre : List Nat) (w : Int) : Prop := σ 0 36 = (pre.length : Int) ∧ σ 21 pre.length = w ∧ mWr σ g n pre
theorem mWr.pl {σ : av_M} {g : gq_T} {n : Nat} : ∀ {pre : List Nat}, mWr σ g n pre → σ 22 pre.length = (gq_pl g pre : Int)
  | [], h => h
  | _ :: _, h => h.2.2.1
theorem mWr.lt {σ : av_M} {g : gq_T} {n : Nat} (hn : 0 < n) : ∀ {pre : List Nat}, mWr σ g n pre → gq_pl g pre < n
  | [], _ => hn
  | _ :: _, h => h.2.2.2.1
theorem mWr.len {σ : av_M} {g : gq_T} {n : Nat} (hm : ∀ r, r < g.1 → 0 < g.2.1 r) : ∀ {pre : List Nat}, mWr σ g n pre → pre.length ≤ gq_pl g pre
  | [], _ => Nat.le_refl _
  | w :: pre, h => by
    have h1 := mWr.len hm h.2.2.2.2
    have h2 := hm (w / 2) (by have := h.2.1; omega)
    show pre.length + 1 ≤ gq_pl g pre + g.2.1 (w / 2)
    omega
theorem mWr.st {σ : av_M} {g : gq_T} {n : Nat} {c k : Nat} {x : Int} : ∀ {pre : List Nat}, mWr σ g n pre → (c = 21 ∧ pre.length ≤ k ∨ c = 22 ∧ pre.length < k ∨ c = 0) → mWr (av_st σ c k x) g n pre
  | [], h, hc => by
    show av_st σ c k x 22 0 = 0
    unfold av_st
    rw [if_neg]
    · exact h
    · rintro ⟨rfl, rfl⟩
      simp at hc
  | w :: pre, h, hc => by
    obtain ⟨h1, h2, h3, h4, h5⟩ := h
    have hl : (w :: pre).length = pre.length + 1 := rfl
    rw [hl] at hc
    refine ⟨?_, h2, ?_, h4, mWr.st h5 (by omega)⟩
    · unfold av_st
      rw [if_neg]
      · exact h1
      · rintro ⟨rfl, rfl⟩
        omega
    · unfold av_st
      rw [if_neg]
      · exact h3
      · rintro ⟨rfl, rfl⟩
        omega
theorem mWr.has {σ : av_M} {g : gq_T} {n : Nat} : ∀ {pre : List Nat}, mWr σ g n pre → mHas σ pre.reverse
  | [], _ => fun i h => by simp at h
  | w :: pre, h => by
    intro i hi
    have hr : (w :: pre).reverse = pre.reverse ++ [w] := List.reverse_cons
    by_cases hip : i < pre.length
    · have := mWr.has h.2.2.2.2 i (by rw [List.length_reverse]; exact hip)
      rw [this]
      congr 1
      simp only [hr]
      rw [List.getElem_append_left (by rw [List.length_reverse]; exact hip)]
    · have hil : i = pre.length := by
        have : i < (w :: pre).reverse.length := hi
        rw [List.length_reverse] at this
        simp at this
        omega
      subst hil
      rw [h.1]
      congr 1
      simp only [hr]
      rw [List.getElem_append_right (by rw [List.length_reverse]; exact Nat.le_refl _)]
      simp
theorem mWr.lt2 {σ : av_M} {g : gq_T} {n : Nat} : ∀ {pre : List Nat}, mWr σ g n pre → ∀ w ∈ pre, w < 2 * g.1
  | [], _, w, hw => by cases hw
  | u :: pre, h, w, hw => by
    rcases List.mem_cons.mp hw with rfl | hw
    · exact h.2.1
    · exact mWr.lt2 h.2.2.2.2 w hw
theorem gq_sg_vn : ∀ (pre : List Nat), gq_sg pre = 0 ↔ gq_vn pre = 0
  | [] => by simp [gq_sg, gq_vn]
  | w :: pre => by
    have ih := gq_sg_vn pre
    show gq_nx (gq_sg pre) w = 0 ↔ w % 2 + gq_vn pre = 0
    unfold gq_nx
    by_cases h : w % 2 = 1
    · rw [if_pos h]
      omega
    · rw [if_neg h]
      by_cases h2 : gq_sg pre = 0
      · rw [if_pos h2]
        omega
      · rw [if_neg h2]
        omega
theorem gq_vn_rev (l : List Nat) : gq_vn l.reverse = gq_vn l := by
  induction l with
  | nil => rfl
  | cons w l ih =>
    rw [List.reverse_cons, gq_vn_app, ih]
    show gq_vn l + (w % 2 + 0) = w % 2 + gq_vn l
    omega
theorem gq_sg_2 (w : Nat) (pre : List Nat) : gq_sg (w :: pre) = 2 ↔ w % 2 = 1 := by
  show gq_nx (gq_sg pre) w = 2 ↔ _
  unfold gq_nx
  by_cases h : w % 2 = 1
  · simp [h]
  · rw [if_neg h]
    split <;> omega
/-- what isNext does, from its head on -/
theorem n_isNext {E : av_E} {Q : Option av_V → av_M → Prop} {g : gq_T} {kn : Nat} {row : Nat → Int} {n kd : Nat} (hn : 0 < n) :
    ∀ (q : Nat) (pre : List Nat), n - gq_pl g pre = q → ∀ (j : Nat) (w : Int) (σ : av_M), 2 * (g.1 : Int) - (w + 1) = (j : Int) → -1 ≤ w → mSF σ g kn row n kd → mAt σ g n pre w →
      (gq_op g (mkw kn kd) row n (macc kd) pre (w + 1).toNat = [] → ∀ σ' : av_M, mSm σ σ' → (match pre with | [] => σ' 0 36 = -1 | u :: pre' => mAt σ' g n pre' u) → av_W E mSH mX5_isNext 0 [some (av_r 0), none] [] σ' Q) →
      (∀ x xs, gq_op g (mkw kn kd) row n (macc kd) pre (w + 1).toNat = x :: xs → ∀ (σ' : av_M) (pre2 : List Nat) (w2 : Nat), mSm σ σ' → mAt σ' g n pre2 w2 → w2 < 2 * g.1 → gq_pl g (w2 :: pre2) = n → (w2 :: pre2).reverse = x →
        gq_op g (mkw kn kd) row n (macc kd) pre2 (w2 + 1) ++ gq_rem g (mkw kn kd) row n (macc kd) pre2 = xs ++ gq_rem g (mkw kn kd) row n (macc kd) pre → Q (some (av_i 1)) σ') →
      av_W E mSH mX5_isNext 0 [some (av_r 0), none] [] σ Q := by
  intro q
  induction q using Nat.strongRecOn with
  | _ q IH =>
  intro pre hq j
  induction j with
  | zero =>
    intro w σ hj hw F A h0 h1
    obtain ⟨a1, a2, a3⟩ := A
    obtain ⟨⟨f1, f1'⟩, f2, -, -, -, ⟨f6, f6'⟩, -⟩ := id F
    have hm : ∀ r, r < g.1 → 0 < g.2.1 r := fun r hr => (f2 r hr).2.1
    have hlen := mWr.len hm a3
    have hlt := mWr.lt hn a3
    apply uX5_isNext_0
    rw [a1, Int.toNat_natCast, a2, f1]
    refine ⟨by omega, fun c => by omega, fun c => ⟨by omega, by omega, by omega, by omega, by omega, fun c => by omega, fun c => ?_⟩⟩
    refine h0 (gq_op_end (by omega)) _ (((mSm.rf σ).st _ (Or.inl rfl)).st _ (Or.inr (Or.inr ⟨rfl, rfl⟩))) ?_
    cases pre with
    | nil => simp [av_st]
    | cons u pre =>
      obtain ⟨b1, b2, b3, b4, b5⟩ := a3
      refine ⟨?_, ?_, ?_⟩
      · simp [av_st]
      · have : ¬ (pre.length = (u :: pre).length) := by simp
        simp [av_st, b1]
      · refine (b5.st (Or.inl ⟨rfl, ?_⟩)).st (Or.inr (Or.inr rfl))
        simp
  | succ j ih =>
    intro w σ hj hw F A h0 h1
    obtain ⟨a1, a2, a3⟩ := A
    obtain ⟨⟨f1, f1'⟩, f2, -, -, -, ⟨f6, f6'⟩, ⟨f7, f7'⟩, -⟩ := id F
    have hm : ∀ r, r < g.1 → 0 < g.2.1 r := fun r hr => (f2 r hr).2.1
    have hlen := mWr.len hm a3
    have hlt := mWr.lt hn a3
    have hpl := mWr.pl a3
    obtain ⟨v, hv⟩ : ∃ v : Nat, w + 1 = (v : Int) := ⟨(w + 1).toNat, by omega⟩
    have hv2 : v < 2 * g.1 := by omega
    have ev : (w + 1).toNat = v := by omega
    rw [ev, gq_op_step hv2] at h0
    rw [ev, gq_op_step hv2] at h1
    apply uX5_isNext_0
    rw [a1, Int.toNat_natCast, a2, f1, hv]
    refine ⟨by omega, fun c => by omega, fun c => ⟨by omega, by omega, by omega, by omega, by omega, fun c => ?_, fun c => by omega⟩⟩
    -- the memory with the new word
    have S1 : mSm σ (av_st σ 21 pre.length (v : Int)) := (mSm.rf σ).st _ (Or.inl rfl)
    have F1 := F.sm S1
    have A1 : mAt (av_st σ 21 pre.length (v : Int)) g n pre (v : Int) := ⟨by simp [av_st, a1], by simp [av_st], a3.st (Or.inl ⟨rfl, Nat.le_refl _⟩)⟩
    have hnext : ∀ σ' : av_M, mSm σ σ' → mSF σ' g kn row n kd → mAt σ' g n pre (v : Int) → gq_o1 g (mkw kn kd) row n (macc kd) pre v = [] → av_W E mSH mX5_isNext 0 [some (av_r 0), none] [] σ' Q := by
      intro σ' S' F' A' ho
      rw [ho, List.nil_append] at h0
      rw [ho] at h1
      have ev2 : ((v : Int) + 1).toNat = v + 1 := by omega
      refine ih (v : Int) σ' (by omega) (by omega) F' A' ?_ ?_
      · rw [ev2]
        intro he σ'' S'' H''
        exact h0 he σ'' (fun a b x y z => (S'' a b x y z).trans (S' a b x y z)) H''
      · rw [ev2]
        intro x xs he σ'' pre2 w2 S''
        exact h1 x xs (by rw [List.nil_append]; exact he) σ'' pre2 w2 (fun a b x y z => (S'' a b x y z).trans (S' a b x y z))
    have hstage : if pre.length = 0 then gq_sg pre ≠ 2 else ∃ u : Nat, (av_st σ 21 pre.length (v : Int)) 21 (pre.length - 1) = (u : Int) ∧ u < 16 ∧ (gq_sg pre = 2 ↔ u % 2 = 1) := by
      cases pre with
      | nil => simp [gq_sg]
      | cons u pre =>
        rw [if_neg (by simp)]
        refine ⟨u, ?_, ?_, gq_sg_2 u pre⟩
        · have := A1.2.2.1
          simpa using this
        · have := A1.2.2.2.1
          omega
    refine s_fits (s := gq_sg pre) F1 A1.1 (by omega) A1.2.1 hv2 (A1.2.2.pl) (by omega) hstage ⟨_, rfl, ?_⟩
    by_cases ho : gq_ok g (mkw kn kd) row n (gq_pl g pre) (gq_sg pre) v = true
    · rw [if_pos ho]
      have hle := gq_ok_le ho
      refine ⟨by decide, fun c => absurd c (by decide), fun _ => ?_⟩
      rw [A1.1, Int.toNat_natCast, A1.2.1, A1.2.2.pl]
      have e2 : ((v : Int) / 2).toNat = v / 2 := by omega
      obtain ⟨⟨F1a, -⟩, F1b, -, -, -, ⟨F1c, -⟩, ⟨F1d, -⟩, -⟩ := id F1
      rw [e2, (F1b (v / 2) (by omega)).1, F1c, F1d]
      have hmv := F1b (v / 2) (by omega)
      have hpl2 : gq_pl g (v :: pre) = gq_pl g pre + g.2.1 (v / 2) := rfl
      refine ⟨by omega, by omega, by omega, by omega, by omega, by omega, fun c => ?_, fun c => ?_⟩
      · -- the end of the row
        have hend : gq_pl g (v :: pre) = n := by omega
        have ho1 : gq_o1 g (mkw kn kd) row n (macc kd) pre v = if macc kd (gq_sg (v :: pre)) = true then [(v :: pre).reverse] else [] := by
          unfold gq_o1
          rw [if_pos ho, hend, gq_rd_n]
          split <;> simp
        have found : macc kd (gq_sg (v :: pre)) = true → Q (some (av_i 1)) (av_st σ 21 pre.length (v : Int)) := by
          intro hacc
          rw [ho1, if_pos hacc] at h1
          exact h1 _ _ rfl _ pre v S1 A1 hv2 hend rfl rfl
        have lost : macc kd (gq_sg (v :: pre)) = false → av_W E mSH mX5_isNext 0 [some (av_r 0), none] [] (av_st σ 21 pre.length (v : Int)) Q := by
          intro hacc
          refine hnext _ S1 F1 A1 ?_
          rw [ho1, hacc]
          rfl
        refine ⟨by omega, fun c1 => ⟨by omega, fun c2 => ?_, fun c2 => ?_⟩, fun c1 => ?_⟩
        · refine found ?_
          have k2 : ¬ kd = 2 := by omega
          have k4 : ¬ kd = 4 := by omega
          simp [macc, k2, k4]
        · have k2 : ¬ kd = 2 := by omega
          have k4 : kd = 4 := by omega
          refine s_isVerb (w := v) (by omega) A1.2.1 (by omega) ⟨_, rfl, ?_⟩
          by_cases hvb : v % 2 = 1
          · rw [if_pos hvb]
            refine ⟨by decide, fun c => absurd c (by decide), fun _ => found ?_⟩
            simp [macc, k4, (gq_sg_2 v pre).mpr hvb]
          · rw [if_neg hvb]
            refine ⟨by decide, fun _ => lost ?_, fun c => absurd rfl c⟩
            have : ¬ gq_sg (v :: pre) = 2 := fun z => hvb ((gq_sg_2 v pre).mp z)
            simp [macc, k4, this]
        · have k2 : kd = 2 := by omega
          have hH : mHas (av_st σ 21 pre.length (v : Int)) (v :: pre).reverse := by
            intro i hi
            have hr : (v :: pre).reverse = pre.reverse ++ [v] := List.reverse_cons
            by_cases hip : i < pre.length
            · have := A1.2.2.has i (by rw [List.length_reverse]; exact hip)
              rw [this]
              congr 1
              simp only [hr]
              rw [List.getElem_append_left (by rw [List.length_reverse]; exact hip)]
            · have hil : i = pre.length := by
                have : i < (v :: pre).reverse.length := hi
                rw [List.length_reverse] at this
                simp at this
                omega
              subst hil
              rw [A1.2.1]
              congr 1
              simp only [hr]
              rw [List.getElem_append_right (by rw [List.length_reverse]; exact Nat.le_refl _)]
              simp
          refine s_verbsIn (L := (v :: pre).reverse) (by rw [A1.1, List.length_reverse]; simp) (by rw [List.length_reverse]; simp; omega) hH (fun u hu => ?_) ⟨_, rfl, ?_⟩
          · rcases List.mem_cons.mp (List.mem_reverse.mp hu) with rfl | hu
            · omega
            · have := mWr.lt2 a3 u hu
              omega
          · rw [gq_vn_rev]
            have hz := gq_sg_vn (v :: pre)
            have hl := gq_vn_le (v :: pre)
            have hl2 : (v :: pre).length = pre.length + 1 := rfl
            refine ⟨by omega, fun c => lost ?_, fun c => found ?_⟩
            · have : gq_sg (v :: pre) = 0 := hz.mpr (by omega)
              simp [macc, k2, this]
            · have : ¬ gq_sg (v :: pre) = 0 := fun z => by have := hz.mp z; omega
              simp [macc, k2, this]
      · -- one place deeper
        have e3 : ((pre.length : Int) + 1).toNat = pre.length + 1 := by omega
        have e4 : (gq_pl g pre : Int) + (g.2.1 (v / 2) : Int) = (gq_pl g (v :: pre) : Int) := by rw [hpl2]; omega
        rw [e3, e4]
        refine ⟨by omega, by omega, ?_⟩
        have hlt2 : gq_pl g (v :: pre) < n := by omega
        have S2 : mSm σ (av_st (av_st (av_st (av_st σ 21 pre.length (v : Int)) 0 36 ((pre.length : Int) + 1)) 22 (pre.length + 1) (gq_pl g (v :: pre) : Int)) 21 (pre.length + 1) (-1)) :=
          ((S1.st _ (Or.inr (Or.inr ⟨rfl, rfl⟩))).st _ (Or.inr (Or.inl rfl))).st _ (Or.inl rfl)
        have A2 : mAt (av_st (av_st (av_st (av_st σ 21 pre.length (v : Int)) 0 36 ((pre.length : Int) + 1)) 22 (pre.length + 1) (gq_pl g (v :: pre) : Int)) 21 (pre.length + 1) (-1)) g n (v :: pre) (-1) := by
          refine ⟨by simp [av_st], by simp [av_st], by simp [av_st], hv2, by simp [av_st], hlt2, ?_⟩
          exact ((A1.2.2.st (Or.inr (Or.inr rfl))).st (Or.inr (Or.inl ⟨rfl, Nat.lt_succ_self _⟩))).st (Or.inl ⟨rfl, Nat.le_succ _⟩)
        have ho1 : gq_op g (mkw kn kd) row n (macc kd) (v :: pre) 0 = gq_o1 g (mkw kn kd) row n (macc kd) pre v := by
          rw [gq_op_0 hm hlt2]
          unfold gq_o1
          rw [if_pos ho]
        have h2 := f2 (v / 2) (by omega)
        refine IH (n - gq_pl g (v :: pre)) (by omega) (v :: pre) rfl (2 * g.1) (-1) _ (by omega) (by omega) (F.sm S2) A2 ?_ ?_
        · intro he σ' S' A'
          have he' : gq_op g (mkw kn kd) row n (macc kd) (v :: pre) 0 = [] := he
          rw [ho1] at he'
          have S'' : mSm σ σ' := fun a b x y z => (S' a b x y z).trans (S2 a b x y z)
          exact hnext σ' S'' (F.sm S'') A' he'
        · intro x xs he σ' pre2 w2 S' A' hw2 hp2 hx hrest
          have he' : gq_op g (mkw kn kd) row n (macc kd) (v :: pre) 0 = x :: xs := he
          rw [ho1] at he'
          rw [he'] at h1
          have S'' : mSm σ σ' := fun a b x y z => (S' a b x y z).trans (S2 a b x y z)
          refine h1 x (xs ++ gq_op g (mkw kn kd) row n (macc kd) pre (v + 1)) rfl σ' pre2 w2 S'' A' hw2 hp2 hx ?_
          rw [hrest, List.append_assoc]
          rfl
    · rw [if_neg ho]
      refine ⟨by decide, fun _ => ?_, fun c => absurd rfl c⟩
      refine hnext _ S1 F1 A1 ?_
      unfold gq_o1
      rw [if_neg ho]
