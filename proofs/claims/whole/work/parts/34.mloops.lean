theorem n_next {E : av_E} {Q : Option av_V → av_M → Prop} {g : gq_T} {kn : Nat} {row : Nat → Int} {n kd : Nat} (hn : 0 < n) :
    ∀ (pre : List Nat) (w : Int) (σ : av_M), -1 ≤ w → w < 2 * (g.1 : Int) → mSF σ g kn row n kd → mAt σ g n pre w →
      (gq_op g (mkw kn kd) row n (macc kd) pre (w + 1).toNat ++ gq_rem g (mkw kn kd) row n (macc kd) pre = [] → ∀ σ' : av_M, mSm σ σ' → σ' 0 36 = -1 → Q (some (av_i 0)) σ') →
      (∀ x xs, gq_op g (mkw kn kd) row n (macc kd) pre (w + 1).toNat ++ gq_rem g (mkw kn kd) row n (macc kd) pre = x :: xs → ∀ (σ' : av_M) (pre2 : List Nat) (w2 : Nat), mSm σ σ' → mAt σ' g n pre2 w2 → w2 < 2 * g.1 → gq_pl g (w2 :: pre2) = n → (w2 :: pre2).reverse = x →
        gq_op g (mkw kn kd) row n (macc kd) pre2 (w2 + 1) ++ gq_rem g (mkw kn kd) row n (macc kd) pre2 = xs → Q (some (av_i 1)) σ') →
      av_W E mSH mX5_isNext 0 [some (av_r 0), none] [] σ Q := by
  intro pre
  induction pre with
  | nil =>
    intro w σ hw hw2 F A h0 h1
    refine n_isNext hn _ [] rfl (2 * (g.1 : Int) - (w + 1)).toNat w σ (by omega) hw F A ?_ ?_
    · intro he σ' S' H'
      have H2 : σ' 0 36 = -1 := H'
      apply uX5_isNext_0
      rw [H2]
      exact ⟨by decide, fun _ => h0 (by rw [he]; rfl) σ' S' H2, fun c => absurd c (by decide)⟩
    · intro x xs he σ' pre2 w2 S' A' b1 b2 b3 b4
      exact h1 x xs (by rw [he]; simp [gq_rem]) σ' pre2 w2 S' A' b1 b2 b3 (by rw [b4]; simp [gq_rem])
  | cons u pre ih =>
    intro w σ hw hw2 F A h0 h1
    refine n_isNext hn _ (u :: pre) rfl (2 * (g.1 : Int) - (w + 1)).toNat w σ (by omega) hw F A ?_ ?_
    · intro he σ' S' H'
      have H2 : mAt σ' g n pre u := H'
      rw [he, List.nil_append] at h0 h1
      have eu : ((u : Int) + 1).toNat = u + 1 := by omega
      refine ih (u : Int) σ' (by omega) (by have := A.2.2.2.1; omega) (F.sm S') H2 ?_ ?_
      · rw [eu]
        intro he2 σ'' S'' hd
        exact h0 he2 σ'' (fun a b x y z => (S'' a b x y z).trans (S' a b x y z)) hd
      · rw [eu]
        intro x xs he2 σ'' pre2 w2 S''
        exact h1 x xs he2 σ'' pre2 w2 (fun a b x y z => (S'' a b x y z).trans (S' a b x y z))
    · intro x xs he σ' pre2 w2 S' A' b1 b2 b3 b4
      exact h1 x (xs ++ gq_rem g (mkw kn kd) row n (macc kd) (u :: pre)) (by rw [he]; rfl) σ' pre2 w2 S' A' b1 b2 b3 b4
/-- the search stands with the readings Ls still to come -/
def mIt (σ : av_M) (g : gq_T) (kn : Nat) (row : Nat → Int) (n kd : Nat) (Ls : List (List Nat)) : Prop :=
  mSF σ g kn row n kd ∧ ((σ 0 36 = -1 ∧ Ls = []) ∨ (0 < n ∧ ∃ (pre : List Nat) (w : Int), -1 ≤ w ∧ w < 2 * (g.1 : Int) ∧ mAt σ g n pre w ∧ gq_op g (mkw kn kd) row n (macc kd) pre (w + 1).toNat ++ gq_rem g (mkw kn kd) row n (macc kd) pre = Ls))
/-- the search has found the reading x -/
def mFd (σ : av_M) (g : gq_T) (x : List Nat) : Prop := σ 0 36 = (x.length : Int) - 1 ∧ 1 ≤ x.length ∧ x.length ≤ 9 ∧ mHas σ x ∧ ∀ w ∈ x, w < 2 * g.1
theorem mFd.of {σ : av_M} {g : gq_T} {n : Nat} {pre : List Nat} {w : Nat} (hn : 0 < n) (hn9 : n ≤ 9) (hm : ∀ r, r < g.1 → 0 < g.2.1 r) (A : mAt σ g n pre w) (hw : w < 2 * g.1) : mFd σ g (w :: pre).reverse := by
  have hlen := mWr.len hm A.2.2
  have hlt := mWr.lt hn A.2.2
  refine ⟨?_, ?_, ?_, ?_, ?_⟩
  · rw [A.1, List.length_reverse]; simp
  · rw [List.length_reverse]; simp
  · rw [List.length_reverse]; simp; omega
  · intro i hi
    have hr : (w :: pre).reverse = pre.reverse ++ [w] := List.reverse_cons
    by_cases hip : i < pre.length
    · rw [A.2.2.has i (by rw [List.length_reverse]; exact hip)]
      congr 1
      simp only [hr]
      rw [List.getElem_append_left (by rw [List.length_reverse]; exact hip)]
    · have hil : i = pre.length := by
        have : i < (w :: pre).reverse.length := hi
        rw [List.length_reverse] at this
        simp at this
        omega
      subst hil
      rw [A.2.1]
      congr 1
      simp only [hr]
      rw [List.getElem_append_right (by rw [List.length_reverse]; exact Nat.le_refl _)]
      simp
  · intro u hu
    rcases List.mem_cons.mp (List.mem_reverse.mp hu) with rfl | hu
    · exact hw
    · exact mWr.lt2 A.2.2 u hu
theorem s_isNext {E : av_E} {σ : av_M} {Q : Option av_V → av_M → Prop} {g : gq_T} {kn : Nat} {row : Nat → Int} {n kd : Nat} {Ls : List (List Nat)} (I : mIt σ g kn row n kd Ls)
    (h0 : Ls = [] → ∀ σ', mSm σ σ' → mIt σ' g kn row n kd [] → Q (some (av_i 0)) σ') (h1 : ∀ x xs, Ls = x :: xs → ∀ σ', mSm σ σ' → mIt σ' g kn row n kd xs → mFd σ' g x → Q (some (av_i 1)) σ') : av_C E mSH mX5_isNext [av_r 0] σ Q := by
  obtain ⟨F, I⟩ := I
  apply uX5_isNext
  rcases I with ⟨hd, hL⟩ | ⟨hn, pre, w, hw, hw2, A, hL⟩
  · apply uX5_isNext_0
    rw [hd]
    exact ⟨by decide, fun _ => h0 hL σ (mSm.rf σ) ⟨F, Or.inl ⟨hd, rfl⟩⟩, fun c => absurd c (by decide)⟩
  · refine n_next hn pre w σ hw hw2 F A ?_ ?_
    · intro he σ' S' hd
      exact h0 (hL.symm.trans he) σ' S' ⟨F.sm S', Or.inl ⟨hd, rfl⟩⟩
    · intro x xs he σ' pre2 w2 S' A' b1 b2 b3 b4
      have hm : ∀ r, r < g.1 → 0 < g.2.1 r := fun r hr => (F.2.1 r hr).2.1
      have ew : ((w2 : Int) + 1).toNat = w2 + 1 := by omega
      refine h1 x xs (hL.symm.trans he) σ' S' ⟨F.sm S', Or.inr ⟨hn, pre2, (w2 : Int), by omega, by omega, A', by rw [ew]; exact b4⟩⟩ ?_
      rw [← b3]
      exact mFd.of hn F.2.2.2.2.2.1.2 hm A' b1
-- what a reading weighs and says
def gq_wt (g : gq_T) : List Nat → Int
  | [] => 0
  | w :: l => (if w % 2 = 1 then 0 else g.2.2.2.1 (w / 2)) + gq_wt g l
def gq_vs (g : gq_T) : List Nat → Nat → Nat
  | [], a => a
  | w :: l, a => gq_vs g l (if w % 2 = 1 then a ||| 2 ^ (g.2.2.2.2 (w / 2)).toNat else a)
theorem l_weighs {E : av_E} {σ : av_M} {Q : Option av_V → av_M → Prop} {g : gq_T} {L : List Nat} (hd : σ 0 36 = (L.length : Int) - 1) (h9 : L.length ≤ 9) (hL : mHas σ L) (hg : g.1 ≤ 8) (hb : ∀ w ∈ L, w < 2 * g.1) (h3 : ∀ r, r < g.1 → σ 3 r = g.2.2.2.1 r) (hQ : Q (some (av_i (gq_wt g L))) σ) :
    ∀ (k i : Nat) (x : Int), L.length - i = k → i ≤ L.length → x + gq_wt g (L.drop i) = gq_wt g L → av_W E mSH mX5_weighs 4 [some (av_r 0), some (av_i x), some (av_i (i : Int))] [] σ Q := by
  intro k
  induction k with
  | zero =>
    intro i x hk hi hx
    apply uX5_weighs_4
    rw [hd]
    refine ⟨by omega, by omega, fun c => ?_, fun c => by omega⟩
    rw [show L.drop i = [] from List.drop_eq_nil_of_le (by omega)] at hx
    have : x = gq_wt g L := by simpa [gq_wt] using hx
    rw [this]
    exact hQ
  | succ k ih =>
    intro i x hk hi hx
    have hil : i < L.length := by omega
    have hw := hb _ (List.getElem_mem hil)
    rw [List.drop_eq_getElem_cons hil] at hx
    have e : (i : Int) + 1 = ((i + 1 : Nat) : Int) := by omega
    apply uX5_weighs_4
    rw [hd]
    refine ⟨by omega, by omega, fun c => by omega, fun c => ?_⟩
    refine s_isVerb (w := L[i]) (by omega) (hL i hil) (by omega) ⟨_, rfl, ?_⟩
    rw [Int.toNat_natCast, hL i hil, e]
    by_cases ho : L[i] % 2 = 1
    · rw [if_pos ho]
      refine ⟨by decide, fun c => absurd c (by decide), fun _ => ih (i + 1) _ (by omega) (by omega) ?_⟩
      have : gq_wt g (L[i] :: L.drop (i + 1)) = 0 + gq_wt g (L.drop (i + 1)) := by rw [gq_wt, if_pos ho]
      omega
    · rw [if_neg ho]
      have e2 : ((L[i] : Nat) : Int) / 2 = ((L[i] / 2 : Nat) : Int) := by omega
      rw [e2, Int.toNat_natCast, h3 _ (by omega)]
      refine ⟨by decide, fun _ => ⟨by omega, by omega, by omega, ih (i + 1) _ (by omega) (by omega) ?_⟩, fun c => absurd rfl c⟩
      have : gq_wt g (L[i] :: L.drop (i + 1)) = g.2.2.2.1 (L[i] / 2) + gq_wt g (L.drop (i + 1)) := by rw [gq_wt, if_neg ho]
      omega
theorem s_weighs {E : av_E} {σ : av_M} {Q : Option av_V → av_M → Prop} {g : gq_T} {L : List Nat} (H : mFd σ g L) (hg : g.1 ≤ 8) (h3 : ∀ r, r < g.1 → σ 3 r = g.2.2.2.1 r) (hQ : Q (some (av_i (gq_wt g L))) σ) : av_C E mSH mX5_weighs [av_r 0] σ Q := by
  apply uX5_weighs
  exact l_weighs H.1 H.2.2.1 H.2.2.2.1 hg H.2.2.2.2 h3 hQ _ 0 0 rfl (Nat.zero_le _) (by simp)
theorem l_verbs {E : av_E} {σ : av_M} {Q : Option av_V → av_M → Prop} {g : gq_T} {L : List Nat} (hd : σ 0 36 = (L.length : Int) - 1) (h9 : L.length ≤ 9) (hL : mHas σ L) (hg : g.1 ≤ 8) (hb : ∀ w ∈ L, w < 2 * g.1) (h4 : ∀ r, r < g.1 → σ 4 r = g.2.2.2.2 r ∧ 0 ≤ g.2.2.2.2 r ∧ g.2.2.2.2 r ≤ 3) (hQ : Q (some (av_i (gq_vs g L 0 : Nat))) σ) :
    ∀ (k i : Nat) (x : Nat), L.length - i = k → i ≤ L.length → x < 16 → gq_vs g (L.drop i) x = gq_vs g L 0 → av_W E mSH mX5_verbs 4 [some (av_r 0), some (av_i (x : Int)), some (av_i (i : Int))] [] σ Q := by
  intro k
  induction k with
  | zero =>
    intro i x hk hi _ hx
    apply uX5_verbs_4
    rw [hd]
    refine ⟨by omega, by omega, fun c => ?_, fun c => by omega⟩
    rw [show L.drop i = [] from List.drop_eq_nil_of_le (by omega)] at hx
    have : x = gq_vs g L 0 := hx
    rw [this]
    exact hQ
  | succ k ih =>
    intro i x hk hi hx16 hx
    have hil : i < L.length := by omega
    have hw := hb _ (List.getElem_mem hil)
    rw [List.drop_eq_getElem_cons hil] at hx
    have e : (i : Int) + 1 = ((i + 1 : Nat) : Int) := by omega
    apply uX5_verbs_4
    rw [hd]
    refine ⟨by omega, by omega, fun c => by omega, fun c => ?_⟩
    refine s_isVerb (w := L[i]) (by omega) (hL i hil) (by omega) ⟨_, rfl, ?_⟩
    rw [Int.toNat_natCast, hL i hil, e]
    by_cases ho : L[i] % 2 = 1
    · rw [if_pos ho]
      have e2 : ((L[i] : Nat) : Int) / 2 = ((L[i] / 2 : Nat) : Int) := by omega
      obtain ⟨q1, q2, q3⟩ := h4 (L[i] / 2) (by omega)
      rw [e2, Int.toNat_natCast, q1]
      obtain ⟨v, hv⟩ := Int.eq_ofNat_of_zero_le q2
      have hv3 : v ≤ 3 := by omega
      have hp : 2 ^ v < 16 := by
        have : v = 0 ∨ v = 1 ∨ v = 2 ∨ v = 3 := by omega
        rcases this with rfl | rfl | rfl | rfl <;> decide
      have e3 : i_shl 1 (g.2.2.2.2 (L[i] / 2)) = ((2 ^ v : Nat) : Int) := by
        rw [hv]
        have := bt_shl (a := 1) (k := v) (by omega) (by omega)
        rw [Nat.one_mul] at this
        exact this
      rw [e3, bt_or (by omega) (by omega)]
      refine ⟨by decide, fun c => absurd c (by decide), fun _ => ⟨by omega, by omega, by omega, ih (i + 1) _ (by omega) (by omega) (Nat.or_lt_two_pow (n := 4) hx16 hp) ?_⟩⟩
      rw [gq_vs, if_pos ho, hv] at hx
      exact hx
    · rw [if_neg ho]
      have e3 : i_or (x : Int) 0 = (x : Int) := by
        have := bt_or (a := x) (b := 0) (by omega) (by omega)
        rw [Nat.or_zero] at this
        exact this
      rw [e3]
      refine ⟨by decide, fun _ => ih (i + 1) _ (by omega) (by omega) hx16 ?_, fun c => absurd rfl c⟩
      rw [gq_vs, if_neg ho] at hx
      exact hx
theorem s_verbs {E : av_E} {σ : av_M} {Q : Option av_V → av_M → Prop} {g : gq_T} {L : List Nat} (H : mFd σ g L) (hg : g.1 ≤ 8) (h4 : ∀ r, r < g.1 → σ 4 r = g.2.2.2.2 r ∧ 0 ≤ g.2.2.2.2 r ∧ g.2.2.2.2 r ≤ 3) (hQ : Q (some (av_i (gq_vs g L 0 : Nat))) σ) : av_C E mSH mX5_verbs [av_r 0] σ Q := by
  apply uX5_verbs
  exact l_verbs H.1 H.2.2.1 H.2.2.2.1 hg H.2.2.2.2 h4 hQ _ 0 0 rfl (Nat.zero_le _) (by omega) (by simp)
theorem mSm.tr {a b c : av_M} (h : mSm a b) (k : mSm b c) : mSm a c := fun x y p q r => (k x y p q r).trans (h x y p q r)
theorem s_manyReadings {E : av_E} {σ : av_M} {Q : Option av_V → av_M → Prop} {g : gq_T} {kn : Nat} {row : Nat → Int} {n kd : Nat} {Ls : List (List Nat)} (I : mIt σ g kn row n kd Ls) (hQ : ∀ σ', mSm σ σ' → Q (some (av_i (Ls.length : Nat))) σ') : av_C E mSH mX5_manyReadings [av_r 0] σ Q := by
  apply uX5_manyReadings
  have key : ∀ (Ls : List (List Nat)) (σ' : av_M) (x : Int), mSm σ σ' → mIt σ' g kn row n kd Ls → (∀ σ'', mSm σ σ'' → Q (some (av_i (x + Ls.length))) σ'') → av_W E mSH mX5_manyReadings 2 [some (av_r 0), some (av_i x)] [] σ' Q := by
    intro Ls
    induction Ls with
    | nil =>
      intro σ' x S I h
      apply uX5_manyReadings_2
      refine s_isNext I (fun _ σ'' S'' _ => ⟨_, rfl, by decide, fun _ => ?_, fun c => absurd rfl c⟩) (fun x xs e => by cases e)
      have := h σ'' (S.tr S'')
      simpa using this
    | cons y ys ih =>
      intro σ' x S I h
      apply uX5_manyReadings_2
      refine s_isNext I (fun e => by cases e) (fun z zs e σ'' S'' I'' _ => ⟨_, rfl, by decide, fun c => absurd c (by decide), fun _ => ?_⟩)
      cases e
      refine ih σ'' (x + 1) (S.tr S'') I'' (fun σ3 S3 => ?_)
      have := h σ3 S3
      have e2 : x + 1 + (ys.length : Int) = x + ((y :: ys).length : Int) := by simp; omega
      rw [e2]
      exact this
  exact key Ls σ 0 (mSm.rf σ) I (fun σ'' S => by have := hQ σ'' S; simpa using this)
theorem s_all {E : av_E} {σ : av_M} {Q : Option av_V → av_M → Prop} {R : Nat} (h : σ 0 0 = (R : Int)) (h8 : R ≤ 8) (hQ : Q (some (av_i ((2 ^ R - 1 : Nat) : Int))) σ) : av_C E mSH mX5_all [av_r 0] σ Q := by
  apply uX5_all
  have hp : 1 * 2 ^ R < 2 ^ 31 := by
    rw [Nat.one_mul]
    exact Nat.pow_lt_pow_right (by omega) (by omega)
  have := bt_shl (a := 1) (k := R) (by omega) hp
  rw [Nat.one_mul] at this
  have hpos : 0 < 2 ^ R := Nat.two_pow_pos R
  have e : i_shl 1 (σ 0 0) - 1 = ((2 ^ R - 1 : Nat) : Int) := by
    rw [h]
    have h1 : i_shl 1 (R : Int) = ((2 ^ R : Nat) : Int) := this
    rw [h1]
    omega
  rw [e]
  exact hQ
theorem av_cp_0 (σ : av_M) (f s t d : Nat) : av_cp σ f s t d 0 = σ := by
  funext a b
  unfold av_cp
  rw [if_neg (by omega)]
theorem av_cp_step {σ : av_M} {f s t d k : Nat} (h : f ≠ t) : av_st (av_cp σ f s t d k) t (d + k) (av_cp σ f s t d k f (s + k)) = av_cp σ f s t d (k + 1) := by
  funext a b
  have e : av_cp σ f s t d k f (s + k) = σ f (s + k) := by
    unfold av_cp
    rw [if_neg (fun z => h z.1)]
  rw [e]
  unfold av_st av_cp
  by_cases ha : a = t
  · subst ha
    by_cases hb : b = d + k
    · subst hb
      rw [if_pos ⟨rfl, rfl⟩, if_pos ⟨rfl, by omega, by omega⟩]
      congr 1
      omega
    · rw [if_neg (fun z => hb z.2)]
      by_cases hc : d ≤ b ∧ b < d + k
      · rw [if_pos ⟨rfl, hc⟩, if_pos ⟨rfl, by omega, by omega⟩]
      · rw [if_neg (fun z => hc z.2), if_neg (by omega)]
  · rw [if_neg (fun z => ha z.1), if_neg (fun z => ha z.1), if_neg (fun z => ha z.1)]
theorem s_copies {E : av_E} {σ : av_M} {Q : Option av_V → av_M → Prop} {i0 i1 n0 n1 d s n : Nat} (hs0 : mSH[i0]? = some (.inl (0, n0))) (hs1 : mSH[i1]? = some (.inl (0, n1))) (hn0 : n0 ≤ 1000) (hn1 : n1 ≤ 1000) (hne : i1 ≠ i0) (hd : d + n ≤ n0) (hs : s + n ≤ n1) (hQ : Q none (av_cp σ i1 s i0 d n)) : av_C E mSH mX5_copies [av_r i0, av_i (d : Int), av_r i1, av_i (s : Int), av_i (n : Int)] σ Q := by
  apply uX5_copies hs0 hs1 (by omega) (by omega)
  have key : ∀ (k j : Nat), n - j = k → j ≤ n → av_W E mSH mX5_copies 3 [some (av_r i0), some (av_i (d : Int)), some (av_r i1), some (av_i (s : Int)), some (av_i (n : Int)), some (av_i (j : Int))] [] (av_cp σ i1 s i0 d j) Q := by
    intro k
    induction k with
    | zero =>
      intro j hk hj
      apply uX5_copies_3 hs0 hs1 (by omega) (by omega)
      have : j = n := by omega
      subst this
      exact ⟨by omega, by omega, fun _ => hQ, fun c => by omega⟩
    | succ k ih =>
      intro j hk hj
      apply uX5_copies_3 hs0 hs1 (by omega) (by omega)
      have e1 : ((d : Int) + (j : Int)).toNat = d + j := by omega
      have e2 : ((s : Int) + (j : Int)).toNat = s + j := by omega
      have e3 : (j : Int) + 1 = ((j + 1 : Nat) : Int) := by omega
      rw [e1, e2, e3, av_cp_step hne]
      exact ⟨by omega, by omega, fun c => by omega, fun _ => ⟨by omega, by omega, ih (j + 1) (by omega) (by omega)⟩⟩
  have := key _ 0 rfl (Nat.zero_le _)
  rw [av_cp_0] at this
  exact this
