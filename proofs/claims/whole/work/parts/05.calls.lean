-- entry
def av_en (as : List av_V) : List (Option av_V) := match as with
  | [] => []
  | .inr (.inl x) :: vs => some (.inr (.inl x)) :: none :: av_en vs
  | .inl x :: vs => some (.inl x) :: av_en vs
  | .inr (.inr x) :: vs => some (.inr (.inr x)) :: av_en vs
def av_pad (as : List av_V) (n : Nat) : List (Option av_V) := av_en as ++ List.replicate (n - (av_en as).length) none
theorem av_en_spec (ad : Nat → Nat) : ∀ (as : List av_V) (k i : Nat) (v : av_V), (av_en as)[i]? = some (some v) → (k + i, av_c ad v) ∈ lv_args k (as.map (av_c ad)) := by
  intro as
  induction as with
  | nil => intro k i v h; simp [av_en] at h
  | cons a as ih =>
    intro k i v h
    match a, h with
    | .inl x, h =>
      simp only [av_en] at h
      match i, h with
      | 0, h =>
        simp at h
        subst h
        exact List.mem_cons_self
      | i + 1, h =>
        rw [List.getElem?_cons_succ] at h
        have := ih (k + 1) i v h
        rw [show k + 1 + i = k + (i + 1) by omega] at this
        exact List.mem_cons_of_mem _ this
    | .inr (.inr x), h =>
      simp only [av_en] at h
      match i, h with
      | 0, h =>
        simp at h
        subst h
        exact List.mem_cons_self
      | i + 1, h =>
        rw [List.getElem?_cons_succ] at h
        have := ih (k + 1) i v h
        rw [show k + 1 + i = k + (i + 1) by omega] at this
        exact List.mem_cons_of_mem _ this
    | .inr (.inl x), h =>
      simp only [av_en] at h
      match i, h with
      | 0, h =>
        simp at h
        subst h
        exact List.mem_cons_self
      | 1, h =>
        simp at h
      | i + 2, h =>
        rw [List.getElem?_cons_succ, List.getElem?_cons_succ] at h
        have := ih (k + 2) i v h
        rw [show k + 2 + i = k + (i + 2) by omega] at this
        exact List.mem_cons_of_mem _ this
theorem av_pad_spec {ad : Nat → Nat} {as : List av_V} {n i : Nat} {v : av_V} (h : (av_pad as n)[i]? = some (some v)) : (i, av_c ad v) ∈ lv_args 0 (as.map (av_c ad)) := by
  unfold av_pad at h
  rw [List.getElem?_append] at h
  split at h
  · have := av_en_spec ad as 0 i v h
    rwa [Nat.zero_add] at this
  · rw [List.getElem?_replicate] at h
    split at h <;> simp at h
theorem av_C.ofW {E : av_E} {SH : List av_S} {M : av_Y} {as : List av_V} {σ : av_M} {Q : Option av_V → av_M → Prop} {L : List (Option av_V)} (hy : plainName M.1.cls = true) (hlen : (lg_sl (as.map (av_c E.2.2.1))).length ≤ M.2.2.1) (hL : av_pad as M.2.2.1 = L) (k : av_W E SH M 0 L [] σ Q) : av_C E SH M as σ Q := by
  refine Met.ofW (cc := M.2.1) (maxL := M.2.2.1) (ret := M.2.2.2.1) hy rfl ?_
  intro p e s m args below meth c s₁ B hml hv
  obtain ⟨rfl, hR, hK⟩ := hv
  have hts := atoms_spec (ws := av_ws M) B.pre
  have hown : s.vm.findClass M.1.cls = some m.cls := findClass_of_methodNamed B.named
  have hl := lv_entry (as.map (av_c E.2.2.1)) (n := M.2.2.1) hlen
  rw [lg_entry_eq]
  generalize (lg_sl (as.map (av_c E.2.2.1)) ++ List.replicate (M.2.2.1 - (lg_sl (as.map (av_c E.2.2.1))).length) Slot.unset).toArray = ls at hl ⊢
  refine k p e s m _ below meth c s.heap [] ls ⟨B.exec, B.bytes, B.returns, hml, hts, hown, B.notSynchronized, hK⟩ hR va_S.rf ⟨hl.1, hl.2.1, fun i v hv => ?_⟩
  subst hL
  exact hl.2.2 _ (av_pad_spec hv)
-- behind a call
theorem av_map_app {ad : Nat → Nat} (v : Option av_V) (rest : List av_V) : (v.toList ++ rest).map (av_c ad) = (v.map (av_c ad)).toList ++ rest.map (av_c ad) := by cases v <;> simp
section AVC
variable {E : av_E} {SH : List av_S} {M : av_Y} {pc : Nat} {L : List (Option av_V)} {st rest as : List av_V} {σ : av_M} {Q : Option av_V → av_M → Prop}
theorem av_after {p : Program} {e : Env} {R : Room} {s : State} {m : MethodId} {args : Array Value} {below : List Frame} {meth : Method} {c : Code} {H : Heap} {locs : List Loc} {P : State → Prop} {ls : Array Slot} {st0 : List Value} {Q' : Option av_V → av_M → Prop} {a : Array Value}
    (hr : va_Run p E.1 e R s m args below meth c H locs 0 0 0 0 (F0 m pc ls st0) (rest.map (av_c E.2.2.1)) (av_Q E SH Q' a) (av_A E SH)) (S : va_S (av_A E SH) s.heap H locs)
    (kk : ∀ (v : Option av_V) (σ' : av_M) (H1 : Heap) (locs1 : List Loc), Q' v σ' → av_R E SH H1 σ' → va_S (av_A E SH) s.heap H1 locs1 → W p E.1 e R s m args below meth c H1 locs1 0 0 P (F0 m (pc + 3) ls ((v.toList ++ rest).map (av_c E.2.2.1)))) : W p E.1 e R s m args below meth c H locs 0 0 P (F0 m pc ls st0) := by
  intro T hT X
  obtain ⟨v, st₀, t, T', Lc, h0, X', hLc, e1, e2, ⟨⟨v', σ', hv, hQ', hR'⟩, hz, hk⟩, stp⟩ := hr T hT X
  have hvv : v = v'.map (av_c E.2.2.1) := by injection hv
  subst hvv
  rw [h0] at hz hk
  obtain ⟨t2, a1, b1⟩ := kk v' σ' T'.heap (locs ++ Lc) hQ' (by rw [e1]; exact hR') ⟨Nat.le_trans S.1 (by rw [e1]; exact hz), fun q h1 h2 => by rw [e1, hk q (Nat.lt_of_lt_of_le h1 S.1) h2]; exact S.2.1 q h1 h2, fun q hq => by
      rcases List.mem_append.mp hq with h | h
      · exact S.2.2 q h
      · exact hLc q h⟩ T' rfl X'
  rw [av_map_app] at a1
  exact ⟨t2, stp t2 a1, b1⟩
theorem av_blind {E : av_E} {SH : List av_S} {σ : av_M} {vs : List Value} : FrameBlind (va_Pc vs (fun U => av_R E SH U.heap σ ∧ av_K E U)) := fun _ _ _ _ q => ⟨q.1, q.2.1, q.2.2.same rfl⟩
theorem av_goodM {M' : av_Y} {n : Nat} (hb : av_mb M' n) : GoodIn av_T (av_ws M') := fun w h => by
  rcases List.mem_cons.mp h with h | h
  · exact av_T_good w (by rw [h]; exact hb.2.2.2.2)
  · exact av_T_good w h
theorem av_cbd {M' : av_Y} {n idx : Nat} {own : String} {R : Room} {s : State} {args : Array Value} (hts : ∀ w ∈ av_T, w.before args s = true) (hb : av_mb M' n) (hl : Cond.methodLink own idx M'.1 ∈ av_T) (hR : M'.2.2.2.2.1 + 1 ≤ R.frames ∧ 8 + (M'.2.2.1 + 11) + M'.2.2.2.2.2 ≤ R.locals) :
    CallB R s args own idx M'.1 M'.2.1 M'.2.2.1 M'.2.2.2.1 (av_ws M') (av_rm M') 0 0 n :=
  callB_of n hts (av_goodM hb) rfl rfl rfl (hts _ hb.2.2.2.1) (hts _ hl) ⟨hb.1, hb.2.1, hb.2.2.1⟩ hR
theorem av_sum {ad : Nat → Nat} {rest : List av_V} (h : rest.length ≤ 4) : 2 * 0 + ((rest.map (av_c ad)).map fun v => v.category).sum ≤ 8 := by
  have h2 : ∀ (l : List av_V), ((l.map (av_c ad)).map fun v => v.category).sum ≤ 2 * l.length := by
    intro l
    induction l with
    | nil => exact Nat.le_refl _
    | cons a l ih =>
      have : (av_c ad a).category ≤ 2 := by rcases lv_cat (av_c ad a) with h | h <;> omega
      simp only [List.map_cons, List.sum_cons, List.length_cons]
      omega
  have := h2 rest
  omega
theorem av_callV {idx i ci n N : Nat} {fs : List (Option Nat)} {CN own : String} {T : u_T} (M' : av_Y) (as : List av_V) (rest : List av_V) (hd : decode M.2.1 pc = .ok (.invokevirtual idx, 3)) (hs : SH[i]? = some (.inr (ci, fs))) (hc : vwCl[ci]? = some (CN, T, N)) (hcn : M'.1.cls = CN) (hb : av_mb M' n) (hn : as.length = n)
    (hi : Cond.instanceMethod M'.1 ∈ av_T) (hse : Cond.selects CN M'.1 M'.1 ∈ av_T) (ho : own = M.1.cls) (hl : Cond.methodLink own idx M'.1 ∈ av_T) (hR : M'.2.2.2.2.1 + 1 ≤ M.2.2.2.2.1 ∧ 8 + (M'.2.2.1 + 11) + M'.2.2.2.2.2 ≤ M.2.2.2.2.2)
    (hst : as.reverse ++ .inr (.inr i) :: rest = st) (hroom : rest.length ≤ 4)
    (hC : av_C E SH M' (.inr (.inr i) :: as) σ (fun v σ' => av_W E SH M (pc + 3) L (v.toList ++ rest) σ' Q)) : av_W E SH M pc L st σ Q := by
  intro p e s m args below meth c H locs ls C R S hl'
  subst ho
  subst hst
  have hts : ∀ w ∈ av_T, w.before args s = true := fun w hw => C.2.2.2.2.1 w (List.mem_cons_of_mem _ hw)
  have hr := va_runV (H := H) (cells := 0) (slots := 0) (locs := locs) (below := below) (meth := meth) (R := av_rm M) (e := e) (C := CN) (b := E.2.2.1 i) (As := as.map (av_c E.2.2.1)) (rest := rest.map (av_c E.2.2.1)) (g := F0 m pc ls ((as.reverse ++ .inr (.inr i) :: rest).map (av_c E.2.2.1))) (nL := M.2.2.1) (own := M.1.cls) (Ts := av_T)
    ⟨C.1, C.2.1, C.2.2.2.1, C.2.2.2.2.2.1, hts⟩ hC ⟨av_cbd hts hb hl hR, hts _ hi, hts _ hse⟩ ⟨av_blind, va_recv C.2.2.2.2.2.2.2.1 R.1 hc (av_w_at hs), fun U hU hW => ⟨rfl, by rw [hU]; exact R, C.2.2.2.2.2.2.2.warm hW⟩⟩ rfl (by simpa using hn) hl'.1 (by simp [av_c]) (av_sum hroom) hd ⟨Nat.le_refl 0, Nat.le_refl 0⟩
  exact av_after hr S (fun v σ' H1 locs1 hQ hR1 hS1 => hQ p e s m args below meth c H1 locs1 ls C hR1 hS1 hl')
theorem av_callS {idx n : Nat} {own : String} (M' : av_Y) (as : List av_V) (rest : List av_V) (hd : decode M.2.1 pc = .ok (.invokestatic idx, 3)) (hb : av_mb M' n) (hn : as.length = n)
    (hi : Cond.static M'.1 ∈ av_T) (ho : own = M.1.cls) (hl : Cond.methodLink own idx M'.1 ∈ av_T) (hR : M'.2.2.2.2.1 + 1 ≤ M.2.2.2.2.1 ∧ 8 + (M'.2.2.1 + 11) + M'.2.2.2.2.2 ≤ M.2.2.2.2.2)
    (hst : as.reverse ++ rest = st) (hroom : rest.length ≤ 4)
    (hC : av_C E SH M' as σ (fun v σ' => av_W E SH M (pc + 3) L (v.toList ++ rest) σ' Q)) : av_W E SH M pc L st σ Q := by
  intro p e s m args below meth c H locs ls C R S hl'
  subst ho
  subst hst
  have hts : ∀ w ∈ av_T, w.before args s = true := fun w hw => C.2.2.2.2.1 w (List.mem_cons_of_mem _ hw)
  have hr := va_runS (H := H) (cells := 0) (slots := 0) (locs := locs) (below := below) (meth := meth) (R := av_rm M) (e := e) (As := as.map (av_c E.2.2.1)) (rest := rest.map (av_c E.2.2.1)) (g := F0 m pc ls ((as.reverse ++ rest).map (av_c E.2.2.1))) (nL := M.2.2.1) (own := M.1.cls) (Ts := av_T)
    ⟨C.1, C.2.1, C.2.2.2.1, C.2.2.2.2.2.1, hts⟩ hC ⟨av_cbd hts hb hl hR, hts _ hi⟩ ⟨av_blind, fun U hU hW => ⟨rfl, by rw [hU]; exact R, C.2.2.2.2.2.2.2.warm hW⟩⟩ rfl (by simpa using hn) hl'.1 (by simp) (av_sum hroom) hd ⟨Nat.le_refl 0, Nat.le_refl 0⟩
  exact av_after hr S (fun v σ' H1 locs1 hQ hR1 hS1 => hQ p e s m args below meth c H1 locs1 ls C hR1 hS1 hl')
theorem av_callN {idx n : Nat} {own host : String} (M' : av_Y) (as : List av_V) (rest : List av_V) (hd : decode M.2.1 pc = .ok (.invokestatic idx, 3)) (hb : av_mb M' n) (hn : as.length = n)
    (hi : Cond.static M'.1 ∈ av_T) (ho : own = M.1.cls) (hl : ∀ U, av_N U → va_Nw (.methodLinkNest own idx M'.1 host) U) (hR : M'.2.2.2.2.1 + 1 ≤ M.2.2.2.2.1 ∧ 8 + (M'.2.2.1 + 11) + M'.2.2.2.2.2 ≤ M.2.2.2.2.2)
    (hst : as.reverse ++ rest = st) (hroom : rest.length ≤ 4)
    (hC : av_C E SH M' as σ (fun v σ' => av_W E SH M (pc + 3) L (v.toList ++ rest) σ' Q)) : av_W E SH M pc L st σ Q := by
  intro p e s m args below meth c H locs ls C R S hl'
  subst ho
  subst hst
  have hts : ∀ w ∈ av_T, w.before args s = true := fun w hw => C.2.2.2.2.1 w (List.mem_cons_of_mem _ hw)
  have hr := va_runSN (H := H) (cells := 0) (slots := 0) (locs := locs) (below := below) (meth := meth) (R := av_rm M) (e := e) (As := as.map (av_c E.2.2.1)) (rest := rest.map (av_c E.2.2.1)) (g := F0 m pc ls ((as.reverse ++ rest).map (av_c E.2.2.1))) (nL := M.2.2.1) (own := M.1.cls) (Ts := av_T) (host := host)
    ⟨C.1, C.2.1, C.2.2.2.1, C.2.2.2.2.2.1, hts⟩ hC ⟨va_cnB n hts (av_goodM hb) rfl rfl rfl (hl _ C.2.2.2.2.2.2.2.2) (hts _ hb.2.2.2.1) ⟨hb.1, hb.2.1, hb.2.2.1⟩ hR, hts _ hi, trivial⟩ ⟨av_blind, fun U hU hW => ⟨rfl, by rw [hU]; exact R, C.2.2.2.2.2.2.2.warm hW⟩⟩ rfl (by simpa using hn) hl'.1 (by simp) (av_sum hroom) hd ⟨Nat.le_refl 0, Nat.le_refl 0⟩
  exact av_after hr S (fun v σ' H1 locs1 hQ hR1 hS1 => hQ p e s m args below meth c H1 locs1 ls C hR1 hS1 hl')
theorem av_C.mono {Q' : Option av_V → av_M → Prop} (h : ∀ v σ', Q v σ' → Q' v σ') {M' : av_Y} (hC : av_C E SH M' as σ Q) : av_C E SH M' as σ Q' := by
  intro p e ha hc hk s m args below hf hfit hP hT
  obtain ⟨n, o, h1, h2, h3, ⟨⟨⟨v, σ', hv, hq, hr⟩, hF⟩, hL⟩⟩ := hC p e ha hc hk s m args below hf hfit hP hT
  exact ⟨n, o, h1, h2, h3, ⟨⟨⟨v, σ', hv, h _ _ hq, hr⟩, hF⟩, hL⟩⟩
/-- System.arraycopy of ints -/
theorem av_copy {idx i0 i1 n0 n1 : Nat} {sp dp n : Int} {own : String} (hd : decode M.2.1 pc = .ok (.invokestatic idx, 3)) (ho : own = M.1.cls) (hl : Cond.methodLink own idx arraycopyName ∈ av_T) (hnat : Cond.native arraycopyName ∈ av_T) (hstat : Cond.static arraycopyName ∈ av_T) (hini : Cond.initialized "java/lang/System" ∈ av_T)
    (hs0 : SH[i0]? = some (.inl (0, n0))) (hs1 : SH[i1]? = some (.inl (0, n1))) (h0 : n0 ≤ 2147483647) (h1 : n1 ≤ 2147483647) (hb : (0 ≤ sp ∧ sp + n ≤ n0) ∧ (0 ≤ dp ∧ dp + n ≤ n1) ∧ 0 ≤ n) (hfr : 1 ≤ M.2.2.2.2.1) (hlo : 8 + (nativeFrameWords "java/lang/System" "arraycopy" 5 + 11) ≤ M.2.2.2.2.2) (hroom : st.length ≤ 4)
    (kk : av_W E SH M (pc + 3) L st (av_cp σ i0 sp.toNat i1 dp.toNat n.toNat) Q) : av_W E SH M pc L (.inl n :: .inl dp :: .inr (.inr i1) :: .inl sp :: .inr (.inr i0) :: st) σ Q := by
  intro p e s m args below meth c H locs ls C R S hl'
  subst ho
  have hts : ∀ w ∈ av_T, w.before args s = true := fun w hw => C.2.2.2.2.1 w (List.mem_cons_of_mem _ hw)
  have e1 : (Int32.ofInt sp).toNatClampNeg = sp.toNat := Int32.toNatClampNeg_ofInt_of_le (by omega) (by omega)
  have e2 : (Int32.ofInt dp).toNatClampNeg = dp.toNat := Int32.toNatClampNeg_ofInt_of_le (by omega) (by omega)
  have e3 : (Int32.ofInt n).toNatClampNeg = n.toNat := Int32.toNatClampNeg_ofInt_of_le (by omega) (by omega)
  have hneg : ∀ x : Int, 0 ≤ x → x < 2147483648 → ¬ Int32.ofInt x < 0 := fun x q1 q2 => by rw [i32_0, i32_lt, i32_z, i32_of (by omega) (by omega)]; omega
  refine va_copyi C.1 C.2.1 (by rw [C.2.2.2.1, hl'.1]) C.2.2.2.2.2.1 (hts _ hl) (hts _ hnat) (hts _ hstat) (hts _ hini) C.2.2.2.2.2.2.2.1 R.1 R.2 S i0 i1 0 0 (av_w_at hs0) (av_w_at hs1) rfl rfl rfl
    (hneg _ (by omega) (by omega)) (hneg _ (by omega) (by omega)) (hneg _ (by omega) (by omega)) (by rw [e1, e3]; omega) (by rw [e2, e3]; omega) (fun _ _ => rfl) hfr (by have := av_sum (ad := E.2.2.1) hroom; show _ ≤ M.2.2.2.2.2; omega) hd (fun H1 locs1 hP hD hS => ?_)
  have hset := av_w_set (E := E) (SH := SH) (σ := σ) (σ' := av_cp σ i0 sp.toNat i1 dp.toNat n.toNat) hs1 (x := .inl (E.2.2.2 0, n1, .inl (va_cpy (fun j => Int32.ofInt (σ i0 j)) (fun j => Int32.ofInt (σ i1 j)) sp.toNat dp.toNat n.toNat))) (by
    simp only [av_e, av_cp]
    congr 3
    congr 1
    funext j
    by_cases hj : dp.toNat ≤ j ∧ j < dp.toNat + n.toNat
    · simp only [va_cpy, if_pos hj, true_and]
    · simp only [va_cpy, if_neg hj, true_and]) (fun j sh' hj => av_e_congr (av_cp_ne hj))
  rw [e1, e2, e3, hset] at hP hD
  exact kk p e s m args below meth c H1 locs1 ls C ⟨hP, hD⟩ hS hl'
/-- Math.max -/
theorem av_max {idx : Nat} {x y : Int} {own : String} (hd : decode M.2.1 pc = .ok (.invokestatic idx, 3)) (ho : own = M.1.cls) (hl : Cond.methodLink own idx Lib.Math.max.name ∈ av_T) (hstat : Cond.static Lib.Math.max.name ∈ av_T) (hini : Cond.initialized "java/lang/Math" ∈ av_T) (hcode : Cond.code Lib.Math.max.name Lib.Math.max.code 2 (some .int) ∈ av_T) (hfr : 1 ≤ M.2.2.2.2.1) (hlo : 8 + 13 ≤ M.2.2.2.2.2) (hroom : st.length ≤ 4) (hx : rg x) (hy : rg y)
    (kk : av_W E SH M (pc + 3) L (.inl (max x y) :: st) σ Q) : av_W E SH M pc L (.inl y :: .inl x :: st) σ Q := by
  intro p e s m args below meth c H locs ls C R S hl'
  subst ho
  have hts : ∀ w ∈ av_T, w.before args s = true := fun w hw => C.2.2.2.2.1 w (List.mem_cons_of_mem _ hw)
  refine va_mmax C.1 C.2.1 (by rw [C.2.2.2.1, hl'.1]) C.2.2.2.2.2.1 (hts _ hl) (hts _ hstat) (hts _ hini) (hts _ hcode) hfr (by have := av_sum (ad := E.2.2.1) hroom; show _ ≤ M.2.2.2.2.2; omega) (Nat.zero_le _) (Nat.zero_le _) hd ?_
  have e9 : (if Int32.ofInt x < Int32.ofInt y then Int32.ofInt y else Int32.ofInt x) = Int32.ofInt (max x y) := by
    simp only [i32_lt, i32_of hx.1 hx.2, i32_of hy.1 hy.2]
    by_cases hxy : x < y
    · rw [if_pos hxy, Int.max_eq_right (by omega)]
    · rw [if_neg hxy, Int.max_eq_left (by omega)]
  rw [e9]
  exact kk p e s m args below meth c H locs ls C R S hl'
end AVC
