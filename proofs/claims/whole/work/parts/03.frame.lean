/-! A small machine over the kit's rows: values are Ints and places of cells; memory is a function of cell and slot; every method of a side stands over the whole world of that side. -/
abbrev av_V : Type := Int ⊕ (Int ⊕ Nat)
abbrev av_i (x : Int) : av_V := .inl x
abbrev av_l (x : Int) : av_V := .inr (.inl x)
abbrev av_r (i : Nat) : av_V := .inr (.inr i)
def av_c (ad : Nat → Nat) (v : av_V) : Value := match v with
  | .inl x => .int (Int32.ofInt x)
  | .inr (.inl x) => .long (Int64.ofInt x)
  | .inr (.inr i) => .ref (ad i)
abbrev av_M : Type := Nat → Nat → Int
abbrev av_S : Type := (Nat × Nat) ⊕ (Nat × List (Option Nat))
abbrev av_E : Type := Launch × va_G × (Nat → Nat) × (Nat → ClassId)
def av_e (E : av_E) (σ : av_M) (i : Nat) (sh : av_S) : va_E := match sh with
  | .inl tn => .inl (E.2.2.2 tn.1, tn.2, .inl (fun j => Int32.ofInt (σ i j)))
  | .inr cf => .inr (cf.1, cf.2.mapIdx (fun k o => match o with | some r => Value.ref (E.2.2.1 r) | none => Value.int (Int32.ofInt (σ i k))))
def av_w (E : av_E) (SH : List av_S) (σ : av_M) : va_W := SH.mapIdx (fun i sh => (E.2.2.1 i, av_e E σ i sh))
def av_st (σ : av_M) (i k : Nat) (x : Int) : av_M := fun a b => if a = i ∧ b = k then x else σ a b
def av_cp (σ : av_M) (f s t d n : Nat) : av_M := fun a b => if a = t ∧ d ≤ b ∧ b < d + n then σ f (s + (b - d)) else σ a b
def av_A (E : av_E) (SH : List av_S) : Nat → Prop := fun q => ∃ i, i < SH.length ∧ q = E.2.2.1 i
def av_R (E : av_E) (SH : List av_S) (H : Heap) (σ : av_M) : Prop := va_P E.2.1 vwCl (av_w E SH σ) H ∧ va_D (av_A E SH) (av_w E SH σ)
abbrev av_ty (E : av_E) : List (ClassId × FieldType) := [(E.2.2.2 0, .int), (E.2.2.2 1, .char)]
def av_N (U : State) : Prop := va_Nw (.methodLinkNest RX3 53 yX4_lettersIn RX4) U ∧ va_Nw (.methodLinkNest RX0 35 yX4_lettersIn RX4) U ∧ va_Nw (.methodLinkNest RX0 76 yX4_holds RX4) U ∧ va_Nw (.methodLinkNest RX3 72 yX4_holds RX4) U
def av_K (E : av_E) (U : State) : Prop := va_K E.2.1 vwCl (av_ty E) U ∧ av_N U
theorem av_K.warm {E : av_E} {s U : State} (h : av_K E s) (hW : s.WarmedH U.vm) : av_K E U :=
  ⟨va_K.moved hW.alike h.1, va_Nw.warmM hW h.2.1, va_Nw.warmM hW h.2.2.1, va_Nw.warmM hW h.2.2.2.1, va_Nw.warmM hW h.2.2.2.2⟩
theorem av_K.same {E : av_E} {s U : State} (h : av_K E s) (hv : s.vm = U.vm) : av_K E U := by
  refine ⟨va_K.moved (by rw [hv]; exact Vm.Alike.refl _) h.1, va_Nw.same rfl hv h.2.1, va_Nw.same rfl hv h.2.2.1, va_Nw.same rfl hv h.2.2.2.1, va_Nw.same rfl hv h.2.2.2.2⟩
def av_ws (M : av_Y) : List Cond := .code M.1 M.2.1 M.2.2.1 M.2.2.2.1 :: av_T
def av_rm (M : av_Y) : Room := { frames := M.2.2.2.2.1, cells := 0, slots := 0, locals := M.2.2.2.2.2 }
def av_Q (E : av_E) (SH : List av_S) (Q : Option av_V → av_M → Prop) : Array Value → State → Outcome → State → Prop := fun _ st oc t =>
  (∃ (v : Option av_V) (σ : av_M), oc = .returned (v.map (av_c E.2.2.1)) ∧ Q v σ ∧ av_R E SH t.heap σ) ∧ va_F (av_A E SH) st t
/-- the call of a method: it returns, and what Q says holds of its answer and of the memory then -/
def av_C (E : av_E) (SH : List av_S) (M : av_Y) (as : List av_V) (σ : av_M) (Q : Option av_V → av_M → Prop) : Prop :=
  Met E.1 M.1 (av_ws M) (av_rm M) (va_Pc (as.map (av_c E.2.2.1)) (fun U => av_R E SH U.heap σ ∧ av_K E U)) (av_Q E SH Q) 0 0 (av_A E SH)
def av_L (E : av_E) (n : Nat) (L : List (Option av_V)) (ls : Array Slot) : Prop := ls.size = n ∧ lv_wf ls ∧ ∀ (i : Nat) (v : av_V), L[i]? = some (some v) → ls[i]? = some (.val (av_c E.2.2.1 v))
def av_X (E : av_E) (M : av_Y) (p : Program) (s : State) (m : MethodId) (args : Array Value) (meth : Method) (c : Code) : Prop :=
  p.tables.exec = Jvm.exec ∧ c.code = M.2.1 ∧ meth.sig.returnType = M.2.2.2.1 ∧ c.maxLocals = M.2.2.1 ∧ (∀ w ∈ av_ws M, w.before args s = true) ∧ s.vm.findClass M.1.cls = some m.cls ∧ meth.locks = false ∧ av_K E s
/-- from this place of a method on: it returns, and Q holds then -/
def av_W (E : av_E) (SH : List av_S) (M : av_Y) (pc : Nat) (L : List (Option av_V)) (st : List av_V) (σ : av_M) (Q : Option av_V → av_M → Prop) : Prop :=
  ∀ (p : Program) (e : Env) (s : State) (m : MethodId) (args : Array Value) (below : List Frame) (meth : Method) (c : Code) (H : Heap) (locs : List Loc) (ls : Array Slot),
    av_X E M p s m args meth c → av_R E SH H σ → va_S (av_A E SH) s.heap H locs → av_L E M.2.2.1 L ls →
    W p E.1 e (av_rm M) s m args below meth c H locs 0 0 (MQ below (av_Q E SH Q) args s 0 0 (av_A E SH)) (F0 m pc ls (st.map (av_c E.2.2.1)))
def i32 (x : Int) : Int := x.bmod 4294967296
def i64 (x : Int) : Int := x.bmod 18446744073709551616
theorem i32_of {x : Int} (h1 : -2147483648 ≤ x) (h2 : x < 2147483648) : i32 x = x := Int.bmod_eq_of_le (by omega) (by omega)
theorem i64_of {x : Int} (h1 : -9223372036854775808 ≤ x) (h2 : x < 9223372036854775808) : i64 x = x := Int.bmod_eq_of_le (by omega) (by omega)
theorem i32_toInt (x : Int) : (Int32.ofInt x).toInt = i32 x := Int32.toInt_ofInt
theorem i64_toInt (x : Int) : (Int64.ofInt x).toInt = i64 x := Int64.toInt_ofInt
theorem i32_lt {x y : Int} : Int32.ofInt x < Int32.ofInt y ↔ i32 x < i32 y := by rw [Int32.lt_iff_toInt_lt, i32_toInt, i32_toInt]
theorem i32_le {x y : Int} : Int32.ofInt x ≤ Int32.ofInt y ↔ i32 x ≤ i32 y := by rw [Int32.le_iff_toInt_le, i32_toInt, i32_toInt]
theorem i32_eq {x y : Int} : Int32.ofInt x = Int32.ofInt y ↔ i32 x = i32 y := by rw [← Int32.toInt_inj, i32_toInt, i32_toInt]
theorem i32_0 : (0 : Int32) = Int32.ofInt 0 := rfl
theorem i32_z : i32 0 = 0 := by decide
theorem i32_tdiv (x y : Int) : Int32.ofInt x / Int32.ofInt y = Int32.ofInt ((i32 x).tdiv (i32 y)) := by
  apply Int32.toInt_inj.1
  rw [Int32.toInt_div, i32_toInt, i32_toInt, i32_toInt]
  rfl
theorem i32_self (x : Int) : Int32.ofInt (i32 x) = Int32.ofInt x := by rw [← i32_toInt, Int32.ofInt_toInt]
theorem i64_self (x : Int) : Int64.ofInt (i64 x) = Int64.ofInt x := by rw [← i64_toInt, Int64.ofInt_toInt]
theorem i64_tdiv (x y : Int) : Int64.ofInt x / Int64.ofInt y = Int64.ofInt ((i64 x).tdiv (i64 y)) := by
  apply Int64.toInt_inj.1
  rw [Int64.toInt_div, i64_toInt, i64_toInt, i64_toInt]
  rfl
theorem i32_tmod (x y : Int) : Int32.ofInt x - Int32.ofInt x / Int32.ofInt y * Int32.ofInt y = Int32.ofInt ((i32 x).tmod (i32 y)) := by
  rw [i32_tdiv, ← i32_self x, ← i32_self y, ← Int32.ofInt_mul, ← Int32.ofInt_sub, Int.tmod_def, Int.mul_comm ((i32 x).tdiv (i32 y))]
theorem i64_tmod (x y : Int) : Int64.ofInt x - Int64.ofInt x / Int64.ofInt y * Int64.ofInt y = Int64.ofInt ((i64 x).tmod (i64 y)) := by
  rw [i64_tdiv, ← i64_self x, ← i64_self y, ← Int64.ofInt_mul, ← Int64.ofInt_sub, Int.tmod_def, Int.mul_comm ((i64 x).tdiv (i64 y))]
def i_and (x y : Int) : Int := (Int32.ofInt x &&& Int32.ofInt y).toInt
def i_or (x y : Int) : Int := (Int32.ofInt x ||| Int32.ofInt y).toInt
def i_xor (x y : Int) : Int := (Int32.ofInt x ^^^ Int32.ofInt y).toInt
def i_shl (x y : Int) : Int := (Int32.ofInt x <<< (Int32.ofInt y &&& 31)).toInt
def i_shr (x y : Int) : Int := (Int32.ofInt x >>> (Int32.ofInt y &&& 31)).toInt
def i_ushr (x y : Int) : Int := (((Int32.ofInt x).toUInt32 >>> ((Int32.ofInt y).toUInt32 &&& Int32.toUInt32 31)).toInt32).toInt
abbrev rg (x : Int) : Prop := -2147483648 ≤ x ∧ x < 2147483648
abbrev rg6 (x : Int) : Prop := -9223372036854775808 ≤ x ∧ x < 9223372036854775808
def i_cmp (x y : Int) : Int := if x > y then 1 else if x = y then 0 else -1
theorem i_cmp_lg {x y : Int} (hx : rg6 x) (hy : rg6 y) : lg_cmp (Int64.ofInt x) (Int64.ofInt y) = Int32.ofInt (i_cmp x y) := by
  have ex := i64_of hx.1 hx.2
  have ey := i64_of hy.1 hy.2
  have h1 : Int64.ofInt x > Int64.ofInt y ↔ x > y := by
    show Int64.ofInt y < Int64.ofInt x ↔ _
    rw [Int64.lt_iff_toInt_lt, i64_toInt, i64_toInt, ex, ey]
  have h2 : Int64.ofInt x = Int64.ofInt y ↔ x = y := by rw [← Int64.toInt_inj, i64_toInt, i64_toInt, ex, ey]
  unfold lg_cmp i_cmp
  simp only [h1, h2]
  split
  · rfl
  · split <;> rfl
-- the world, cell by cell
theorem av_w_at {E : av_E} {SH : List av_S} {σ : av_M} {i : Nat} {sh : av_S} (h : SH[i]? = some sh) : (av_w E SH σ)[i]? = some (E.2.2.1 i, av_e E σ i sh) := by
  simp [av_w, List.getElem?_mapIdx, h]
theorem av_w_set {E : av_E} {SH : List av_S} {σ σ' : av_M} {i : Nat} {sh : av_S} {x : va_E} (h : SH[i]? = some sh) (he : av_e E σ' i sh = x) (ho : ∀ j sh', j ≠ i → av_e E σ' j sh' = av_e E σ j sh') : (av_w E SH σ).set i (E.2.2.1 i, x) = av_w E SH σ' := by
  apply List.ext_getElem?
  intro j
  rw [List.getElem?_set]
  have hl : i < (av_w E SH σ).length := by
    have := (List.getElem?_eq_some_iff.mp h).1
    simpa [av_w] using this
  by_cases hij : i = j
  · subst hij
    rw [if_pos rfl, if_pos hl, av_w_at h, he]
  · rw [if_neg hij]
    simp only [av_w, List.getElem?_mapIdx]
    cases hs : SH[j]? with
    | none => rfl
    | some sh' => simp [ho j sh' (fun e => hij e.symm)]
theorem av_e_congr {E : av_E} {σ σ' : av_M} {j : Nat} {sh : av_S} (h : ∀ k, σ' j k = σ j k) : av_e E σ' j sh = av_e E σ j sh := by
  cases sh with
  | inl tn => simp [av_e, h]
  | inr cf => simp [av_e, h]
theorem av_st_ne {σ : av_M} {i k j : Nat} {x : Int} (h : j ≠ i) (q : Nat) : av_st σ i k x j q = σ j q := by simp [av_st, h]
theorem av_cp_ne {σ : av_M} {f s t d n j : Nat} (h : j ≠ t) (q : Nat) : av_cp σ f s t d n j q = σ j q := by simp [av_cp, h]
theorem av_e_arr {E : av_E} {σ : av_M} {i k t n : Nat} {x : Int} : av_e E (av_st σ i k x) i (.inl (t, n)) = .inl (E.2.2.2 t, n, .inl (upd (fun j => Int32.ofInt (σ i j)) k (Int32.ofInt x))) := by
  simp only [av_e, av_st]
  congr 3
  congr 1
  funext j
  by_cases hj : j = k
  · simp [hj, upd]
  · simp [hj, upd]
theorem av_e_obj {E : av_E} {σ : av_M} {i k ci : Nat} {fs : List (Option Nat)} {x : Int} (h : fs[k]? = some none) :
    av_e E (av_st σ i k x) i (.inr (ci, fs)) = .inr (ci, (fs.mapIdx (fun k o => match o with | some r => Value.ref (E.2.2.1 r) | none => Value.int (Int32.ofInt (σ i k)))).set k (Value.int (Int32.ofInt x))) := by
  simp only [av_e]
  congr 2
  apply List.ext_getElem?
  intro j
  rw [List.getElem?_set]
  have hl := (List.getElem?_eq_some_iff.mp h).1
  by_cases hj : k = j
  · subst hj
    rw [if_pos rfl, if_pos (by simpa using hl)]
    simp [List.getElem?_mapIdx, h, av_st]
  · rw [if_neg hj]
    simp only [List.getElem?_mapIdx]
    cases hs : fs[j]? with
    | none => rfl
    | some o =>
      cases o with
      | none =>
        have hjk : ¬ j = k := fun e => hj e.symm
        simp [av_st, hjk]
      | some r => rfl
theorem av_A_in {E : av_E} {SH : List av_S} {i : Nat} {sh : av_S} (h : SH[i]? = some sh) : av_A E SH (E.2.2.1 i) := ⟨i, (List.getElem?_eq_some_iff.mp h).1, rfl⟩
-- locals
def av_clr (L : List (Option av_V)) (i : Nat) : List (Option av_V) := match i with
  | 0 => L
  | j + 1 => match L[j]? with
    | some (some (.inr (.inl _))) => L.set j none
    | _ => L
def av_s1 (L : List (Option av_V)) (i : Nat) (v : av_V) : List (Option av_V) := (av_clr L i).set i (some v)
def av_s2 (L : List (Option av_V)) (i : Nat) (v : av_V) : List (Option av_V) := ((av_clr L i).set (i + 1) none).set i (some v)
def av_ll (ad : Nat → Nat) (L : List (Option av_V)) : List (Nat × Value) := (List.range L.length).filterMap (fun i => match L[i]? with | some (some v) => some (i, av_c ad v) | _ => none)
theorem av_ll_mem {ad : Nat → Nat} {L : List (Option av_V)} {q : Nat × Value} : q ∈ av_ll ad L ↔ ∃ v, L[q.1]? = some (some v) ∧ q.2 = av_c ad v := by
  unfold av_ll
  rw [List.mem_filterMap]
  constructor
  · rintro ⟨i, hi, h⟩
    split at h
    · rename_i v hv
      cases h
      exact ⟨v, hv, rfl⟩
    · cases h
  · rintro ⟨v, hv, he⟩
    refine ⟨q.1, ?_, ?_⟩
    · exact List.mem_range.mpr (List.getElem?_eq_some_iff.mp hv).1
    · rw [hv]
      show some (q.1, av_c ad v) = some q
      rw [← he]
theorem av_L.has {E : av_E} {n : Nat} {L : List (Option av_V)} {ls : Array Slot} (h : av_L E n L ls) : lv_has ls n (av_ll E.2.2.1 L) :=
  ⟨h.1, h.2.1, fun q hq => by
    obtain ⟨v, h1, h2⟩ := av_ll_mem.mp hq
    rw [h2]
    exact h.2.2 _ _ h1⟩
theorem av_clr_get {L : List (Option av_V)} {i j : Nat} {v : av_V} (h : (av_clr L i)[j]? = some (some v)) : L[j]? = some (some v) ∧ ∀ x, j + 1 = i → v ≠ .inr (.inl x) := by
  unfold av_clr at h
  split at h
  · exact ⟨h, fun x hx => by omega⟩
  · rename_i k
    split at h
    · rename_i y hy
      rw [List.getElem?_set] at h
      by_cases hjk : k = j
      · subst hjk
        rw [if_pos rfl] at h
        split at h <;> simp at h
      · rw [if_neg hjk] at h
        exact ⟨h, fun x hx => by omega⟩
    · rename_i hno
      refine ⟨h, fun x hx e => ?_⟩
      subst e
      have : j = k := by omega
      subst this
      exact hno x h
theorem av_c_cat {ad : Nat → Nat} {v : av_V} : (av_c ad v).category = 2 → ∃ x, v = .inr (.inl x) := by
  intro h
  cases v with
  | inl x => simp [av_c, Value.category] at h
  | inr w => cases w with
    | inl x => exact ⟨x, rfl⟩
    | inr x => simp [av_c, Value.category] at h
theorem av_L.s1 {E : av_E} {n i : Nat} {L : List (Option av_V)} {ls : Array Slot} {v : av_V} {w : Value} (hw : av_c E.2.2.1 v = w) (h : lv_has ls n ((i, w) :: (av_ll E.2.2.1 L).filter (fun q => !(q.1 == i) && !(q.1 + 1 == i && q.2.category == 2)))) : av_L E n (av_s1 L i v) ls := by
  refine ⟨h.1, h.2.1, fun j u hj => ?_⟩
  unfold av_s1 at hj
  rw [List.getElem?_set] at hj
  by_cases hij : i = j
  · subst hij
    rw [if_pos rfl] at hj
    split at hj
    · cases hj
      rw [hw]
      exact h.2.2 _ List.mem_cons_self
    · simp at hj
  · rw [if_neg hij] at hj
    obtain ⟨h1, h2⟩ := av_clr_get hj
    refine h.2.2 (j, av_c E.2.2.1 u) (List.mem_cons_of_mem _ (List.mem_filter.mpr ⟨av_ll_mem.mpr ⟨u, h1, rfl⟩, ?_⟩))
    have e1 : (j == i) = false := by simp; omega
    simp only [e1, Bool.not_false, Bool.true_and]
    by_cases hji : j + 1 = i
    · have hc : ¬ (av_c E.2.2.1 u).category = 2 := fun hc => by
        obtain ⟨x, hx⟩ := av_c_cat hc
        exact h2 x hji hx
      simp [hc]
    · simp [hji]
theorem av_L.s2 {E : av_E} {n i : Nat} {L : List (Option av_V)} {ls : Array Slot} {v : av_V} {w : Value} (hw : av_c E.2.2.1 v = w) (h : lv_has ls n ((i, w) :: (av_ll E.2.2.1 L).filter (fun q => !(q.1 == i) && (!(q.1 == i + 1) && !(q.1 + 1 == i && q.2.category == 2))))) : av_L E n (av_s2 L i v) ls := by
  refine ⟨h.1, h.2.1, fun j u hj => ?_⟩
  unfold av_s2 at hj
  rw [List.getElem?_set] at hj
  by_cases hij : i = j
  · subst hij
    rw [if_pos rfl] at hj
    split at hj
    · cases hj
      rw [hw]
      exact h.2.2 _ List.mem_cons_self
    · simp at hj
  · rw [if_neg hij, List.getElem?_set] at hj
    by_cases hi1 : i + 1 = j
    · rw [if_pos hi1] at hj
      split at hj <;> simp at hj
    · rw [if_neg hi1] at hj
      obtain ⟨h1, h2⟩ := av_clr_get hj
      refine h.2.2 (j, av_c E.2.2.1 u) (List.mem_cons_of_mem _ (List.mem_filter.mpr ⟨av_ll_mem.mpr ⟨u, h1, rfl⟩, ?_⟩))
      have e1 : (j == i) = false := by simp; omega
      have e2 : (j == i + 1) = false := by simp; omega
      simp only [e1, e2, Bool.not_false, Bool.true_and]
      by_cases hji : j + 1 = i
      · have hc : ¬ (av_c E.2.2.1 u).category = 2 := fun hc => by
          obtain ⟨x, hx⟩ := av_c_cat hc
          exact h2 x hji hx
        simp [hc]
      · simp [hji]
