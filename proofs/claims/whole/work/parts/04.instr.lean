theorem av_chr {x : Int} (h1 : 0 ≤ x) (h2 : x < 65536) : ((Int32.ofInt x).toUInt32 % 65536).toInt32 = Int32.ofInt x := by
  obtain ⟨n, rfl⟩ := Int.eq_ofNat_of_zero_le h1
  have hn : n < 65536 := by omega
  rw [Int32.ofInt_eq_ofNat]
  show ((nI n).toUInt32 % 65536).toInt32 = nI n
  rw [pk_char, pk_tn (by omega), Nat.mod_eq_of_lt hn]
theorem av_nchr {x : Int} (h1 : 0 ≤ x) (h2 : x < 65536) : narrow .char (.int (Int32.ofInt x)) = .int (Int32.ofInt x) := by
  obtain ⟨n, rfl⟩ := Int.eq_ofNat_of_zero_le h1
  have hn : n < 65536 := by omega
  rw [Int32.ofInt_eq_ofNat]
  exact (pk_charN hn).1
theorem av_nc {x : Int} (h1 : 0 ≤ x) (h2 : x < 65536) : vp_nar .char (Int32.ofInt x) = Int32.ofInt x := by
  unfold vp_nar
  rw [av_nchr h1 h2]
theorem av_c1 {ad : Nat → Nat} {v : av_V} (h : ∀ x, v ≠ .inr (.inl x)) : (av_c ad v).category = 1 := by
  cases v with
  | inl x => rfl
  | inr w => cases w with
    | inl x => exact absurd rfl (h x)
    | inr x => rfl
theorem av_ix {j : Int} {n : Nat} (hj : 0 ≤ j ∧ j < n) (hn : n ≤ 2147483647) : (Int32.ofInt j).toNatClampNeg = j.toNat := Int32.toNatClampNeg_ofInt_of_le (by omega) (by omega)
theorem av_in {j : Int} {n : Nat} (hj : 0 ≤ j ∧ j < n) (hn : n ≤ 2147483647) : vp_in (Int32.ofInt j) n := by
  rw [vp_in_iff, i32_toInt, i32_of (by omega) (by omega)]
  exact hj
def av_mask (mask : List Bool) (L : List (Option av_V)) : List (Option av_V) := match mask, L with
  | [], _ => []
  | _, [] => []
  | b :: bs, v :: vs => (if b = true then v else none) :: av_mask bs vs
theorem av_mask_get : ∀ {mask : List Bool} {L : List (Option av_V)} {i : Nat} {v : av_V}, (av_mask mask L)[i]? = some (some v) → L[i]? = some (some v)
  | [], L, i, v, h => by simp [av_mask] at h
  | b :: bs, [], i, v, h => by simp [av_mask] at h
  | b :: bs, w :: vs, 0, v, h => by
    simp only [av_mask, List.getElem?_cons_zero] at h ⊢
    cases b <;> simp_all
  | b :: bs, w :: vs, i + 1, v, h => by
    simp only [av_mask, List.getElem?_cons_succ] at h ⊢
    exact av_mask_get h
section AVI
variable {E : av_E} {SH : List av_S} {M : av_Y} {pc : Nat} {L L' : List (Option av_V)} {st : List av_V} {σ : av_M} {Q : Option av_V → av_M → Prop}

theorem av_iconst {n : Int} (hd : decode M.2.1 pc = .ok (.iconst n, 1)) (k : av_W E SH M (pc + 1) L (.inl n :: st) σ Q) : av_W E SH M pc L (st) σ Q := by
  intro p e s m args below meth c H locs ls C R S hl
  exact lv_iconst C.1 C.2.1 hd rfl (k p e s m args below meth c H locs ls C R S hl)

theorem av_bipush {n : Int} (hd : decode M.2.1 pc = .ok (.bipush n, 2)) (hn : (Int8.ofInt n).toInt32 = Int32.ofInt n) (k : av_W E SH M (pc + 2) L (.inl n :: st) σ Q) : av_W E SH M pc L (st) σ Q := by
  intro p e s m args below meth c H locs ls C R S hl
  exact lv_bipush C.1 C.2.1 hd hn (k p e s m args below meth c H locs ls C R S hl)

theorem av_sipush {n : Int} (hd : decode M.2.1 pc = .ok (.sipush n, 3)) (hn : (Int16.ofInt n).toInt32 = Int32.ofInt n) (k : av_W E SH M (pc + 3) L (.inl n :: st) σ Q) : av_W E SH M pc L (st) σ Q := by
  intro p e s m args below meth c H locs ls C R S hl
  exact lv_sipush C.1 C.2.1 hd hn (k p e s m args below meth c H locs ls C R S hl)

theorem av_lconst {n : Fin 2} {x : Int} (hd : decode M.2.1 pc = .ok (.lconst n, 1)) (hn : Int64.ofNat (n : Nat) = Int64.ofInt x) (k : av_W E SH M (pc + 1) L (.inr (.inl x) :: st) σ Q) : av_W E SH M pc L (st) σ Q := by
  intro p e s m args below meth c H locs ls C R S hl
  exact lv_lconst C.1 C.2.1 hd hn (k p e s m args below meth c H locs ls C R S hl)

theorem av_ldc {idx : Nat} {n : Int} {own : String} (hd : decode M.2.1 pc = .ok (.ldc idx, 2)) (ho : own = M.1.cls) (hw : Cond.constant own idx (Int32.ofInt n) ∈ av_T) (k : av_W E SH M (pc + 2) L (.inl n :: st) σ Q) : av_W E SH M pc L (st) σ Q := by
  intro p e s m args below meth c H locs ls C R S hl
  subst ho
  exact lv_ldc C.1 C.2.1 C.2.2.2.2.2.1 (C.2.2.2.2.1 _ (List.mem_cons_of_mem _ hw)) hd (k p e s m args below meth c H locs ls C R S hl)

theorem av_ldcw {idx : Nat} {n : Int} {own : String} (hd : decode M.2.1 pc = .ok (.ldc_w idx, 3)) (ho : own = M.1.cls) (hw : Cond.constant own idx (Int32.ofInt n) ∈ av_T) (k : av_W E SH M (pc + 3) L (.inl n :: st) σ Q) : av_W E SH M pc L (st) σ Q := by
  intro p e s m args below meth c H locs ls C R S hl
  subst ho
  exact lv_ldcw C.1 C.2.1 C.2.2.2.2.2.1 (C.2.2.2.2.1 _ (List.mem_cons_of_mem _ hw)) hd (k p e s m args below meth c H locs ls C R S hl)

theorem av_ldc2 {idx : Nat} {n : Int} {own : String} (hd : decode M.2.1 pc = .ok (.ldc2_w idx, 3)) (ho : own = M.1.cls) (hw : Cond.constantLong own idx (Int64.ofInt n) ∈ av_T) (k : av_W E SH M (pc + 3) L (.inr (.inl n) :: st) σ Q) : av_W E SH M pc L (st) σ Q := by
  intro p e s m args below meth c H locs ls C R S hl
  subst ho
  exact lv_ldc2 C.1 C.2.1 C.2.2.2.2.2.1 (C.2.2.2.2.1 _ (List.mem_cons_of_mem _ hw)) hd (k p e s m args below meth c H locs ls C R S hl)

theorem av_iload_n {j : Fin 4} {i : Nat} {x : Int} (hd : decode M.2.1 pc = .ok (.iload_n j, 1)) (hi : (j : Nat) = i) (hx : L[i]? = some (some (.inl x))) (k : av_W E SH M (pc + 1) L (.inl x :: st) σ Q) : av_W E SH M pc L (st) σ Q := by
  intro p e s m args below meth c H locs ls C R S hl
  exact lv_iload_n C.1 C.2.1 hd hi (hl.2.2 _ _ hx) (k p e s m args below meth c H locs ls C R S hl)

theorem av_iload {i : Nat} {x : Int} (hd : decode M.2.1 pc = .ok (.iload i, 2)) (hx : L[i]? = some (some (.inl x))) (k : av_W E SH M (pc + 2) L (.inl x :: st) σ Q) : av_W E SH M pc L (st) σ Q := by
  intro p e s m args below meth c H locs ls C R S hl
  exact lv_iload C.1 C.2.1 hd (hl.2.2 _ _ hx) (k p e s m args below meth c H locs ls C R S hl)

theorem av_lload_n {j : Fin 4} {i : Nat} {x : Int} (hd : decode M.2.1 pc = .ok (.lload_n j, 1)) (hi : (j : Nat) = i) (hx : L[i]? = some (some (.inr (.inl x)))) (k : av_W E SH M (pc + 1) L (.inr (.inl x) :: st) σ Q) : av_W E SH M pc L (st) σ Q := by
  intro p e s m args below meth c H locs ls C R S hl
  exact lv_lload_n C.1 C.2.1 hd hi (hl.2.2 _ _ hx) (k p e s m args below meth c H locs ls C R S hl)

theorem av_lload {i : Nat} {x : Int} (hd : decode M.2.1 pc = .ok (.lload i, 2)) (hx : L[i]? = some (some (.inr (.inl x)))) (k : av_W E SH M (pc + 2) L (.inr (.inl x) :: st) σ Q) : av_W E SH M pc L (st) σ Q := by
  intro p e s m args below meth c H locs ls C R S hl
  exact lv_lload C.1 C.2.1 hd (hl.2.2 _ _ hx) (k p e s m args below meth c H locs ls C R S hl)

theorem av_aload_n {j : Fin 4} {i : Nat} {x : Nat} (hd : decode M.2.1 pc = .ok (.aload_n j, 1)) (hi : (j : Nat) = i) (hx : L[i]? = some (some (.inr (.inr x)))) (k : av_W E SH M (pc + 1) L (.inr (.inr x) :: st) σ Q) : av_W E SH M pc L (st) σ Q := by
  intro p e s m args below meth c H locs ls C R S hl
  exact lv_aload_n C.1 C.2.1 hd hi (hl.2.2 _ _ hx) (k p e s m args below meth c H locs ls C R S hl)

theorem av_aload {i : Nat} {x : Nat} (hd : decode M.2.1 pc = .ok (.aload i, 2)) (hx : L[i]? = some (some (.inr (.inr x)))) (k : av_W E SH M (pc + 2) L (.inr (.inr x) :: st) σ Q) : av_W E SH M pc L (st) σ Q := by
  intro p e s m args below meth c H locs ls C R S hl
  exact lv_aload C.1 C.2.1 hd (hl.2.2 _ _ hx) (k p e s m args below meth c H locs ls C R S hl)

theorem av_istore_n {j : Fin 4} {i : Nat} {x : Int} (hd : decode M.2.1 pc = .ok (.istore_n j, 1)) (hi : (j : Nat) = i) (hb : i < M.2.2.1) (hL : av_s1 L i (.inl x) = L') (k : av_W E SH M (pc + 1) L' st σ Q) : av_W E SH M pc L (.inl x :: st) σ Q := by
  intro p e s m args below meth c H locs ls C R S hl
  subst hL
  exact lv_istore_n C.1 C.2.1 hd hi hl.has hb rfl (fun ls' hl' => k p e s m args below meth c H locs ls' C R S (av_L.s1 rfl hl'))

theorem av_istore {i : Nat} {x : Int} (hd : decode M.2.1 pc = .ok (.istore i, 2)) (hb : i < M.2.2.1) (hL : av_s1 L i (.inl x) = L') (k : av_W E SH M (pc + 2) L' st σ Q) : av_W E SH M pc L (.inl x :: st) σ Q := by
  intro p e s m args below meth c H locs ls C R S hl
  subst hL
  exact lv_istore C.1 C.2.1 hd hl.has hb rfl (fun ls' hl' => k p e s m args below meth c H locs ls' C R S (av_L.s1 rfl hl'))

theorem av_lstore_n {j : Fin 4} {i : Nat} {x : Int} (hd : decode M.2.1 pc = .ok (.lstore_n j, 1)) (hi : (j : Nat) = i) (hb : i + 1 < M.2.2.1) (hL : av_s2 L i (.inr (.inl x)) = L') (k : av_W E SH M (pc + 1) L' st σ Q) : av_W E SH M pc L (.inr (.inl x) :: st) σ Q := by
  intro p e s m args below meth c H locs ls C R S hl
  subst hL
  exact lv_lstore_n C.1 C.2.1 hd hi hl.has hb rfl (fun ls' hl' => k p e s m args below meth c H locs ls' C R S (av_L.s2 rfl hl'))

theorem av_lstore {i : Nat} {x : Int} (hd : decode M.2.1 pc = .ok (.lstore i, 2)) (hb : i + 1 < M.2.2.1) (hL : av_s2 L i (.inr (.inl x)) = L') (k : av_W E SH M (pc + 2) L' st σ Q) : av_W E SH M pc L (.inr (.inl x) :: st) σ Q := by
  intro p e s m args below meth c H locs ls C R S hl
  subst hL
  exact lv_lstore C.1 C.2.1 hd hl.has hb rfl (fun ls' hl' => k p e s m args below meth c H locs ls' C R S (av_L.s2 rfl hl'))

theorem av_astore_n {j : Fin 4} {i : Nat} {x : Nat} (hd : decode M.2.1 pc = .ok (.astore_n j, 1)) (hi : (j : Nat) = i) (hb : i < M.2.2.1) (hL : av_s1 L i (.inr (.inr x)) = L') (k : av_W E SH M (pc + 1) L' st σ Q) : av_W E SH M pc L (.inr (.inr x) :: st) σ Q := by
  intro p e s m args below meth c H locs ls C R S hl
  subst hL
  exact lv_astore_n C.1 C.2.1 hd hi hl.has hb rfl (fun ls' hl' => k p e s m args below meth c H locs ls' C R S (av_L.s1 rfl hl'))

theorem av_astore {i : Nat} {x : Nat} (hd : decode M.2.1 pc = .ok (.astore i, 2)) (hb : i < M.2.2.1) (hL : av_s1 L i (.inr (.inr x)) = L') (k : av_W E SH M (pc + 2) L' st σ Q) : av_W E SH M pc L (.inr (.inr x) :: st) σ Q := by
  intro p e s m args below meth c H locs ls C R S hl
  subst hL
  exact lv_astore C.1 C.2.1 hd hl.has hb rfl (fun ls' hl' => k p e s m args below meth c H locs ls' C R S (av_L.s1 rfl hl'))

theorem av_iinc {i : Nat} {x n y : Int} (hd : decode M.2.1 pc = .ok (.iinc i n, 3)) (hx : L[i]? = some (some (.inl x))) (hb : i < M.2.2.1) (hy : x + n = y) (hL : av_s1 L i (.inl y) = L') (k : av_W E SH M (pc + 3) L' st σ Q) : av_W E SH M pc L st σ Q := by
  intro p e s m args below meth c H locs ls C R S hl
  subst hL
  subst hy
  obtain ⟨j, hj⟩ := List.getElem?_of_mem (av_ll_mem.mpr ⟨_, hx, rfl⟩ : ((i, av_c E.2.2.1 (.inl x)) : Nat × Value) ∈ av_ll E.2.2.1 L)
  exact lv_iinc (v := Int32.ofInt (x + n)) C.1 C.2.1 hd hl.has hj (by rw [Int32.ofInt_add]) hb rfl (fun ls' hl' => k p e s m args below meth c H locs ls' C R S (av_L.s1 rfl hl'))

theorem av_iadd {x y : Int} (hd : decode M.2.1 pc = .ok (.iadd, 1)) (k : av_W E SH M (pc + 1) L (.inl (x + y) :: st) σ Q) : av_W E SH M pc L (.inl y :: .inl x :: st) σ Q := by
  intro p e s m args below meth c H locs ls C R S hl
  have kk := k p e s m args below meth c H locs ls C R S hl
  refine lv_iadd C.1 C.2.1 hd ?_
  rw [← Int32.ofInt_add]
  exact kk

theorem av_isub {x y : Int} (hd : decode M.2.1 pc = .ok (.isub, 1)) (k : av_W E SH M (pc + 1) L (.inl (x - y) :: st) σ Q) : av_W E SH M pc L (.inl y :: .inl x :: st) σ Q := by
  intro p e s m args below meth c H locs ls C R S hl
  have kk := k p e s m args below meth c H locs ls C R S hl
  refine lv_isub C.1 C.2.1 hd ?_
  rw [← Int32.ofInt_sub]
  exact kk

theorem av_imul {x y : Int} (hd : decode M.2.1 pc = .ok (.imul, 1)) (k : av_W E SH M (pc + 1) L (.inl (x * y) :: st) σ Q) : av_W E SH M pc L (.inl y :: .inl x :: st) σ Q := by
  intro p e s m args below meth c H locs ls C R S hl
  have kk := k p e s m args below meth c H locs ls C R S hl
  refine lv_imul C.1 C.2.1 hd ?_
  rw [← Int32.ofInt_mul]
  exact kk

theorem av_ladd {x y : Int} (hd : decode M.2.1 pc = .ok (.ladd, 1)) (k : av_W E SH M (pc + 1) L (.inr (.inl (x + y)) :: st) σ Q) : av_W E SH M pc L (.inr (.inl y) :: .inr (.inl x) :: st) σ Q := by
  intro p e s m args below meth c H locs ls C R S hl
  have kk := k p e s m args below meth c H locs ls C R S hl
  refine lv_ladd C.1 C.2.1 hd ?_
  rw [← Int64.ofInt_add]
  exact kk

theorem av_lsub {x y : Int} (hd : decode M.2.1 pc = .ok (.lsub, 1)) (k : av_W E SH M (pc + 1) L (.inr (.inl (x - y)) :: st) σ Q) : av_W E SH M pc L (.inr (.inl y) :: .inr (.inl x) :: st) σ Q := by
  intro p e s m args below meth c H locs ls C R S hl
  have kk := k p e s m args below meth c H locs ls C R S hl
  refine lv_lsub C.1 C.2.1 hd ?_
  rw [← Int64.ofInt_sub]
  exact kk

theorem av_lmul {x y : Int} (hd : decode M.2.1 pc = .ok (.lmul, 1)) (k : av_W E SH M (pc + 1) L (.inr (.inl (x * y)) :: st) σ Q) : av_W E SH M pc L (.inr (.inl y) :: .inr (.inl x) :: st) σ Q := by
  intro p e s m args below meth c H locs ls C R S hl
  have kk := k p e s m args below meth c H locs ls C R S hl
  refine lv_lmul C.1 C.2.1 hd ?_
  rw [← Int64.ofInt_mul]
  exact kk

theorem av_idiv {x y : Int} (hd : decode M.2.1 pc = .ok (.idiv, 1)) (hx : 0 ≤ x ∧ x < 2147483648) (hy : 0 < y ∧ y < 2147483648) (k : av_W E SH M (pc + 1) L (.inl (x / y) :: st) σ Q) : av_W E SH M pc L (.inl y :: .inl x :: st) σ Q := by
  intro p e s m args below meth c H locs ls C R S hl
  have kk := k p e s m args below meth c H locs ls C R S hl
  have e1 : i32 x = x := i32_of (by omega) (by omega)
  have e2 : i32 y = y := i32_of (by omega) (by omega)
  have hz : ¬ i32 y = 0 := by rw [e2]; omega
  have hne : ¬ Int32.ofInt y = 0 := by rw [i32_0, i32_eq, i32_z]; exact hz
  refine lv_idiv C.1 C.2.1 hd hne ?_
  rw [i32_tdiv, e1, e2, Int.tdiv_eq_ediv_of_nonneg hx.1]
  exact kk

theorem av_irem {x y : Int} (hd : decode M.2.1 pc = .ok (.irem, 1)) (hx : 0 ≤ x ∧ x < 2147483648) (hy : 0 < y ∧ y < 2147483648) (k : av_W E SH M (pc + 1) L (.inl (x % y) :: st) σ Q) : av_W E SH M pc L (.inl y :: .inl x :: st) σ Q := by
  intro p e s m args below meth c H locs ls C R S hl
  have kk := k p e s m args below meth c H locs ls C R S hl
  have e1 : i32 x = x := i32_of (by omega) (by omega)
  have e2 : i32 y = y := i32_of (by omega) (by omega)
  have hz : ¬ i32 y = 0 := by rw [e2]; omega
  have hne : ¬ Int32.ofInt y = 0 := by rw [i32_0, i32_eq, i32_z]; exact hz
  refine lv_irem C.1 C.2.1 hd hne ?_
  rw [i32_tmod, e1, e2, Int.tmod_eq_emod_of_nonneg hx.1]
  exact kk

theorem av_ldiv {x y : Int} (hd : decode M.2.1 pc = .ok (.ldiv, 1)) (hx : 0 ≤ x ∧ x < 9223372036854775808) (hy : 0 < y ∧ y < 9223372036854775808) (k : av_W E SH M (pc + 1) L (.inr (.inl (x / y)) :: st) σ Q) : av_W E SH M pc L (.inr (.inl y) :: .inr (.inl x) :: st) σ Q := by
  intro p e s m args below meth c H locs ls C R S hl
  have kk := k p e s m args below meth c H locs ls C R S hl
  have e1 : i64 x = x := i64_of (by omega) (by omega)
  have e2 : i64 y = y := i64_of (by omega) (by omega)
  have hz : ¬ i64 y = 0 := by rw [e2]; omega
  have hne : ¬ Int64.ofInt y = 0 := by rw [show (0 : Int64) = Int64.ofInt 0 from rfl, ← Int64.toInt_inj, i64_toInt, i64_toInt, show i64 0 = 0 from by decide]; exact hz
  refine lv_ldiv C.1 C.2.1 hd hne ?_
  rw [i64_tdiv, e1, e2, Int.tdiv_eq_ediv_of_nonneg hx.1]
  exact kk

theorem av_lrem {x y : Int} (hd : decode M.2.1 pc = .ok (.lrem, 1)) (hx : 0 ≤ x ∧ x < 9223372036854775808) (hy : 0 < y ∧ y < 9223372036854775808) (k : av_W E SH M (pc + 1) L (.inr (.inl (x % y)) :: st) σ Q) : av_W E SH M pc L (.inr (.inl y) :: .inr (.inl x) :: st) σ Q := by
  intro p e s m args below meth c H locs ls C R S hl
  have kk := k p e s m args below meth c H locs ls C R S hl
  have e1 : i64 x = x := i64_of (by omega) (by omega)
  have e2 : i64 y = y := i64_of (by omega) (by omega)
  have hz : ¬ i64 y = 0 := by rw [e2]; omega
  have hne : ¬ Int64.ofInt y = 0 := by rw [show (0 : Int64) = Int64.ofInt 0 from rfl, ← Int64.toInt_inj, i64_toInt, i64_toInt, show i64 0 = 0 from by decide]; exact hz
  refine lv_lrem C.1 C.2.1 hd hne ?_
  rw [i64_tmod, e1, e2, Int.tmod_eq_emod_of_nonneg hx.1]
  exact kk

theorem av_iand {x y : Int} (hd : decode M.2.1 pc = .ok (.iand, 1)) (k : av_W E SH M (pc + 1) L (.inl (i_and x y) :: st) σ Q) : av_W E SH M pc L (.inl y :: .inl x :: st) σ Q := by
  intro p e s m args below meth c H locs ls C R S hl
  have kk := k p e s m args below meth c H locs ls C R S hl
  refine lv_iand C.1 C.2.1 hd ?_
  rw [← Int32.ofInt_toInt (Int32.ofInt x &&& Int32.ofInt y)]
  exact kk

theorem av_ior {x y : Int} (hd : decode M.2.1 pc = .ok (.ior, 1)) (k : av_W E SH M (pc + 1) L (.inl (i_or x y) :: st) σ Q) : av_W E SH M pc L (.inl y :: .inl x :: st) σ Q := by
  intro p e s m args below meth c H locs ls C R S hl
  have kk := k p e s m args below meth c H locs ls C R S hl
  refine lv_ior C.1 C.2.1 hd ?_
  rw [← Int32.ofInt_toInt (Int32.ofInt x ||| Int32.ofInt y)]
  exact kk

theorem av_ixor {x y : Int} (hd : decode M.2.1 pc = .ok (.ixor, 1)) (k : av_W E SH M (pc + 1) L (.inl (i_xor x y) :: st) σ Q) : av_W E SH M pc L (.inl y :: .inl x :: st) σ Q := by
  intro p e s m args below meth c H locs ls C R S hl
  have kk := k p e s m args below meth c H locs ls C R S hl
  refine lv_ixor C.1 C.2.1 hd ?_
  rw [← Int32.ofInt_toInt (Int32.ofInt x ^^^ Int32.ofInt y)]
  exact kk

theorem av_ishl {x y : Int} (hd : decode M.2.1 pc = .ok (.ishl, 1)) (k : av_W E SH M (pc + 1) L (.inl (i_shl x y) :: st) σ Q) : av_W E SH M pc L (.inl y :: .inl x :: st) σ Q := by
  intro p e s m args below meth c H locs ls C R S hl
  have kk := k p e s m args below meth c H locs ls C R S hl
  refine lv_ishl C.1 C.2.1 hd ?_
  rw [← Int32.ofInt_toInt (Int32.ofInt x <<< (Int32.ofInt y &&& 31))]
  exact kk

theorem av_ishr {x y : Int} (hd : decode M.2.1 pc = .ok (.ishr, 1)) (k : av_W E SH M (pc + 1) L (.inl (i_shr x y) :: st) σ Q) : av_W E SH M pc L (.inl y :: .inl x :: st) σ Q := by
  intro p e s m args below meth c H locs ls C R S hl
  have kk := k p e s m args below meth c H locs ls C R S hl
  refine lv_ishr C.1 C.2.1 hd ?_
  rw [← Int32.ofInt_toInt (Int32.ofInt x >>> (Int32.ofInt y &&& 31))]
  exact kk

theorem av_iushr {x y : Int} (hd : decode M.2.1 pc = .ok (.iushr, 1)) (k : av_W E SH M (pc + 1) L (.inl (i_ushr x y) :: st) σ Q) : av_W E SH M pc L (.inl y :: .inl x :: st) σ Q := by
  intro p e s m args below meth c H locs ls C R S hl
  have kk := k p e s m args below meth c H locs ls C R S hl
  exact lv_iushr (v := Int32.ofInt (i_ushr x y)) C.1 C.2.1 hd (by unfold i_ushr; rw [Int32.ofInt_toInt]) kk

theorem av_lcmp {x y : Int} (hd : decode M.2.1 pc = .ok (.lcmp, 1)) (hx : rg6 x) (hy : rg6 y) (k : av_W E SH M (pc + 1) L (.inl (i_cmp x y) :: st) σ Q) : av_W E SH M pc L (.inr (.inl y) :: .inr (.inl x) :: st) σ Q := by
  intro p e s m args below meth c H locs ls C R S hl
  have kk := k p e s m args below meth c H locs ls C R S hl
  refine W.lcmp C.1 C.2.1 hd ?_
  rw [i_cmp_lg hx hy]
  exact kk

theorem av_i2l {x : Int} (hd : decode M.2.1 pc = .ok (.i2l, 1)) (hx : rg x) (k : av_W E SH M (pc + 1) L (.inr (.inl x) :: st) σ Q) : av_W E SH M pc L (.inl x :: st) σ Q := by
  intro p e s m args below meth c H locs ls C R S hl
  exact lv_i2l (v := Int64.ofInt x) C.1 C.2.1 hd (by rw [← Int64.ofInt_int32ToInt, i32_toInt, i32_of hx.1 hx.2]) (k p e s m args below meth c H locs ls C R S hl)

theorem av_l2i {x : Int} (hd : decode M.2.1 pc = .ok (.l2i, 1)) (k : av_W E SH M (pc + 1) L (.inl x :: st) σ Q) : av_W E SH M pc L (.inr (.inl x) :: st) σ Q := by
  intro p e s m args below meth c H locs ls C R S hl
  exact lv_l2i (v := Int32.ofInt x) C.1 C.2.1 hd Int64.toInt32_ofInt (k p e s m args below meth c H locs ls C R S hl)

theorem av_i2c {x : Int} (hd : decode M.2.1 pc = .ok (.i2c, 1)) (h1 : 0 ≤ x) (h2 : x < 65536) (k : av_W E SH M (pc + 1) L (.inl x :: st) σ Q) : av_W E SH M pc L (.inl x :: st) σ Q := by
  intro p e s m args below meth c H locs ls C R S hl
  exact lv_i2c (v := Int32.ofInt x) C.1 C.2.1 hd (av_chr h1 h2) (k p e s m args below meth c H locs ls C R S hl)

theorem av_dup {v : av_V} (hd : decode M.2.1 pc = .ok (.dup, 1)) (h1 : ∀ x, v ≠ .inr (.inl x)) (k : av_W E SH M (pc + 1) L (v :: v :: st) σ Q) : av_W E SH M pc L (v :: st) σ Q := by
  intro p e s m args below meth c H locs ls C R S hl
  exact lv_dup C.1 C.2.1 hd (av_c1 h1) (k p e s m args below meth c H locs ls C R S hl)

theorem av_pop {v : av_V} (hd : decode M.2.1 pc = .ok (.pop, 1)) (h1 : ∀ x, v ≠ .inr (.inl x)) (k : av_W E SH M (pc + 1) L (st) σ Q) : av_W E SH M pc L (v :: st) σ Q := by
  intro p e s m args below meth c H locs ls C R S hl
  exact lv_pop C.1 C.2.1 hd (av_c1 h1) (k p e s m args below meth c H locs ls C R S hl)

theorem av_dup2 {v w : av_V} (hd : decode M.2.1 pc = .ok (.dup2, 1)) (h1 : ∀ x, v ≠ .inr (.inl x)) (h2 : ∀ x, w ≠ .inr (.inl x)) (k : av_W E SH M (pc + 1) L (v :: w :: v :: w :: st) σ Q) : av_W E SH M pc L (v :: w :: st) σ Q := by
  intro p e s m args below meth c H locs ls C R S hl
  exact lv_dup2_11 C.1 C.2.1 hd (av_c1 h1) (av_c1 h2) (k p e s m args below meth c H locs ls C R S hl)

theorem av_icmp_eq {x y : Int} {off : Int} {tgt : Nat} (hd : decode M.2.1 pc = .ok (.if_icmp .eq off, 3)) (ht : (pc : Int) + off = (tgt : Int)) (hx : rg x) (hy : rg y) (kt : x = y → av_W E SH M tgt L st σ Q) (kf : ¬ x = y → av_W E SH M (pc + 3) L st σ Q) : av_W E SH M pc L (.inl y :: .inl x :: st) σ Q := by
  intro p e s m args below meth c H locs ls C R S hl
  have hx2 := i32_of hx.1 hx.2
  have hy2 := (i32_of hy.1 hy.2)
  refine lv_icmp_eq C.1 C.2.1 hd ht (fun h => kt ?_ p e s m args below meth c H locs ls C R S hl) (fun h => kf ?_ p e s m args below meth c H locs ls C R S hl)
  · skip
    try rw [i32_eq] at h
    try simp only [ne_eq, i32_eq] at h
    rw [hx2, hy2] at h
    omega
  · skip
    try rw [i32_eq] at h
    try simp only [ne_eq, i32_eq] at h
    rw [hx2, hy2] at h
    omega

theorem av_if_eq {x : Int} {off : Int} {tgt : Nat} (hd : decode M.2.1 pc = .ok (.ifCond .eq off, 3)) (ht : (pc : Int) + off = (tgt : Int)) (hx : rg x) (kt : x = 0 → av_W E SH M tgt L st σ Q) (kf : ¬ x = 0 → av_W E SH M (pc + 3) L st σ Q) : av_W E SH M pc L (.inl x :: st) σ Q := by
  intro p e s m args below meth c H locs ls C R S hl
  have hx2 := i32_of hx.1 hx.2
  have hy2 := i32_z
  refine lv_if_eq C.1 C.2.1 hd ht (fun h => kt ?_ p e s m args below meth c H locs ls C R S hl) (fun h => kf ?_ p e s m args below meth c H locs ls C R S hl)
  · rw [i32_0] at h
    try rw [i32_eq] at h
    try simp only [ne_eq, i32_eq] at h
    rw [hx2, hy2] at h
    omega
  · rw [i32_0] at h
    try rw [i32_eq] at h
    try simp only [ne_eq, i32_eq] at h
    rw [hx2, hy2] at h
    omega

theorem av_icmp_ne {x y : Int} {off : Int} {tgt : Nat} (hd : decode M.2.1 pc = .ok (.if_icmp .ne off, 3)) (ht : (pc : Int) + off = (tgt : Int)) (hx : rg x) (hy : rg y) (kt : ¬ x = y → av_W E SH M tgt L st σ Q) (kf : x = y → av_W E SH M (pc + 3) L st σ Q) : av_W E SH M pc L (.inl y :: .inl x :: st) σ Q := by
  intro p e s m args below meth c H locs ls C R S hl
  have hx2 := i32_of hx.1 hx.2
  have hy2 := (i32_of hy.1 hy.2)
  refine lv_icmp_ne C.1 C.2.1 hd ht (fun h => kt ?_ p e s m args below meth c H locs ls C R S hl) (fun h => kf ?_ p e s m args below meth c H locs ls C R S hl)
  · skip
    try rw [i32_eq] at h
    try simp only [ne_eq, i32_eq] at h
    rw [hx2, hy2] at h
    omega
  · skip
    try rw [i32_eq] at h
    try simp only [ne_eq, i32_eq] at h
    rw [hx2, hy2] at h
    omega

theorem av_if_ne {x : Int} {off : Int} {tgt : Nat} (hd : decode M.2.1 pc = .ok (.ifCond .ne off, 3)) (ht : (pc : Int) + off = (tgt : Int)) (hx : rg x) (kt : ¬ x = 0 → av_W E SH M tgt L st σ Q) (kf : x = 0 → av_W E SH M (pc + 3) L st σ Q) : av_W E SH M pc L (.inl x :: st) σ Q := by
  intro p e s m args below meth c H locs ls C R S hl
  have hx2 := i32_of hx.1 hx.2
  have hy2 := i32_z
  refine lv_if_ne C.1 C.2.1 hd ht (fun h => kt ?_ p e s m args below meth c H locs ls C R S hl) (fun h => kf ?_ p e s m args below meth c H locs ls C R S hl)
  · rw [i32_0] at h
    try rw [i32_eq] at h
    try simp only [ne_eq, i32_eq] at h
    rw [hx2, hy2] at h
    omega
  · rw [i32_0] at h
    try rw [i32_eq] at h
    try simp only [ne_eq, i32_eq] at h
    rw [hx2, hy2] at h
    omega

theorem av_icmp_lt {x y : Int} {off : Int} {tgt : Nat} (hd : decode M.2.1 pc = .ok (.if_icmp .lt off, 3)) (ht : (pc : Int) + off = (tgt : Int)) (hx : rg x) (hy : rg y) (kt : x < y → av_W E SH M tgt L st σ Q) (kf : y ≤ x → av_W E SH M (pc + 3) L st σ Q) : av_W E SH M pc L (.inl y :: .inl x :: st) σ Q := by
  intro p e s m args below meth c H locs ls C R S hl
  have hx2 := i32_of hx.1 hx.2
  have hy2 := (i32_of hy.1 hy.2)
  refine lv_icmp_lt C.1 C.2.1 hd ht (fun h => kt ?_ p e s m args below meth c H locs ls C R S hl) (fun h => kf ?_ p e s m args below meth c H locs ls C R S hl)
  · skip
    try rw [i32_lt] at h
    try simp only [ne_eq, i32_lt] at h
    rw [hx2, hy2] at h
    omega
  · skip
    try rw [i32_lt] at h
    try simp only [ne_eq, i32_lt] at h
    rw [hx2, hy2] at h
    omega

theorem av_if_lt {x : Int} {off : Int} {tgt : Nat} (hd : decode M.2.1 pc = .ok (.ifCond .lt off, 3)) (ht : (pc : Int) + off = (tgt : Int)) (hx : rg x) (kt : x < 0 → av_W E SH M tgt L st σ Q) (kf : 0 ≤ x → av_W E SH M (pc + 3) L st σ Q) : av_W E SH M pc L (.inl x :: st) σ Q := by
  intro p e s m args below meth c H locs ls C R S hl
  have hx2 := i32_of hx.1 hx.2
  have hy2 := i32_z
  refine lv_if_lt C.1 C.2.1 hd ht (fun h => kt ?_ p e s m args below meth c H locs ls C R S hl) (fun h => kf ?_ p e s m args below meth c H locs ls C R S hl)
  · rw [i32_0] at h
    try rw [i32_lt] at h
    try simp only [ne_eq, i32_lt] at h
    rw [hx2, hy2] at h
    omega
  · rw [i32_0] at h
    try rw [i32_lt] at h
    try simp only [ne_eq, i32_lt] at h
    rw [hx2, hy2] at h
    omega

theorem av_icmp_ge {x y : Int} {off : Int} {tgt : Nat} (hd : decode M.2.1 pc = .ok (.if_icmp .ge off, 3)) (ht : (pc : Int) + off = (tgt : Int)) (hx : rg x) (hy : rg y) (kt : y ≤ x → av_W E SH M tgt L st σ Q) (kf : x < y → av_W E SH M (pc + 3) L st σ Q) : av_W E SH M pc L (.inl y :: .inl x :: st) σ Q := by
  intro p e s m args below meth c H locs ls C R S hl
  have hx2 := i32_of hx.1 hx.2
  have hy2 := (i32_of hy.1 hy.2)
  refine lv_icmp_ge C.1 C.2.1 hd ht (fun h => kt ?_ p e s m args below meth c H locs ls C R S hl) (fun h => kf ?_ p e s m args below meth c H locs ls C R S hl)
  · skip
    try rw [i32_le] at h
    try simp only [ne_eq, i32_le] at h
    rw [hx2, hy2] at h
    omega
  · skip
    try rw [i32_le] at h
    try simp only [ne_eq, i32_le] at h
    rw [hx2, hy2] at h
    omega

theorem av_if_ge {x : Int} {off : Int} {tgt : Nat} (hd : decode M.2.1 pc = .ok (.ifCond .ge off, 3)) (ht : (pc : Int) + off = (tgt : Int)) (hx : rg x) (kt : 0 ≤ x → av_W E SH M tgt L st σ Q) (kf : x < 0 → av_W E SH M (pc + 3) L st σ Q) : av_W E SH M pc L (.inl x :: st) σ Q := by
  intro p e s m args below meth c H locs ls C R S hl
  have hx2 := i32_of hx.1 hx.2
  have hy2 := i32_z
  refine lv_if_ge C.1 C.2.1 hd ht (fun h => kt ?_ p e s m args below meth c H locs ls C R S hl) (fun h => kf ?_ p e s m args below meth c H locs ls C R S hl)
  · rw [i32_0] at h
    try rw [i32_le] at h
    try simp only [ne_eq, i32_le] at h
    rw [hx2, hy2] at h
    omega
  · rw [i32_0] at h
    try rw [i32_le] at h
    try simp only [ne_eq, i32_le] at h
    rw [hx2, hy2] at h
    omega

theorem av_icmp_gt {x y : Int} {off : Int} {tgt : Nat} (hd : decode M.2.1 pc = .ok (.if_icmp .gt off, 3)) (ht : (pc : Int) + off = (tgt : Int)) (hx : rg x) (hy : rg y) (kt : y < x → av_W E SH M tgt L st σ Q) (kf : x ≤ y → av_W E SH M (pc + 3) L st σ Q) : av_W E SH M pc L (.inl y :: .inl x :: st) σ Q := by
  intro p e s m args below meth c H locs ls C R S hl
  have hx2 := i32_of hx.1 hx.2
  have hy2 := (i32_of hy.1 hy.2)
  refine lv_icmp_gt C.1 C.2.1 hd ht (fun h => kt ?_ p e s m args below meth c H locs ls C R S hl) (fun h => kf ?_ p e s m args below meth c H locs ls C R S hl)
  · skip
    try rw [i32_lt] at h
    try simp only [ne_eq, i32_lt] at h
    rw [hx2, hy2] at h
    omega
  · skip
    try rw [i32_lt] at h
    try simp only [ne_eq, i32_lt] at h
    rw [hx2, hy2] at h
    omega

theorem av_if_gt {x : Int} {off : Int} {tgt : Nat} (hd : decode M.2.1 pc = .ok (.ifCond .gt off, 3)) (ht : (pc : Int) + off = (tgt : Int)) (hx : rg x) (kt : 0 < x → av_W E SH M tgt L st σ Q) (kf : x ≤ 0 → av_W E SH M (pc + 3) L st σ Q) : av_W E SH M pc L (.inl x :: st) σ Q := by
  intro p e s m args below meth c H locs ls C R S hl
  have hx2 := i32_of hx.1 hx.2
  have hy2 := i32_z
  refine lv_if_gt C.1 C.2.1 hd ht (fun h => kt ?_ p e s m args below meth c H locs ls C R S hl) (fun h => kf ?_ p e s m args below meth c H locs ls C R S hl)
  · rw [i32_0] at h
    try rw [i32_lt] at h
    try simp only [ne_eq, i32_lt] at h
    rw [hx2, hy2] at h
    omega
  · rw [i32_0] at h
    try rw [i32_lt] at h
    try simp only [ne_eq, i32_lt] at h
    rw [hx2, hy2] at h
    omega

theorem av_icmp_le {x y : Int} {off : Int} {tgt : Nat} (hd : decode M.2.1 pc = .ok (.if_icmp .le off, 3)) (ht : (pc : Int) + off = (tgt : Int)) (hx : rg x) (hy : rg y) (kt : x ≤ y → av_W E SH M tgt L st σ Q) (kf : y < x → av_W E SH M (pc + 3) L st σ Q) : av_W E SH M pc L (.inl y :: .inl x :: st) σ Q := by
  intro p e s m args below meth c H locs ls C R S hl
  have hx2 := i32_of hx.1 hx.2
  have hy2 := (i32_of hy.1 hy.2)
  refine lv_icmp_le C.1 C.2.1 hd ht (fun h => kt ?_ p e s m args below meth c H locs ls C R S hl) (fun h => kf ?_ p e s m args below meth c H locs ls C R S hl)
  · skip
    try rw [i32_le] at h
    try simp only [ne_eq, i32_le] at h
    rw [hx2, hy2] at h
    omega
  · skip
    try rw [i32_le] at h
    try simp only [ne_eq, i32_le] at h
    rw [hx2, hy2] at h
    omega

theorem av_if_le {x : Int} {off : Int} {tgt : Nat} (hd : decode M.2.1 pc = .ok (.ifCond .le off, 3)) (ht : (pc : Int) + off = (tgt : Int)) (hx : rg x) (kt : x ≤ 0 → av_W E SH M tgt L st σ Q) (kf : 0 < x → av_W E SH M (pc + 3) L st σ Q) : av_W E SH M pc L (.inl x :: st) σ Q := by
  intro p e s m args below meth c H locs ls C R S hl
  have hx2 := i32_of hx.1 hx.2
  have hy2 := i32_z
  refine lv_if_le C.1 C.2.1 hd ht (fun h => kt ?_ p e s m args below meth c H locs ls C R S hl) (fun h => kf ?_ p e s m args below meth c H locs ls C R S hl)
  · rw [i32_0] at h
    try rw [i32_le] at h
    try simp only [ne_eq, i32_le] at h
    rw [hx2, hy2] at h
    omega
  · rw [i32_0] at h
    try rw [i32_le] at h
    try simp only [ne_eq, i32_le] at h
    rw [hx2, hy2] at h
    omega

theorem av_goto {off : Int} {tgt : Nat} (hd : decode M.2.1 pc = .ok (.goto off, 3)) (ht : (pc : Int) + off = (tgt : Int)) (k : av_W E SH M tgt L st σ Q) : av_W E SH M pc L st σ Q := by
  intro p e s m args below meth c H locs ls C R S hl
  exact lv_goto C.1 C.2.1 hd ht (k p e s m args below meth c H locs ls C R S hl)
theorem av_table {x dflt lo hi : Int} {offs : Array Int} {len : Nat} (hd : decode M.2.1 pc = .ok (.tableswitch dflt lo hi offs, len)) (tg : Int → Nat)
    (hin : ∀ j : Nat, (h : j < offs.size) → (pc : Int) + offs[j] = ((tg j : Nat) : Int)) (hsz : hi - lo + 1 = offs.size) (ho : (pc : Int) + dflt = ((tg (-1) : Nat) : Int))
    (hx : rg x) (ki : ∀ j : Nat, j < offs.size → x = lo + j → av_W E SH M (tg j) L st σ Q) (ko : (x < lo ∨ hi < x) → av_W E SH M (tg (-1)) L st σ Q) : av_W E SH M pc L (.inl x :: st) σ Q := by
  intro p e s m args below meth c H locs ls C R S hl
  have ex := i32_of hx.1 hx.2
  by_cases hr : x < lo ∨ hi < x
  · exact lv_tableOut C.1 C.2.1 hd (by rw [i32_toInt, ex]; exact hr) ho (ko hr p e s m args below meth c H locs ls C R S hl)
  · have h1 : ¬ x < lo := fun h => hr (Or.inl h)
    have h2 : ¬ hi < x := fun h => hr (Or.inr h)
    have h3 : (x - lo).toNat < offs.size := by omega
    exact lv_tableIn C.1 C.2.1 hd (by rw [i32_toInt, ex]; exact h1) (by rw [i32_toInt, ex]; exact h2) (by rw [i32_toInt, ex]; exact Array.getElem?_eq_getElem h3) (hin _ h3) (ki _ h3 (by omega) p e s m args below meth c H locs ls C R S hl)
theorem av_lookup {x dflt : Int} {ps : Array (Int × Int)} {len tgt : Nat} {off : Int} (hd : decode M.2.1 pc = .ok (.lookupswitch dflt ps, len)) (hp : (ps.toList.zip (ps.toList.drop 1)).all (fun (a, next) => a.1 < next.1) = true) (ho : Op.lookupswitch.offset ps.toList dflt x = off) (hx : rg x) (ht : (pc : Int) + off = (tgt : Int)) (k : av_W E SH M tgt L st σ Q) : av_W E SH M pc L (.inl x :: st) σ Q := by
  intro p e s m args below meth c H locs ls C R S hl
  exact lv_lookup C.1 C.2.1 hd hp (by rw [i32_toInt, i32_of hx.1 hx.2]; exact ho) ht (k p e s m args below meth c H locs ls C R S hl)

theorem av_getr {i ci k idx N r : Nat} {fs : List (Option Nat)} {CN own : String} {T : u_T} (hd : decode M.2.1 pc = .ok (.getfield idx, 3)) (hs : SH[i]? = some (.inr (ci, fs))) (hc : vwCl[ci]? = some (CN, T, N)) (hin : ∀ w ∈ u_ws CN T N, w ∈ av_T) (hk : k < N) (ho : own = M.1.cls) (hw : Cond.fieldLink own idx (T k).1 (T k).2.1 (T k).2.2.1 ∈ av_T) (hf : fs[k]? = some (some r)) (kk : av_W E SH M (pc + 3) L (.inr (.inr r) :: st) σ Q) : av_W E SH M pc L (.inr (.inr i) :: st) σ Q := by
  intro p e s m args below meth c H locs ls C R S hl
  subst ho
  refine va_get (ref := (T k).1) (v := .ref (E.2.2.1 r)) C.1 C.2.1 C.2.2.2.2.1 (fun w hw' => List.mem_cons_of_mem _ (hin w hw')) C.2.2.2.2.2.1 C.2.2.2.2.2.2.2.1 R.1 i (av_w_at hs) hc k hk (C.2.2.2.2.1 _ (List.mem_cons_of_mem _ hw)) (fun _ h9 => h9) ?_ hd (kk p e s m args below meth c H locs ls C R S hl)
  simp [List.getElem?_mapIdx, hf]
theorem av_get {i ci k idx N : Nat} {x : Int} {fs : List (Option Nat)} {CN own : String} {T : u_T} (hd : decode M.2.1 pc = .ok (.getfield idx, 3)) (hs : SH[i]? = some (.inr (ci, fs))) (hc : vwCl[ci]? = some (CN, T, N)) (hin : ∀ w ∈ u_ws CN T N, w ∈ av_T) (hk : k < N) (ho : own = M.1.cls) (hw : Cond.fieldLink own idx (T k).1 (T k).2.1 (T k).2.2.1 ∈ av_T) (hf : fs[k]? = some none) (hv : σ i k = x) (kk : av_W E SH M (pc + 3) L (.inl x :: st) σ Q) : av_W E SH M pc L (.inr (.inr i) :: st) σ Q := by
  intro p e s m args below meth c H locs ls C R S hl
  subst ho
  subst hv
  refine va_get (ref := (T k).1) (v := .int (Int32.ofInt (σ i k))) C.1 C.2.1 C.2.2.2.2.1 (fun w hw' => List.mem_cons_of_mem _ (hin w hw')) C.2.2.2.2.2.1 C.2.2.2.2.2.2.2.1 R.1 i (av_w_at hs) hc k hk (C.2.2.2.2.1 _ (List.mem_cons_of_mem _ hw)) (fun _ h9 => h9) ?_ hd (kk p e s m args below meth c H locs ls C R S hl)
  simp [List.getElem?_mapIdx, hf]
theorem av_put {i ci k idx N : Nat} {x : Int} {fs : List (Option Nat)} {CN own : String} {T : u_T} (ty0 : Nat → FieldType) (hd : decode M.2.1 pc = .ok (.putfield idx, 3)) (hs : SH[i]? = some (.inr (ci, fs))) (hc : vwCl[ci]? = some (CN, T, N)) (hin : ∀ w ∈ u_ws CN T N, w ∈ av_T) (hty : ∀ k, k < N → parseFieldDescriptor (T k).2.2.1 = some (ty0 k)) (hnm : ∀ a, a < N → ∀ b, b < N → a ≠ b → (T a).2.1 ≠ (T b).2.1) (hk : k < N) (ho : own = M.1.cls) (hw : Cond.fieldLink own idx (T k).1 (T k).2.1 (T k).2.2.1 ∈ av_T) (hf : fs[k]? = some none) (hfin : (T k).2.2.2 = false) (ht : ty0 k = .int) (kk : av_W E SH M (pc + 3) L st (av_st σ i k x) Q) : av_W E SH M pc L (.inl x :: .inr (.inr i) :: st) σ Q := by
  intro p e s m args below meth c H locs ls C R S hl
  subst ho
  refine va_put (ref := (T k).1) (v := .int (Int32.ofInt x)) (ty := .int) C.1 C.2.1 C.2.2.2.2.1 (fun w hw' => List.mem_cons_of_mem _ (hin w hw')) ty0 hty hnm C.2.2.2.2.2.1 C.2.2.2.2.2.2.2.1 R.1 R.2 S i (av_w_at hs) hc k hk (C.2.2.2.2.1 _ (List.mem_cons_of_mem _ hw)) (fun _ h9 => h9) hfin (by rw [hty k hk, ht]) rfl rfl (by have := (List.getElem?_eq_some_iff.mp hf).1; simpa using this) hd (fun H1 locs1 hP hD hS => ?_)
  have hset := av_w_set (E := E) (SH := SH) (σ := σ) (σ' := av_st σ i k x) hs (av_e_obj hf) (fun j sh' hj => av_e_congr (av_st_ne hj))
  rw [hset] at hP hD
  exact kk p e s m args below meth c H1 locs1 ls C ⟨hP, hD⟩ hS hl
theorem av_iald {i n : Nat} {j x : Int} (hd : decode M.2.1 pc = .ok (.iaload, 1)) (hs : SH[i]? = some (.inl (0, n))) (hn : n ≤ 2147483647) (hj : 0 ≤ j ∧ j < n) (hv : σ i j.toNat = x) (kk : av_W E SH M (pc + 1) L (.inl x :: st) σ Q) : av_W E SH M pc L (.inl j :: .inr (.inr i) :: st) σ Q := by
  intro p e s m args below meth c H locs ls C R S hl
  subst hv
  have hc := av_ix hj hn
  refine va_iald C.1 C.2.1 C.2.2.2.2.2.2.2.1 R.1 i 0 (av_w_at hs) rfl (av_in hj hn) hd ?_
  rw [hc]
  exact kk p e s m args below meth c H locs ls C R S hl
theorem av_cald {i n : Nat} {j x : Int} (hd : decode M.2.1 pc = .ok (.caload, 1)) (hs : SH[i]? = some (.inl (1, n))) (hn : n ≤ 2147483647) (hj : 0 ≤ j ∧ j < n) (hv : σ i j.toNat = x) (kk : av_W E SH M (pc + 1) L (.inl x :: st) σ Q) : av_W E SH M pc L (.inl j :: .inr (.inr i) :: st) σ Q := by
  intro p e s m args below meth c H locs ls C R S hl
  subst hv
  have hc := av_ix hj hn
  refine va_cald C.1 C.2.1 C.2.2.2.2.2.2.2.1 R.1 i 1 (av_w_at hs) rfl (av_in hj hn) hd ?_
  rw [hc]
  exact kk p e s m args below meth c H locs ls C R S hl
theorem av_iast {i n : Nat} {j x : Int} (hd : decode M.2.1 pc = .ok (.iastore, 1)) (hs : SH[i]? = some (.inl (0, n))) (hn : n ≤ 2147483647) (hj : 0 ≤ j ∧ j < n) (kk : av_W E SH M (pc + 1) L st (av_st σ i j.toNat x) Q) : av_W E SH M pc L (.inl x :: .inl j :: .inr (.inr i) :: st) σ Q := by
  intro p e s m args below meth c H locs ls C R S hl
  have hc := av_ix hj hn
  refine va_iast C.1 C.2.1 C.2.2.2.2.2.2.2.1 R.1 R.2 S i 0 (av_w_at hs) rfl (av_in hj hn) hd (fun H1 locs1 hP hD hS => ?_)
  have hset := av_w_set (E := E) (SH := SH) (σ := σ) (σ' := av_st σ i j.toNat x) hs av_e_arr (fun j sh' hj => av_e_congr (av_st_ne hj))
  rw [hc, hset] at hP hD
  exact kk p e s m args below meth c H1 locs1 ls C ⟨hP, hD⟩ hS hl
theorem av_cast {i n : Nat} {j x : Int} (hd : decode M.2.1 pc = .ok (.castore, 1)) (hs : SH[i]? = some (.inl (1, n))) (hn : n ≤ 2147483647) (hj : 0 ≤ j ∧ j < n) (h1 : 0 ≤ x) (h2 : x < 65536) (kk : av_W E SH M (pc + 1) L st (av_st σ i j.toNat x) Q) : av_W E SH M pc L (.inl x :: .inl j :: .inr (.inr i) :: st) σ Q := by
  intro p e s m args below meth c H locs ls C R S hl
  have hc := av_ix hj hn
  refine va_cast C.1 C.2.1 C.2.2.2.2.2.2.2.1 R.1 R.2 S i 1 (av_w_at hs) rfl (av_in hj hn) hd (fun H1 locs1 hP hD hS => ?_)
  have hset := av_w_set (E := E) (SH := SH) (σ := σ) (σ' := av_st σ i j.toNat x) hs av_e_arr (fun j sh' hj => av_e_congr (av_st_ne hj))
  rw [hc, av_nc h1 h2, hset] at hP hD
  exact kk p e s m args below meth c H1 locs1 ls C ⟨hP, hD⟩ hS hl

theorem av_res (mask : List Bool) (hm : av_mask mask L = L') (k : av_W E SH M pc L' st σ Q) : av_W E SH M pc L st σ Q := by
  intro p e s m args below meth c H locs ls C R S hl
  subst hm
  exact k p e s m args below meth c H locs ls C R S ⟨hl.1, hl.2.1, fun i v hv => hl.2.2 i v (av_mask_get hv)⟩

theorem av_ireturn {x : Int} (hd : decode M.2.1 pc = .ok (.ireturn, 1)) (hr : M.2.2.2.1 = some .int) (hQ : Q (some (.inl x)) σ) : av_W E SH M pc L [.inl x] σ Q := by
  intro p e s m args below meth c H locs ls C R S hl
  exact W.iret C.1 C.2.1 (C.2.2.1.trans hr) (fun t ht hW => ⟨⟨some (.inl x), σ, rfl, hQ, by rw [ht]; exact R⟩, S.F ht⟩) S.2.2 hd C.2.2.2.2.2.2.1
theorem av_zreturn {x : Int} (hd : decode M.2.1 pc = .ok (.ireturn, 1)) (hr : M.2.2.2.1 = some .boolean) (h1 : x = 0 ∨ x = 1) (hQ : Q (some (.inl x)) σ) : av_W E SH M pc L [.inl x] σ Q := by
  intro p e s m args below meth c H locs ls C R S hl
  exact W.zret C.1 C.2.1 (C.2.2.1.trans hr) (by rcases h1 with rfl | rfl <;> rfl) (fun t ht hW => ⟨⟨some (.inl x), σ, rfl, hQ, by rw [ht]; exact R⟩, S.F ht⟩) S.2.2 hd C.2.2.2.2.2.2.1
theorem av_creturn {x : Int} (hd : decode M.2.1 pc = .ok (.ireturn, 1)) (hr : M.2.2.2.1 = some .char) (h1 : 0 ≤ x) (h2 : x < 65536) (hQ : Q (some (.inl x)) σ) : av_W E SH M pc L [.inl x] σ Q := by
  intro p e s m args below meth c H locs ls C R S hl
  exact W.zret C.1 C.2.1 (C.2.2.1.trans hr) (av_nchr h1 h2) (fun t ht hW => ⟨⟨some (.inl x), σ, rfl, hQ, by rw [ht]; exact R⟩, S.F ht⟩) S.2.2 hd C.2.2.2.2.2.2.1
theorem av_lreturn {x : Int} (hd : decode M.2.1 pc = .ok (.lreturn, 1)) (hr : M.2.2.2.1 = some .long) (hQ : Q (some (.inr (.inl x))) σ) : av_W E SH M pc L [.inr (.inl x)] σ Q := by
  intro p e s m args below meth c H locs ls C R S hl
  exact W.lret C.1 C.2.1 (C.2.2.1.trans hr) (fun t ht hW => ⟨⟨some (.inr (.inl x)), σ, rfl, hQ, by rw [ht]; exact R⟩, S.F ht⟩) S.2.2 hd C.2.2.2.2.2.2.1
theorem av_return (hd : decode M.2.1 pc = .ok (.return_, 1)) (hr : M.2.2.2.1 = none) (hQ : Q none σ) : av_W E SH M pc L [] σ Q := by
  intro p e s m args below meth c H locs ls C R S hl
  exact W.vret C.1 C.2.1 (C.2.2.1.trans hr) (fun t ht hW => ⟨⟨none, σ, rfl, hQ, by rw [ht]; exact R⟩, S.F ht⟩) S.2.2 hd C.2.2.2.2.2.2.1
end AVI
