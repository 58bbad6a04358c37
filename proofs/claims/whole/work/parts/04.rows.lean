/-! ===== ROWS OF THE LOGIC: an instruction a row ===== -/
section MR
variable {X : mX} {E : mEnv} {D : mD} {pc : Nat} {lv st : List Value} {w : mW}

theorem mG_iconst (C : mCtx X E D) {n : Int} {v : Int32} (hd : decode D.2.1 pc = .ok (.iconst n, 1)) (hv : Int32.ofInt n = v)
    (k : mG X E D (pc + 1) lv (.int v :: st) w) : mG X E D pc lv st w := by
  obtain ⟨p, l, e, R, s, m, args, below, meth, c, cells, slots, Q, A⟩ := X
  obtain ⟨hx, hb, hml, hown, hts, hK, hI, hA, hRO, hR, hcl, hsl⟩ := C
  intro H locs ls hP hS hl
  exact lv_iconst hx hb hd hv (k H locs ls hP hS hl)

theorem mG_bipush (C : mCtx X E D) {n : Int} {v : Int32} (hd : decode D.2.1 pc = .ok (.bipush n, 2)) (hv : (Int8.ofInt n).toInt32 = v)
    (k : mG X E D (pc + 2) lv (.int v :: st) w) : mG X E D pc lv st w := by
  obtain ⟨p, l, e, R, s, m, args, below, meth, c, cells, slots, Q, A⟩ := X
  obtain ⟨hx, hb, hml, hown, hts, hK, hI, hA, hRO, hR, hcl, hsl⟩ := C
  intro H locs ls hP hS hl
  exact lv_bipush hx hb hd hv (k H locs ls hP hS hl)

theorem mG_sipush (C : mCtx X E D) {n : Int} {v : Int32} (hd : decode D.2.1 pc = .ok (.sipush n, 3)) (hv : (Int16.ofInt n).toInt32 = v)
    (k : mG X E D (pc + 3) lv (.int v :: st) w) : mG X E D pc lv st w := by
  obtain ⟨p, l, e, R, s, m, args, below, meth, c, cells, slots, Q, A⟩ := X
  obtain ⟨hx, hb, hml, hown, hts, hK, hI, hA, hRO, hR, hcl, hsl⟩ := C
  intro H locs ls hP hS hl
  exact lv_sipush hx hb hd hv (k H locs ls hP hS hl)

theorem mG_lconst (C : mCtx X E D) {n : Fin 2} {v : Int64} (hd : decode D.2.1 pc = .ok (.lconst n, 1)) (hv : Int64.ofNat (n : Nat) = v)
    (k : mG X E D (pc + 1) lv (.long v :: st) w) : mG X E D pc lv st w := by
  obtain ⟨p, l, e, R, s, m, args, below, meth, c, cells, slots, Q, A⟩ := X
  obtain ⟨hx, hb, hml, hown, hts, hK, hI, hA, hRO, hR, hcl, hsl⟩ := C
  intro H locs ls hP hS hl
  exact lv_lconst hx hb hd hv (k H locs ls hP hS hl)

theorem mG_ldcw (C : mCtx X E D) {ix : Nat} {v : Int32} (hd : decode D.2.1 pc = .ok (.ldc_w ix, 3)) (hc : Cond.constant D.1.cls ix v ∈ mTb)
    (k : mG X E D (pc + 3) lv (.int v :: st) w) : mG X E D pc lv st w := by
  obtain ⟨p, l, e, R, s, m, args, below, meth, c, cells, slots, Q, A⟩ := X
  obtain ⟨hx, hb, hml, hown, hts, hK, hI, hA, hRO, hR, hcl, hsl⟩ := C
  intro H locs ls hP hS hl
  exact lv_ldcw hx hb hown (hts _ hc) hd (k H locs ls hP hS hl)

theorem mG_ldc (C : mCtx X E D) {ix : Nat} {v : Int32} (hd : decode D.2.1 pc = .ok (.ldc ix, 2)) (hc : Cond.constant D.1.cls ix v ∈ mTb)
    (k : mG X E D (pc + 2) lv (.int v :: st) w) : mG X E D pc lv st w := by
  obtain ⟨p, l, e, R, s, m, args, below, meth, c, cells, slots, Q, A⟩ := X
  obtain ⟨hx, hb, hml, hown, hts, hK, hI, hA, hRO, hR, hcl, hsl⟩ := C
  intro H locs ls hP hS hl
  exact lv_ldc hx hb hown (hts _ hc) hd (k H locs ls hP hS hl)

theorem mG_ldc2 (C : mCtx X E D) {ix : Nat} {v : Int64} (hd : decode D.2.1 pc = .ok (.ldc2_w ix, 3)) (hc : Cond.constantLong D.1.cls ix v ∈ mTb)
    (k : mG X E D (pc + 3) lv (.long v :: st) w) : mG X E D pc lv st w := by
  obtain ⟨p, l, e, R, s, m, args, below, meth, c, cells, slots, Q, A⟩ := X
  obtain ⟨hx, hb, hml, hown, hts, hK, hI, hA, hRO, hR, hcl, hsl⟩ := C
  intro H locs ls hP hS hl
  exact lv_ldc2 hx hb hown (hts _ hc) hd (k H locs ls hP hS hl)

theorem mG_iload_n (C : mCtx X E D) {k0 : Fin 4} {i : Nat} {x : Int32} (hd : decode D.2.1 pc = .ok (.iload_n k0, 1)) (hi : (k0 : Nat) = i) (hg : lv[i]? = some (.int x))
    (k : mG X E D (pc + 1) lv (.int x :: st) w) : mG X E D pc lv st w := by
  obtain ⟨p, l, e, R, s, m, args, below, meth, c, cells, slots, Q, A⟩ := X
  obtain ⟨hx, hb, hml, hown, hts, hK, hI, hA, hRO, hR, hcl, hsl⟩ := C
  intro H locs ls hP hS hl
  exact lv_iload_n hx hb hd hi (hl.2.2 i _ hg (by simp)) (k H locs ls hP hS hl)

theorem mG_iload (C : mCtx X E D) {i : Nat} {x : Int32} (hd : decode D.2.1 pc = .ok (.iload i, 2)) (hg : lv[i]? = some (.int x))
    (k : mG X E D (pc + 2) lv (.int x :: st) w) : mG X E D pc lv st w := by
  obtain ⟨p, l, e, R, s, m, args, below, meth, c, cells, slots, Q, A⟩ := X
  obtain ⟨hx, hb, hml, hown, hts, hK, hI, hA, hRO, hR, hcl, hsl⟩ := C
  intro H locs ls hP hS hl
  exact lv_iload hx hb hd (hl.2.2 i _ hg (by simp)) (k H locs ls hP hS hl)

theorem mG_lload_n (C : mCtx X E D) {k0 : Fin 4} {i : Nat} {x : Int64} (hd : decode D.2.1 pc = .ok (.lload_n k0, 1)) (hi : (k0 : Nat) = i) (hg : lv[i]? = some (.long x))
    (k : mG X E D (pc + 1) lv (.long x :: st) w) : mG X E D pc lv st w := by
  obtain ⟨p, l, e, R, s, m, args, below, meth, c, cells, slots, Q, A⟩ := X
  obtain ⟨hx, hb, hml, hown, hts, hK, hI, hA, hRO, hR, hcl, hsl⟩ := C
  intro H locs ls hP hS hl
  exact lv_lload_n hx hb hd hi (hl.2.2 i _ hg (by simp)) (k H locs ls hP hS hl)

theorem mG_lload (C : mCtx X E D) {i : Nat} {x : Int64} (hd : decode D.2.1 pc = .ok (.lload i, 2)) (hg : lv[i]? = some (.long x))
    (k : mG X E D (pc + 2) lv (.long x :: st) w) : mG X E D pc lv st w := by
  obtain ⟨p, l, e, R, s, m, args, below, meth, c, cells, slots, Q, A⟩ := X
  obtain ⟨hx, hb, hml, hown, hts, hK, hI, hA, hRO, hR, hcl, hsl⟩ := C
  intro H locs ls hP hS hl
  exact lv_lload hx hb hd (hl.2.2 i _ hg (by simp)) (k H locs ls hP hS hl)

theorem mG_aload_n (C : mCtx X E D) {k0 : Fin 4} {i : Nat} {x : Nat} (hd : decode D.2.1 pc = .ok (.aload_n k0, 1)) (hi : (k0 : Nat) = i) (hg : lv[i]? = some (.ref x))
    (k : mG X E D (pc + 1) lv (.ref x :: st) w) : mG X E D pc lv st w := by
  obtain ⟨p, l, e, R, s, m, args, below, meth, c, cells, slots, Q, A⟩ := X
  obtain ⟨hx, hb, hml, hown, hts, hK, hI, hA, hRO, hR, hcl, hsl⟩ := C
  intro H locs ls hP hS hl
  exact lv_aload_n hx hb hd hi (hl.2.2 i _ hg (by simp)) (k H locs ls hP hS hl)

theorem mG_aload (C : mCtx X E D) {i : Nat} {x : Nat} (hd : decode D.2.1 pc = .ok (.aload i, 2)) (hg : lv[i]? = some (.ref x))
    (k : mG X E D (pc + 2) lv (.ref x :: st) w) : mG X E D pc lv st w := by
  obtain ⟨p, l, e, R, s, m, args, below, meth, c, cells, slots, Q, A⟩ := X
  obtain ⟨hx, hb, hml, hown, hts, hK, hI, hA, hRO, hR, hcl, hsl⟩ := C
  intro H locs ls hP hS hl
  exact lv_aload hx hb hd (hl.2.2 i _ hg (by simp)) (k H locs ls hP hS hl)

/-- storing: what stood there, and a long that reached into it, is gone -/
def mSt1 (lv : List Value) (i : Nat) (v : Value) : List Value := (lv.mapIdx (fun k u => if k + 1 = i ∧ u.category = 2 then .retAddr 0 else u)).set i v
def mSt2 (lv : List Value) (i : Nat) (v : Value) : List Value := (((lv.mapIdx (fun k u => if k + 1 = i ∧ u.category = 2 then .retAddr 0 else u)).set i v).set (i + 1) (.retAddr 0))
/-- a list with every place of the locals -/
def mPad (lv : List Value) (n : Nat) : List Value := lv ++ List.replicate (n - lv.length) (.retAddr 0)
def mAs (ad : Nat → Nat) (lv : List Value) : List (Nat × Value) := (lv.mapIdx (fun k v => (k, v))).filterMap (fun q => if q.2 = .retAddr 0 then none else some (q.1, mV ad q.2))
theorem mAs_has {ad : Nat → Nat} {ls : Array Slot} {nL : Nat} {lv : List Value} (h : mL ad ls nL lv) : lv_has ls nL (mAs ad lv) := by
  refine ⟨h.1, h.2.1, fun q hq => ?_⟩
  obtain ⟨⟨k, v⟩, h1, h2⟩ := List.mem_filterMap.mp hq
  obtain ⟨j, hj⟩ := List.mem_iff_getElem?.mp h1
  rw [List.getElem?_mapIdx] at hj
  cases hv : lv[j]? with
  | none => rw [hv] at hj; cases hj
  | some u =>
    rw [hv] at hj
    cases hj
    by_cases hu : v = .retAddr 0
    · simp [hu] at h2
    · simp [hu] at h2
      subst h2
      exact h.2.2 _ _ hv hu
theorem mAs_in {ad : Nat → Nat} {lv : List Value} {k : Nat} {v : Value} (h : lv[k]? = some v) (hv : v ≠ .retAddr 0) : (k, mV ad v) ∈ mAs ad lv := by
  refine List.mem_filterMap.mpr ⟨(k, v), List.mem_iff_getElem?.mpr ⟨k, ?_⟩, by simp [hv]⟩
  rw [List.getElem?_mapIdx, h]
  rfl
theorem mL_st1 {ad : Nat → Nat} {ls : Array Slot} {nL : Nat} {lv : List Value} {i : Nat} {v : Value} (hv : v.category = 1) (h : lv_has ls nL ((i, mV ad v) :: (mAs ad lv).filter (fun q => !(q.1 == i) && !(q.1 + 1 == i && q.2.category == 2)))) : mL ad ls nL (mSt1 lv i v) := by
  refine ⟨h.1, h.2.1, fun k u hk hu => ?_⟩
  unfold mSt1 at hk
  by_cases hki : k = i
  · subst hki
    have hlt := (List.getElem?_eq_some_iff.mp hk).1
    rw [List.getElem?_set_self (by simpa using hlt)] at hk
    cases hk
    exact h.2.2 _ List.mem_cons_self
  · rw [List.getElem?_set_ne (fun q => hki q.symm), List.getElem?_mapIdx] at hk
    cases hg : lv[k]? with
    | none => rw [hg] at hk; cases hk
    | some y =>
      rw [hg] at hk
      simp only [Option.map_some, Option.some.injEq] at hk
      by_cases hc : k + 1 = i ∧ y.category = 2
      · rw [if_pos hc] at hk
        exact absurd hk.symm hu
      · rw [if_neg hc] at hk
        subst hk
        refine h.2.2 _ (List.mem_cons_of_mem _ (List.mem_filter.mpr ⟨mAs_in hg hu, ?_⟩))
        simp only [mV_cat, Bool.and_eq_true, Bool.not_eq_true', beq_eq_false_iff_ne, ne_eq, Bool.and_eq_false_iff]
        refine ⟨hki, ?_⟩
        by_cases h1 : k + 1 = i
        · exact Or.inr (fun z => hc ⟨h1, z⟩)
        · exact Or.inl h1
theorem mL_st2 {ad : Nat → Nat} {ls : Array Slot} {nL : Nat} {lv : List Value} {i : Nat} {v : Value} (hv : v.category = 2) (h : lv_has ls nL ((i, mV ad v) :: (mAs ad lv).filter (fun q => !(q.1 == i) && (!(q.1 == i + 1) && !(q.1 + 1 == i && q.2.category == 2))))) : mL ad ls nL (mSt2 lv i v) := by
  refine ⟨h.1, h.2.1, fun k u hk hu => ?_⟩
  unfold mSt2 at hk
  by_cases hk1 : k = i + 1
  · subst hk1
    have hlt := (List.getElem?_eq_some_iff.mp hk).1
    rw [List.getElem?_set_self (by simpa using hlt)] at hk
    cases hk
    exact absurd rfl hu
  · rw [List.getElem?_set_ne (fun q => hk1 q.symm)] at hk
    by_cases hki : k = i
    · subst hki
      have hlt := (List.getElem?_eq_some_iff.mp hk).1
      rw [List.getElem?_set_self (by simpa using hlt)] at hk
      cases hk
      exact h.2.2 _ List.mem_cons_self
    · rw [List.getElem?_set_ne (fun q => hki q.symm), List.getElem?_mapIdx] at hk
      cases hg : lv[k]? with
      | none => rw [hg] at hk; cases hk
      | some y =>
        rw [hg] at hk
        simp only [Option.map_some, Option.some.injEq] at hk
        by_cases hc : k + 1 = i ∧ y.category = 2
        · rw [if_pos hc] at hk
          exact absurd hk.symm hu
        · rw [if_neg hc] at hk
          subst hk
          refine h.2.2 _ (List.mem_cons_of_mem _ (List.mem_filter.mpr ⟨mAs_in hg hu, ?_⟩))
          simp only [mV_cat, Bool.and_eq_true, Bool.not_eq_true', beq_eq_false_iff_ne, ne_eq, Bool.and_eq_false_iff]
          refine ⟨hki, hk1, ?_⟩
          by_cases h1 : k + 1 = i
          · exact Or.inr (fun z => hc ⟨h1, z⟩)
          · exact Or.inl h1

theorem mG_istore_n (C : mCtx X E D) {k0 : Fin 4} {i : Nat} {x : Int32} {lv' : List Value} (hd : decode D.2.1 pc = .ok (.istore_n k0, 1)) (hi : (k0 : Nat) = i) (hn : i < D.2.2.1) (he : mSt1 lv i (.int x) = lv')
    (k : mG X E D (pc + 1) lv' st w) : mG X E D pc lv (.int x :: st) w := by
  obtain ⟨p, l, e, R, s, m, args, below, meth, c, cells, slots, Q, A⟩ := X
  obtain ⟨hx, hb, hml, hown, hts, hK, hI, hA, hRO, hR, hcl, hsl⟩ := C
  intro H locs ls hP hS hl
  subst he
  exact lv_istore_n hx hb hd hi (mAs_has hl) hn rfl (fun ls' h' => k H locs ls' hP hS (mL_st1 (v := .int x) rfl h'))

theorem mG_istore (C : mCtx X E D) {i : Nat} {x : Int32} {lv' : List Value} (hd : decode D.2.1 pc = .ok (.istore i, 2)) (hn : i < D.2.2.1) (he : mSt1 lv i (.int x) = lv')
    (k : mG X E D (pc + 2) lv' st w) : mG X E D pc lv (.int x :: st) w := by
  obtain ⟨p, l, e, R, s, m, args, below, meth, c, cells, slots, Q, A⟩ := X
  obtain ⟨hx, hb, hml, hown, hts, hK, hI, hA, hRO, hR, hcl, hsl⟩ := C
  intro H locs ls hP hS hl
  subst he
  exact lv_istore hx hb hd (mAs_has hl) hn rfl (fun ls' h' => k H locs ls' hP hS (mL_st1 (v := .int x) rfl h'))

theorem mG_lstore_n (C : mCtx X E D) {k0 : Fin 4} {i : Nat} {x : Int64} {lv' : List Value} (hd : decode D.2.1 pc = .ok (.lstore_n k0, 1)) (hi : (k0 : Nat) = i) (hn : i + 1 < D.2.2.1) (he : mSt2 lv i (.long x) = lv')
    (k : mG X E D (pc + 1) lv' st w) : mG X E D pc lv (.long x :: st) w := by
  obtain ⟨p, l, e, R, s, m, args, below, meth, c, cells, slots, Q, A⟩ := X
  obtain ⟨hx, hb, hml, hown, hts, hK, hI, hA, hRO, hR, hcl, hsl⟩ := C
  intro H locs ls hP hS hl
  subst he
  exact lv_lstore_n hx hb hd hi (mAs_has hl) hn rfl (fun ls' h' => k H locs ls' hP hS (mL_st2 (v := .long x) rfl h'))

theorem mG_lstore (C : mCtx X E D) {i : Nat} {x : Int64} {lv' : List Value} (hd : decode D.2.1 pc = .ok (.lstore i, 2)) (hn : i + 1 < D.2.2.1) (he : mSt2 lv i (.long x) = lv')
    (k : mG X E D (pc + 2) lv' st w) : mG X E D pc lv (.long x :: st) w := by
  obtain ⟨p, l, e, R, s, m, args, below, meth, c, cells, slots, Q, A⟩ := X
  obtain ⟨hx, hb, hml, hown, hts, hK, hI, hA, hRO, hR, hcl, hsl⟩ := C
  intro H locs ls hP hS hl
  subst he
  exact lv_lstore hx hb hd (mAs_has hl) hn rfl (fun ls' h' => k H locs ls' hP hS (mL_st2 (v := .long x) rfl h'))

theorem mG_astore_n (C : mCtx X E D) {k0 : Fin 4} {i : Nat} {x : Nat} {lv' : List Value} (hd : decode D.2.1 pc = .ok (.astore_n k0, 1)) (hi : (k0 : Nat) = i) (hn : i < D.2.2.1) (he : mSt1 lv i (.ref x) = lv')
    (k : mG X E D (pc + 1) lv' st w) : mG X E D pc lv (.ref x :: st) w := by
  obtain ⟨p, l, e, R, s, m, args, below, meth, c, cells, slots, Q, A⟩ := X
  obtain ⟨hx, hb, hml, hown, hts, hK, hI, hA, hRO, hR, hcl, hsl⟩ := C
  intro H locs ls hP hS hl
  subst he
  exact lv_astore_n hx hb hd hi (mAs_has hl) hn rfl (fun ls' h' => k H locs ls' hP hS (mL_st1 (v := .ref x) rfl h'))

theorem mG_astore (C : mCtx X E D) {i : Nat} {x : Nat} {lv' : List Value} (hd : decode D.2.1 pc = .ok (.astore i, 2)) (hn : i < D.2.2.1) (he : mSt1 lv i (.ref x) = lv')
    (k : mG X E D (pc + 2) lv' st w) : mG X E D pc lv (.ref x :: st) w := by
  obtain ⟨p, l, e, R, s, m, args, below, meth, c, cells, slots, Q, A⟩ := X
  obtain ⟨hx, hb, hml, hown, hts, hK, hI, hA, hRO, hR, hcl, hsl⟩ := C
  intro H locs ls hP hS hl
  subst he
  exact lv_astore hx hb hd (mAs_has hl) hn rfl (fun ls' h' => k H locs ls' hP hS (mL_st1 (v := .ref x) rfl h'))

theorem mG_iinc (C : mCtx X E D) {i : Nat} {n : Int} {x v : Int32} {lv' : List Value} (hd : decode D.2.1 pc = .ok (.iinc i n, 3)) (hg : lv[i]? = some (.int x)) (hv : x + Int32.ofInt n = v) (hn : i < D.2.2.1) (he : mSt1 lv i (.int v) = lv')
    (k : mG X E D (pc + 3) lv' st w) : mG X E D pc lv st w := by
  obtain ⟨p, l, e, R, s, m, args, below, meth, c, cells, slots, Q, A⟩ := X
  obtain ⟨hx, hb, hml, hown, hts, hK, hI, hA, hRO, hR, hcl, hsl⟩ := C
  intro H locs ls hP hS hl
  subst he
  obtain ⟨j, hj⟩ := List.mem_iff_getElem?.mp (mAs_in (ad := E.1) hg (by simp))
  exact lv_iinc hx hb hd (mAs_has hl) hj hv hn rfl (fun ls' h' => k H locs ls' hP hS (mL_st1 (v := .int v) rfl h'))

theorem mG_iadd (C : mCtx X E D) {x y : Int32} (hd : decode D.2.1 pc = .ok (.iadd, 1))
    (k : mG X E D (pc + 1) lv (.int (x + y) :: st) w) : mG X E D pc lv (.int y :: .int x :: st) w := by
  obtain ⟨p, l, e, R, s, m, args, below, meth, c, cells, slots, Q, A⟩ := X
  obtain ⟨hx, hb, hml, hown, hts, hK, hI, hA, hRO, hR, hcl, hsl⟩ := C
  intro H locs ls hP hS hl
  exact lv_iadd hx hb hd (k H locs ls hP hS hl)

theorem mG_isub (C : mCtx X E D) {x y : Int32} (hd : decode D.2.1 pc = .ok (.isub, 1))
    (k : mG X E D (pc + 1) lv (.int (x - y) :: st) w) : mG X E D pc lv (.int y :: .int x :: st) w := by
  obtain ⟨p, l, e, R, s, m, args, below, meth, c, cells, slots, Q, A⟩ := X
  obtain ⟨hx, hb, hml, hown, hts, hK, hI, hA, hRO, hR, hcl, hsl⟩ := C
  intro H locs ls hP hS hl
  exact lv_isub hx hb hd (k H locs ls hP hS hl)

theorem mG_imul (C : mCtx X E D) {x y : Int32} (hd : decode D.2.1 pc = .ok (.imul, 1))
    (k : mG X E D (pc + 1) lv (.int (x * y) :: st) w) : mG X E D pc lv (.int y :: .int x :: st) w := by
  obtain ⟨p, l, e, R, s, m, args, below, meth, c, cells, slots, Q, A⟩ := X
  obtain ⟨hx, hb, hml, hown, hts, hK, hI, hA, hRO, hR, hcl, hsl⟩ := C
  intro H locs ls hP hS hl
  exact lv_imul hx hb hd (k H locs ls hP hS hl)

theorem mG_iand (C : mCtx X E D) {x y : Int32} (hd : decode D.2.1 pc = .ok (.iand, 1))
    (k : mG X E D (pc + 1) lv (.int (x &&& y) :: st) w) : mG X E D pc lv (.int y :: .int x :: st) w := by
  obtain ⟨p, l, e, R, s, m, args, below, meth, c, cells, slots, Q, A⟩ := X
  obtain ⟨hx, hb, hml, hown, hts, hK, hI, hA, hRO, hR, hcl, hsl⟩ := C
  intro H locs ls hP hS hl
  exact lv_iand hx hb hd (k H locs ls hP hS hl)

theorem mG_ior (C : mCtx X E D) {x y : Int32} (hd : decode D.2.1 pc = .ok (.ior, 1))
    (k : mG X E D (pc + 1) lv (.int (x ||| y) :: st) w) : mG X E D pc lv (.int y :: .int x :: st) w := by
  obtain ⟨p, l, e, R, s, m, args, below, meth, c, cells, slots, Q, A⟩ := X
  obtain ⟨hx, hb, hml, hown, hts, hK, hI, hA, hRO, hR, hcl, hsl⟩ := C
  intro H locs ls hP hS hl
  exact lv_ior hx hb hd (k H locs ls hP hS hl)

theorem mG_ixor (C : mCtx X E D) {x y : Int32} (hd : decode D.2.1 pc = .ok (.ixor, 1))
    (k : mG X E D (pc + 1) lv (.int (x ^^^ y) :: st) w) : mG X E D pc lv (.int y :: .int x :: st) w := by
  obtain ⟨p, l, e, R, s, m, args, below, meth, c, cells, slots, Q, A⟩ := X
  obtain ⟨hx, hb, hml, hown, hts, hK, hI, hA, hRO, hR, hcl, hsl⟩ := C
  intro H locs ls hP hS hl
  exact lv_ixor hx hb hd (k H locs ls hP hS hl)

theorem mG_ishl (C : mCtx X E D) {x y : Int32} (hd : decode D.2.1 pc = .ok (.ishl, 1))
    (k : mG X E D (pc + 1) lv (.int (x <<< (y &&& 31)) :: st) w) : mG X E D pc lv (.int y :: .int x :: st) w := by
  obtain ⟨p, l, e, R, s, m, args, below, meth, c, cells, slots, Q, A⟩ := X
  obtain ⟨hx, hb, hml, hown, hts, hK, hI, hA, hRO, hR, hcl, hsl⟩ := C
  intro H locs ls hP hS hl
  exact lv_ishl hx hb hd (k H locs ls hP hS hl)

theorem mG_ishr (C : mCtx X E D) {x y : Int32} (hd : decode D.2.1 pc = .ok (.ishr, 1))
    (k : mG X E D (pc + 1) lv (.int (x >>> (y &&& 31)) :: st) w) : mG X E D pc lv (.int y :: .int x :: st) w := by
  obtain ⟨p, l, e, R, s, m, args, below, meth, c, cells, slots, Q, A⟩ := X
  obtain ⟨hx, hb, hml, hown, hts, hK, hI, hA, hRO, hR, hcl, hsl⟩ := C
  intro H locs ls hP hS hl
  exact lv_ishr hx hb hd (k H locs ls hP hS hl)

theorem mG_idiv (C : mCtx X E D) {x y : Int32} (hd : decode D.2.1 pc = .ok (.idiv, 1)) (hne : ¬ y = 0)
    (k : mG X E D (pc + 1) lv (.int (x / y) :: st) w) : mG X E D pc lv (.int y :: .int x :: st) w := by
  obtain ⟨p, l, e, R, s, m, args, below, meth, c, cells, slots, Q, A⟩ := X
  obtain ⟨hx, hb, hml, hown, hts, hK, hI, hA, hRO, hR, hcl, hsl⟩ := C
  intro H locs ls hP hS hl
  exact lv_idiv hx hb hd hne (k H locs ls hP hS hl)

theorem mG_irem (C : mCtx X E D) {x y : Int32} (hd : decode D.2.1 pc = .ok (.irem, 1)) (hne : ¬ y = 0)
    (k : mG X E D (pc + 1) lv (.int (x - x / y * y) :: st) w) : mG X E D pc lv (.int y :: .int x :: st) w := by
  obtain ⟨p, l, e, R, s, m, args, below, meth, c, cells, slots, Q, A⟩ := X
  obtain ⟨hx, hb, hml, hown, hts, hK, hI, hA, hRO, hR, hcl, hsl⟩ := C
  intro H locs ls hP hS hl
  exact lv_irem hx hb hd hne (k H locs ls hP hS hl)

theorem mG_iushr (C : mCtx X E D) {x y v : Int32} (hd : decode D.2.1 pc = .ok (.iushr, 1)) (hv : (x.toUInt32 >>> (y.toUInt32 &&& Int32.toUInt32 31)).toInt32 = v)
    (k : mG X E D (pc + 1) lv (.int v :: st) w) : mG X E D pc lv (.int y :: .int x :: st) w := by
  obtain ⟨p, l, e, R, s, m, args, below, meth, c, cells, slots, Q, A⟩ := X
  obtain ⟨hx, hb, hml, hown, hts, hK, hI, hA, hRO, hR, hcl, hsl⟩ := C
  intro H locs ls hP hS hl
  exact lv_iushr hx hb hd hv (k H locs ls hP hS hl)

theorem mG_ineg (C : mCtx X E D) {x : Int32} (hd : decode D.2.1 pc = .ok (.ineg, 1))
    (k : mG X E D (pc + 1) lv (.int (-x) :: st) w) : mG X E D pc lv (.int x :: st) w := by
  obtain ⟨p, l, e, R, s, m, args, below, meth, c, cells, slots, Q, A⟩ := X
  obtain ⟨hx, hb, hml, hown, hts, hK, hI, hA, hRO, hR, hcl, hsl⟩ := C
  intro H locs ls hP hS hl
  exact lv_ineg hx hb hd (k H locs ls hP hS hl)

theorem mG_i2c (C : mCtx X E D) {x v : Int32} (hd : decode D.2.1 pc = .ok (.i2c, 1)) (hv : (x.toUInt32 % 65536).toInt32 = v)
    (k : mG X E D (pc + 1) lv (.int v :: st) w) : mG X E D pc lv (.int x :: st) w := by
  obtain ⟨p, l, e, R, s, m, args, below, meth, c, cells, slots, Q, A⟩ := X
  obtain ⟨hx, hb, hml, hown, hts, hK, hI, hA, hRO, hR, hcl, hsl⟩ := C
  intro H locs ls hP hS hl
  exact lv_i2c hx hb hd hv (k H locs ls hP hS hl)

theorem mG_i2l (C : mCtx X E D) {x : Int32} (hd : decode D.2.1 pc = .ok (.i2l, 1))
    (k : mG X E D (pc + 1) lv (.long x.toInt64 :: st) w) : mG X E D pc lv (.int x :: st) w := by
  obtain ⟨p, l, e, R, s, m, args, below, meth, c, cells, slots, Q, A⟩ := X
  obtain ⟨hx, hb, hml, hown, hts, hK, hI, hA, hRO, hR, hcl, hsl⟩ := C
  intro H locs ls hP hS hl
  exact lv_i2l hx hb hd rfl (k H locs ls hP hS hl)

theorem mG_l2i (C : mCtx X E D) {x : Int64} (hd : decode D.2.1 pc = .ok (.l2i, 1))
    (k : mG X E D (pc + 1) lv (.int x.toInt32 :: st) w) : mG X E D pc lv (.long x :: st) w := by
  obtain ⟨p, l, e, R, s, m, args, below, meth, c, cells, slots, Q, A⟩ := X
  obtain ⟨hx, hb, hml, hown, hts, hK, hI, hA, hRO, hR, hcl, hsl⟩ := C
  intro H locs ls hP hS hl
  exact lv_l2i hx hb hd rfl (k H locs ls hP hS hl)

theorem mG_ladd (C : mCtx X E D) {x y : Int64} (hd : decode D.2.1 pc = .ok (.ladd, 1))
    (k : mG X E D (pc + 1) lv (.long (x + y) :: st) w) : mG X E D pc lv (.long y :: .long x :: st) w := by
  obtain ⟨p, l, e, R, s, m, args, below, meth, c, cells, slots, Q, A⟩ := X
  obtain ⟨hx, hb, hml, hown, hts, hK, hI, hA, hRO, hR, hcl, hsl⟩ := C
  intro H locs ls hP hS hl
  exact lv_ladd hx hb hd (k H locs ls hP hS hl)

theorem mG_lsub (C : mCtx X E D) {x y : Int64} (hd : decode D.2.1 pc = .ok (.lsub, 1))
    (k : mG X E D (pc + 1) lv (.long (x - y) :: st) w) : mG X E D pc lv (.long y :: .long x :: st) w := by
  obtain ⟨p, l, e, R, s, m, args, below, meth, c, cells, slots, Q, A⟩ := X
  obtain ⟨hx, hb, hml, hown, hts, hK, hI, hA, hRO, hR, hcl, hsl⟩ := C
  intro H locs ls hP hS hl
  exact lv_lsub hx hb hd (k H locs ls hP hS hl)

theorem mG_lmul (C : mCtx X E D) {x y : Int64} (hd : decode D.2.1 pc = .ok (.lmul, 1))
    (k : mG X E D (pc + 1) lv (.long (x * y) :: st) w) : mG X E D pc lv (.long y :: .long x :: st) w := by
  obtain ⟨p, l, e, R, s, m, args, below, meth, c, cells, slots, Q, A⟩ := X
  obtain ⟨hx, hb, hml, hown, hts, hK, hI, hA, hRO, hR, hcl, hsl⟩ := C
  intro H locs ls hP hS hl
  exact lv_lmul hx hb hd (k H locs ls hP hS hl)

theorem mG_land (C : mCtx X E D) {x y : Int64} (hd : decode D.2.1 pc = .ok (.land, 1))
    (k : mG X E D (pc + 1) lv (.long (x &&& y) :: st) w) : mG X E D pc lv (.long y :: .long x :: st) w := by
  obtain ⟨p, l, e, R, s, m, args, below, meth, c, cells, slots, Q, A⟩ := X
  obtain ⟨hx, hb, hml, hown, hts, hK, hI, hA, hRO, hR, hcl, hsl⟩ := C
  intro H locs ls hP hS hl
  exact lv_land hx hb hd (k H locs ls hP hS hl)

theorem mG_lor (C : mCtx X E D) {x y : Int64} (hd : decode D.2.1 pc = .ok (.lor, 1))
    (k : mG X E D (pc + 1) lv (.long (x ||| y) :: st) w) : mG X E D pc lv (.long y :: .long x :: st) w := by
  obtain ⟨p, l, e, R, s, m, args, below, meth, c, cells, slots, Q, A⟩ := X
  obtain ⟨hx, hb, hml, hown, hts, hK, hI, hA, hRO, hR, hcl, hsl⟩ := C
  intro H locs ls hP hS hl
  exact lv_lor hx hb hd (k H locs ls hP hS hl)

theorem mG_lxor (C : mCtx X E D) {x y : Int64} (hd : decode D.2.1 pc = .ok (.lxor, 1))
    (k : mG X E D (pc + 1) lv (.long (x ^^^ y) :: st) w) : mG X E D pc lv (.long y :: .long x :: st) w := by
  obtain ⟨p, l, e, R, s, m, args, below, meth, c, cells, slots, Q, A⟩ := X
  obtain ⟨hx, hb, hml, hown, hts, hK, hI, hA, hRO, hR, hcl, hsl⟩ := C
  intro H locs ls hP hS hl
  exact lv_lxor hx hb hd (k H locs ls hP hS hl)

theorem mG_lrem (C : mCtx X E D) {x y : Int64} (hd : decode D.2.1 pc = .ok (.lrem, 1)) (hne : ¬ y = 0)
    (k : mG X E D (pc + 1) lv (.long (x - x / y * y) :: st) w) : mG X E D pc lv (.long y :: .long x :: st) w := by
  obtain ⟨p, l, e, R, s, m, args, below, meth, c, cells, slots, Q, A⟩ := X
  obtain ⟨hx, hb, hml, hown, hts, hK, hI, hA, hRO, hR, hcl, hsl⟩ := C
  intro H locs ls hP hS hl
  exact lv_lrem hx hb hd hne (k H locs ls hP hS hl)

theorem mG_lshl (C : mCtx X E D) {x : Int64} {y : Int32} (hd : decode D.2.1 pc = .ok (.lshl, 1))
    (k : mG X E D (pc + 1) lv (.long (x <<< (y.toInt64 &&& 63)) :: st) w) : mG X E D pc lv (.int y :: .long x :: st) w := by
  obtain ⟨p, l, e, R, s, m, args, below, meth, c, cells, slots, Q, A⟩ := X
  obtain ⟨hx, hb, hml, hown, hts, hK, hI, hA, hRO, hR, hcl, hsl⟩ := C
  intro H locs ls hP hS hl
  exact lv_lshl hx hb hd rfl (k H locs ls hP hS hl)

theorem mG_lushr (C : mCtx X E D) {x : Int64} {y : Int32} (hd : decode D.2.1 pc = .ok (.lushr, 1))
    (k : mG X E D (pc + 1) lv (.long ((x.toUInt64 >>> (y.toInt64.toUInt64 &&& Int64.toUInt64 63)).toInt64) :: st) w) : mG X E D pc lv (.int y :: .long x :: st) w := by
  obtain ⟨p, l, e, R, s, m, args, below, meth, c, cells, slots, Q, A⟩ := X
  obtain ⟨hx, hb, hml, hown, hts, hK, hI, hA, hRO, hR, hcl, hsl⟩ := C
  intro H locs ls hP hS hl
  exact lv_lushr hx hb hd rfl (k H locs ls hP hS hl)

theorem mG_lcmp (C : mCtx X E D) {x y : Int64} (hd : decode D.2.1 pc = .ok (.lcmp, 1))
    (k : mG X E D (pc + 1) lv (.int (lg_cmp x y) :: st) w) : mG X E D pc lv (.long y :: .long x :: st) w := by
  obtain ⟨p, l, e, R, s, m, args, below, meth, c, cells, slots, Q, A⟩ := X
  obtain ⟨hx, hb, hml, hown, hts, hK, hI, hA, hRO, hR, hcl, hsl⟩ := C
  intro H locs ls hP hS hl
  exact W.lcmp hx hb hd (k H locs ls hP hS hl)

theorem mG_dup (C : mCtx X E D) {a : Value} (hd : decode D.2.1 pc = .ok (.dup, 1)) (ha : a.category = 1)
    (k : mG X E D (pc + 1) lv (a :: a :: st) w) : mG X E D pc lv (a :: st) w := by
  obtain ⟨p, l, e, R, s, m, args, below, meth, c, cells, slots, Q, A⟩ := X
  obtain ⟨hx, hb, hml, hown, hts, hK, hI, hA, hRO, hR, hcl, hsl⟩ := C
  intro H locs ls hP hS hl
  exact lv_dup hx hb hd ((mV_cat _ _).trans ha) (k H locs ls hP hS hl)

theorem mG_dup2 (C : mCtx X E D) {a b : Value} (hd : decode D.2.1 pc = .ok (.dup2, 1)) (ha : a.category = 1) (hb2 : b.category = 1)
    (k : mG X E D (pc + 1) lv (a :: b :: a :: b :: st) w) : mG X E D pc lv (a :: b :: st) w := by
  obtain ⟨p, l, e, R, s, m, args, below, meth, c, cells, slots, Q, A⟩ := X
  obtain ⟨hx, hb, hml, hown, hts, hK, hI, hA, hRO, hR, hcl, hsl⟩ := C
  intro H locs ls hP hS hl
  exact lv_dup2_11 hx hb hd ((mV_cat _ _).trans ha) ((mV_cat _ _).trans hb2) (k H locs ls hP hS hl)

theorem mG_pop (C : mCtx X E D) {a : Value} (hd : decode D.2.1 pc = .ok (.pop, 1)) (ha : a.category = 1)
    (k : mG X E D (pc + 1) lv st w) : mG X E D pc lv (a :: st) w := by
  obtain ⟨p, l, e, R, s, m, args, below, meth, c, cells, slots, Q, A⟩ := X
  obtain ⟨hx, hb, hml, hown, hts, hK, hI, hA, hRO, hR, hcl, hsl⟩ := C
  intro H locs ls hP hS hl
  exact lv_pop hx hb hd ((mV_cat _ _).trans ha) (k H locs ls hP hS hl)

theorem mG_if_eq (C : mCtx X E D) {x : Int32} {off : Int} {tgt : Nat} (hd : decode D.2.1 pc = .ok (.ifCond .eq off, 3)) (ht : (pc : Int) + off = (tgt : Int))
    (kt : x = 0 → mG X E D tgt lv st w) (kf : ¬ x = 0 → mG X E D (pc + 3) lv st w) : mG X E D pc lv (.int x :: st) w := by
  obtain ⟨p, l, e, R, s, m, args, below, meth, c, cells, slots, Q, A⟩ := X
  obtain ⟨hx, hb, hml, hown, hts, hK, hI, hA, hRO, hR, hcl, hsl⟩ := C
  intro H locs ls hP hS hl
  exact lv_if_eq hx hb hd ht (fun h => kt h H locs ls hP hS hl) (fun h => kf h H locs ls hP hS hl)

theorem mG_if_ne (C : mCtx X E D) {x : Int32} {off : Int} {tgt : Nat} (hd : decode D.2.1 pc = .ok (.ifCond .ne off, 3)) (ht : (pc : Int) + off = (tgt : Int))
    (kt : ¬ x = 0 → mG X E D tgt lv st w) (kf : x = 0 → mG X E D (pc + 3) lv st w) : mG X E D pc lv (.int x :: st) w := by
  obtain ⟨p, l, e, R, s, m, args, below, meth, c, cells, slots, Q, A⟩ := X
  obtain ⟨hx, hb, hml, hown, hts, hK, hI, hA, hRO, hR, hcl, hsl⟩ := C
  intro H locs ls hP hS hl
  exact lv_if_ne hx hb hd ht (fun h => kt h H locs ls hP hS hl) (fun h => kf h H locs ls hP hS hl)

theorem mG_if_lt (C : mCtx X E D) {x : Int32} {off : Int} {tgt : Nat} (hd : decode D.2.1 pc = .ok (.ifCond .lt off, 3)) (ht : (pc : Int) + off = (tgt : Int))
    (kt : x < 0 → mG X E D tgt lv st w) (kf : ¬ x < 0 → mG X E D (pc + 3) lv st w) : mG X E D pc lv (.int x :: st) w := by
  obtain ⟨p, l, e, R, s, m, args, below, meth, c, cells, slots, Q, A⟩ := X
  obtain ⟨hx, hb, hml, hown, hts, hK, hI, hA, hRO, hR, hcl, hsl⟩ := C
  intro H locs ls hP hS hl
  exact lv_if_lt hx hb hd ht (fun h => kt h H locs ls hP hS hl) (fun h => kf h H locs ls hP hS hl)

theorem mG_if_ge (C : mCtx X E D) {x : Int32} {off : Int} {tgt : Nat} (hd : decode D.2.1 pc = .ok (.ifCond .ge off, 3)) (ht : (pc : Int) + off = (tgt : Int))
    (kt : 0 ≤ x → mG X E D tgt lv st w) (kf : ¬ 0 ≤ x → mG X E D (pc + 3) lv st w) : mG X E D pc lv (.int x :: st) w := by
  obtain ⟨p, l, e, R, s, m, args, below, meth, c, cells, slots, Q, A⟩ := X
  obtain ⟨hx, hb, hml, hown, hts, hK, hI, hA, hRO, hR, hcl, hsl⟩ := C
  intro H locs ls hP hS hl
  exact lv_if_ge hx hb hd ht (fun h => kt h H locs ls hP hS hl) (fun h => kf h H locs ls hP hS hl)

theorem mG_if_gt (C : mCtx X E D) {x : Int32} {off : Int} {tgt : Nat} (hd : decode D.2.1 pc = .ok (.ifCond .gt off, 3)) (ht : (pc : Int) + off = (tgt : Int))
    (kt : 0 < x → mG X E D tgt lv st w) (kf : ¬ 0 < x → mG X E D (pc + 3) lv st w) : mG X E D pc lv (.int x :: st) w := by
  obtain ⟨p, l, e, R, s, m, args, below, meth, c, cells, slots, Q, A⟩ := X
  obtain ⟨hx, hb, hml, hown, hts, hK, hI, hA, hRO, hR, hcl, hsl⟩ := C
  intro H locs ls hP hS hl
  exact lv_if_gt hx hb hd ht (fun h => kt h H locs ls hP hS hl) (fun h => kf h H locs ls hP hS hl)

theorem mG_if_le (C : mCtx X E D) {x : Int32} {off : Int} {tgt : Nat} (hd : decode D.2.1 pc = .ok (.ifCond .le off, 3)) (ht : (pc : Int) + off = (tgt : Int))
    (kt : x ≤ 0 → mG X E D tgt lv st w) (kf : ¬ x ≤ 0 → mG X E D (pc + 3) lv st w) : mG X E D pc lv (.int x :: st) w := by
  obtain ⟨p, l, e, R, s, m, args, below, meth, c, cells, slots, Q, A⟩ := X
  obtain ⟨hx, hb, hml, hown, hts, hK, hI, hA, hRO, hR, hcl, hsl⟩ := C
  intro H locs ls hP hS hl
  exact lv_if_le hx hb hd ht (fun h => kt h H locs ls hP hS hl) (fun h => kf h H locs ls hP hS hl)

theorem mG_icmp_eq (C : mCtx X E D) {x y : Int32} {off : Int} {tgt : Nat} (hd : decode D.2.1 pc = .ok (.if_icmp .eq off, 3)) (ht : (pc : Int) + off = (tgt : Int))
    (kt : x = y → mG X E D tgt lv st w) (kf : ¬ x = y → mG X E D (pc + 3) lv st w) : mG X E D pc lv (.int y :: .int x :: st) w := by
  obtain ⟨p, l, e, R, s, m, args, below, meth, c, cells, slots, Q, A⟩ := X
  obtain ⟨hx, hb, hml, hown, hts, hK, hI, hA, hRO, hR, hcl, hsl⟩ := C
  intro H locs ls hP hS hl
  exact lv_icmp_eq hx hb hd ht (fun h => kt h H locs ls hP hS hl) (fun h => kf h H locs ls hP hS hl)

theorem mG_icmp_ne (C : mCtx X E D) {x y : Int32} {off : Int} {tgt : Nat} (hd : decode D.2.1 pc = .ok (.if_icmp .ne off, 3)) (ht : (pc : Int) + off = (tgt : Int))
    (kt : ¬ x = y → mG X E D tgt lv st w) (kf : x = y → mG X E D (pc + 3) lv st w) : mG X E D pc lv (.int y :: .int x :: st) w := by
  obtain ⟨p, l, e, R, s, m, args, below, meth, c, cells, slots, Q, A⟩ := X
  obtain ⟨hx, hb, hml, hown, hts, hK, hI, hA, hRO, hR, hcl, hsl⟩ := C
  intro H locs ls hP hS hl
  exact lv_icmp_ne hx hb hd ht (fun h => kt h H locs ls hP hS hl) (fun h => kf h H locs ls hP hS hl)

theorem mG_icmp_lt (C : mCtx X E D) {x y : Int32} {off : Int} {tgt : Nat} (hd : decode D.2.1 pc = .ok (.if_icmp .lt off, 3)) (ht : (pc : Int) + off = (tgt : Int))
    (kt : x < y → mG X E D tgt lv st w) (kf : ¬ x < y → mG X E D (pc + 3) lv st w) : mG X E D pc lv (.int y :: .int x :: st) w := by
  obtain ⟨p, l, e, R, s, m, args, below, meth, c, cells, slots, Q, A⟩ := X
  obtain ⟨hx, hb, hml, hown, hts, hK, hI, hA, hRO, hR, hcl, hsl⟩ := C
  intro H locs ls hP hS hl
  exact lv_icmp_lt hx hb hd ht (fun h => kt h H locs ls hP hS hl) (fun h => kf h H locs ls hP hS hl)

theorem mG_icmp_ge (C : mCtx X E D) {x y : Int32} {off : Int} {tgt : Nat} (hd : decode D.2.1 pc = .ok (.if_icmp .ge off, 3)) (ht : (pc : Int) + off = (tgt : Int))
    (kt : y ≤ x → mG X E D tgt lv st w) (kf : ¬ y ≤ x → mG X E D (pc + 3) lv st w) : mG X E D pc lv (.int y :: .int x :: st) w := by
  obtain ⟨p, l, e, R, s, m, args, below, meth, c, cells, slots, Q, A⟩ := X
  obtain ⟨hx, hb, hml, hown, hts, hK, hI, hA, hRO, hR, hcl, hsl⟩ := C
  intro H locs ls hP hS hl
  exact lv_icmp_ge hx hb hd ht (fun h => kt h H locs ls hP hS hl) (fun h => kf h H locs ls hP hS hl)

theorem mG_icmp_gt (C : mCtx X E D) {x y : Int32} {off : Int} {tgt : Nat} (hd : decode D.2.1 pc = .ok (.if_icmp .gt off, 3)) (ht : (pc : Int) + off = (tgt : Int))
    (kt : y < x → mG X E D tgt lv st w) (kf : ¬ y < x → mG X E D (pc + 3) lv st w) : mG X E D pc lv (.int y :: .int x :: st) w := by
  obtain ⟨p, l, e, R, s, m, args, below, meth, c, cells, slots, Q, A⟩ := X
  obtain ⟨hx, hb, hml, hown, hts, hK, hI, hA, hRO, hR, hcl, hsl⟩ := C
  intro H locs ls hP hS hl
  exact lv_icmp_gt hx hb hd ht (fun h => kt h H locs ls hP hS hl) (fun h => kf h H locs ls hP hS hl)

theorem mG_icmp_le (C : mCtx X E D) {x y : Int32} {off : Int} {tgt : Nat} (hd : decode D.2.1 pc = .ok (.if_icmp .le off, 3)) (ht : (pc : Int) + off = (tgt : Int))
    (kt : x ≤ y → mG X E D tgt lv st w) (kf : ¬ x ≤ y → mG X E D (pc + 3) lv st w) : mG X E D pc lv (.int y :: .int x :: st) w := by
  obtain ⟨p, l, e, R, s, m, args, below, meth, c, cells, slots, Q, A⟩ := X
  obtain ⟨hx, hb, hml, hown, hts, hK, hI, hA, hRO, hR, hcl, hsl⟩ := C
  intro H locs ls hP hS hl
  exact lv_icmp_le hx hb hd ht (fun h => kt h H locs ls hP hS hl) (fun h => kf h H locs ls hP hS hl)

theorem mG_goto (C : mCtx X E D) {off : Int} {tgt : Nat} (hd : decode D.2.1 pc = .ok (.goto off, 3)) (ht : (pc : Int) + off = (tgt : Int))
    (k : mG X E D tgt lv st w) : mG X E D pc lv st w := by
  obtain ⟨p, l, e, R, s, m, args, below, meth, c, cells, slots, Q, A⟩ := X
  obtain ⟨hx, hb, hml, hown, hts, hK, hI, hA, hRO, hR, hcl, hsl⟩ := C
  intro H locs ls hP hS hl
  exact lv_goto hx hb hd ht (k H locs ls hP hS hl)

theorem mG_tableIn (C : mCtx X E D) {dflt lo hi : Int} {offs : Array Int} {len : Nat} {x : Int32} {off : Int} {tgt : Nat} (hd : decode D.2.1 pc = .ok (.tableswitch dflt lo hi offs, len)) (h1 : ¬ x.toInt < lo) (h2 : ¬ hi < x.toInt) (ho : offs[(x.toInt - lo).toNat]? = some off) (ht : (pc : Int) + off = (tgt : Int))
    (k : mG X E D tgt lv st w) : mG X E D pc lv (.int x :: st) w := by
  obtain ⟨p, l, e, R, s, m, args, below, meth, c, cells, slots, Q, A⟩ := X
  obtain ⟨hx, hb, hml, hown, hts, hK, hI, hA, hRO, hR, hcl, hsl⟩ := C
  intro H locs ls hP hS hl
  exact lv_tableIn hx hb hd h1 h2 ho ht (k H locs ls hP hS hl)

theorem mG_tableOut (C : mCtx X E D) {dflt lo hi : Int} {offs : Array Int} {len : Nat} {x : Int32} {tgt : Nat} (hd : decode D.2.1 pc = .ok (.tableswitch dflt lo hi offs, len)) (h : x.toInt < lo ∨ hi < x.toInt) (ht : (pc : Int) + dflt = (tgt : Int))
    (k : mG X E D tgt lv st w) : mG X E D pc lv (.int x :: st) w := by
  obtain ⟨p, l, e, R, s, m, args, below, meth, c, cells, slots, Q, A⟩ := X
  obtain ⟨hx, hb, hml, hown, hts, hK, hI, hA, hRO, hR, hcl, hsl⟩ := C
  intro H locs ls hP hS hl
  exact lv_tableOut hx hb hd h ht (k H locs ls hP hS hl)

theorem mG_lookup (C : mCtx X E D) {dflt : Int} {ps : Array (Int × Int)} {len : Nat} {x : Int32} {off : Int} {tgt : Nat} (hd : decode D.2.1 pc = .ok (.lookupswitch dflt ps, len)) (hp : (ps.toList.zip (ps.toList.drop 1)).all (fun (a, next) => a.1 < next.1) = true) (ho : Op.lookupswitch.offset ps.toList dflt x.toInt = off) (ht : (pc : Int) + off = (tgt : Int))
    (k : mG X E D tgt lv st w) : mG X E D pc lv (.int x :: st) w := by
  obtain ⟨p, l, e, R, s, m, args, below, meth, c, cells, slots, Q, A⟩ := X
  obtain ⟨hx, hb, hml, hown, hts, hK, hI, hA, hRO, hR, hcl, hsl⟩ := C
  intro H locs ls hP hS hl
  exact lv_lookup hx hb hd hp ho ht (k H locs ls hP hS hl)

end MR
