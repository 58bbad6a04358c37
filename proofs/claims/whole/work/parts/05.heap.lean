/-! ===== ROWS OF THE LOGIC: fields, arrays, calls, answers ===== -/
def mFld (own : String) (ix ci k : Nat) : Prop := ∃ (C : String) (T : u_T) (N : Nat), vwCl[ci]? = some (C, T, N) ∧ k < N ∧ (∀ w ∈ u_ws C T N, w ∈ mTb) ∧ Cond.fieldLink own ix (T k).1 (T k).2.1 (T k).2.2.1 ∈ mTb
def mFldP (own : String) (ix ci k : Nat) (ty : FieldType) : Prop := ∃ (C : String) (T : u_T) (N : Nat) (ty0 : Nat → FieldType), vwCl[ci]? = some (C, T, N) ∧ k < N ∧ (∀ w ∈ u_ws C T N, w ∈ mTb) ∧ Cond.fieldLink own ix (T k).1 (T k).2.1 (T k).2.2.1 ∈ mTb ∧ (∀ k, k < N → parseFieldDescriptor (T k).2.2.1 = some (ty0 k)) ∧ (∀ a, a < N → ∀ b, b < N → a ≠ b → (T a).2.1 ≠ (T b).2.1) ∧ (T k).2.2.2 = false ∧ parseFieldDescriptor (T k).2.2.1 = some ty
section MH
variable {X : mX} {E : mEnv} {D : mD} {pc : Nat} {lv st : List Value} {w : mW}
theorem mG_get (C : mCtx X E D) {ix i ci k : Nat} {fs : List (Nat × Nat)} {f : Nat × Nat} {v : Value} (hd : decode D.2.1 pc = .ok (.getfield ix, 3)) (hf : mFld D.1.cls ix ci k) (hs : mSh[i]? = some (.inr (ci, fs))) (hk : fs[k]? = some f) (hv : mV E.1 v = mFv E.1 w i k f)
    (kk : mG X E D (pc + 3) lv (v :: st) w) : mG X E D pc lv (.ref i :: st) w := by
  obtain ⟨p, l, e, R, s, m, args, below, meth, c, cells, slots, Q, A⟩ := X
  obtain ⟨hx, hb, hml, hown, hts, hK, hI, hA, hRO, hR, hcl, hsl⟩ := C
  intro H locs ls hP hS hl
  obtain ⟨Cn, T, N, h1, h2, h3, h4⟩ := hf
  refine va_get (D := E.2.1) (ci := ci) (v := mFv E.1 w i k f) (C := Cn) (T := T) (N := N) hx hb hts h3 hown hK hP i (mWs_get E w hs) h1 k h2 (hts _ h4) (fun _ h => h) (mFs_get hk) hd ?_
  rw [← hv]
  exact kk H locs ls hP hS hl
theorem mG_getI (C : mCtx X E D) {ix i ci k z : Nat} {fs : List (Nat × Nat)} (hd : decode D.2.1 pc = .ok (.getfield ix, 3)) (hf : mFld D.1.cls ix ci k) (hs : mSh[i]? = some (.inr (ci, fs))) (hk : fs[k]? = some (0, z))
    (kk : mG X E D (pc + 3) lv (.int (w.1 i k) :: st) w) : mG X E D pc lv (.ref i :: st) w := mG_get C hd hf hs hk rfl kk
theorem mG_getL (C : mCtx X E D) {ix i ci k z : Nat} {fs : List (Nat × Nat)} (hd : decode D.2.1 pc = .ok (.getfield ix, 3)) (hf : mFld D.1.cls ix ci k) (hs : mSh[i]? = some (.inr (ci, fs))) (hk : fs[k]? = some (1, z))
    (kk : mG X E D (pc + 3) lv (.long (w.2 i k) :: st) w) : mG X E D pc lv (.ref i :: st) w := mG_get C hd hf hs hk rfl kk
theorem mG_getR (C : mCtx X E D) {ix i ci k r : Nat} {fs : List (Nat × Nat)} (hd : decode D.2.1 pc = .ok (.getfield ix, 3)) (hf : mFld D.1.cls ix ci k) (hs : mSh[i]? = some (.inr (ci, fs))) (hk : fs[k]? = some (2, r))
    (kk : mG X E D (pc + 3) lv (.ref r :: st) w) : mG X E D pc lv (.ref i :: st) w := mG_get C hd hf hs hk rfl kk
theorem mG_putI (C : mCtx X E D) {ix i ci k z : Nat} {fs : List (Nat × Nat)} {v : Int32} (hd : decode D.2.1 pc = .ok (.putfield ix, 3)) (hf : mFldP D.1.cls ix ci k .int) (hs : mSh[i]? = some (.inr (ci, fs))) (hk : fs[k]? = some (0, z))
    (kk : mG X E D (pc + 3) lv st (mPI w i k v)) : mG X E D pc lv (.int v :: .ref i :: st) w := by
  obtain ⟨p, l, e, R, s, m, args, below, meth, c, cells, slots, Q, A⟩ := X
  obtain ⟨hx, hb, hml, hown, hts, hK, hI, hA, hRO, hR, hcl, hsl⟩ := C
  intro H locs ls hP hS hl
  obtain ⟨Cn, T, N, ty0, h1, h2, h3, h4, h5, h6, h7, h8⟩ := hf
  have hset : (mWs E w).set i (E.1 i, .inr (ci, (mFs E.1 w i fs).set k (.int v))) = mWs E (mPI w i k v) := by
    rw [← mWs_set (E := E) (w := w) (u := mPI w i k v) hs (fun j hj => ⟨mPI_row hj, rfl⟩)]
    have h9 := mFs_set (ad := E.1) (w := w) (u := mPI w i k v) (i := i) hk (fun j hj => mPI_col hj) (fun j _ => rfl)
    have h10 : mFv E.1 (mPI w i k v) i k (0, z) = .int v := by
      show Value.int ((mPI w i k v).1 i k) = _
      rw [mPI_at]
    rw [h10] at h9
    rw [h9]
    rfl
  refine va_put (D := E.2.1) (ci := ci) (v := .int v) (ty := .int) (C := Cn) (T := T) (N := N) hx hb hts h3 ty0 h5 h6 hown hK hP (mDis w hI hA) hS i (mWs_get E w hs) h1 k h2 (hts _ h4) (fun _ h => h) h7 h8 rfl rfl (by rw [mFs_len]; exact (List.getElem?_eq_some_iff.mp hk).1) hd (fun H1 locs1 hP1 _ hS1 => ?_)
  rw [hset] at hP1
  exact kk H1 locs1 ls hP1 hS1 hl
theorem mG_putL (C : mCtx X E D) {ix i ci k z : Nat} {fs : List (Nat × Nat)} {v : Int64} (hd : decode D.2.1 pc = .ok (.putfield ix, 3)) (hf : mFldP D.1.cls ix ci k .long) (hs : mSh[i]? = some (.inr (ci, fs))) (hk : fs[k]? = some (1, z))
    (kk : mG X E D (pc + 3) lv st (mPL w i k v)) : mG X E D pc lv (.long v :: .ref i :: st) w := by
  obtain ⟨p, l, e, R, s, m, args, below, meth, c, cells, slots, Q, A⟩ := X
  obtain ⟨hx, hb, hml, hown, hts, hK, hI, hA, hRO, hR, hcl, hsl⟩ := C
  intro H locs ls hP hS hl
  obtain ⟨Cn, T, N, ty0, h1, h2, h3, h4, h5, h6, h7, h8⟩ := hf
  have hset : (mWs E w).set i (E.1 i, .inr (ci, (mFs E.1 w i fs).set k (.long v))) = mWs E (mPL w i k v) := by
    rw [← mWs_set (E := E) (w := w) (u := mPL w i k v) hs (fun j hj => ⟨rfl, mPL_row hj⟩)]
    have h9 := mFs_set (ad := E.1) (w := w) (u := mPL w i k v) (i := i) hk (fun j _ => rfl) (fun j hj => mPL_col hj)
    have h10 : mFv E.1 (mPL w i k v) i k (1, z) = .long v := by
      show Value.long ((mPL w i k v).2 i k) = _
      rw [mPL_at]
    rw [h10] at h9
    rw [h9]
    rfl
  refine va_put (D := E.2.1) (ci := ci) (v := .long v) (ty := .long) (C := Cn) (T := T) (N := N) hx hb hts h3 ty0 h5 h6 hown hK hP (mDis w hI hA) hS i (mWs_get E w hs) h1 k h2 (hts _ h4) (fun _ h => h) h7 h8 rfl rfl (by rw [mFs_len]; exact (List.getElem?_eq_some_iff.mp hk).1) hd (fun H1 locs1 hP1 _ hS1 => ?_)
  rw [hset] at hP1
  exact kk H1 locs1 ls hP1 hS1 hl
theorem mG_iald (C : mCtx X E D) {a n : Nat} {rs : List Nat} {i : Int32} (hd : decode D.2.1 pc = .ok (.iaload, 1)) (hs : mSh[a]? = some (.inl (0, n, rs))) (hin : vp_in i n)
    (kk : mG X E D (pc + 1) lv (.int (w.1 a i.toNatClampNeg) :: st) w) : mG X E D pc lv (.int i :: .ref a :: st) w := by
  obtain ⟨p, l, e, R, s, m, args, below, meth, c, cells, slots, Q, A⟩ := X
  obtain ⟨hx, hb, hml, hown, hts, hK, hI, hA, hRO, hR, hcl, hsl⟩ := C
  intro H locs ls hP hS hl
  exact va_iald hx hb hK hP a 0 (mWs_get E w hs) rfl hin hd (kk H locs ls hP hS hl)
theorem mG_zald (C : mCtx X E D) {a n : Nat} {rs : List Nat} {i : Int32} (hd : decode D.2.1 pc = .ok (.baload, 1)) (hs : mSh[a]? = some (.inl (1, n, rs))) (hin : vp_in i n)
    (kk : mG X E D (pc + 1) lv (.int (w.1 a i.toNatClampNeg) :: st) w) : mG X E D pc lv (.int i :: .ref a :: st) w := by
  obtain ⟨p, l, e, R, s, m, args, below, meth, c, cells, slots, Q, A⟩ := X
  obtain ⟨hx, hb, hml, hown, hts, hK, hI, hA, hRO, hR, hcl, hsl⟩ := C
  intro H locs ls hP hS hl
  exact va_zald hx hb hK hP a 1 (mWs_get E w hs) rfl hin hd (kk H locs ls hP hS hl)
theorem mG_lald (C : mCtx X E D) {a n : Nat} {rs : List Nat} {i : Int32} (hd : decode D.2.1 pc = .ok (.laload, 1)) (hs : mSh[a]? = some (.inl (2, n, rs))) (hin : vp_in i n)
    (kk : mG X E D (pc + 1) lv (.long (w.2 a i.toNatClampNeg) :: st) w) : mG X E D pc lv (.int i :: .ref a :: st) w := by
  obtain ⟨p, l, e, R, s, m, args, below, meth, c, cells, slots, Q, A⟩ := X
  obtain ⟨hx, hb, hml, hown, hts, hK, hI, hA, hRO, hR, hcl, hsl⟩ := C
  intro H locs ls hP hS hl
  exact va_lald hx hb hK hP a 2 (mWs_get E w hs) rfl hin hd (kk H locs ls hP hS hl)
theorem mG_alen (C : mCtx X E D) {a n : Nat} {rs : List Nat} {v : Int32} (hd : decode D.2.1 pc = .ok (.arraylength, 1)) (hs : mSh[a]? = some (.inl (0, n, rs))) (hv : Int32.ofNat n = v)
    (kk : mG X E D (pc + 1) lv (.int v :: st) w) : mG X E D pc lv (.ref a :: st) w := by
  obtain ⟨p, l, e, R, s, m, args, below, meth, c, cells, slots, Q, A⟩ := X
  obtain ⟨hx, hb, hml, hown, hts, hK, hI, hA, hRO, hR, hcl, hsl⟩ := C
  intro H locs ls hP hS hl
  exact va_alen hx hb hK hP a 0 (mWs_get E w hs) (ty := .int) rfl hv hd (kk H locs ls hP hS hl)
/-- a row of a table of rows -/
theorem mG_aald (C : mCtx X E D) {a n b : Nat} {rs : List Nat} {i : Int32} (hd : decode D.2.1 pc = .ok (.aaload, 1)) (hs : mSh[a]? = some (.inl (3, n, rs))) (hin : vp_in i n) (hr : ∀ j : Nat, j < n → rs[j]? = some (b + j))
    (kk : mG X E D (pc + 1) lv (.ref (b + i.toNatClampNeg) :: st) w) : mG X E D pc lv (.int i :: .ref a :: st) w := by
  obtain ⟨p, l, e, R, s, m, args, below, meth, c, cells, slots, Q, A⟩ := X
  obtain ⟨hx, hb, hml, hown, hts, hK, hI, hA, hRO, hR, hcl, hsl⟩ := C
  intro H locs ls hP hS hl
  have hlt : i.toNatClampNeg < n := Nat.not_le.mp fun q => hin (Or.inr q)
  have h0 : va_rf ((rs[i.toNatClampNeg]?).map E.1) = .ref (E.1 (b + i.toNatClampNeg)) := by rw [hr _ hlt]; rfl
  refine W.aald (v := va_rf ((rs[i.toNatClampNeg]?).map E.1)) (ty := .array .int) hx hb (hP a _ (mWs_get E w hs)) ((hK.2 3 (E.2.2 3, .array .int) rfl).1 n (fun j => va_rf ((rs[j]?).map E.1))) rfl (fun q => by cases q) (by show ¬ (i < 0 ∨ (arrV _ _ _).slots.size ≤ _); rw [arrV_size]; exact hin) (by show (arrV _ _ _).slots[_]? = _; rw [arrV_read _ _ hlt]) rfl rfl hd ?_
  rw [h0]
  exact kk H locs ls hP hS hl
theorem mG_iast (C : mCtx X E D) {a n : Nat} {rs : List Nat} {i x : Int32} (hd : decode D.2.1 pc = .ok (.iastore, 1)) (hs : mSh[a]? = some (.inl (0, n, rs))) (hin : vp_in i n)
    (kk : mG X E D (pc + 1) lv st (mPI w a i.toNatClampNeg x)) : mG X E D pc lv (.int x :: .int i :: .ref a :: st) w := by
  obtain ⟨p, l, e, R, s, m, args, below, meth, c, cells, slots, Q, A⟩ := X
  obtain ⟨hx, hb, hml, hown, hts, hK, hI, hA, hRO, hR, hcl, hsl⟩ := C
  intro H locs ls hP hS hl
  have hset : (mWs E w).set a (E.1 a, .inl (E.2.2 0, n, .inl (upd (w.1 a) i.toNatClampNeg x))) = mWs E (mPI w a i.toNatClampNeg x) := by
    rw [← mWs_set (E := E) (w := w) (u := mPI w a i.toNatClampNeg x) hs (fun j hj => ⟨mPI_row hj, rfl⟩), ← mPI_upd]
    rfl
  refine va_iast hx hb hK hP (mDis w hI hA) hS a 0 (mWs_get E w hs) rfl hin hd (fun H1 locs1 hP1 _ hS1 => ?_)
  rw [hset] at hP1
  exact kk H1 locs1 ls hP1 hS1 hl
theorem mG_zast (C : mCtx X E D) {a n : Nat} {rs : List Nat} {i x y : Int32} (hd : decode D.2.1 pc = .ok (.bastore, 1)) (hs : mSh[a]? = some (.inl (1, n, rs))) (hin : vp_in i n) (hy : vp_nar .boolean x = y)
    (kk : mG X E D (pc + 1) lv st (mPI w a i.toNatClampNeg y)) : mG X E D pc lv (.int x :: .int i :: .ref a :: st) w := by
  obtain ⟨p, l, e, R, s, m, args, below, meth, c, cells, slots, Q, A⟩ := X
  obtain ⟨hx, hb, hml, hown, hts, hK, hI, hA, hRO, hR, hcl, hsl⟩ := C
  intro H locs ls hP hS hl
  have hset : (mWs E w).set a (E.1 a, .inl (E.2.2 1, n, .inl (upd (w.1 a) i.toNatClampNeg (vp_nar .boolean x)))) = mWs E (mPI w a i.toNatClampNeg y) := by
    rw [hy, ← mWs_set (E := E) (w := w) (u := mPI w a i.toNatClampNeg y) hs (fun j hj => ⟨mPI_row hj, rfl⟩), ← mPI_upd]
    rfl
  refine va_zast hx hb hK hP (mDis w hI hA) hS a 1 (mWs_get E w hs) rfl hin hd (fun H1 locs1 hP1 _ hS1 => ?_)
  rw [hset] at hP1
  exact kk H1 locs1 ls hP1 hS1 hl
theorem mG_last (C : mCtx X E D) {a n : Nat} {rs : List Nat} {i : Int32} {x : Int64} (hd : decode D.2.1 pc = .ok (.lastore, 1)) (hs : mSh[a]? = some (.inl (2, n, rs))) (hin : vp_in i n)
    (kk : mG X E D (pc + 1) lv st (mPL w a i.toNatClampNeg x)) : mG X E D pc lv (.long x :: .int i :: .ref a :: st) w := by
  obtain ⟨p, l, e, R, s, m, args, below, meth, c, cells, slots, Q, A⟩ := X
  obtain ⟨hx, hb, hml, hown, hts, hK, hI, hA, hRO, hR, hcl, hsl⟩ := C
  intro H locs ls hP hS hl
  have hset : (mWs E w).set a (E.1 a, .inl (E.2.2 2, n, .inr (.inl (vp_updL (w.2 a) i.toNatClampNeg x)))) = mWs E (mPL w a i.toNatClampNeg x) := by
    rw [← mWs_set (E := E) (w := w) (u := mPL w a i.toNatClampNeg x) hs (fun j hj => ⟨rfl, mPL_row hj⟩), ← mPL_upd]
    rfl
  refine va_last hx hb hK hP (mDis w hI hA) hS a 2 (mWs_get E w hs) rfl hin hd (fun H1 locs1 hP1 _ hS1 => ?_)
  rw [hset] at hP1
  exact kk H1 locs1 ls hP1 hS1 hl
/-- statics, and tables that are never written -/
theorem mG_gets (C : mCtx X E D) {ix : Nat} {Cn n d : String} {v : Value} (hd : decode D.2.1 pc = .ok (.getstatic ix, 3)) (hl0 : Cond.fieldLink D.1.cls ix Cn n d ∈ mTb) (hz : ∀ (A : Nat → Prop) (U : State) (H : Heap), mRO E A U H → va_Z Cn n d (mV E.1 v) A U H)
    (kk : mG X E D (pc + 3) lv (v :: st) w) : mG X E D pc lv st w := by
  obtain ⟨p, l, e, R, s, m, args, below, meth, c, cells, slots, Q, A⟩ := X
  obtain ⟨hx, hb, hml, hown, hts, hK, hI, hA, hRO, hR, hcl, hsl⟩ := C
  intro H locs ls hP hS hl
  exact va_gets hx hb (hz A s s.heap hRO) hS hown (hts _ hl0) (fun _ h => h) hd (kk H locs ls hP hS hl)
theorem mG_tald (C : mCtx X E D) {a n : Nat} {f : Nat → Int32} {i : Int32} (hd : decode D.2.1 pc = .ok (.iaload, 1)) (hz : ∀ (A : Nat → Prop) (U : State) (H : Heap), mRO E A U H → va_T .int (E.1 a) n (fun j => .int (f j)) A U H) (hin : vp_in i n)
    (kk : mG X E D (pc + 1) lv (.int (f i.toNatClampNeg) :: st) w) : mG X E D pc lv (.int i :: .ref a :: st) w := by
  obtain ⟨p, l, e, R, s, m, args, below, meth, c, cells, slots, Q, A⟩ := X
  obtain ⟨hx, hb, hml, hown, hts, hK, hI, hA, hRO, hR, hcl, hsl⟩ := C
  intro H locs ls hP hS hl
  exact va_ti hx hb (hz A s s.heap hRO) hS hin rfl hd (kk H locs ls hP hS hl)
theorem mG_tlen (C : mCtx X E D) {a n : Nat} {f : Nat → Int32} {v : Int32} (hd : decode D.2.1 pc = .ok (.arraylength, 1)) (hz : ∀ (A : Nat → Prop) (U : State) (H : Heap), mRO E A U H → va_T .int (E.1 a) n (fun j => .int (f j)) A U H) (hv : Int32.ofNat n = v)
    (kk : mG X E D (pc + 1) lv (.int v :: st) w) : mG X E D pc lv (.ref a :: st) w := by
  obtain ⟨p, l, e, R, s, m, args, below, meth, c, cells, slots, Q, A⟩ := X
  obtain ⟨hx, hb, hml, hown, hts, hK, hI, hA, hRO, hR, hcl, hsl⟩ := C
  intro H locs ls hP hS hl
  exact va_tlen hx hb (hz A s s.heap hRO) hS hv hd (kk H locs ls hP hS hl)
/-- a text's constant -/
theorem mG_ldcS (C : mCtx X E D) {ix k : Nat} (hd : decode D.2.1 pc = .ok (.ldc ix, 2)) (hk : k < 13) (ho : D.1.cls = RX5) (hi : mStC.getD k 0 = ix)
    (kk : mG X E D (pc + 2) lv (.ref (100 + k) :: st) w) : mG X E D pc lv st w := by
  obtain ⟨p, l, e, R, s, m, args, below, meth, c, cells, slots, Q, A⟩ := X
  obtain ⟨hx, hb, hml, hown, hts, hK, hI, hA, hRO, hR, hcl, hsl⟩ := C
  intro H locs ls hP hS hl
  subst hi
  rw [ho] at hown
  exact va_ldcS hx hb hown (hRO.1 k hk) hd (kk H locs ls hP hS hl)
/-- fewer known locals -/
theorem mG_hole {lv' : List Value} (h : ∀ (k : Nat) (v : Value), lv'[k]? = some v → v ≠ .retAddr 0 → lv[k]? = some v) (kk : mG X E D pc lv' st w) : mG X E D pc lv st w := by
  obtain ⟨p, l, e, R, s, m, args, below, meth, c, cells, slots, Q, A⟩ := X
  intro H locs ls hP hS hl
  exact kk H locs ls hP hS ⟨hl.1, hl.2.1, fun k v hk hv => hl.2.2 k v (h k v hk hv) hv⟩
/-! answers -/
theorem mG_iret (C : mCtx X E D) {Qm : Option Value → mW → Prop} (F : mFin X E D Qm) {v : Int32} {ty : FieldType} (hd : decode D.2.1 pc = .ok (.ireturn, 1)) (hr : D.2.2.2.1 = some ty) (hn : narrow ty (.int v) = .int v) (hq : Qm (some (.int v)) w) : mG X E D pc lv [.int v] w := by
  obtain ⟨p, l, e, R, s, m, args, below, meth, c, cells, slots, Q, A⟩ := X
  obtain ⟨hx, hb, hml, hown, hts, hK, hI, hA, hRO, hR, hcl, hsl⟩ := C
  obtain ⟨rfl, f2, f3, rfl, rfl, rfl⟩ := F
  intro H locs ls hP hS hl
  exact W.zret hx hb (f2.trans hr) hn (fun t ht _ => ⟨⟨some (.int v), w, rfl, hq, by rw [ht]; exact hP⟩, hS.F ht⟩) hS.2.2 hd f3
theorem mG_lret (C : mCtx X E D) {Qm : Option Value → mW → Prop} (F : mFin X E D Qm) {v : Int64} (hd : decode D.2.1 pc = .ok (.lreturn, 1)) (hr : D.2.2.2.1 = some .long) (hq : Qm (some (.long v)) w) : mG X E D pc lv [.long v] w := by
  obtain ⟨p, l, e, R, s, m, args, below, meth, c, cells, slots, Q, A⟩ := X
  obtain ⟨hx, hb, hml, hown, hts, hK, hI, hA, hRO, hR, hcl, hsl⟩ := C
  obtain ⟨rfl, f2, f3, rfl, rfl, rfl⟩ := F
  intro H locs ls hP hS hl
  exact W.lret hx hb (f2.trans hr) (fun t ht _ => ⟨⟨some (.long v), w, rfl, hq, by rw [ht]; exact hP⟩, hS.F ht⟩) hS.2.2 hd f3
theorem mG_vret (C : mCtx X E D) {Qm : Option Value → mW → Prop} (F : mFin X E D Qm) (hd : decode D.2.1 pc = .ok (.return_, 1)) (hr : D.2.2.2.1 = none) (hq : Qm none w) : mG X E D pc lv [] w := by
  obtain ⟨p, l, e, R, s, m, args, below, meth, c, cells, slots, Q, A⟩ := X
  obtain ⟨hx, hb, hml, hown, hts, hK, hI, hA, hRO, hR, hcl, hsl⟩ := C
  obtain ⟨rfl, f2, f3, rfl, rfl, rfl⟩ := F
  intro H locs ls hP hS hl
  exact W.vret hx hb (f2.trans hr) (fun t ht _ => ⟨⟨none, w, rfl, hq, by rw [ht]; exact hP⟩, hS.F ht⟩) hS.2.2 hd f3
theorem mG_aret (C : mCtx X E D) {Qm : Option Value → mW → Prop} (F : mFin X E D Qm) {r : Nat} {n : String} (hd : decode D.2.1 pc = .ok (.areturn, 1)) (hr : D.2.2.2.1 = some (.object n)) (hq : Qm (some (.ref r)) w) : mG X E D pc lv [.ref r] w := by
  obtain ⟨p, l, e, R, s, m, args, below, meth, c, cells, slots, Q, A⟩ := X
  obtain ⟨hx, hb, hml, hown, hts, hK, hI, hA, hRO, hR, hcl, hsl⟩ := C
  obtain ⟨rfl, f2, f3, rfl, rfl, rfl⟩ := F
  intro H locs ls hP hS hl
  exact W.aret hx hb (f2.trans hr) (Or.inl ⟨n, rfl⟩) (Or.inr ⟨E.1 r, rfl⟩) (fun t ht _ => ⟨⟨some (.ref r), w, rfl, hq, by rw [ht]; exact hP⟩, hS.F ht⟩) hS.2.2 hd f3
end MH
/-! calls -/
theorem mGood : ∀ w ∈ mTb, goodWord w = true := mTb_good
theorem mGoodIn {D : mD} (h : Cond.code D.1 D.2.1 D.2.2.1 D.2.2.2.1 ∈ mTb) : GoodIn mTb (Cond.code D.1 D.2.1 D.2.2.1 D.2.2.2.1 :: mTb) := fun w hw => by
  have hm : w ∈ mTb := (List.mem_cons.mp hw).elim (fun e => e ▸ h) id
  exact ⟨hm, good_of_word (mGood w hm)⟩
/-- what a call of Z with n arguments needs of the tables -/
def mCal (Z : mD) (n : Nat) : Prop := Cond.code Z.1 Z.2.1 Z.2.2.1 Z.2.2.2.1 ∈ mTb ∧ Cond.initialized Z.1.cls ∈ mTb ∧ (Z.1.cls ≠ "java/lang/invoke/MethodHandle" ∧ Z.1.cls ≠ "java/lang/invoke/VarHandle" ∧ (parseMethodDescriptor Z.1.desc).map (fun d => d.parameters.length) = some n) ∧ Z.2.2.2.2.cells = 0 ∧ Z.2.2.2.2.slots = 0
def mCalS (Z : mD) (n : Nat) : Prop := mCal Z n ∧ Cond.static Z.1 ∈ mTb
def mCalV (Z : mD) (n : Nat) : Prop := mCal Z n ∧ Cond.instanceMethod Z.1 ∈ mTb ∧ Cond.selects Z.1.cls Z.1 Z.1 ∈ mTb
def mFit (Z D : mD) : Prop := Z.2.2.2.2.frames + 1 ≤ D.2.2.2.2.frames ∧ 8 + (Z.2.2.1 + 11) + Z.2.2.2.2.locals ≤ D.2.2.2.2.locals
theorem mBlind (E : mEnv) (as : List Value) (w : mW) : FrameBlind (mPc E as w) := by
  rintro a U g mk ⟨h1, h2, h3, h4, h5⟩
  exact ⟨h1, h2, va_K.moved (u := U) (U := U.calling g mk a) (Vm.Alike.refl U.vm) h3, h4, mRO.same (u := U) (U := U.calling g mk a) rfl h5⟩
theorem mPre {E : mEnv} {A : Nat → Prop} {s : State} {H : Heap} {locs : List Loc} {as : List Value} {w : mW} (hK : va_K E.2.1 vwCl (mTys E) s) (hI : mInj E) (hA : ∀ i : Nat, i < mN → A (E.1 i)) (hRO : mRO E A s s.heap) (hP : va_P E.2.1 vwCl (mWs E w) H) (hS : va_S A s.heap H locs) : ∀ U : State, U.heap = H → s.WarmedH U.vm → mPc E as w ((as.map (mV E.1)).toArray) U := by
  intro U hU hW
  refine ⟨rfl, by rw [hU]; exact hP, va_K.moved hW.alike hK, hI, ?_⟩
  rw [hU]
  refine ((hRO.kept hS.2.1).warm hW).narrow ?_
  rintro a ⟨i, hi, rfl⟩
  exact hA i hi
section MC
variable {X : mX} {E : mEnv} {D : mD} {pc : Nat} {lv st : List Value} {w : mW}
/-- behind a call -/
theorem mG_back {p : Program} {l : Launch} {e : Env} {R : Room} {s : State} {m : MethodId} {args : Array Value} {below : List Frame} {meth : Method} {c : Code} {cells slots : Nat} {Q : State → Prop} {A : Nat → Prop} {rest : List Value} {K : Option Value → mW → Prop} {H : Heap} {locs : List Loc} {ls : Array Slot} {st0 : List Value} {av : Array Value}
    (hA : ∀ i : Nat, i < mN → A (E.1 i)) (hS : va_S A s.heap H locs) (hl : mL E.1 ls D.2.2.1 lv)
    (run : va_Run p l e R s m args below meth c H locs cells slots 0 0 (F0 m pc ls st0) (rest.map (mV E.1)) (mQc E K av) (mA E))
    (kk : ∀ r u, K r u → mG (p, l, e, R, s, m, args, below, meth, c, cells, slots, Q, A) E D (pc + 3) lv (r.toList ++ rest) u) : W p l e R s m args below meth c H locs cells slots Q (F0 m pc ls st0) := by
  intro T hT X
  obtain ⟨v, st₀, t, T', L, h0, X', hL, e1, e2, ⟨⟨r, u, hv, hq, hp⟩, hz, hk⟩, stp⟩ := run T hT X
  cases hv
  rw [h0] at hz hk
  have hAA : ∀ q, mA E q → A q := by
    rintro q ⟨i, hi, rfl⟩
    exact hA i hi
  have hS1 : va_S A s.heap T'.heap (locs ++ L) := by
    refine ⟨Nat.le_trans hS.1 (by rw [e1]; exact hz), fun q h1 h2 => ?_, fun q hq => ?_⟩
    · rw [e1, hk q (Nat.lt_of_lt_of_le h1 hS.1) (fun z => h2 (hAA q z))]
      exact hS.2.1 q h1 h2
    · rcases List.mem_append.mp hq with h | h
      · exact hS.2.2 q h
      · exact hAA _ (hL q h)
  obtain ⟨t2, a1, b1⟩ := kk r u hq T'.heap (locs ++ L) ls (by rw [e1]; exact hp) hS1 hl T' rfl X'
  refine ⟨t2, stp t2 ?_, b1⟩
  have hst : (r.toList ++ rest).map (mV E.1) = (r.map (mV E.1)).toList ++ rest.map (mV E.1) := by cases r <;> rfl
  rw [hst] at a1
  exact a1
theorem mSum (ad : Nat → Nat) (rest : List Value) : ((rest.map (mV ad)).map fun v => v.category).sum = (rest.map fun v => v.category).sum := by
  rw [List.map_map]
  congr 1
  apply List.map_congr_left
  intro a _
  exact mV_cat ad a
theorem mG_callS (C : mCtx X E D) {Z : mD} {ix n : Nat} {as rest : List Value} {K : Option Value → mW → Prop} (hd : decode D.2.1 pc = .ok (.invokestatic ix, 3)) (hlk : Cond.methodLink D.1.cls ix Z.1 ∈ mTb) (hz : mCalS Z n) (hf : mFit Z D) (hn : as.length = n) (hr : (rest.map fun v => v.category).sum ≤ 8) (hst : as.reverse ++ rest = st)
    (hM : mM E Z as w K) (kk : ∀ r u, K r u → mG X E D (pc + 3) lv (r.toList ++ rest) u) : mG X E D pc lv st w := by
  subst hst
  obtain ⟨p, l, e, R, s, m, args, below, meth, c, cells, slots, Q, A⟩ := X
  obtain ⟨hx, hb, hml, hown, hts, hK, hI, hA, hRO, hR, hcl, hsl⟩ := C
  subst hR
  intro H locs ls hP hS hl
  obtain ⟨⟨z1, z2, z3, z4, z5⟩, z6⟩ := hz
  have hG := mGoodIn z1
  have cb : CallB D.2.2.2.2 s args D.1.cls ix Z.1 Z.2.1 Z.2.2.1 Z.2.2.2.1 (Cond.code Z.1 Z.2.1 Z.2.2.1 Z.2.2.2.1 :: mTb) Z.2.2.2.2 0 0 n := callB_of n hts hG rfl z4 z5 (hts _ z2) (hts _ hlk) z3 hf
  refine mG_back hA hS hl (rest := rest) (va_runS (As := as.map (mV E.1)) (rest := rest.map (mV E.1)) ⟨hx, hb, hml, hown, hts⟩ (hM l) ⟨cb, hts _ z6⟩ ⟨mBlind E as w, mPre hK hI hA hRO hP hS⟩ rfl (by rw [List.length_map]; exact hn) hl.1 (by rw [List.map_append, List.map_reverse]) (lv_room (by rw [mSum]; exact hr)) hd ⟨hcl, hsl⟩) kk
theorem mG_callV (C : mCtx X E D) {Z : mD} {ix n i ci N : Nat} {T : u_T} {fs : List (Nat × Nat)} {as rest : List Value} {K : Option Value → mW → Prop} (hd : decode D.2.1 pc = .ok (.invokevirtual ix, 3)) (hlk : Cond.methodLink D.1.cls ix Z.1 ∈ mTb) (hz : mCalV Z n) (hf : mFit Z D) (hs : mSh[i]? = some (.inr (ci, fs))) (hc : vwCl[ci]? = some (Z.1.cls, T, N)) (hn : as.length = n) (hr : (rest.map fun v => v.category).sum ≤ 8) (hst : as.reverse ++ .ref i :: rest = st)
    (hM : mM E Z (.ref i :: as) w K) (kk : ∀ r u, K r u → mG X E D (pc + 3) lv (r.toList ++ rest) u) : mG X E D pc lv st w := by
  subst hst
  obtain ⟨p, l, e, R, s, m, args, below, meth, c, cells, slots, Q, A⟩ := X
  obtain ⟨hx, hb, hml, hown, hts, hK, hI, hA, hRO, hR, hcl, hsl⟩ := C
  subst hR
  intro H locs ls hP hS hl
  obtain ⟨⟨z1, z2, z3, z4, z5⟩, z6, z7⟩ := hz
  have hG := mGoodIn z1
  have cb : CallB D.2.2.2.2 s args D.1.cls ix Z.1 Z.2.1 Z.2.2.1 Z.2.2.2.1 (Cond.code Z.1 Z.2.1 Z.2.2.1 Z.2.2.2.1 :: mTb) Z.2.2.2.2 0 0 n := callB_of n hts hG rfl z4 z5 (hts _ z2) (hts _ hlk) z3 hf
  refine mG_back hA hS hl (rest := rest) (va_runV (C := Z.1.cls) (b := E.1 i) (As := as.map (mV E.1)) (rest := rest.map (mV E.1)) ⟨hx, hb, hml, hown, hts⟩ (hM l) ⟨cb, hts _ z6, hts _ z7⟩ ⟨mBlind E (.ref i :: as) w, va_recv hK hP hc (mWs_get E w hs), mPre (as := .ref i :: as) hK hI hA hRO hP hS⟩ rfl (by rw [List.length_map]; exact hn) hl.1 (by rw [List.map_append, List.map_reverse]; rfl) (lv_room (by rw [mSum]; exact hr)) hd ⟨hcl, hsl⟩) kk
/-! calls by the kind of answer -/
def mMi (E : mEnv) (D : mD) (as : List Value) (w : mW) (Q : Int32 → mW → Prop) : Prop := mM E D as w (fun r u => ∃ v : Int32, r = some (.int v) ∧ Q v u)
def mMl (E : mEnv) (D : mD) (as : List Value) (w : mW) (Q : Int64 → mW → Prop) : Prop := mM E D as w (fun r u => ∃ v : Int64, r = some (.long v) ∧ Q v u)
def mMr (E : mEnv) (D : mD) (as : List Value) (w : mW) (Q : Nat → mW → Prop) : Prop := mM E D as w (fun r u => ∃ v : Nat, r = some (.ref v) ∧ Q v u)
def mMv (E : mEnv) (D : mD) (as : List Value) (w : mW) (Q : mW → Prop) : Prop := mM E D as w (fun r u => r = none ∧ Q u)
theorem mMi.mono {E : mEnv} {D : mD} {as : List Value} {w : mW} {Q Q' : Int32 → mW → Prop} (h : mMi E D as w Q) (hQ : ∀ v u, Q v u → Q' v u) : mMi E D as w Q' := mM.mono h (fun _ u ⟨v, e, q⟩ => ⟨v, e, hQ v u q⟩)
theorem mMl.mono {E : mEnv} {D : mD} {as : List Value} {w : mW} {Q Q' : Int64 → mW → Prop} (h : mMl E D as w Q) (hQ : ∀ v u, Q v u → Q' v u) : mMl E D as w Q' := mM.mono h (fun _ u ⟨v, e, q⟩ => ⟨v, e, hQ v u q⟩)
theorem mMr.mono {E : mEnv} {D : mD} {as : List Value} {w : mW} {Q Q' : Nat → mW → Prop} (h : mMr E D as w Q) (hQ : ∀ v u, Q v u → Q' v u) : mMr E D as w Q' := mM.mono h (fun _ u ⟨v, e, q⟩ => ⟨v, e, hQ v u q⟩)
theorem mMv.mono {E : mEnv} {D : mD} {as : List Value} {w : mW} {Q Q' : mW → Prop} (h : mMv E D as w Q) (hQ : ∀ u, Q u → Q' u) : mMv E D as w Q' := mM.mono h (fun _ u ⟨e, q⟩ => ⟨e, hQ u q⟩)
end MC
section MK
variable {X : mX} {E : mEnv} {D : mD} {pc : Nat} {lv st : List Value} {w : mW}
theorem mG_Si (C : mCtx X E D) {Z : mD} {ix n : Nat} {as rest : List Value} {K : Int32 → mW → Prop} (hd : decode D.2.1 pc = .ok (.invokestatic ix, 3)) (hlk : Cond.methodLink D.1.cls ix Z.1 ∈ mTb) (hz : mCalS Z n) (hf : mFit Z D) (hn : as.length = n) (hr : (rest.map fun v => v.category).sum ≤ 8) (hst : as.reverse ++ rest = st)
    (hM : mMi E Z as w K) (kk : ∀ v u, K v u → mG X E D (pc + 3) lv (.int v :: rest) u) : mG X E D pc lv st w := mG_callS C hd hlk hz hf hn hr hst hM (fun r u h => by obtain ⟨v, rfl, q⟩ := h; exact kk v u q)
theorem mG_Vi (C : mCtx X E D) {Z : mD} {ix n i ci N : Nat} {T : u_T} {fs : List (Nat × Nat)} {as rest : List Value} {K : Int32 → mW → Prop} (hd : decode D.2.1 pc = .ok (.invokevirtual ix, 3)) (hlk : Cond.methodLink D.1.cls ix Z.1 ∈ mTb) (hz : mCalV Z n) (hf : mFit Z D) (hs : mSh[i]? = some (.inr (ci, fs))) (hc : vwCl[ci]? = some (Z.1.cls, T, N)) (hn : as.length = n) (hr : (rest.map fun v => v.category).sum ≤ 8) (hst : as.reverse ++ .ref i :: rest = st)
    (hM : mMi E Z (.ref i :: as) w K) (kk : ∀ v u, K v u → mG X E D (pc + 3) lv (.int v :: rest) u) : mG X E D pc lv st w := mG_callV C hd hlk hz hf hs hc hn hr hst hM (fun r u h => by obtain ⟨v, rfl, q⟩ := h; exact kk v u q)
theorem mG_Sl (C : mCtx X E D) {Z : mD} {ix n : Nat} {as rest : List Value} {K : Int64 → mW → Prop} (hd : decode D.2.1 pc = .ok (.invokestatic ix, 3)) (hlk : Cond.methodLink D.1.cls ix Z.1 ∈ mTb) (hz : mCalS Z n) (hf : mFit Z D) (hn : as.length = n) (hr : (rest.map fun v => v.category).sum ≤ 8) (hst : as.reverse ++ rest = st)
    (hM : mMl E Z as w K) (kk : ∀ v u, K v u → mG X E D (pc + 3) lv (.long v :: rest) u) : mG X E D pc lv st w := mG_callS C hd hlk hz hf hn hr hst hM (fun r u h => by obtain ⟨v, rfl, q⟩ := h; exact kk v u q)
theorem mG_Vl (C : mCtx X E D) {Z : mD} {ix n i ci N : Nat} {T : u_T} {fs : List (Nat × Nat)} {as rest : List Value} {K : Int64 → mW → Prop} (hd : decode D.2.1 pc = .ok (.invokevirtual ix, 3)) (hlk : Cond.methodLink D.1.cls ix Z.1 ∈ mTb) (hz : mCalV Z n) (hf : mFit Z D) (hs : mSh[i]? = some (.inr (ci, fs))) (hc : vwCl[ci]? = some (Z.1.cls, T, N)) (hn : as.length = n) (hr : (rest.map fun v => v.category).sum ≤ 8) (hst : as.reverse ++ .ref i :: rest = st)
    (hM : mMl E Z (.ref i :: as) w K) (kk : ∀ v u, K v u → mG X E D (pc + 3) lv (.long v :: rest) u) : mG X E D pc lv st w := mG_callV C hd hlk hz hf hs hc hn hr hst hM (fun r u h => by obtain ⟨v, rfl, q⟩ := h; exact kk v u q)
theorem mG_Sr (C : mCtx X E D) {Z : mD} {ix n : Nat} {as rest : List Value} {K : Nat → mW → Prop} (hd : decode D.2.1 pc = .ok (.invokestatic ix, 3)) (hlk : Cond.methodLink D.1.cls ix Z.1 ∈ mTb) (hz : mCalS Z n) (hf : mFit Z D) (hn : as.length = n) (hr : (rest.map fun v => v.category).sum ≤ 8) (hst : as.reverse ++ rest = st)
    (hM : mMr E Z as w K) (kk : ∀ v u, K v u → mG X E D (pc + 3) lv (.ref v :: rest) u) : mG X E D pc lv st w := mG_callS C hd hlk hz hf hn hr hst hM (fun r u h => by obtain ⟨v, rfl, q⟩ := h; exact kk v u q)
theorem mG_Vr (C : mCtx X E D) {Z : mD} {ix n i ci N : Nat} {T : u_T} {fs : List (Nat × Nat)} {as rest : List Value} {K : Nat → mW → Prop} (hd : decode D.2.1 pc = .ok (.invokevirtual ix, 3)) (hlk : Cond.methodLink D.1.cls ix Z.1 ∈ mTb) (hz : mCalV Z n) (hf : mFit Z D) (hs : mSh[i]? = some (.inr (ci, fs))) (hc : vwCl[ci]? = some (Z.1.cls, T, N)) (hn : as.length = n) (hr : (rest.map fun v => v.category).sum ≤ 8) (hst : as.reverse ++ .ref i :: rest = st)
    (hM : mMr E Z (.ref i :: as) w K) (kk : ∀ v u, K v u → mG X E D (pc + 3) lv (.ref v :: rest) u) : mG X E D pc lv st w := mG_callV C hd hlk hz hf hs hc hn hr hst hM (fun r u h => by obtain ⟨v, rfl, q⟩ := h; exact kk v u q)
theorem mG_Sv (C : mCtx X E D) {Z : mD} {ix n : Nat} {as rest : List Value} {K : mW → Prop} (hd : decode D.2.1 pc = .ok (.invokestatic ix, 3)) (hlk : Cond.methodLink D.1.cls ix Z.1 ∈ mTb) (hz : mCalS Z n) (hf : mFit Z D) (hn : as.length = n) (hr : (rest.map fun v => v.category).sum ≤ 8) (hst : as.reverse ++ rest = st)
    (hM : mMv E Z as w K) (kk : ∀ u, K u → mG X E D (pc + 3) lv (rest) u) : mG X E D pc lv st w := mG_callS C hd hlk hz hf hn hr hst hM (fun r u h => by obtain ⟨rfl, q⟩ := h; exact kk u q)
theorem mG_Vv (C : mCtx X E D) {Z : mD} {ix n i ci N : Nat} {T : u_T} {fs : List (Nat × Nat)} {as rest : List Value} {K : mW → Prop} (hd : decode D.2.1 pc = .ok (.invokevirtual ix, 3)) (hlk : Cond.methodLink D.1.cls ix Z.1 ∈ mTb) (hz : mCalV Z n) (hf : mFit Z D) (hs : mSh[i]? = some (.inr (ci, fs))) (hc : vwCl[ci]? = some (Z.1.cls, T, N)) (hn : as.length = n) (hr : (rest.map fun v => v.category).sum ≤ 8) (hst : as.reverse ++ .ref i :: rest = st)
    (hM : mMv E Z (.ref i :: as) w K) (kk : ∀ u, K u → mG X E D (pc + 3) lv (rest) u) : mG X E D pc lv st w := mG_callV C hd hlk hz hf hs hc hn hr hst hM (fun r u h => by obtain ⟨rfl, q⟩ := h; exact kk u q)
end MK
