/-! ===== MORE ROWS ===== -/
theorem mHoles_get (k : Nat) (v : Value) (hv : v ≠ .retAddr 0) : ∀ (ks : List Nat) (lv : List Value), (ks.foldl (fun l k => l.set k (.retAddr 0)) lv)[k]? = some v → lv[k]? = some v := by
  intro ks
  induction ks with
  | nil => intro lv h; exact h
  | cons a r ih =>
    intro lv h
    have h1 := ih (lv.set a (.retAddr 0)) h
    by_cases e : a = k
    · subst e
      have hlt := (List.getElem?_eq_some_iff.mp h1).1
      rw [List.getElem?_set_self (by simpa using hlt)] at h1
      cases h1
      exact absurd rfl hv
    · rw [List.getElem?_set_ne e] at h1
      exact h1
/-- int rows copied: n places from sp of a to dp of b -/
def mCp (w : mW) (a b sp dp n : Nat) : mW := (fun c j => if c = b then va_cpy (w.1 a) (w.1 b) sp dp n j else w.1 c j, w.2)
theorem mCp_row {w : mW} {a b sp dp n j : Nat} (h : j ≠ b) : (mCp w a b sp dp n).1 j = w.1 j := by
  funext k
  show (if j = b then _ else w.1 j k) = _
  rw [if_neg h]
theorem mCp_at (w : mW) (a b sp dp n : Nat) : (mCp w a b sp dp n).1 b = va_cpy (w.1 a) (w.1 b) sp dp n := by
  funext k
  show (if b = b then _ else w.1 b k) = _
  rw [if_pos rfl]
theorem tw_mmax : Cond.code Lib.Math.max.name Lib.Math.max.code 2 (some .int) ∈ mTb := mTm 794 (by decide +kernel) (by decide +kernel)
theorem tw_mmaxs : Cond.static Lib.Math.max.name ∈ mTb := mTm 793 (by decide +kernel) (by decide +kernel)
theorem tw_mmin : Cond.code Lib.Math.min.name Lib.Math.min.code 2 (some .int) ∈ mTb := mTm 630 (by decide +kernel) (by decide +kernel)
theorem tw_mmins : Cond.static Lib.Math.min.name ∈ mTb := mTm 629 (by decide +kernel) (by decide +kernel)
theorem tw_mathi : (Jvm.Cond.initialized "java/lang/Math") ∈ mTb := mTm 16 (by decide +kernel) (by decide +kernel)
section MR2
variable {X : mX} {E : mEnv} {D : mD} {pc : Nat} {lv st : List Value} {w : mW}
theorem mG_holes (ks : List Nat) {lv' : List Value} (h : ks.foldl (fun l k => l.set k (.retAddr 0)) lv = lv') (kk : mG X E D pc lv' st w) : mG X E D pc lv st w := by
  subst h
  exact mG_hole (fun k v hk hv => mHoles_get k v hv ks lv hk) kk
theorem mG_nm {w' : mW} (h : ∀ u : mW, u = w' → mG X E D pc lv st u) : mG X E D pc lv st w' := h w' rfl
theorem mG_iincc (C : mCtx X E D) {i : Nat} {n : Int} {x c : Int32} {lv' : List Value} (hd : decode D.2.1 pc = .ok (.iinc i n, 3)) (hg : lv[i]? = some (.int x)) (hc : Int32.ofInt n = c) (hn : i < D.2.2.1) (he : mSt1 lv i (.int (x + c)) = lv')
    (k : mG X E D (pc + 3) lv' st w) : mG X E D pc lv st w := mG_iinc C hd hg (by rw [hc]) hn he k
theorem mG_getIv (C : mCtx X E D) {ix i ci k z : Nat} {fs : List (Nat × Nat)} {v : Int32} (hd : decode D.2.1 pc = .ok (.getfield ix, 3)) (hf : mFld D.1.cls ix ci k) (hs : mSh[i]? = some (.inr (ci, fs))) (hk : fs[k]? = some (0, z)) (hv : w.1 i k = v)
    (kk : mG X E D (pc + 3) lv (.int v :: st) w) : mG X E D pc lv (.ref i :: st) w := mG_getI C hd hf hs hk (hv ▸ kk)
theorem mG_getLv (C : mCtx X E D) {ix i ci k z : Nat} {fs : List (Nat × Nat)} {v : Int64} (hd : decode D.2.1 pc = .ok (.getfield ix, 3)) (hf : mFld D.1.cls ix ci k) (hs : mSh[i]? = some (.inr (ci, fs))) (hk : fs[k]? = some (1, z)) (hv : w.2 i k = v)
    (kk : mG X E D (pc + 3) lv (.long v :: st) w) : mG X E D pc lv (.ref i :: st) w := mG_getL C hd hf hs hk (hv ▸ kk)
theorem mG_ialdv (C : mCtx X E D) {a n : Nat} {rs : List Nat} {i v : Int32} (hd : decode D.2.1 pc = .ok (.iaload, 1)) (hs : mSh[a]? = some (.inl (0, n, rs))) (hin : vp_in i n) (hv : w.1 a i.toNatClampNeg = v)
    (kk : mG X E D (pc + 1) lv (.int v :: st) w) : mG X E D pc lv (.int i :: .ref a :: st) w := mG_iald C hd hs hin (hv ▸ kk)
theorem mG_zaldv (C : mCtx X E D) {a n : Nat} {rs : List Nat} {i v : Int32} (hd : decode D.2.1 pc = .ok (.baload, 1)) (hs : mSh[a]? = some (.inl (1, n, rs))) (hin : vp_in i n) (hv : w.1 a i.toNatClampNeg = v)
    (kk : mG X E D (pc + 1) lv (.int v :: st) w) : mG X E D pc lv (.int i :: .ref a :: st) w := mG_zald C hd hs hin (hv ▸ kk)
theorem mG_laldv (C : mCtx X E D) {a n : Nat} {rs : List Nat} {i : Int32} {v : Int64} (hd : decode D.2.1 pc = .ok (.laload, 1)) (hs : mSh[a]? = some (.inl (2, n, rs))) (hin : vp_in i n) (hv : w.2 a i.toNatClampNeg = v)
    (kk : mG X E D (pc + 1) lv (.long v :: st) w) : mG X E D pc lv (.int i :: .ref a :: st) w := mG_lald C hd hs hin (hv ▸ kk)
theorem mG_iastv (C : mCtx X E D) {a n : Nat} {rs : List Nat} {i x : Int32} (hd : decode D.2.1 pc = .ok (.iastore, 1)) (hs : mSh[a]? = some (.inl (0, n, rs))) (hin : vp_in i n) {k : Nat} (hk : i.toNatClampNeg = k)
    (kk : mG X E D (pc + 1) lv st (mPI w a k x)) : mG X E D pc lv (.int x :: .int i :: .ref a :: st) w := mG_iast C hd hs hin (hk ▸ kk)
theorem mG_zastv (C : mCtx X E D) {a n : Nat} {rs : List Nat} {i x y : Int32} (hd : decode D.2.1 pc = .ok (.bastore, 1)) (hs : mSh[a]? = some (.inl (1, n, rs))) (hin : vp_in i n) (hy : vp_nar .boolean x = y) {k : Nat} (hk : i.toNatClampNeg = k)
    (kk : mG X E D (pc + 1) lv st (mPI w a k y)) : mG X E D pc lv (.int x :: .int i :: .ref a :: st) w := mG_zast C hd hs hin hy (hk ▸ kk)
theorem mG_tableEq (C : mCtx X E D) {dflt lo hi : Int} {offs : Array Int} {len : Nat} {x k : Int32} {off : Int} {tgt : Nat} (hd : decode D.2.1 pc = .ok (.tableswitch dflt lo hi offs, len)) (hx : x = k) (h1 : ¬ k.toInt < lo) (h2 : ¬ hi < k.toInt) (ho : offs[(k.toInt - lo).toNat]? = some off) (ht : (pc : Int) + off = (tgt : Int))
    (kk : mG X E D tgt lv st w) : mG X E D pc lv (.int x :: st) w := by
  subst hx
  exact mG_tableIn C hd h1 h2 ho ht kk
theorem mG_lookupEq (C : mCtx X E D) {dflt : Int} {ps : Array (Int × Int)} {len : Nat} {x k : Int32} {off : Int} {tgt : Nat} (hd : decode D.2.1 pc = .ok (.lookupswitch dflt ps, len)) (hx : x = k) (hp : (ps.toList.zip (ps.toList.drop 1)).all (fun (a, next) => a.1 < next.1) = true) (ho : Op.lookupswitch.offset ps.toList dflt k.toInt = off) (ht : (pc : Int) + off = (tgt : Int))
    (kk : mG X E D tgt lv st w) : mG X E D pc lv (.int x :: st) w := by
  subst hx
  exact mG_lookup C hd hp ho ht kk
/-- System.arraycopy of ints -/
theorem mG_copy (C : mCtx X E D) {ix a b n0 n1 : Nat} {r0 r1 : List Nat} {sp dp n : Int32} (hd : decode D.2.1 pc = .ok (.invokestatic ix, 3)) (hlk : Cond.methodLink D.1.cls ix arraycopyName ∈ mTb) (hs0 : mSh[a]? = some (.inl (0, n0, r0))) (hs1 : mSh[b]? = some (.inl (0, n1, r1)))
    (h : ¬ sp < 0 ∧ ¬ dp < 0 ∧ ¬ n < 0 ∧ sp.toNatClampNeg + n.toNatClampNeg ≤ n0 ∧ dp.toNatClampNeg + n.toNatClampNeg ≤ n1) (hm : 1 ≤ D.2.2.2.2.frames ∧ (st.map fun v => v.category).sum + (nativeFrameWords "java/lang/System" "arraycopy" 5 + 11) ≤ D.2.2.2.2.locals)
    (kk : mG X E D (pc + 3) lv st (mCp w a b sp.toNatClampNeg dp.toNatClampNeg n.toNatClampNeg)) : mG X E D pc lv (.int n :: .int dp :: .ref b :: .int sp :: .ref a :: st) w := by
  obtain ⟨p, l, e, R, s, m, args, below, meth, c, cells, slots, Q, A⟩ := X
  obtain ⟨hx, hb, hml, hown, hts, hK, hI, hA, hRO, hR, hcl, hsl⟩ := C
  subst hR
  intro H locs ls hP hS hl
  have hset : (mWs E w).set b (E.1 b, .inl (E.2.2 0, n1, .inl (va_cpy (w.1 a) (w.1 b) sp.toNatClampNeg dp.toNatClampNeg n.toNatClampNeg))) = mWs E (mCp w a b sp.toNatClampNeg dp.toNatClampNeg n.toNatClampNeg) := by
    rw [← mWs_set (E := E) (w := w) (u := mCp w a b sp.toNatClampNeg dp.toNatClampNeg n.toNatClampNeg) hs1 (fun j hj => ⟨mCp_row hj, rfl⟩), ← mCp_at]
    rfl
  refine va_copyi hx hb (hml.trans hl.1.symm) hown (hts _ hlk) (hts _ tw_native) (hts _ tw_acst) (hts _ tw_sysi) hK hP (mDis w hI hA) hS a b 0 0 (mWs_get E w hs0) (mWs_get E w hs1) (ty := .int) rfl rfl rfl h.1 h.2.1 h.2.2.1 h.2.2.2.1 h.2.2.2.2 (fun _ _ => rfl) hm.1 (by rw [mSum]; exact hm.2) hd (fun H1 locs1 hP1 _ hS1 => ?_)
  rw [hset] at hP1
  exact kk H1 locs1 ls hP1 hS1 hl
theorem mG_mmax (C : mCtx X E D) {ix : Nat} {x y : Int32} (hd : decode D.2.1 pc = .ok (.invokestatic ix, 3)) (hlk : Cond.methodLink D.1.cls ix Lib.Math.max.name ∈ mTb) (hm : 1 ≤ D.2.2.2.2.frames ∧ (st.map fun v => v.category).sum + 13 ≤ D.2.2.2.2.locals)
    (kk : mG X E D (pc + 3) lv (.int (if x < y then y else x) :: st) w) : mG X E D pc lv (.int y :: .int x :: st) w := by
  obtain ⟨p, l, e, R, s, m, args, below, meth, c, cells, slots, Q, A⟩ := X
  obtain ⟨hx, hb, hml, hown, hts, hK, hI, hA, hRO, hR, hcl, hsl⟩ := C
  subst hR
  intro H locs ls hP hS hl
  exact va_mmax hx hb (hml.trans hl.1.symm) hown (hts _ hlk) (hts _ tw_mmaxs) (hts _ tw_mathi) (hts _ tw_mmax) hm.1 (by rw [mSum]; exact hm.2) hcl hsl hd (kk H locs ls hP hS hl)
theorem mG_mmin (C : mCtx X E D) {ix : Nat} {x y : Int32} (hd : decode D.2.1 pc = .ok (.invokestatic ix, 3)) (hlk : Cond.methodLink D.1.cls ix Lib.Math.min.name ∈ mTb) (hm : 1 ≤ D.2.2.2.2.frames ∧ (st.map fun v => v.category).sum + 13 ≤ D.2.2.2.2.locals)
    (kk : mG X E D (pc + 3) lv (.int (if y < x then y else x) :: st) w) : mG X E D pc lv (.int y :: .int x :: st) w := by
  obtain ⟨p, l, e, R, s, m, args, below, meth, c, cells, slots, Q, A⟩ := X
  obtain ⟨hx, hb, hml, hown, hts, hK, hI, hA, hRO, hR, hcl, hsl⟩ := C
  subst hR
  intro H locs ls hP hS hl
  exact va_mmin hx hb (hml.trans hl.1.symm) hown (hts _ hlk) (hts _ tw_mmins) (hts _ tw_mathi) (hts _ tw_mmin) hm.1 (by rw [mSum]; exact hm.2) hcl hsl hd (kk H locs ls hP hS hl)
/-- a call of a text's method -/
theorem mG_callT (C : mCtx X E D) {Z : mD} {ix n i : Nat} {as rest : List Value} {K : Option Value → mW → Prop} (hd : decode D.2.1 pc = .ok (.invokevirtual ix, 3)) (hlk : Cond.methodLink D.1.cls ix Z.1 ∈ mTb) (hz : mCalV Z n) (hf : mFit Z D) (hi : ∃ k : Nat, k < 13 ∧ i = 100 + k) (hc : Z.1.cls = "java/lang/String") (hn : as.length = n) (hr : (rest.map fun v => v.category).sum ≤ 8) (hst : as.reverse ++ .ref i :: rest = st)
    (hM : mM E Z (.ref i :: as) w K) (kk : ∀ r u, K r u → mG X E D (pc + 3) lv (r.toList ++ rest) u) : mG X E D pc lv st w := by
  subst hst
  obtain ⟨k0, hk0, rfl⟩ := hi
  obtain ⟨p, l, e, R, s, m, args, below, meth, c, cells, slots, Q, A⟩ := X
  obtain ⟨hx, hb, hml, hown, hts, hK, hI, hA, hRO, hR, hcl, hsl⟩ := C
  subst hR
  intro H locs ls hP hS hl
  obtain ⟨⟨z1, z2, z3, z4, z5⟩, z6, z7⟩ := hz
  have hG := mGoodIn z1
  have cb : CallB D.2.2.2.2 s args D.1.cls ix Z.1 Z.2.1 Z.2.2.1 Z.2.2.2.1 (Cond.code Z.1 Z.2.1 Z.2.2.1 Z.2.2.2.1 :: mTb) Z.2.2.2.2 0 0 n := callB_of n hts hG rfl z4 z5 (hts _ z2) (hts _ hlk) z3 hf
  have hrv := vk_recv (H := H) (locs := locs) hRO.2.1 hk0 hS
  rw [← hc] at hrv
  refine mG_back hA hS hl (rest := rest) (va_runV (C := Z.1.cls) (b := E.1 (100 + k0)) (As := as.map (mV E.1)) (rest := rest.map (mV E.1)) ⟨hx, hb, hml, hown, hts⟩ (hM l) ⟨cb, hts _ z6, hts _ z7⟩ ⟨mBlind E (.ref (100 + k0) :: as) w, hrv, mPre (as := .ref (100 + k0) :: as) hK hI hA hRO hP hS⟩ rfl (by rw [List.length_map]; exact hn) hl.1 (by rw [List.map_append, List.map_reverse]; rfl) (lv_room (by rw [mSum]; exact hr)) hd ⟨hcl, hsl⟩) kk
theorem mG_Ti (C : mCtx X E D) {Z : mD} {ix n i : Nat} {as rest : List Value} {K : Int32 → mW → Prop} (hd : decode D.2.1 pc = .ok (.invokevirtual ix, 3)) (hlk : Cond.methodLink D.1.cls ix Z.1 ∈ mTb) (hz : mCalV Z n) (hf : mFit Z D) (hi : ∃ k : Nat, k < 13 ∧ i = 100 + k) (hc : Z.1.cls = "java/lang/String") (hn : as.length = n) (hr : (rest.map fun v => v.category).sum ≤ 8) (hst : as.reverse ++ .ref i :: rest = st)
    (hM : mMi E Z (.ref i :: as) w K) (kk : ∀ v u, K v u → mG X E D (pc + 3) lv (.int v :: rest) u) : mG X E D pc lv st w := mG_callT C hd hlk hz hf hi hc hn hr hst hM (fun r u h => by obtain ⟨v, rfl, q⟩ := h; exact kk v u q)
/-- a method's start, its locals laid out -/
theorem mM_start {args : List Value} {Q : Option Value → mW → Prop} {lv0 : List Value} (hp : plainName D.1.cls = true) (hn : (lg_sl args).length ≤ D.2.2.1) (h0 : mPad (mLa args) D.2.2.1 = lv0)
    (h : ∀ X : mX, mCtx X E D → mFin X E D Q → mG X E D 0 lv0 [] w) : mM E D args w Q := by
  subst h0
  refine mM_intro hp hn (fun X C F => mG_hole (fun k v hk hv => ?_) (h X C F))
  unfold mPad at hk
  by_cases hl : k < (mLa args).length
  · rw [List.getElem?_append_left hl] at hk
    exact hk
  · rw [List.getElem?_append_right (by omega), List.getElem?_replicate] at hk
    split at hk
    · exact absurd (Option.some.inj hk).symm hv
    · cases hk
end MR2
/-! shapes -/
theorem mRowAt {b n m : Nat} (h : ∀ j : Nat, j < n → mSh[b + j]? = some (.inl (0, m, []))) {i : Int32} (hi : vp_in i n) : mSh[b + i.toNatClampNeg]? = some (.inl (0, m, [])) := h _ (Nat.not_le.mp fun q => hi (Or.inr q))
theorem shr3 {i : Int32} (h : vp_in i 6) : mSh[3 + i.toNatClampNeg]? = some (.inl (0, 2, [])) := mRowAt (fun j hj => by match j, hj with
  | 0, _ => rfl
  | 1, _ => rfl
  | 2, _ => rfl
  | 3, _ => rfl
  | 4, _ => rfl
  | 5, _ => rfl
  | j + 6, hj => exact absurd hj (by omega)) h
theorem shr10 {i : Int32} (h : vp_in i 5) : mSh[10 + i.toNatClampNeg]? = some (.inl (0, 6, [])) := mRowAt (fun j hj => by match j, hj with
  | 0, _ => rfl
  | 1, _ => rfl
  | 2, _ => rfl
  | 3, _ => rfl
  | 4, _ => rfl
  | j + 5, hj => exact absurd hj (by omega)) h
theorem shr16 {i : Int32} (h : vp_in i 6) : mSh[16 + i.toNatClampNeg]? = some (.inl (0, 4, [])) := mRowAt (fun j hj => by match j, hj with
  | 0, _ => rfl
  | 1, _ => rfl
  | 2, _ => rfl
  | 3, _ => rfl
  | 4, _ => rfl
  | 5, _ => rfl
  | j + 6, hj => exact absurd hj (by omega)) h
theorem shr25 {i : Int32} (h : vp_in i 14) : mSh[25 + i.toNatClampNeg]? = some (.inl (0, 6, [])) := mRowAt (fun j hj => by match j, hj with
  | 0, _ => rfl
  | 1, _ => rfl
  | 2, _ => rfl
  | 3, _ => rfl
  | 4, _ => rfl
  | 5, _ => rfl
  | 6, _ => rfl
  | 7, _ => rfl
  | 8, _ => rfl
  | 9, _ => rfl
  | 10, _ => rfl
  | 11, _ => rfl
  | 12, _ => rfl
  | 13, _ => rfl
  | j + 14, hj => exact absurd hj (by omega)) h
theorem rs3 : ∀ j : Nat, j < 6 → ([3, 4, 5, 6, 7, 8] : List Nat)[j]? = some (3 + j) := by decide
theorem rs10 : ∀ j : Nat, j < 5 → ([10, 11, 12, 13, 14] : List Nat)[j]? = some (10 + j) := by decide
theorem rs16 : ∀ j : Nat, j < 6 → ([16, 17, 18, 19, 20, 21] : List Nat)[j]? = some (16 + j) := by decide
theorem rs25 : ∀ j : Nat, j < 14 → ([25, 26, 27, 28, 29, 30, 31, 32, 33, 34, 35, 36, 37, 38] : List Nat)[j]? = some (25 + j) := by decide
theorem ro140 {E : mEnv} (A : Nat → Prop) (U : State) (H : Heap) (h : mRO E A U H) : va_Z "NeverBelieved" "OVER_PEOPLE" "[I" (mV E.1 (.ref 140)) A U H := h.2.2.1.1
theorem ro141 {E : mEnv} (A : Nat → Prop) (U : State) (H : Heap) (h : mRO E A U H) : va_Z "NeverBelieved" "OVER_SAYINGS" "[I" (mV E.1 (.ref 141)) A U H := h.2.2.2.1.1
theorem ro142 {E : mEnv} (A : Nat → Prop) (U : State) (H : Heap) (h : mRO E A U H) : va_Z "NeverBelieved" "PLACE_OF_SAYING" "[I" (mV E.1 (.ref 142)) A U H := h.2.2.2.2.1.1
theorem rt140 {E : mEnv} (A : Nat → Prop) (U : State) (H : Heap) (h : mRO E A U H) : va_T .int (E.1 140) 5 (fun j => .int ((fun j => ([-1, 0, 0, 1, 1] : List Int32).getD j 0) j)) A U H := h.2.2.1.2
theorem rt141 {E : mEnv} (A : Nat → Prop) (U : State) (H : Heap) (h : mRO E A U H) : va_T .int (E.1 141) 7 (fun j => .int ((fun j => ([-1, 0, 1, 0, 3, 3, 5] : List Int32).getD j 0) j)) A U H := h.2.2.2.1.2
theorem rt142 {E : mEnv} (A : Nat → Prop) (U : State) (H : Heap) (h : mRO E A U H) : va_T .int (E.1 142) 5 (fun j => .int ((fun j => ([1, 4, 5, 6, 2] : List Int32).getD j 0) j)) A U H := h.2.2.2.2.1.2
