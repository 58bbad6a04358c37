/-! ===== THE LOGIC: a world of fixed shape (cells by number), its ints and longs as two tables; a judgement mG (the machine stands at pc, ..) and a contract mM ===== -/
/-- a cell's shape: an array (0 int, 1 boolean, 2 long, 3 rows of ints; its length; its rows' numbers), or an object (its class's number; its fields: (0, _) an int, (1, _) a long, (2, n) the cell n) -/
abbrev mCell : Type := (Nat × Nat × List Nat) ⊕ (Nat × List (Nat × Nat))
/-- what changes: the ints and the longs, by cell and place -/
abbrev mW : Type := (Nat → Nat → Int32) × (Nat → Nat → Int64)
/-- where the cells lie; the classes' numbers and slots; the arrays' classes -/
abbrev mEnv : Type := (Nat → Nat) × va_G × (Nat → ClassId)
def mSh : List mCell := [
  .inr (7, [(2, 1), (2, 22), (2, 39), (2, 43), (2, 46), (2, 58)]),
  .inr (1, [(0, 0), (0, 0), (0, 0), (0, 0), (0, 0), (2, 2), (2, 9), (2, 15)]),
  .inl (3, 6, [3, 4, 5, 6, 7, 8]),
  .inl (0, 2, []),
  .inl (0, 2, []),
  .inl (0, 2, []),
  .inl (0, 2, []),
  .inl (0, 2, []),
  .inl (0, 2, []),
  .inl (3, 5, [10, 11, 12, 13, 14]),
  .inl (0, 6, []),
  .inl (0, 6, []),
  .inl (0, 6, []),
  .inl (0, 6, []),
  .inl (0, 6, []),
  .inl (3, 6, [16, 17, 18, 19, 20, 21]),
  .inl (0, 4, []),
  .inl (0, 4, []),
  .inl (0, 4, []),
  .inl (0, 4, []),
  .inl (0, 4, []),
  .inl (0, 4, []),
  .inr (4, [(2, 23), (0, 0), (2, 24), (0, 0), (0, 0), (0, 0), (0, 0), (0, 0), (0, 0), (0, 0)]),
  .inl (0, 160, []),
  .inl (3, 14, [25, 26, 27, 28, 29, 30, 31, 32, 33, 34, 35, 36, 37, 38]),
  .inl (0, 6, []),
  .inl (0, 6, []),
  .inl (0, 6, []),
  .inl (0, 6, []),
  .inl (0, 6, []),
  .inl (0, 6, []),
  .inl (0, 6, []),
  .inl (0, 6, []),
  .inl (0, 6, []),
  .inl (0, 6, []),
  .inl (0, 6, []),
  .inl (0, 6, []),
  .inl (0, 6, []),
  .inl (0, 6, []),
  .inr (2, [(0, 0), (0, 0), (0, 0), (1, 0), (0, 0), (0, 0), (2, 40), (2, 41), (2, 42)]),
  .inl (0, 10, []),
  .inl (2, 10, []),
  .inl (0, 10, []),
  .inr (0, [(0, 0), (2, 44), (2, 45), (0, 0), (0, 0)]),
  .inl (0, 5, []),
  .inl (0, 5, []),
  .inr (3, [(2, 1), (2, 47), (0, 0), (1, 0), (2, 48), (2, 49), (2, 50), (2, 51), (0, 0), (0, 0), (0, 0)]),
  .inr (6, [(0, 0), (0, 0), (0, 0), (0, 0), (0, 0)]),
  .inl (0, 32, []),
  .inl (0, 32, []),
  .inl (0, 5, []),
  .inl (0, 5, []),
  .inr (3, [(2, 1), (2, 53), (0, 0), (1, 0), (2, 54), (2, 55), (2, 56), (2, 57), (0, 0), (0, 0), (0, 0)]),
  .inr (6, [(0, 0), (0, 0), (0, 0), (0, 0), (0, 0)]),
  .inl (0, 32, []),
  .inl (0, 32, []),
  .inl (0, 5, []),
  .inl (0, 5, []),
  .inr (5, [(2, 1), (2, 46), (2, 52), (0, 0), (0, 0), (0, 0), (0, 0), (0, 0), (2, 59)]),
  .inl (0, 4, []),
  .inr (8, [(0, 0), (2, 61), (0, 0), (2, 62), (0, 0), (2, 63), (0, 0), (2, 64), (0, 0), (0, 0), (1, 0), (0, 0), (0, 0), (0, 0), (0, 0), (0, 0), (0, 0), (0, 0), (2, 65), (2, 66), (2, 67), (2, 68), (2, 69), (2, 70), (2, 71), (2, 72), (0, 0), (2, 73), (0, 0), (0, 0), (0, 0), (0, 0), (0, 0), (0, 0), (0, 0), (0, 0), (0, 0), (2, 74), (2, 75)]),
  .inl (0, 18, []),
  .inl (0, 30, []),
  .inl (0, 24, []),
  .inl (0, 160, []),
  .inl (0, 84, []),
  .inl (0, 32, []),
  .inl (0, 32, []),
  .inl (0, 32, []),
  .inl (0, 32, []),
  .inl (0, 64, []),
  .inl (1, 2, []),
  .inl (0, 256, []),
  .inl (0, 10, []),
  .inl (1, 64, []),
  .inl (0, 32, [])
  ]
def mN : Nat := 76
theorem mSh_len : mSh.length = mN := by decide +kernel
def mV (ad : Nat → Nat) (v : Value) : Value := match v with
  | .ref i => .ref (ad i)
  | v => v
def mFv (ad : Nat → Nat) (w : mW) (i k : Nat) (f : Nat × Nat) : Value := match f.1 with
  | 0 => .int (w.1 i k)
  | 1 => .long (w.2 i k)
  | _ => .ref (ad f.2)
def mFs (ad : Nat → Nat) (w : mW) (i : Nat) (fs : List (Nat × Nat)) : List Value := fs.mapIdx (fun k f => mFv ad w i k f)
def mE (E : mEnv) (w : mW) (i : Nat) (c : mCell) : va_E := match c with
  | .inl (0, n, _) => .inl (E.2.2 0, n, .inl (w.1 i))
  | .inl (1, n, _) => .inl (E.2.2 1, n, .inl (w.1 i))
  | .inl (2, n, _) => .inl (E.2.2 2, n, .inr (.inl (w.2 i)))
  | .inl (_, n, rs) => .inl (E.2.2 3, n, .inr (.inr (.inr (.inr (fun j => (rs[j]?).map E.1)))))
  | .inr (ci, fs) => .inr (ci, mFs E.1 w i fs)
def mWs (E : mEnv) (w : mW) : va_W := mSh.mapIdx (fun i c => (E.1 i, mE E w i c))
def mTys (E : mEnv) : List (ClassId × FieldType) := [(E.2.2 0, .int), (E.2.2 1, .boolean), (E.2.2 2, .long), (E.2.2 3, .array .int)]
def mInj (E : mEnv) : Prop := ∀ i j : Nat, i < mN → j < mN → E.1 i = E.1 j → i = j
def mA (E : mEnv) : Nat → Prop := fun q => ∃ i : Nat, i < mN ∧ q = E.1 i
def mPI (w : mW) (i k : Nat) (v : Int32) : mW := (fun a b => if a = i ∧ b = k then v else w.1 a b, w.2)
def mPL (w : mW) (i k : Nat) (v : Int64) : mW := (w.1, fun a b => if a = i ∧ b = k then v else w.2 a b)
theorem mWs_get (E : mEnv) (w : mW) {i : Nat} {c : mCell} (h : mSh[i]? = some c) : (mWs E w)[i]? = some (E.1 i, mE E w i c) := by
  unfold mWs
  rw [List.getElem?_mapIdx, h]
  rfl
theorem mWs_inv {E : mEnv} {w : mW} {i : Nat} {q : Nat × va_E} (h : (mWs E w)[i]? = some q) : ∃ c : mCell, mSh[i]? = some c ∧ i < mN ∧ q = (E.1 i, mE E w i c) := by
  unfold mWs at h
  rw [List.getElem?_mapIdx] at h
  cases hc : mSh[i]? with
  | none => rw [hc] at h; cases h
  | some c =>
    rw [hc] at h
    refine ⟨c, rfl, ?_, (Option.some.inj h).symm⟩
    rw [← mSh_len]
    exact (List.getElem?_eq_some_iff.mp hc).1
theorem mWs_len (E : mEnv) (w : mW) : (mWs E w).length = mN := by
  unfold mWs
  rw [List.length_mapIdx, mSh_len]
theorem mDis {E : mEnv} {A : Nat → Prop} (w : mW) (hI : mInj E) (hA : ∀ i : Nat, i < mN → A (E.1 i)) : va_D A (mWs E w) := by
  refine ⟨fun i j p q hp hq e => ?_, fun k q hq => ?_⟩
  · obtain ⟨c1, -, h1, rfl⟩ := mWs_inv hp
    obtain ⟨c2, -, h2, rfl⟩ := mWs_inv hq
    exact hI i j h1 h2 e
  · obtain ⟨c1, -, h1, rfl⟩ := mWs_inv hq
    exact hA k h1
theorem mPI_row {w : mW} {i k : Nat} {v : Int32} {j : Nat} (h : j ≠ i) : (mPI w i k v).1 j = w.1 j := by
  funext b
  show (if j = i ∧ b = k then v else w.1 j b) = _
  rw [if_neg (fun q => h q.1)]
theorem mPL_row {w : mW} {i k : Nat} {v : Int64} {j : Nat} (h : j ≠ i) : (mPL w i k v).2 j = w.2 j := by
  funext b
  show (if j = i ∧ b = k then v else w.2 j b) = _
  rw [if_neg (fun q => h q.1)]
theorem mPI_at (w : mW) (i k : Nat) (v : Int32) : (mPI w i k v).1 i k = v := if_pos ⟨rfl, rfl⟩
theorem mPL_at (w : mW) (i k : Nat) (v : Int64) : (mPL w i k v).2 i k = v := if_pos ⟨rfl, rfl⟩
theorem mPI_col {w : mW} {i k : Nat} {v : Int32} {j : Nat} (h : j ≠ k) : (mPI w i k v).1 i j = w.1 i j := by
  show (if i = i ∧ j = k then v else w.1 i j) = _
  rw [if_neg (fun q => h q.2)]
theorem mPL_col {w : mW} {i k : Nat} {v : Int64} {j : Nat} (h : j ≠ k) : (mPL w i k v).2 i j = w.2 i j := by
  show (if i = i ∧ j = k then v else w.2 i j) = _
  rw [if_neg (fun q => h q.2)]
theorem mPI_upd (w : mW) (i k : Nat) (v : Int32) : (mPI w i k v).1 i = upd (w.1 i) k v := by
  funext b
  show (if i = i ∧ b = k then v else w.1 i b) = if b = k then v else w.1 i b
  by_cases h : b = k
  · rw [if_pos ⟨rfl, h⟩, if_pos h]
  · rw [if_neg (fun q => h q.2), if_neg h]
theorem mPL_upd (w : mW) (i k : Nat) (v : Int64) : (mPL w i k v).2 i = vp_updL (w.2 i) k v := by
  funext b
  show (if i = i ∧ b = k then v else w.2 i b) = if b = k then v else w.2 i b
  by_cases h : b = k
  · rw [if_pos ⟨rfl, h⟩, if_pos h]
  · rw [if_neg (fun q => h q.2), if_neg h]
/-- two worlds whose tables agree at a cell make the same of it -/
theorem mFs_congr {ad : Nat → Nat} {w u : mW} {i : Nat} (h1 : u.1 i = w.1 i) (h2 : u.2 i = w.2 i) (fs : List (Nat × Nat)) : mFs ad u i fs = mFs ad w i fs := by
  unfold mFs
  congr 1
  funext k f
  unfold mFv
  rw [h1, h2]
theorem mE_congr {E : mEnv} {w u : mW} {i : Nat} (h1 : u.1 i = w.1 i) (h2 : u.2 i = w.2 i) (c : mCell) : mE E u i c = mE E w i c := by
  unfold mE
  split
  · rw [h1]
  · rw [h1]
  · rw [h2]
  · rfl
  · rw [mFs_congr h1 h2]
theorem mWs_set {E : mEnv} {w u : mW} {i : Nat} {c : mCell} (hc : mSh[i]? = some c) (ho : ∀ j : Nat, j ≠ i → u.1 j = w.1 j ∧ u.2 j = w.2 j) : (mWs E w).set i (E.1 i, mE E u i c) = mWs E u := by
  apply List.ext_getElem?
  intro j
  by_cases hj : j = i
  · subst hj
    rw [List.getElem?_set_self (by rw [mWs_len, ← mSh_len]; exact (List.getElem?_eq_some_iff.mp hc).1), mWs_get E u hc]
  · rw [List.getElem?_set_ne (fun q => hj q.symm)]
    cases hs : mSh[j]? with
    | none =>
      have hl : mN ≤ j := by rw [← mSh_len]; exact List.getElem?_eq_none_iff.mp hs
      rw [List.getElem?_eq_none_iff.mpr (by rw [mWs_len]; exact hl), List.getElem?_eq_none_iff.mpr (by rw [mWs_len]; exact hl)]
    | some d => rw [mWs_get E w hs, mWs_get E u hs, mE_congr (ho j hj).1 (ho j hj).2]
theorem mFs_get {ad : Nat → Nat} {w : mW} {i k : Nat} {fs : List (Nat × Nat)} {f : Nat × Nat} (h : fs[k]? = some f) : (mFs ad w i fs)[k]? = some (mFv ad w i k f) := by
  unfold mFs
  rw [List.getElem?_mapIdx, h]
  rfl
theorem mFs_len {ad : Nat → Nat} {w : mW} {i : Nat} {fs : List (Nat × Nat)} : (mFs ad w i fs).length = fs.length := by
  unfold mFs
  rw [List.length_mapIdx]
theorem mFs_set {ad : Nat → Nat} {w u : mW} {i k : Nat} {fs : List (Nat × Nat)} {f : Nat × Nat} (h : fs[k]? = some f) (ho1 : ∀ j : Nat, j ≠ k → u.1 i j = w.1 i j) (ho2 : ∀ j : Nat, j ≠ k → u.2 i j = w.2 i j) : (mFs ad w i fs).set k (mFv ad u i k f) = mFs ad u i fs := by
  apply List.ext_getElem?
  intro j
  by_cases hj : j = k
  · subst hj
    rw [List.getElem?_set_self (by rw [mFs_len]; exact (List.getElem?_eq_some_iff.mp h).1), mFs_get h]
  · rw [List.getElem?_set_ne (fun q => hj q.symm)]
    cases hs : fs[j]? with
    | none =>
      have hl : fs.length ≤ j := List.getElem?_eq_none_iff.mp hs
      rw [List.getElem?_eq_none_iff.mpr (by rw [mFs_len]; exact hl), List.getElem?_eq_none_iff.mpr (by rw [mFs_len]; exact hl)]
    | some d =>
      rw [mFs_get hs, mFs_get hs]
      unfold mFv
      rw [ho1 j hj, ho2 j hj]
/-- the locals: a list of values, .retAddr 0 where nothing is known -/
def mL (ad : Nat → Nat) (ls : Array Slot) (nL : Nat) (lv : List Value) : Prop := ls.size = nL ∧ lv_wf ls ∧ ∀ (k : Nat) (v : Value), lv[k]? = some v → v ≠ .retAddr 0 → ls[k]? = some (.val (mV ad v))
abbrev mX : Type := Program × Launch × Env × Room × State × MethodId × Array Value × List Frame × Method × Code × Nat × Nat × (State → Prop) × (Nat → Prop)
/-- a method: its name, code, locals, answer's type, room -/
abbrev mD : Type := MethodName × ByteArray × Nat × Option FieldType × Room
/-! what is never written: the texts (cells 100 .., their letters 120 ..), three tables of ints (140 ..), statics -/
def mStC : List Nat := [105, 107, 109, 111, 113, 115, 117, 119, 121, 123, 125, 127, 129]
def mStT : List String := ["city", "good", "bad", "doubter", "child", "knower", "interpreter", "cause", "still", "", "vb", "fbfbd", "fbfb"]
def mStN : List Nat := [4, 4, 3, 7, 5, 6, 11, 5, 5, 0, 2, 5, 4]
def mStB : List (List Int32) := [[99, 105, 116, 121], [103, 111, 111, 100], [98, 97, 100], [100, 111, 117, 98, 116, 101, 114], [99, 104, 105, 108, 100], [107, 110, 111, 119, 101, 114], [105, 110, 116, 101, 114, 112, 114, 101, 116, 101, 114], [99, 97, 117, 115, 101], [115, 116, 105, 108, 108], [], [118, 98], [102, 98, 102, 98, 100], [102, 98, 102, 98]]
def mRO (E : mEnv) (A : Nat → Prop) (U : State) (H : Heap) : Prop :=
  (∀ k : Nat, k < 13 → vk_R RX5 (mStC.getD k 0) (mStT.getD k "") (E.1 (100 + k)) U) ∧ vk_S 13 mStN mStB (fun k => E.1 (100 + k)) (fun k => E.1 (120 + k)) A U H ∧
  (va_Z RX8 "OVER_PEOPLE" "[I" (.ref (E.1 140)) A U H ∧ va_T .int (E.1 140) 5 (fun j => .int (([-1, 0, 0, 1, 1] : List Int32).getD j 0)) A U H) ∧
  (va_Z RX8 "OVER_SAYINGS" "[I" (.ref (E.1 141)) A U H ∧ va_T .int (E.1 141) 7 (fun j => .int (([-1, 0, 1, 0, 3, 3, 5] : List Int32).getD j 0)) A U H) ∧
  (va_Z RX8 "PLACE_OF_SAYING" "[I" (.ref (E.1 142)) A U H ∧ va_T .int (E.1 142) 5 (fun j => .int (([1, 4, 5, 6, 2] : List Int32).getD j 0)) A U H) ∧
  va_Z "java/lang/String" "COMPACT_STRINGS" "Z" (.int 1) A U H ∧ (va_Z "jdk/internal/util/Preconditions" "SIOOBE_FORMATTER" "Ljava/util/function/BiFunction;" .null A U H ∨ va_Z "jdk/internal/util/Preconditions" "SIOOBE_FORMATTER" "Ljava/util/function/BiFunction;" (.ref (E.1 143)) A U H)
theorem mRO.warm {E : mEnv} {A : Nat → Prop} {s U : State} {H : Heap} (hW : s.WarmedH U.vm) (h : mRO E A s H) : mRO E A U H :=
  ⟨fun k hk => (h.1 k hk).warm hW, h.2.1.moved hW.alike, ⟨h.2.2.1.1.moved hW.alike, h.2.2.1.2.moved hW.alike⟩, ⟨h.2.2.2.1.1.moved hW.alike, h.2.2.2.1.2.moved hW.alike⟩, ⟨h.2.2.2.2.1.1.moved hW.alike, h.2.2.2.2.1.2.moved hW.alike⟩, h.2.2.2.2.2.1.moved hW.alike, h.2.2.2.2.2.2.imp (fun z => z.moved hW.alike) (fun z => z.moved hW.alike)⟩
theorem mRO.same {E : mEnv} {A : Nat → Prop} {u U : State} {H : Heap} (hv : U.vm = u.vm) (h : mRO E A u H) : mRO E A U H := by
  have hA : u.vm.Alike U.vm := by rw [hv]; exact Vm.Alike.refl _
  exact ⟨fun k hk => (h.1 k hk).same hv, h.2.1.moved hA, ⟨h.2.2.1.1.moved hA, h.2.2.1.2.moved hA⟩, ⟨h.2.2.2.1.1.moved hA, h.2.2.2.1.2.moved hA⟩, ⟨h.2.2.2.2.1.1.moved hA, h.2.2.2.2.1.2.moved hA⟩, h.2.2.2.2.2.1.moved hA, h.2.2.2.2.2.2.imp (fun z => z.moved hA) (fun z => z.moved hA)⟩
theorem mRO.kept {E : mEnv} {A : Nat → Prop} {U : State} {H H1 : Heap} (h : mRO E A U H) (q : ∀ a : Nat, a < H.size → ¬ A a → H1[a]? = H[a]?) : mRO E A U H1 :=
  ⟨h.1, h.2.1.kept q, ⟨h.2.2.1.1.kept q, h.2.2.1.2.kept q⟩, ⟨h.2.2.2.1.1.kept q, h.2.2.2.1.2.kept q⟩, ⟨h.2.2.2.2.1.1.kept q, h.2.2.2.2.1.2.kept q⟩, h.2.2.2.2.2.1.kept q, h.2.2.2.2.2.2.imp (fun z => z.kept q) (fun z => z.kept q)⟩
theorem mRO.narrow {E : mEnv} {A B : Nat → Prop} {U : State} {H : Heap} (h : mRO E A U H) (q : ∀ a, B a → A a) : mRO E B U H :=
  ⟨h.1, h.2.1.narrow q, ⟨h.2.2.1.1.narrow q, h.2.2.1.2.narrow q⟩, ⟨h.2.2.2.1.1.narrow q, h.2.2.2.1.2.narrow q⟩, ⟨h.2.2.2.2.1.1.narrow q, h.2.2.2.2.1.2.narrow q⟩, h.2.2.2.2.2.1.narrow q, h.2.2.2.2.2.2.imp (fun z => z.narrow q) (fun z => z.narrow q)⟩

def mG (X : mX) (E : mEnv) (D : mD) (pc : Nat) (lv st : List Value) (w : mW) : Prop := match X with
  | (p, l, e, R, s, m, args, below, meth, c, cells, slots, Q, A) => ∀ (H : Heap) (locs : List Loc) (ls : Array Slot), va_P E.2.1 vwCl (mWs E w) H → va_S A s.heap H locs → mL E.1 ls D.2.2.1 lv → W p l e R s m args below meth c H locs cells slots Q (F0 m pc ls (st.map (mV E.1)))
def mCtx (X : mX) (E : mEnv) (D : mD) : Prop := match X with
  | (p, _, _, R, s, m, args, _, _, c, cells, slots, _, A) => p.tables.exec = Jvm.exec ∧ c.code = D.2.1 ∧ c.maxLocals = D.2.2.1 ∧ s.vm.findClass D.1.cls = some m.cls ∧ (∀ w ∈ mTb, w.before args s = true) ∧ va_K E.2.1 vwCl (mTys E) s ∧ mInj E ∧ (∀ i : Nat, i < mN → A (E.1 i)) ∧ mRO E A s s.heap ∧ R = D.2.2.2.2 ∧ cells ≤ D.2.2.2.2.cells ∧ slots ≤ D.2.2.2.2.slots
def mPc (E : mEnv) (args : List Value) (w : mW) : Array Value → State → Prop := fun v U => v = (args.map (mV E.1)).toArray ∧ va_P E.2.1 vwCl (mWs E w) U.heap ∧ va_K E.2.1 vwCl (mTys E) U ∧ mInj E ∧ mRO E (mA E) U U.heap
def mQc (E : mEnv) (Q : Option Value → mW → Prop) : Array Value → State → Outcome → State → Prop := fun _ st oc t => (∃ (r : Option Value) (w : mW), oc = .returned (r.map (mV E.1)) ∧ Q r w ∧ va_P E.2.1 vwCl (mWs E w) t.heap) ∧ va_F (mA E) st t
/-- the contract: with these arguments and this world the method returns, Q of its answer and the world then -/
def mM (E : mEnv) (D : mD) (args : List Value) (w : mW) (Q : Option Value → mW → Prop) : Prop := ∀ l : Launch, Met l D.1 (Cond.code D.1 D.2.1 D.2.2.1 D.2.2.2.1 :: mTb) D.2.2.2.2 (mPc E args w) (mQc E Q) 0 0 (mA E)
def mFin (X : mX) (E : mEnv) (D : mD) (Qm : Option Value → mW → Prop) : Prop := match X with
  | (_, _, _, _, s, _, args, below, meth, _, cells, slots, Q, A) => Q = MQ below (mQc E Qm) args s 0 0 (mA E) ∧ meth.sig.returnType = D.2.2.2.1 ∧ meth.locks = false ∧ cells = 0 ∧ slots = 0 ∧ A = mA E
/-- a method's locals at its start -/
def mLa : List Value → List Value
  | [] => []
  | .long v :: r => .long v :: .retAddr 0 :: mLa r
  | .double v :: r => .double v :: .retAddr 0 :: mLa r
  | v :: r => v :: mLa r
theorem mV_cat (ad : Nat → Nat) (v : Value) : (mV ad v).category = v.category := by cases v <;> rfl
theorem mLa_entry (ad : Nat → Nat) : ∀ (vs : List Value) (i k : Nat) (v : Value), (mLa vs)[k]? = some v → v ≠ .retAddr 0 → (i + k, mV ad v) ∈ lv_args i (vs.map (mV ad)) := by
  intro vs
  induction vs with
  | nil => intro i k v h _; simp [mLa] at h
  | cons a r ih =>
    have one : ∀ (i k : Nat) (v : Value), (a :: mLa r)[k]? = some v → v ≠ .retAddr 0 → a.category = 1 → (i + k, mV ad v) ∈ (i, mV ad a) :: lv_args (i + 1) (r.map (mV ad)) := by
      intro i k v h hv hc
      cases k with
      | zero => simp only [List.getElem?_cons_zero, Option.some.injEq] at h; subst h; exact List.mem_cons_self
      | succ k =>
        rw [List.getElem?_cons_succ] at h
        have := ih (i + 1) k v h hv
        rw [show i + 1 + k = i + (k + 1) by omega] at this
        exact List.mem_cons_of_mem _ this
    have two : ∀ (i k : Nat) (v : Value), (a :: .retAddr 0 :: mLa r)[k]? = some v → v ≠ .retAddr 0 → (i + k, mV ad v) ∈ (i, mV ad a) :: lv_args (i + 2) (r.map (mV ad)) := by
      intro i k v h hv
      match k with
      | 0 => simp only [List.getElem?_cons_zero, Option.some.injEq] at h; subst h; exact List.mem_cons_self
      | 1 => simp only [List.getElem?_cons_succ, List.getElem?_cons_zero, Option.some.injEq] at h; exact absurd h.symm hv
      | k + 2 =>
        rw [List.getElem?_cons_succ, List.getElem?_cons_succ] at h
        have := ih (i + 2) k v h hv
        rw [show i + 2 + k = i + (k + 2) by omega] at this
        exact List.mem_cons_of_mem _ this
    intro i k v h hv
    cases a with
    | long x => exact two i k v h hv
    | double x => exact two i k v h hv
    | int x => exact one i k v h hv rfl
    | float x => exact one i k v h hv rfl
    | null => exact one i k v h hv rfl
    | ref x => exact one i k v h hv rfl
    | retAddr x => exact one i k v h hv rfl
theorem mM_intro {E : mEnv} {D : mD} {args : List Value} {w : mW} {Q : Option Value → mW → Prop} (hp : plainName D.1.cls = true) (hn : (lg_sl args).length ≤ D.2.2.1)
    (h : ∀ X : mX, mCtx X E D → mFin X E D Q → mG X E D 0 (mLa args) [] w) : mM E D args w Q := by
  intro l
  refine Met.ofW (cc := D.2.1) (maxL := D.2.2.1) (ret := D.2.2.2.1) hp rfl ?_
  intro p e s m vs below meth c s₁ B hml hv
  obtain ⟨rfl, hP, hK, hI, hR⟩ := hv
  have hts := atoms_spec (ws := Cond.code D.1 D.2.1 D.2.2.1 D.2.2.2.1 :: mTb) B.pre
  have hlen : (lg_sl (args.map (mV E.1))).length ≤ D.2.2.1 := by
    refine Nat.le_trans (Nat.le_of_eq ?_) hn
    clear hn h hP hts B
    induction args with
    | nil => rfl
    | cons a r ih =>
      show (lg_sl (mV E.1 a :: r.map (mV E.1))).length = _
      unfold lg_sl at ih ⊢
      rw [List.flatMap_cons, List.flatMap_cons, List.length_append, List.length_append, ih, mV_cat]
      split <;> rfl
  have hl := lv_entry (args.map (mV E.1)) hlen
  rw [lg_entry_eq]
  generalize (lg_sl (args.map (mV E.1)) ++ List.replicate (D.2.2.1 - (lg_sl (args.map (mV E.1))).length) Slot.unset).toArray = ls at hl ⊢
  refine h (p, l, e, _, s, m, _, below, meth, c, 0, 0, MQ below (mQc E Q) (args.map (mV E.1)).toArray s 0 0 (mA E), mA E) ?_ ?_ s.heap [] ls hP va_S.rf ⟨hl.1, hl.2.1, fun k v hk hv => ?_⟩
  · exact ⟨B.exec, B.bytes, hml, findClass_of_methodNamed B.named, fun w hw => hts w (List.mem_cons_of_mem _ hw), hK, hI, fun i hi => ⟨i, hi, rfl⟩, hR, rfl, Nat.zero_le _, Nat.zero_le _⟩
  · exact ⟨rfl, B.returns, B.notSynchronized, rfl, rfl, rfl⟩
  · have := hl.2.2 _ (mLa_entry E.1 args 0 k v hk hv)
    simpa using this
theorem mM.mono {E : mEnv} {D : mD} {args : List Value} {w : mW} {Q Q' : Option Value → mW → Prop} (h : mM E D args w Q) (hQ : ∀ r u, Q r u → Q' r u) : mM E D args w Q' := by
  intro l
  refine Jvm.Free.MetFree.mono (h l) (fun _ _ q => q) (fun _ _ _ _ _ q => q) ?_
  rintro a s o t - ⟨⟨⟨r, u, h1, h2, h3⟩, h4⟩, h5⟩
  exact ⟨⟨⟨r, u, h1, hQ r u h2, h3⟩, h4⟩, h5⟩
