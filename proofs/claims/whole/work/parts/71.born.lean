/-! ===== CONSTRUCTORS: a world that grows, cells at their own addresses ===== -/
abbrev nV : Type := va_G × (Nat → ClassId)
def nTy (V : nV) : List (ClassId × FieldType) := [(V.2 0, .int), (V.2 1, .boolean), (V.2 2, .long), (V.2 3, .array .int)]
/-- the constructors that a nest mate alone may call -/
def nLk : List (String × Nat × MethodName) := [("NeverBelieved", 9, ⟨"NeverBelieved$City", "<init>", "()V"⟩), ("NeverBelieved", 18, ⟨"NeverBelieved$Scroll", "<init>", "()V"⟩), ("NeverBelieved", 25, ⟨"NeverBelieved$Days", "<init>", "()V"⟩), ("NeverBelieved", 32, ⟨"NeverBelieved$Bets", "<init>", "()V"⟩), ("NeverBelieved$Foresight", 9, ⟨"NeverBelieved$Sentence", "<init>", "()V"⟩)]
def nK (V : nV) (U : State) : Prop := va_K V.1 vwCl (nTy V) U ∧ (∃ kA : Class, U.vm.classes[V.2 3]? = some kA ∧ kA.kind = .array (V.2 0) (.array .int)) ∧ ∀ q ∈ nLk, va_Nw (.methodLinkNest q.1 q.2.1 q.2.2 "NeverBelieved") U
theorem nK.warm {V : nV} {s U : State} (hW : s.WarmedH U.vm) (h : nK V s) : nK V U := by
  obtain ⟨h1, ⟨kA, h2, h3⟩, h4⟩ := h
  obtain ⟨k', hk', he⟩ := hW.alike.2.2 _ _ h2
  exact ⟨va_K.moved hW.alike h1, ⟨k', hk', by rw [he]; exact h3⟩, fun q hq => (h4 q hq).warmM hW⟩
theorem nK.same {V : nV} {u U : State} (hv : u.vm = U.vm) (h : nK V u) : nK V U := by
  obtain ⟨h1, h2, h4⟩ := h
  refine ⟨va_K.moved (by rw [hv]; exact Vm.Alike.refl _) h1, by rw [← hv]; exact h2, fun q hq => va_Nw.same rfl hv (h4 q hq)⟩
def nCtx (X : mX) (V : nV) (D : mD) : Prop := match X with
  | (p, _, _, R, s, m, args, _, meth, c, _, _, _, A) => p.tables.exec = Jvm.exec ∧ c.code = D.2.1 ∧ c.maxLocals = D.2.2.1 ∧ s.vm.findClass D.1.cls = some m.cls ∧ (∀ w ∈ mTb, w.before args s = true) ∧ nK V s ∧ (∀ q : Nat, s.heap.size ≤ q → A q) ∧ R = D.2.2.2.2 ∧ (D.1.name = "<init>" → meth.name = "<init>")
/-- the machine stands at pc; k cells of n slots are new -/
def nG (X : mX) (V : nV) (D : mD) (k n pc : Nat) (lv st : List Value) (ws : va_W) : Prop := match X with
  | (p, l, e, R, s, m, args, below, meth, c, _, _, Q, A) => ∀ (H : Heap) (locs : List Loc) (ls : Array Slot), va_P V.1 vwCl ws H → va_D A ws → va_S A s.heap H locs → mL id ls D.2.2.1 lv → W p l e R s m args below meth c H locs k n Q (F0 m pc ls st)
def nB (V : nV) (ws0 : va_W) (sz : Nat) (ws1 : va_W) (t : State) : Prop := va_P V.1 vwCl ws1 t.heap ∧ va_D (va_A ws0 sz) ws1
def nPc (V : nV) (Ex : State → Prop) (args : List Value) (ws0 : va_W) (sz : Nat) : Array Value → State → Prop := va_Pc args (fun U => U.heap.size = sz ∧ va_P V.1 vwCl ws0 U.heap ∧ nK V U ∧ va_D (fun _ => True) ws0 ∧ Ex U)
/-- a constructor's contract: the world ws0 becomes one that B holds of -/
def nM (V : nV) (D : mD) (Ex : Nat → State → Prop) (args : List Value) (ws0 : va_W) (B : va_W → Prop) : Prop := ∀ (l : Launch) (sz : Nat), Met l D.1 (Cond.code D.1 D.2.1 D.2.2.1 D.2.2.2.1 :: mTb) D.2.2.2.2 (nPc V (Ex sz) args ws0 sz) (va_Qv B (nB V ws0 sz) (va_A ws0 sz)) D.2.2.2.2.cells D.2.2.2.2.slots (va_A ws0 sz)
def nFin (X : mX) (V : nV) (D : mD) (ws0 : va_W) (B : va_W → Prop) : Prop := match X with
  | (_, _, _, _, s, _, args, below, meth, _, _, _, Q, A) => Q = MQ below (va_Qv B (nB V ws0 s.heap.size) (va_A ws0 s.heap.size)) args s D.2.2.2.2.cells D.2.2.2.2.slots (va_A ws0 s.heap.size) ∧ meth.sig.returnType = none ∧ meth.locks = false ∧ A = va_A ws0 s.heap.size
def nEx (X : mX) (Ex : Nat → State → Prop) : Prop := match X with
  | (_, _, _, _, s, _, _, _, _, _, _, _, _, _) => Ex s.heap.size s
theorem mV_id (v : Value) : mV id v = v := by cases v <;> rfl
theorem mV_ids (vs : List Value) : vs.map (mV id) = vs := by
  induction vs with
  | nil => rfl
  | cons a r ih => rw [List.map_cons, ih, mV_id]
theorem nM_intro {V : nV} {D : mD} {Ex : Nat → State → Prop} {args : List Value} {ws0 : va_W} {B : va_W → Prop} (hp : plainName D.1.cls = true) (hn : (lg_sl args).length ≤ D.2.2.1) (hr : D.2.2.2.1 = none)
    (h : ∀ X : mX, nCtx X V D → nFin X V D ws0 B → nEx X Ex → nG X V D 0 0 0 (mLa args) [] ws0) : nM V D Ex args ws0 B := by
  intro l sz
  refine Met.ofW (cc := D.2.1) (maxL := D.2.2.1) (ret := D.2.2.2.1) hp rfl ?_
  intro p e s m vs below meth c s₁ B hml hv
  obtain ⟨rfl, rfl, hP, hK, hD, hE⟩ := hv
  have hts := atoms_spec (ws := Cond.code D.1 D.2.1 D.2.2.1 D.2.2.2.1 :: mTb) B.pre
  have hl := lv_entry args hn
  rw [lg_entry_eq]
  generalize (lg_sl args ++ List.replicate (D.2.2.1 - (lg_sl args).length) Slot.unset).toArray = ls at hl ⊢
  refine h (p, l, e, _, s, m, _, below, meth, c, 0, 0, _, va_A ws0 s.heap.size) ⟨B.exec, B.bytes, hml, findClass_of_methodNamed B.named, fun w hw => hts w (List.mem_cons_of_mem _ hw), hK, fun q hq => Or.inr hq, rfl, fun h => (name_of_methodNamed B.named B.method).1.trans h⟩ ⟨rfl, B.returns.trans hr, B.notSynchronized, rfl⟩ hE s.heap [] ls hP hD.self va_S.rf ⟨hl.1, hl.2.1, fun k v hk hv => ?_⟩
  have := mLa_entry id args 0 k v hk hv
  rw [mV_ids, Nat.zero_add] at this
  exact hl.2.2 _ this
section NG
variable {X : mX} {V : nV} {D : mD} {k n pc : Nat} {lv st : List Value} {ws : va_W}
theorem nG_vret (C : nCtx X V D) {ws0 : va_W} {B : va_W → Prop} (F : nFin X V D ws0 B) (hd : decode D.2.1 pc = .ok (.return_, 1)) (h1 : k ≤ D.2.2.2.2.cells) (h2 : n ≤ D.2.2.2.2.slots) (hB : B ws) : nG X V D k n pc lv [] ws := by
  obtain ⟨p, l, e, R, s, m, args, below, meth, c, k0, n0, Q, A⟩ := X
  obtain ⟨hx, hb, hml, hown, hts, hK, hA, hR, hnm⟩ := C
  obtain ⟨rfl, f2, f3, rfl⟩ := F
  intro H locs ls hP hD hS hl
  refine W.widen h1 h2 ?_
  exact W.vret hx hb f2 (fun t ht _ => ⟨⟨ws, rfl, hB, by rw [ht]; exact hP, hD⟩, hS.F ht⟩) hS.2.2 hd f3
theorem nG_iconst (C : nCtx X V D) {i : Int} {v : Int32} (hd : decode D.2.1 pc = .ok (.iconst i, 1)) (hv : Int32.ofInt i = v) (kk : nG X V D k n (pc + 1) lv (.int v :: st) ws) : nG X V D k n pc lv st ws := by
  obtain ⟨p, l, e, R, s, m, args, below, meth, c, k0, n0, Q, A⟩ := X
  obtain ⟨hx, hb, hml, hown, hts, hK, hA, hR, hnm⟩ := C
  intro H locs ls hP hD hS hl
  exact lv_iconst hx hb hd hv (kk H locs ls hP hD hS hl)
theorem nG_bipush (C : nCtx X V D) {i : Int} {v : Int32} (hd : decode D.2.1 pc = .ok (.bipush i, 2)) (hv : (Int8.ofInt i).toInt32 = v) (kk : nG X V D k n (pc + 2) lv (.int v :: st) ws) : nG X V D k n pc lv st ws := by
  obtain ⟨p, l, e, R, s, m, args, below, meth, c, k0, n0, Q, A⟩ := X
  obtain ⟨hx, hb, hml, hown, hts, hK, hA, hR, hnm⟩ := C
  intro H locs ls hP hD hS hl
  exact lv_bipush hx hb hd hv (kk H locs ls hP hD hS hl)
theorem nG_sipush (C : nCtx X V D) {i : Int} {v : Int32} (hd : decode D.2.1 pc = .ok (.sipush i, 3)) (hv : (Int16.ofInt i).toInt32 = v) (kk : nG X V D k n (pc + 3) lv (.int v :: st) ws) : nG X V D k n pc lv st ws := by
  obtain ⟨p, l, e, R, s, m, args, below, meth, c, k0, n0, Q, A⟩ := X
  obtain ⟨hx, hb, hml, hown, hts, hK, hA, hR, hnm⟩ := C
  intro H locs ls hP hD hS hl
  exact lv_sipush hx hb hd hv (kk H locs ls hP hD hS hl)
theorem nG_aload_n (C : nCtx X V D) {k0 : Fin 4} {i x : Nat} (hd : decode D.2.1 pc = .ok (.aload_n k0, 1)) (hi : (k0 : Nat) = i) (hg : lv[i]? = some (.ref x)) (kk : nG X V D k n (pc + 1) lv (.ref x :: st) ws) : nG X V D k n pc lv st ws := by
  obtain ⟨p, l, e, R, s, m, args, below, meth, c, k1, n1, Q, A⟩ := X
  obtain ⟨hx, hb, hml, hown, hts, hK, hA, hR, hnm⟩ := C
  intro H locs ls hP hD hS hl
  exact lv_aload_n hx hb hd hi (hl.2.2 i _ hg (by simp)) (kk H locs ls hP hD hS hl)
theorem nG_astore_n (C : nCtx X V D) {k0 : Fin 4} {i x : Nat} {lv' : List Value} (hd : decode D.2.1 pc = .ok (.astore_n k0, 1)) (hi : (k0 : Nat) = i) (hn : i < D.2.2.1) (he : mSt1 lv i (.ref x) = lv') (kk : nG X V D k n (pc + 1) lv' st ws) : nG X V D k n pc lv (.ref x :: st) ws := by
  obtain ⟨p, l, e, R, s, m, args, below, meth, c, k1, n1, Q, A⟩ := X
  obtain ⟨hx, hb, hml, hown, hts, hK, hA, hR, hnm⟩ := C
  intro H locs ls hP hD hS hl
  refine lv_astore_n hx hb hd hi (mAs_has hl) hn rfl (fun ls' hl' => ?_)
  rw [← he] at kk
  exact kk H locs ls' hP hD hS (mL_st1 (v := .ref x) rfl hl')
theorem nG_dup (C : nCtx X V D) {v : Value} (hd : decode D.2.1 pc = .ok (.dup, 1)) (hv : v.category = 1) (kk : nG X V D k n (pc + 1) lv (v :: v :: st) ws) : nG X V D k n pc lv (v :: st) ws := by
  obtain ⟨p, l, e, R, s, m, args, below, meth, c, k1, n1, Q, A⟩ := X
  obtain ⟨hx, hb, hml, hown, hts, hK, hA, hR, hnm⟩ := C
  intro H locs ls hP hD hS hl
  exact lv_dup hx hb hd hv (kk H locs ls hP hD hS hl)
/-- Object's own constructor -/
theorem nG_obj (C : nCtx X V D) {ix a : Nat} (hd : decode D.2.1 pc = .ok (.invokespecial ix, 3)) (hlk : Cond.methodLink D.1.cls ix objectInit ∈ mTb) (hin : Cond.instanceMethod objectInit ∈ mTb) (hco : Cond.code objectInit ⟨#[0xb1]⟩ 1 none ∈ mTb) (h1 : 1 ≤ D.2.2.2.2.frames) (h2 : (st.map fun v => v.category).sum + 12 ≤ D.2.2.2.2.locals) (kk : nG X V D k n (pc + 3) lv st ws) : nG X V D k n pc lv (.ref a :: st) ws := by
  obtain ⟨p, l, e, R, s, m, args, below, meth, c, k1, n1, Q, A⟩ := X
  obtain ⟨hx, hb, hml, hown, hts, hK, hA, hR, hnm⟩ := C
  subst hR
  intro H locs ls hP hD hS hl
  refine W.objInit hx hb hown (hts _ hlk) (hts _ hin) (hts _ hco) rfl (by rw [hml]; exact hl.1) rfl hd h1 (by show 2 * 0 + _ + 12 ≤ _; omega) ?_
  exact kk H locs ls hP hD hS hl
theorem nG_new (C : nCtx X V D) {ix ci N : Nat} {Cn : String} {T : u_T} {ty : Nat → FieldType} {fs : List Value} (hd : decode D.2.1 pc = .ok (.new ix, 3)) (hu : ∀ w ∈ u_ws Cn T N, w ∈ mTb) (hty : ∀ k, k < N → parseFieldDescriptor (T k).2.2.1 = some (ty k)) (hcl : Cond.classLink D.1.cls ix Cn ∈ mTb) (hins : Cond.instantiable Cn N ∈ mTb) (hini : Cond.initialized Cn ∈ mTb) (hc : vwCl[ci]? = some (Cn, T, N)) (hfs : ∀ j, j < N → defaultValue (ty j) = vp_V fs j) (h1 : k + 1 ≤ D.2.2.2.2.cells) (h2 : n + N ≤ D.2.2.2.2.slots)
    (kk : ∀ q, nG X V D (k + 1) (n + N) (pc + 3) lv (.ref q :: st) (ws ++ [(q, .inr (ci, fs))])) : nG X V D k n pc lv st ws := by
  obtain ⟨p, l, e, R, s, m, args, below, meth, c, k1, n1, Q, A⟩ := X
  obtain ⟨hx, hb, hml, hown, hts, hK, hA, hR, hnm⟩ := C
  subst hR
  intro H locs ls hP hD hS hl
  exact va_new hx hb hts hu ty hty hown (hts _ hcl) (hts _ hins) (hts _ hini) hK.1 hP hD hS hA hc hfs h1 h2 hd (fun q H1 hP1 hD1 hS1 => kk q H1 locs ls hP1 hD1 hS1 hl)
end NG
