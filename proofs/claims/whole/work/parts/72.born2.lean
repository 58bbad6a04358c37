/-! ===== CONSTRUCTORS: arrays, fields, calls ===== -/
/-- the class of arrays of a type, by its name -/
theorem nK_id {V : nV} {s : State} (hK : nK V s) {cA : ClassId} {ty : FieldType} {i : Nat} (h : va_K V.1 vwCl (nTy V ++ [(cA, ty)]) s) (hi : (nTy V)[i]? = some (V.2 i, ty)) (hty : ∀ c, va_RA s c ty → s.vm.findClass ("[" ++ ty.toString) = some c) : cA = V.2 i := by
  have h1 := (hK.1.2 i _ hi).2
  have h2 := (h.2 4 (cA, ty) rfl).2
  exact Option.some.inj ((hty _ h2).symm.trans (hty _ h1))
section NH
variable {X : mX} {V : nV} {D : mD} {k n pc : Nat} {lv st : List Value} {ws : va_W}
theorem nG_newI (C : nCtx X V D) {i : Int32} {N : Nat} (hd : decode D.2.1 pc = .ok (.newarray .int, 2)) (ha : Cond.arrayClass .int ∈ mTb) (hi : ¬ i < 0) (hN : i.toNatClampNeg = N) (hb9 : N ≤ 1000) (h1 : k + 1 ≤ D.2.2.2.2.cells) (h2 : n + N ≤ D.2.2.2.2.slots)
    (kk : ∀ q, nG X V D (k + 1) (n + N) (pc + 2) lv (.ref q :: st) (ws ++ [(q, .inl (V.2 0, N, .inl (fun _ => 0)))])) : nG X V D k n pc lv (.int i :: st) ws := by
  obtain ⟨p, l, e, R, s, m, args, below, meth, c, k1, n1, Q, A⟩ := X
  obtain ⟨hx, hb, hml, hown, hts, hK, hA, hR, hnm⟩ := C
  subst hR
  intro H locs ls hP hD hS hl
  refine va_newa (atype := .int) (a0 := (N, .inl (fun _ => 0))) hx hb (hts _ ha) rfl hK.1 hP hD hS hA (fun cA => rfl) hi hN (by show N * 4 ≤ _; omega) h1 h2 hd (fun q cA H1 hK1 hP1 hD1 hS1 => ?_)
  obtain rfl := nK_id (i := 0) hK hK1 rfl (fun c h => h)
  exact kk q H1 locs ls hP1 hD1 hS1 hl
theorem nG_newZ (C : nCtx X V D) {i : Int32} {N : Nat} (hd : decode D.2.1 pc = .ok (.newarray .boolean, 2)) (ha : Cond.arrayClass .boolean ∈ mTb) (hi : ¬ i < 0) (hN : i.toNatClampNeg = N) (hb9 : N ≤ 1000) (h1 : k + 1 ≤ D.2.2.2.2.cells) (h2 : n + N ≤ D.2.2.2.2.slots)
    (kk : ∀ q, nG X V D (k + 1) (n + N) (pc + 2) lv (.ref q :: st) (ws ++ [(q, .inl (V.2 1, N, .inl (fun _ => 0)))])) : nG X V D k n pc lv (.int i :: st) ws := by
  obtain ⟨p, l, e, R, s, m, args, below, meth, c, k1, n1, Q, A⟩ := X
  obtain ⟨hx, hb, hml, hown, hts, hK, hA, hR, hnm⟩ := C
  subst hR
  intro H locs ls hP hD hS hl
  refine va_newa (atype := .boolean) (a0 := (N, .inl (fun _ => 0))) hx hb (hts _ ha) rfl hK.1 hP hD hS hA (fun cA => rfl) hi hN (by show N * 1 ≤ _; omega) h1 h2 hd (fun q cA H1 hK1 hP1 hD1 hS1 => ?_)
  obtain rfl := nK_id (i := 1) hK hK1 rfl (fun c h => h)
  exact kk q H1 locs ls hP1 hD1 hS1 hl
theorem nG_newL (C : nCtx X V D) {i : Int32} {N : Nat} (hd : decode D.2.1 pc = .ok (.newarray .long, 2)) (ha : Cond.arrayClass .long ∈ mTb) (hi : ¬ i < 0) (hN : i.toNatClampNeg = N) (hb9 : N ≤ 1000) (h1 : k + 1 ≤ D.2.2.2.2.cells) (h2 : n + N ≤ D.2.2.2.2.slots)
    (kk : ∀ q, nG X V D (k + 1) (n + N) (pc + 2) lv (.ref q :: st) (ws ++ [(q, .inl (V.2 2, N, .inr (.inl (fun _ => 0))))])) : nG X V D k n pc lv (.int i :: st) ws := by
  obtain ⟨p, l, e, R, s, m, args, below, meth, c, k1, n1, Q, A⟩ := X
  obtain ⟨hx, hb, hml, hown, hts, hK, hA, hR, hnm⟩ := C
  subst hR
  intro H locs ls hP hD hS hl
  refine va_newa (atype := .long) (a0 := (N, .inr (.inl (fun _ => 0)))) hx hb (hts _ ha) rfl hK.1 hP hD hS hA (fun cA => rfl) hi hN (by show N * 8 ≤ _; omega) h1 h2 hd (fun q cA H1 hK1 hP1 hD1 hS1 => ?_)
  obtain rfl := nK_id (i := 2) hK hK1 rfl (fun c h => h)
  exact kk q H1 locs ls hP1 hD1 hS1 hl
theorem nG_newR (C : nCtx X V D) {i j : Int32} {N M ix : Nat} (hd : decode D.2.1 pc = .ok (.multianewarray ix 2, 4)) (hcl : Cond.classLink D.1.cls ix "[[I" ∈ mTb) (hi : ¬ i < 0) (hj : ¬ j < 0) (hN : i.toNatClampNeg = N) (hM : j.toNatClampNeg = M) (hb1 : N ≤ 1000) (hb2 : M ≤ 1000) (h1 : k + (1 + N) ≤ D.2.2.2.2.cells) (h2 : n + (N + N * M) ≤ D.2.2.2.2.slots)
    (kk : ∀ q, nG X V D (k + (1 + N)) (n + (N + N * M)) (pc + 4) lv (.ref q :: st) (ws ++ mm_ws q (V.2 3) (V.2 0) N M)) : nG X V D k n pc lv (.int j :: .int i :: st) ws := by
  obtain ⟨p, l, e, R, s, m, args, below, meth, c, k1, n1, Q, A⟩ := X
  obtain ⟨hx, hb, hml, hown, hts, hK, hA, hR, hnm⟩ := C
  subst hR
  intro H locs ls hP hD hS hl
  exact mm_new (ta := 3) (tc := 0) hx hb hown (hts _ hcl) rfl rfl hK.2.1 hK.1 hP hD hS hA hi hj hN hM hb1 hb2 h1 h2 hd (fun q H1 locs1 hP1 hD1 hS1 => kk q H1 locs1 ls hP1 hD1 hS1 hl)
/-- a final field, written where it is born -/
def nFld (own : String) (ix ci j : Nat) (ty : FieldType) : Prop := ∃ (T : u_T) (N : Nat) (ty0 : Nat → FieldType), vwCl[ci]? = some (own, T, N) ∧ j < N ∧ (∀ w ∈ u_ws own T N, w ∈ mTb) ∧ Cond.fieldLink own ix own (T j).2.1 (T j).2.2.1 ∈ mTb ∧ (∀ k, k < N → parseFieldDescriptor (T k).2.2.1 = some (ty0 k)) ∧ (∀ a, a < N → ∀ b, b < N → a ≠ b → (T a).2.1 ≠ (T b).2.1) ∧ (T j).2.2.2 = true ∧ (T j).1 = own ∧ parseFieldDescriptor (T j).2.2.1 = some ty
theorem nG_putF (C : nCtx X V D) {ix ci j q0 a r : Nat} {ty : FieldType} {fs : List Value} {ws' : va_W} (hd : decode D.2.1 pc = .ok (.putfield ix, 3)) (hnm : D.1.name = "<init>") (hf : nFld D.1.cls ix ci j ty) (he : ws[q0]? = some (a, .inr (ci, fs))) (hl0 : j < fs.length) (h1 : narrow ty (.ref r) = .ref r) (h2 : fits ty (.ref r) = true) (hw : ws.set q0 (a, .inr (ci, fs.set j (.ref r))) = ws')
    (kk : nG X V D k n (pc + 3) lv st ws') : nG X V D k n pc lv (.ref r :: .ref a :: st) ws := by
  obtain ⟨p, l, e, R, s, m, args, below, meth, c, k1, n1, Q, A⟩ := X
  obtain ⟨hx, hb, hml, hown, hts, hK, hA, hR, hnm2⟩ := C
  obtain ⟨T, N, ty0, g1, g2, g3, g4, g5, g6, g7, g8, g9⟩ := hf
  subst hw
  intro H locs ls hP hD hS hl
  exact va_putF (ref := D.1.cls) hx hb hts g3 ty0 g5 g6 hown hK.1 hP hD hS q0 he g1 j g2 (hts _ g4) (fun _ h => by rw [g8] at h; exact h) g7 (hnm2 hnm) g8 g9 h1 h2 hl0 hd (fun H1 locs1 hP1 hD1 hS1 => kk H1 locs1 ls hP1 hD1 hS1 hl)
theorem nG_get (C : nCtx X V D) {ix ci j q0 a : Nat} {ty : FieldType} {fs : List Value} {v : Value} (hd : decode D.2.1 pc = .ok (.getfield ix, 3)) (hf : nFld D.1.cls ix ci j ty) (he : ws[q0]? = some (a, .inr (ci, fs))) (hv : fs[j]? = some v)
    (kk : nG X V D k n (pc + 3) lv (v :: st) ws) : nG X V D k n pc lv (.ref a :: st) ws := by
  obtain ⟨p, l, e, R, s, m, args, below, meth, c, k1, n1, Q, A⟩ := X
  obtain ⟨hx, hb, hml, hown, hts, hK, hA, hR, hnm2⟩ := C
  obtain ⟨T, N, ty0, g1, g2, g3, g4, g5, g6, g7, g8, g9⟩ := hf
  intro H locs ls hP hD hS hl
  exact va_get (ref := D.1.cls) hx hb hts g3 hown hK.1 hP q0 he g1 j g2 (hts _ g4) (fun _ h => by rw [g8] at h; exact h) hv hd (kk H locs ls hP hD hS hl)
/-- what a call of a constructor needs of the tables -/
def nCal (Z : mD) (n : Nat) : Prop := Cond.code Z.1 Z.2.1 Z.2.2.1 Z.2.2.2.1 ∈ mTb ∧ Cond.initialized Z.1.cls ∈ mTb ∧ (Z.1.cls ≠ "java/lang/invoke/MethodHandle" ∧ Z.1.cls ≠ "java/lang/invoke/VarHandle" ∧ (parseMethodDescriptor Z.1.desc).map (fun d => d.parameters.length) = some n) ∧ Cond.instanceMethod Z.1 ∈ mTb ∧ Z.1.name = "<init>" ∧ Z.2.2.2.1 = none
theorem nBlind {V : nV} {Ex : State → Prop} {as : List Value} {ws0 : va_W} {sz : Nat} (hE : ∀ (U : State) (g : JFrame) (mk : MethodId) (a : Array Value), Ex U → Ex (U.calling g mk a)) : FrameBlind (nPc V Ex as ws0 sz) := by
  rintro a U g mk ⟨h1, h2, h3, h4, h5, h6⟩
  exact ⟨h1, h2, h3, nK.same (u := U) (U := U.calling g mk a) rfl h4, h5, hE U g mk a h6⟩
/-- what a callee asks of the start, beyond its cells -/
def nE2 (X : mX) (wc : va_W) (Ex : Nat → State → Prop) : Prop := match X with
  | (_, _, _, _, s, _, _, _, _, _, _, _, _, A) => ∀ (H : Heap) (locs : List Loc) (U : State), va_S A s.heap H locs → (∀ q, va_A wc H.size q → A q) → U.heap = H → s.WarmedH U.vm → Ex H.size U
theorem nG_call (C : nCtx X V D) {Z : mD} {Ex : Nat → State → Prop} {ix na b : Nat} {as rest : List Value} {wc wr : va_W} {B : va_W → Prop} (hd : decode D.2.1 pc = .ok (.invokespecial ix, 3)) (hlk : Cond.methodLink D.1.cls ix Z.1 ∈ mTb ∨ (D.1.cls, ix, Z.1) ∈ nLk) (hz : nCal Z na) (hf : mFit Z D) (h1 : k + Z.2.2.2.2.cells ≤ D.2.2.2.2.cells) (h2 : n + Z.2.2.2.2.slots ≤ D.2.2.2.2.slots) (hn : as.length = na) (hr : (rest.map fun v => v.category).sum ≤ 8) (hst : as.reverse ++ .ref b :: rest = st)
    (hM : nM V Z Ex (.ref b :: as) wc B) (hE1 : ∀ (z : Nat) (U : State) (g : JFrame) (mk : MethodId) (a : Array Value), Ex z U → Ex z (U.calling g mk a)) (hE2 : nE2 X wc Ex)
    (isC isR : List Nat) (hC : isC.map (fun i => ws[i]?) = wc.map some) (hR : isR.map (fun i => ws[i]?) = wr.map some) (hnC : va_nd isC = true) (hnR : va_nd isR = true) (hdis : ∀ i ∈ isR, i ∉ isC)
    (kk : ∀ w1, B w1 → nG X V D (k + Z.2.2.2.2.cells) (n + Z.2.2.2.2.slots) (pc + 3) lv rest (wr ++ w1)) : nG X V D k n pc lv st ws := by
  subst hst
  obtain ⟨p, l, e, R, s, m, args, below, meth, c, k1, n1, Q, A⟩ := X
  obtain ⟨hx, hb, hml, hown, hts, hK, hA, hR0, hnm2⟩ := C
  subst hR0
  intro H locs ls hP hD hS hl
  obtain ⟨z1, z2, z3, z4, z5, z6⟩ := hz
  have hG := mGoodIn z1
  have hDc := hD.sub isC hnC hC
  have hPc : va_P V.1 vwCl wc H := fun q x hx => by
    have h9 : (isC.map (fun i => ws[i]?))[q]? = some (some x) := by rw [hC, List.getElem?_map, hx]; rfl
    rw [List.getElem?_map] at h9
    cases hi : isC[q]? with
    | none => rw [hi] at h9; cases h9
    | some i => rw [hi] at h9; exact hP i x (Option.some.inj h9)
  have hFc := va_free (wc := wc) hD hS hA isC hC
  have hpre : PreS s H (nPc V (Ex H.size) (.ref b :: as) wc H.size) (.ref b :: as) := ⟨nBlind (hE1 H.size), fun U hU hW => ⟨rfl, by rw [hU], by rw [hU]; exact hPc, hK.warm hW, hDc.weaken (fun _ _ _ _ => trivial), hE2 H locs U hS hFc hU hW⟩⟩
  have run : va_Run p l e D.2.2.2.2 s m args below meth c H locs k n Z.2.2.2.2.cells Z.2.2.2.2.slots (F0 m pc ls (as.reverse ++ .ref b :: rest)) rest (va_Qv B (nB V wc H.size) (va_A wc H.size) (Value.ref b :: as).toArray) (va_A wc H.size) := by
    have hM9 := hM l H.size
    rw [z6] at hM9 hG
    rcases hlk with hlk | hlk
    · exact va_runI ⟨hx, hb, hml, hown, hts⟩ hM9 ⟨callB_of na hts hG rfl rfl rfl (hts _ z2) (hts _ hlk) z3 hf, z5, hts _ z4⟩ hpre rfl hn hl.1 rfl (lv_room hr) hd ⟨h1, h2⟩
    · exact va_runIN (host := "NeverBelieved") ⟨hx, hb, hml, hown, hts⟩ hM9 ⟨va_cnB na hts hG rfl rfl rfl (hK.2.2 _ hlk) (hts _ z2) z3 hf, z5, hts _ z4⟩ hpre rfl hn hl.1 rfl (lv_room hr) hd ⟨h1, h2⟩
  refine va_callv run hS (fun q _ h => hFc q h) hFc (fun w1 t H1 locs1 ht hvm hw hB hz1 hk1 hS1 => ?_)
  obtain ⟨b1, b2⟩ := hB
  rw [ht] at b1
  obtain ⟨hP2, hD2⟩ := va_join hP hD isC isR hC hR hnR hdis hk1 hFc b1 b2
  exact kk w1 hw H1 locs1 ls hP2 hD2 hS1 hl
end NH
