/-! ===== A TABLE OF ROWS OF INTS (multianewarray of two dimensions): the machine's states, row by row ===== -/
/-- the table when i of its rows are there; a row -/
def mm_o (cA : ClassId) (N h i : Nat) : Cell := arrV cA N (fun j => if j < i then .ref (h + 1 + j) else .null)
def mm_r (cC : ClassId) (M : Nat) : Cell := arrV cC M (fun _ => .int 0)
def mm_s (T : State) (cA cC : ClassId) (N M : Nat) : Nat → State
  | 0 => T.pushCell (mm_o cA N T.heap.size 0)
  | i + 1 => ((mm_s T cA cC N M i).pushCell (mm_r cC M)).setCell T.heap.size (mm_o cA N T.heap.size (i + 1))
theorem mm_o0 (cA : ClassId) (N h : Nat) : ({ cls := cA, slots := Array.replicate N .null, vm := .none } : Cell) = mm_o cA N h 0 := by
  refine (arrV_new cA N .null).trans ?_
  unfold mm_o
  congr 1
theorem mm_oS (cA : ClassId) (N h i : Nat) : (mm_o cA N h i).setSlot i (.ref (h + 1 + i)) = mm_o cA N h (i + 1) := by
  unfold mm_o
  rw [arrV_store]
  congr 1
  funext j
  unfold updV
  by_cases e : j = i
  · subst e; rw [if_pos rfl, if_pos (Nat.lt_succ_self j)]
  · rw [if_neg e]
    dsimp only
    by_cases q : j < i
    · rw [if_pos q, if_pos (by omega)]
    · rw [if_neg q, if_neg (by omega)]
theorem mm_h (T : State) (cA cC : ClassId) (N M : Nat) (i : Nat) : (mm_s T cA cC N M i).heap.size = T.heap.size + 1 + i ∧ (mm_s T cA cC N M i).vm = T.vm ∧ (mm_s T cA cC N M i).slotsUsed = T.slotsUsed + N + i * M ∧ (∀ q : Nat, q < T.heap.size → (mm_s T cA cC N M i).heap[q]? = T.heap[q]?) ∧ (mm_s T cA cC N M i).heap[T.heap.size]? = some (mm_o cA N T.heap.size i) ∧ ∀ j : Nat, j < i → (mm_s T cA cC N M i).heap[T.heap.size + 1 + j]? = some (mm_r cC M) := by
  induction i with
  | zero =>
    refine ⟨by simp [mm_s], rfl, ?_, fun q hq => ?_, ?_, fun j hj => absurd hj (Nat.not_lt_zero _)⟩
    · show T.slotsUsed + (mm_o cA N T.heap.size 0).slots.size = _
      unfold mm_o
      rw [arrV_size, Nat.zero_mul, Nat.add_zero]
    · exact State.heap_pushCell_of_lt _ _ hq
    · exact State.heap_pushCell_size _ _
  | succ i ih =>
    obtain ⟨a1, a2, a3, a4, a5, a6⟩ := ih
    have lt : ∀ q : Nat, q < T.heap.size + 1 + i → ((mm_s T cA cC N M i).pushCell (mm_r cC M)).heap[q]? = (mm_s T cA cC N M i).heap[q]? := fun q hq => State.heap_pushCell_of_lt _ _ (by rw [a1]; exact hq)
    have ot : ∀ q : Nat, q ≠ T.heap.size → (mm_s T cA cC N M (i + 1)).heap[q]? = ((mm_s T cA cC N M i).pushCell (mm_r cC M)).heap[q]? := fun q hq => State.heap_setCell_other (fun e => hq e.symm)
    refine ⟨?_, ?_, ?_, fun q hq => ?_, ?_, fun j hj => ?_⟩
    · show (((mm_s T cA cC N M i).heap.push (mm_r cC M)).setIfInBounds T.heap.size _).size = _
      rw [Array.size_setIfInBounds, Array.size_push, a1]; omega
    · exact a2
    · show (mm_s T cA cC N M i).slotsUsed + (mm_r cC M).slots.size = _
      unfold mm_r
      rw [arrV_size, a3, Nat.succ_mul]; omega
    · rw [ot q (by omega), lt q (by omega), a4 q hq]
    · exact State.heap_setCell_self (c := mm_o cA N T.heap.size i) (by rw [lt _ (by omega)]; exact a5)
    · rw [ot _ (by omega)]
      by_cases e : j = i
      · subst e
        rw [← a1]
        exact State.heap_pushCell_size _ _
      · rw [lt _ (by omega)]; exact a6 j (by omega)
theorem mm_top (T : State) (f : JFrame) (cA cC : ClassId) (N M : Nat) (i : Nat) : mm_s (T.setTop f) cA cC N M i = (mm_s T cA cC N M i).setTop f := by
  induction i with
  | zero => rfl
  | succ i ih => show ((mm_s (T.setTop f) cA cC N M i).pushCell _).setCell _ _ = _; rw [ih]; rfl
section MM
variable {E : CtlPost} {e : Env} {d : Bool} {acts : List Action}
theorem mm_row {T : State} {cC cI : ClassId} {kC : Class} {k : Int32} {M : Nat} (hC : T.vm.classes[cC]? = some kC) (hC2 : kC.kind = .array cI .int) (hk : ¬ k < 0) (hM : k.toNatClampNeg = M) (hl : M ≤ e.platform.arrayLengthLimit) (hb : M * 4 ≤ e.platform.maxHeapBytes) (hc : T.heap.size < e.platform.maxCells) (hs : T.slotsUsed + M ≤ e.platform.maxSlots)
    {Q : Addr → Pre} (hq : ∀ a', Q T.heap.size d a' (T.pushCell (mm_r cC M))) : wp (multianewarray.make cC [k]) Q E e d acts T := by
  rw [multianewarray.make]
  simp only [wp_bind', W.ite, hk, if_false, wp_pure', W.theClass, hC, hC2, Option.some.injEq, exists_eq_left']
  rw [hM]
  refine W.newArray_of hC hC2 (by omega) (by show ¬ M * 4 > _; omega) hc hs rfl (fun a' => ?_)
  rw [arrV_new]
  exact hq a'
theorem mm_make {T : State} {cA cC cI : ClassId} {kA kC : Class} {n k : Int32} {N M : Nat} (hA : T.vm.classes[cA]? = some kA) (hA2 : kA.kind = .array cC (.array .int)) (hC : T.vm.classes[cC]? = some kC) (hC2 : kC.kind = .array cI .int) (hn : ¬ n < 0) (hk : ¬ k < 0) (hN : n.toNatClampNeg = N) (hM : k.toNatClampNeg = M)
    (hl1 : N ≤ e.platform.arrayLengthLimit) (hb1 : N * 4 ≤ e.platform.maxHeapBytes) (hl2 : M ≤ e.platform.arrayLengthLimit) (hb2 : M * 4 ≤ e.platform.maxHeapBytes) (hc : T.heap.size + (1 + N) ≤ e.platform.maxCells) (hs : T.slotsUsed + (N + N * M) ≤ e.platform.maxSlots)
    {Q : Addr → Pre} (hq : ∀ d' a', Q T.heap.size d' a' (mm_s T cA cC N M N)) : wp (multianewarray.make cA [n, k]) Q E e d acts T := by
  have hno : ([k].find? (· < 0)) = none := by simp [hk]
  rw [multianewarray.make]
  simp only [wp_bind', W.ite, hn, if_false, wp_pure', W.theClass, hA, hA2, Option.some.injEq, exists_eq_left']
  rw [hN]
  refine W.newArray_of hA hA2 (by omega) (by show ¬ N * 4 > _; omega) (by omega) (by omega) rfl (fun a' => ?_)
  simp only [hno]
  rw [ite_self, wp_bind', Std.Legacy.Range.forIn_eq_forIn_range']
  rw [show ([:N] : Std.Legacy.Range).size = N by simp [Std.Legacy.Range.size]]
  rw [mm_o0 cA N T.heap.size]
  refine wp_forIn_inv (fun rs U => ∃ i, i ≤ N ∧ rs = List.range' i (N - i) ∧ U = mm_s T cA cC N M i) _ _ ⟨0, Nat.zero_le _, rfl, rfl⟩ ?_ ?_
  · rintro x rs U d' a2 Q' ⟨i, hi, hr, rfl⟩ hgo
    have hlt : i < N := by
      rcases Nat.lt_or_ge i N with h | h
      · exact h
      · rw [show N - i = 0 by omega] at hr; simp at hr
    rw [show N - i = (N - (i + 1)) + 1 by omega, List.range'_succ] at hr
    obtain ⟨rfl, hr⟩ := List.cons.inj hr
    obtain ⟨f1, f2, f3, f4, f5, f6⟩ := mm_h T cA cC N M x
    have hl0 : T.heap.size < (mm_s T cA cC N M x).heap.size := by rw [f1]; omega
    have hm : x * M + M ≤ N * M := by
      have := Nat.mul_le_mul_right M (show x + 1 ≤ N from hlt)
      rw [Nat.succ_mul] at this; exact this
    simp only [wp_bind']
    refine mm_row (by rw [f2]; exact hC) hC2 hk hM hl2 hb2 (by rw [f1]; omega) (by rw [f3]; omega) (fun a3 => ?_)
    simp only [wp_bind', W.writeLoc, wp_pure']
    refine ⟨mm_o cA N T.heap.size x, ?_, by unfold mm_o arrV; simp, by unfold mm_o; rw [arrV_size]; exact hlt, ?_, hgo _ _ _ ⟨x + 1, hlt, hr, ?_⟩⟩
    · exact (State.heap_pushCell_of_lt _ _ hl0).trans f5
    · unfold mm_o arrV
      simp [State.fitsSlot, State.slotType?, f2, hA, hA2, fits]
    · rw [f1, mm_oS]; rfl
  · rintro U d' a2 ⟨i, hi, hr, rfl⟩
    have hiN : i = N := by
      rcases Nat.lt_or_ge i N with h | h
      · rw [show N - i = (N - (i + 1)) + 1 by omega, List.range'_succ] at hr; cases hr
      · omega
    subst hiN
    simp only [wp_pure']
    exact hq _ _
end MM
theorem mm_over {args : Array Value} {s : State} (h : (Cond.arrayOver (.array .int)).before args s = true) : ∃ (cC cA : ClassId) (kA : Class), s.vm.findClass "[I" = some cC ∧ s.vm.classes[cA]? = some kA ∧ kA.kind = .array cC (.array .int) ∧ s.vm.findClass "[[I" = some cA := by
  simp only [Cond.before, Cond.holds, Cond.value, beq_iff_eq] at h
  cases hc : s.vm.findClass (FieldType.array FieldType.int).toString with
  | none => simp [hc] at h
  | some cC =>
    simp only [hc, Option.bind_some, Option.bind_eq_some_iff, Option.map_eq_some_iff] at h
    obtain ⟨cA, hi, kA, hk, hb⟩ := h
    obtain ⟨hlt, hp, -⟩ := Array.findIdx?_eq_some_iff_getElem.mp hi
    rw [(Array.getElem?_eq_some_iff.mp hk).2] at hp
    cases hkd : kA.kind with
    | array comp ty =>
      rw [hkd] at hb hp
      simp at hb hp
      exact ⟨cC, cA, kA, hc, hk, by rw [hkd, hp, hb.1], hb.2⟩
    | _ => rw [hkd] at hb; simp at hb
section MS
variable {p : Program} {l : Launch} {e : Env} {R : Room} {s : State} {m : MethodId} {args : Array Value} {below : List Frame} {meth : Method} {c : Code} {cells slots : Nat} {Q : State → Prop}
theorem mm_stand {T : State} {locs : List Loc} (X : Stand p l e R s m args below meth c T locs cells slots) (cA cC : ClassId) (N M : Nat) (i : Nat) : ∃ L : List Loc, (∀ q ∈ L, q ∈ locs ∨ q.base = T.heap.size) ∧ Stand p l e R s m args below meth c (mm_s T cA cC N M i) L (cells + (1 + i)) (slots + (N + i * M)) := by
  induction i with
  | zero =>
    have h := X.pushed (mm_o cA N T.heap.size 0)
    refine ⟨locs, fun q hq => Or.inl hq, ?_⟩
    rw [show (mm_o cA N T.heap.size 0).slots.size = N from arrV_size _ _ _] at h
    rw [Nat.zero_mul]
    exact h
  | succ i ih =>
    obtain ⟨L, hL, Y⟩ := ih
    obtain ⟨f1, f2, f3, f4, f5, f6⟩ := mm_h T cA cC N M i
    have hl0 : T.heap.size < (mm_s T cA cC N M i).heap.size := by rw [f1]; omega
    have h := (Y.pushed (mm_r cC M)).stored (a := T.heap.size) (cell := mm_o cA N T.heap.size i) ((State.heap_pushCell_of_lt _ _ hl0).trans f5) i (.ref (T.heap.size + 1 + i))
    rw [show (mm_r cC M).slots.size = M from arrV_size _ _ _, mm_oS] at h
    refine ⟨L ++ [⟨T.heap.size, i⟩], fun q hq => ?_, ?_⟩
    · rcases List.mem_append.mp hq with z | z
      · exact hL q z
      · rw [List.mem_singleton.mp z]; exact Or.inr rfl
    · rw [show cells + (1 + (i + 1)) = cells + (1 + i) + 1 by omega, show slots + (N + (i + 1) * M) = slots + (N + i * M) + M by rw [Nat.succ_mul]; omega]
      exact h
/-- the table and its rows, as cells of a world -/
def mm_ws (q : Nat) (cA cC : ClassId) (N M : Nat) : va_W := (q, .inl (cA, N, .inr (.inr (.inr (.inr (fun j => some (q + 1 + j))))))) :: (List.range N).map (fun j => (q + 1 + j, .inl (cC, M, .inl (fun _ => 0))))
theorem mm_ws_get {q : Nat} {cA cC : ClassId} {N M k : Nat} {x : Nat × va_E} (h : (mm_ws q cA cC N M)[k]? = some x) : (k = 0 ∧ x = (q, .inl (cA, N, .inr (.inr (.inr (.inr (fun j => some (q + 1 + j)))))))) ∨ ∃ j, j < N ∧ k = j + 1 ∧ x = (q + 1 + j, .inl (cC, M, .inl (fun _ => 0))) := by
  unfold mm_ws at h
  cases k with
  | zero => exact Or.inl ⟨rfl, (Option.some.inj h).symm⟩
  | succ j =>
    rw [List.getElem?_cons_succ, List.getElem?_map] at h
    by_cases hj : j < N
    · rw [List.getElem?_range hj] at h
      exact Or.inr ⟨j, hj, rfl, (Option.some.inj h).symm⟩
    · rw [List.getElem?_eq_none_iff.mpr (by rw [List.length_range]; omega)] at h
      cases h
theorem mm_new {H : Heap} {locs : List Loc} {cc : ByteArray} {pc : Nat} {ls : Array Slot} {rest : List Value} {D : va_G} {cl : List vw_C} {tys : List (ClassId × FieldType)} {ws : va_W} {A : Nat → Prop} (hexec : p.tables.exec = Jvm.exec) (hb : c.code = cc) {own : String} {index : Nat} (hown : s.vm.findClass own = some m.cls) (hcl : (Cond.classLink own index "[[I").before args s = true) {cA cC : ClassId} {ta tc : Nat} (hta : tys[ta]? = some (cA, .array .int)) (htc : tys[tc]? = some (cC, .int)) (hov : ∃ kA : Class, s.vm.classes[cA]? = some kA ∧ kA.kind = .array cC (.array .int))
    (hK : va_K D cl tys s) (hP : va_P D cl ws H) (hD : va_D A ws) (hS : va_S A s.heap H locs) (hA : ∀ q, s.heap.size ≤ q → A q) {n k : Int32} {N M : Nat} (hn : ¬ n < 0) (hk : ¬ k < 0) (hN : n.toNatClampNeg = N) (hM : k.toNatClampNeg = M) (hN1 : N ≤ 1000) (hM1 : M ≤ 1000) (hcells : cells + (1 + N) ≤ R.cells) (hslots : slots + (N + N * M) ≤ R.slots) (hdg : decode cc pc = .ok (.multianewarray index 2, 4))
    (kk : ∀ (q : Nat) (H1 : Heap) (locs1 : List Loc), va_P D cl (ws ++ mm_ws q cA cC N M) H1 → va_D A (ws ++ mm_ws q cA cC N M) → va_S A s.heap H1 locs1 → W p l e R s m args below meth c H1 locs1 (cells + (1 + N)) (slots + (N + N * M)) Q (F0 m (pc + 4) ls (.ref q :: rest))) : W p l e R s m args below meth c H locs cells slots Q (F0 m pc ls (.int k :: .int n :: rest)) := by
  intro T hT X
  subst hb
  subst hT
  have hpl : e.platform.magicAccessors = ({} : Platform).magicAccessors := by rw [X.admits.platform]
  obtain ⟨kA, hkA, hkA2⟩ := hov
  have hcA : s.vm.findClass "[[I" = some cA := (hK.2 ta _ hta).2
  obtain ⟨-, kC, hkC, cI, hkC2⟩ := (hK.2 tc _ htc).1 0 (fun _ => .null)
  have hkC : s.vm.classes[cC]? = some kC := hkC
  have hkC2 : kC.kind = .array cI .int := hkC2
  obtain ⟨c0, hfc0, hlk⟩ := Cond.classLink_spec hown hcl e.platform hpl
  obtain rfl : cA = c0 := Option.some.inj (hcA.symm.trans hfc0)
  obtain ⟨hg1, hw1, hrd1⟩ := State.classEntry (e := e) X.warmed hlk
  generalize T.vm.noted m.cls index (.cls cA) = vm1 at hg1 hw1 hrd1
  have hal : s.vm.Alike vm1 := hw1.alike
  obtain ⟨kA1, hkA1, eA⟩ := hal.2.2 _ _ hkA
  obtain ⟨kC1, hkC1, eC⟩ := hal.2.2 _ _ hkC
  have X1 := X.noted hw1
  obtain ⟨hr1, hr2⟩ := X.roomAbove hcells hslots
  obtain ⟨f1, f2, f3, f4, f5, f6⟩ := mm_h (T.setVm vm1) cA cC N M N
  obtain ⟨L, hL, Y⟩ := mm_stand X1 cA cC N M N
  have hAT : ∀ q : Nat, T.heap.size ≤ q → A q := fun q h => hA q (Nat.le_trans hS.1 h)
  have hPP : va_P D cl (ws ++ mm_ws T.heap.size cA cC N M) (mm_s (T.setVm vm1) cA cC N M N).heap := by
    refine (hP.kept (fun k x hx => f4 _ (hP k x hx).lt)).app (fun k x hx => ?_)
    rcases mm_ws_get hx with ⟨rfl, rfl⟩ | ⟨j, hj, rfl, rfl⟩
    · refine f5.trans (congrArg some ?_)
      refine congrArg (fun z : Array Value => ({ cls := cA, slots := z, vm := .none } : Cell)) ?_
      refine congrArg (fun f : Fin N → Value => Array.ofFn f) ?_
      funext j
      exact if_pos j.isLt
    · exact f6 j hj
  have hDD : va_D A (ws ++ mm_ws T.heap.size cA cC N M) := by
    have old : ∀ (i : Nat) (x : Nat × va_E), ws[i]? = some x → x.1 < T.heap.size := fun i x hx => (hP i x hx).lt
    have new : ∀ (i : Nat) (x : Nat × va_E), (mm_ws T.heap.size cA cC N M)[i]? = some x → x.1 = T.heap.size + i := fun i x hx => by
      rcases mm_ws_get hx with ⟨rfl, rfl⟩ | ⟨j, hj, rfl, rfl⟩
      · rfl
      · show T.heap.size + 1 + j = _; omega
    have cut : ∀ (i : Nat) (x : Nat × va_E), (ws ++ mm_ws T.heap.size cA cC N M)[i]? = some x → (i < ws.length ∧ ws[i]? = some x) ∨ (ws.length ≤ i ∧ (mm_ws T.heap.size cA cC N M)[i - ws.length]? = some x) := fun i x hx => by
      by_cases hi : i < ws.length
      · rw [List.getElem?_append_left hi] at hx; exact Or.inl ⟨hi, hx⟩
      · rw [List.getElem?_append_right (by omega)] at hx; exact Or.inr ⟨by omega, hx⟩
    refine ⟨fun i j x y hx hy e => ?_, fun k x hx => ?_⟩
    · rcases cut i x hx with ⟨i1, i2⟩ | ⟨i1, i2⟩ <;> rcases cut j y hy with ⟨j1, j2⟩ | ⟨j1, j2⟩
      · exact hD.1 i j x y i2 j2 e
      · have := old i x i2; have := new _ y j2; omega
      · have := old j y j2; have := new _ x i2; omega
      · have := new _ x i2; have := new _ y j2; omega
    · rcases cut k x hx with ⟨-, i2⟩ | ⟨-, i2⟩
      · exact hD.2 k x i2
      · exact hAT _ (by rw [new _ x i2]; omega)
  have hSS : va_S A s.heap (mm_s (T.setVm vm1) cA cC N M N).heap L := by
    have f1 : (mm_s (T.setVm vm1) cA cC N M N).heap.size = T.heap.size + 1 + N := f1
    have hz := hS.1
    refine ⟨by rw [f1]; omega, fun q h1 h2 => (f4 q (Nat.lt_of_lt_of_le h1 hS.1)).trans (hS.2.1 q h1 h2), fun q hq => ?_⟩
    rcases hL q hq with z | z
    · exact hS.2.2 q z
    · rw [z]; exact hAT _ (Nat.le_refl _)
  obtain ⟨t, a1, b1⟩ := kk T.heap.size _ L hPP hDD hSS _ rfl Y
  refine ⟨t, ?_, b1⟩
  jvm_step X.here [hexec, hdg]
  simp only [multianewarray.sem, wp_bind', W.resolveClassAt_links (State.method?_setTop (F0 m pc ls (.int k :: .int n :: rest)) X.here.top) hg1]
  rw [W.popN, if_neg (by decide)]
  refine ⟨F0 m pc ls (.int k :: .int n :: rest), State.topJava?_setTop' (s := T.setVm vm1) _ X.here.top, [.int n, .int k], rest, rfl, rfl, ?_⟩
  simp only [List.mapM_cons, List.mapM_nil, wp_bind', wp_pure']
  refine mm_make (kA := kA1) (kC := kC1) (cC := cC) (cI := cI) (N := N) (M := M) hkA1 (by rw [eA]; exact hkA2) hkC1 (by rw [eC]; exact hkC2) hn hk hN hM (by rw [Launch.admits_arrayLengthLimit X.admits]; omega) (by rw [Launch.admits_maxHeapBytes X.admits]; omega) (by rw [Launch.admits_arrayLengthLimit X.admits]; omega) (by rw [Launch.admits_maxHeapBytes X.admits]; omega) (by show T.heap.size + _ ≤ _; omega) (by show T.slotsUsed + _ ≤ _; omega) (fun d' a' => ?_)
  rw [show ((T.setTop (F0 m pc ls (.int k :: .int n :: rest))).setVm vm1).setTop (F0 m pc ls rest) = (T.setVm vm1).setTop (F0 m pc ls rest) from (by show ((T.setVm vm1).setTop _).setTop _ = _; rw [State.setTop_setTop]), mm_top]
  simp only [wp_bind', W.mark, W.pushRef, State.topJava?_setTop' _ Y.here.top, Option.some.injEq, exists_eq_left', State.setTop_setTop, State.heap_setTop]
  intro acts
  simp [jvm, Y.here.top]
  exact a1
end MS
