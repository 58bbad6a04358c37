/-! THE CLAIM OUT OF ONE WALK OF THE LAW'S BODY. Your part is whole_start (and what it stands on); all else here is the same for every law, but numbers. -/
def R_law : String := "NeverBelievedLaw"
def lw_P (b : Addr) (xs : List Int32) (args : Array Value) (s : State) : Prop := args = #[.ref b] ∧ s.IntsAt b xs ∧ xs.length ≤ 3584 ∧ (Jvm.Cond.and given_1 narrow_1).before args s = true
def lw_Q (_ : Array Value) (s : State) (o : Outcome) (t : State) : Prop := o = .returned (some (.int 1)) ∧ Framed s o t [] 600000 7302250
def lw_Z (below : List Frame) (a : Array Value) (s : State) : State → Prop := fun t => ∃ o, t.status = .running ∧ Ended t below o ∧ lw_Q a s o t
/-- the law's own end, with 1 on the stack, nothing written that was there before, its room as the claim has it -/
theorem lw_ret {p : Program} {l : Launch} {e : Env} {s : State} {m : MethodId} {below : List Frame} {meth : Method} {c : Code} {b : Nat} (hx : p.tables.exec = Jvm.exec) (hb : c.code = code) (hr : meth.sig.returnType = ret) (hlocks : meth.locks = false) {pc : Nat} {H : Heap} {ls : Array Slot} (hdg : decode code pc = .ok (.ireturn, 1)) : W p l e room_1 s m #[Value.ref b] below meth c H [] 600000 7302250 (lw_Z below #[Value.ref b] s) (F0 m pc ls [.int 1]) := by
  intro T hT X
  obtain ⟨fs, hret, hrun, hended, hW, hframe⟩ := X.leave (v := some (.int 1)) (hlocks := hlocks) (fun h => by rw [hr] at h; cases h)
  have hmeth' : T.vm.method? m = some meth := X.method'
  refine ⟨T.setFrames fs, ?_, .returned (some (.int 1)), hrun, hended, rfl, ⟨_, rfl⟩, hW, hframe⟩
  jvm_step X.here [X.here.top, hx, hb, hdg, hmeth', hr, ret, narrow_b1]
  (try refine ⟨rfl, ?_⟩); (try refine ⟨rfl, ?_⟩)
  first | (intro acts; rw [hret _ acts rfl rfl rfl]) | rw [hret _ _ rfl rfl rfl]
  exact Steps.refl _
/-- what holds at the law's entry: the machine, the code, the tables' words (any of lw_tbl by 'hts w (by decide +kernel)'), the script of L ints xs at the cell b, what the Statement gives of the start (any of its parts by flat_of_before) -/
def lw_At (p : Program) (s : State) (m : MethodId) (meth : Method) (c : Code) (b L : Nat) (xs : Nat → Int32) : Prop :=
  p.tables.exec = Jvm.exec ∧ c.code = code ∧ meth.sig.returnType = ret ∧ c.maxLocals = 4 ∧ s.vm.findClass R_law = some m.cls ∧ (∀ w ∈ lw_tbl, w.before #[Value.ref b] s = true) ∧ va_X b L xs s s.heap ∧ b < s.heap.size ∧ meth.locks = false ∧ (Jvm.Cond.and given_1 narrow_1).before #[Value.ref b] s = true
/-! ===== THE LAW FROM ITS ENTRY ===== -/
theorem lw_ex {V : nV} {ro : Nat → Nat} {ws0 : va_W} (z : Nat) (U : State) (g : JFrame) (mk : MethodId) (a : Array Value) (h : nExR V ro ws0 z U) : nExR V ro ws0 z (U.calling g mk a) := mRO.same (u := U) (U := U.calling g mk a) rfl h
set_option maxRecDepth 20000 in
set_option maxHeartbeats 4000000 in
theorem whole_start {p : Program} {e : Env} {s : State} {m : MethodId} {below : List Frame} {meth : Method} {c : Code} (l : Launch) {b L : Nat} {xs : Nat → Int32} (hL : L ≤ 3584) (C0 : lw_At p s m meth c b L xs) : W p l e room_1 s m #[Value.ref b] below meth c s.heap [] 0 0 (lw_Z below #[Value.ref b] s) (entryFrame m ([Value.ref b] : List Value).toArray 4) := by
  obtain ⟨hx, hb, hr, hml, hown, hts, hX, hbl, hlocks, hgv⟩ := id C0
  obtain ⟨V, hK⟩ := lw_K hts
  obtain ⟨ro, hr150, hRO⟩ := lw_ro hts hgv V
  have hl := lv_entry ([.ref b]) (n := 4) (Nat.le_of_ble_eq_true rfl)
  rw [lg_entry_eq]
  generalize (lg_sl ([.ref b]) ++ List.replicate (4 - (lg_sl ([.ref b])).length) Slot.unset).toArray = ls at hl ⊢
  have C : nCtx (p, l, e, room_1, s, m, #[Value.ref b], below, meth, c, 0, 0, lw_Z below #[Value.ref b] s, fun q => s.heap.size ≤ q) V ML_law := ⟨hx, hb, hml, hown, fun w h => hts w (mTb_in w h), hK, fun q h => h, rfl, fun h => absurd h (by decide)⟩
  have K : nG (p, l, e, room_1, s, m, #[Value.ref b], below, meth, c, 0, 0, lw_Z below #[Value.ref b] s, fun q => s.heap.size ≤ q) V ML_law 0 0 0 [.ref b, .retAddr 0, .retAddr 0, .retAddr 0] [] [] := by
    refine nG_new (ci := 7) (Cn := "NeverBelieved") (T := TX8) (N := 6) (ty := tyX8) (fs := df_8) C dL_law_0 uX8 tyX8_ok (mTm 18 (by decide +kernel) (by decide +kernel)) (mTm 19 (by decide +kernel) (by decide +kernel)) ti_1 rfl dfX8 (by exact Nat.le_of_ble_eq_true rfl) (by exact Nat.le_of_ble_eq_true rfl) (fun a0 => ?_)
    refine nG_dup C dL_law_3 rfl ?_
    refine nG_callA (Z := MX8_init) (b := a0) (as := []) (rest := [.ref a0]) (wr := []) C dL_law_4 (Or.inl (mTm 20 (by decide +kernel) (by decide +kernel))) zX8_init ⟨(by exact Nat.le_of_ble_eq_true rfl), (by exact Nat.le_of_ble_eq_true rfl)⟩ (by exact Nat.le_of_ble_eq_true rfl) (by exact Nat.le_of_ble_eq_true rfl) rfl (by exact Nat.le_of_ble_eq_true rfl) rfl (k_X8_init) (fun _ _ _ _ _ _ => trivial) nE2_true (fun w60 hw => ?_)
    refine nG_astore_n (lv' := [.ref b, .ref a0, .retAddr 0, .retAddr 0]) C dL_law_7 rfl (by decide) rfl ?_
    refine nG_new (ci := 8) (Cn := "NeverBelievedModel") (T := TX9) (N := 39) (ty := tyX9) (fs := df_9) C dL_law_8 uX9 tyX9_ok (mTm 827 (by decide +kernel) (by decide +kernel)) (mTm 828 (by decide +kernel) (by decide +kernel)) ti_9 rfl dfX9 (by exact Nat.le_of_ble_eq_true rfl) (by exact Nat.le_of_ble_eq_true rfl) (fun bm => ?_)
    refine nG_dup C dL_law_11 rfl ?_
    refine nG_perm (ws' := ([] : va_W) ++ (([(bm, .inr (8, df_9))] : va_W) ++ w60)) (List.perm_append_comm) ?_
    refine nG_callA (Z := MX9_init) (b := bm) (as := []) (rest := [.ref bm]) (wr := []) C dL_law_12 (Or.inl (mTm 829 (by decide +kernel) (by decide +kernel))) zX9_init ⟨(by exact Nat.le_of_ble_eq_true rfl), (by exact Nat.le_of_ble_eq_true rfl)⟩ (by exact Nat.le_of_ble_eq_true rfl) (by exact Nat.le_of_ble_eq_true rfl) rfl (by exact Nat.le_of_ble_eq_true rfl) rfl (k_X9_init (ro := ro) (bX8_60 hw)) lw_ex ?_ (fun wz hz => ?_)
    · intro H locs U hS hF hU hW
      show mRO (ro, V.1, V.2) _ U U.heap
      rw [hU]
      exact ((hRO.kept (fun a h1 h2 => hS.2.1 a h1 h2)).narrow hF).warm hW
    refine nG_astore_n (lv' := [.ref b, .ref a0, .ref bm, .retAddr 0]) C dL_law_15 rfl (by decide) rfl ?_
    obtain ⟨ad, u, rfl, hzI, h0, h60, hro⟩ := hz
    refine nG_toM (ad := ad) (w := u) (lv' := [.ref 150, .ref 0, .ref 60, .retAddr 0]) (st' := []) id (fun _ _ _ _ h => h) ?_ rfl ?_ (fun hI hA => ?_)
    · intro i c hi hc
      exact ⟨_, mWs_get _ _ hc, Or.inl rfl⟩
    · intro k v hk hv
      match k, hk with
      | 0, hk => cases hk; show some (Value.ref b) = some (Value.ref (ad 150)); rw [hro 150 (by omega), hr150]
      | 1, hk => cases hk; show some (Value.ref a0) = some (Value.ref (ad 0)); rw [h0]
      | 2, hk => cases hk; show some (Value.ref bm) = some (Value.ref (ad 60)); rw [h60]
      | 3, hk => cases hk; exact absurd rfl hv
      | k + 4, hk => simp at hk
    have e150 : ad 150 = b := (hro 150 (by omega)).trans hr150
    have C' := C.m (k := 76) (n := 1523) hI hA (mRO_congr (E := (ro, V.1, V.2)) hro hRO) (by exact Nat.le_of_ble_eq_true rfl) (by exact Nat.le_of_ble_eq_true rfl)
    refine mG_iconst C' dL_law_16 ic0 ?_
    refine mG_istore_n (lv' := [.ref 150, .ref 0, .ref 60, .int (nI 0)]) C' dL_law_17 rfl (by decide) rfl ?_
    refine lw_loop (L := L) (xs := xs) C' ⟨by rw [e150]; exact hX, by rw [e150]; exact hbl, by rw [e150]; exact Nat.not_le.mpr hbl⟩ hL (fun lv u' => ?_) (L + 1) 0 u z0 (by omega) (by omega) hzI
    intro H locs ls hP hS hl
    exact va_forget hS.2.2 (W.widen (k := 600000) (n := 7302250) (by exact Nat.le_of_ble_eq_true rfl) (by exact Nat.le_of_ble_eq_true rfl) (lw_ret hx hb hr hlocks dL_law_996))
  exact K s.heap [] ls (fun k q h => by simp at h) ⟨fun i j p q h => by simp at h, fun k q h => by simp at h⟩ va_S.rf ⟨hl.1, hl.2.1, fun k v hk hv => by
    match k, hk with
    | 0, hk => cases hk; exact hl.2.2 (0, .ref b) List.mem_cons_self
    | 1, hk => cases hk; exact absurd rfl hv
    | 2, hk => cases hk; exact absurd rfl hv
    | 3, hk => cases hk; exact absurd rfl hv
    | k + 4, hk => simp at hk⟩
