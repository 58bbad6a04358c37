/-! ===== WHAT THE STATEMENT GIVES OF THE START ===== -/
theorem lw_over {args : Array Value} {first s : State} {oc : Option Outcome} {idx : List Nat} {t : FieldType} (h : (Cond.arrayOver (.array t)).holds args first oc s idx = true) :
    ∃ comp c k, s.vm.findClass (FieldType.array t).toString = some comp ∧ s.vm.classes[c]? = some k ∧ k.kind = .array comp (.array t) ∧ s.vm.findClass ("[" ++ (FieldType.array t).toString) = some c := by
  simp only [Cond.holds, Cond.value, beq_iff_eq] at h
  cases hc : s.vm.findClass (FieldType.array t).toString with
  | none => simp [hc] at h
  | some comp =>
    simp only [hc, Option.bind_some, Option.bind_eq_some_iff, Option.map_eq_some_iff] at h
    obtain ⟨c, hi, k, hk, hb⟩ := h
    obtain ⟨hlt, hp, -⟩ := Array.findIdx?_eq_some_iff_getElem.mp hi
    have hkk : s.vm.classes[c] = k := (Array.getElem?_eq_some_iff.mp hk).2
    rw [hkk] at hp
    cases hkind : k.kind with
    | array component ty =>
      rw [hkind] at hb hp
      simp at hb hp
      exact ⟨comp, c, k, rfl, hk, by rw [hkind, hp, hb.1], hb.2⟩
    | _ => rw [hkind] at hb; simp at hb
theorem lw_arr {s : State} {c comp : ClassId} {k : Class} {t : FieldType} (hk : s.vm.classes[c]? = some k) (hkind : k.kind = .array comp t) : ArrOfT s c t := fun _ _ => ⟨(fun _ h => by cases h), k, hk, comp, hkind⟩
theorem lw_nest : ∀ q ∈ nLk, Cond.methodLinkNest q.1 q.2.1 q.2.2 "NeverBelieved" ∈ tables_1 := by
  intro q hq
  simp only [nLk, List.mem_cons, List.not_mem_nil, or_false] at hq
  rcases hq with rfl | rfl | rfl | rfl | rfl
  · exact List.mem_of_getElem? (i := 28) (by decide +kernel)
  · exact List.mem_of_getElem? (i := 77) (by decide +kernel)
  · exact List.mem_of_getElem? (i := 118) (by decide +kernel)
  · exact List.mem_of_getElem? (i := 158) (by decide +kernel)
  · exact List.mem_of_getElem? (i := 189) (by decide +kernel)
theorem lw_K {b : Nat} {s : State} (hts : ∀ w ∈ lw_tbl, w.before #[Value.ref b] s = true) : ∃ V : nV, nK V s := by
  have hm : ∀ w ∈ mTb, w.before #[Value.ref b] s = true := fun w h => hts w (mTb_in w h)
  obtain ⟨c0, i0, h0⟩ := u_known (n := 5) hm uX0 (hm (Cond.instantiable RX0 5) (mTm 157 (by decide +kernel) (by decide +kernel)))
  obtain ⟨c1, i1, h1⟩ := u_known (n := 8) hm uX1 (hm (Cond.instantiable RX1 8) (mTm 27 (by decide +kernel) (by decide +kernel)))
  obtain ⟨c2, i2, h2⟩ := u_known (n := 9) hm uX2 (hm (Cond.instantiable RX2 9) (mTm 117 (by decide +kernel) (by decide +kernel)))
  obtain ⟨c3, i3, h3⟩ := u_known (n := 11) hm uX3 (hm (Cond.instantiable RX3 11) (mTm 182 (by decide +kernel) (by decide +kernel)))
  obtain ⟨c4, i4, h4⟩ := u_known (n := 10) hm uX5 (hm (Cond.instantiable RX5 10) (mTm 76 (by decide +kernel) (by decide +kernel)))
  obtain ⟨c5, i5, h5⟩ := u_known (n := 9) hm uX6 (hm (Cond.instantiable RX6 9) (mTm 247 (by decide +kernel) (by decide +kernel)))
  obtain ⟨c6, i6, h6⟩ := u_known (n := 5) hm uX7 (hm (Cond.instantiable RX7 5) (mTm 188 (by decide +kernel) (by decide +kernel)))
  obtain ⟨c7, i7, h7⟩ := u_known (n := 6) hm uX8 (hm (Cond.instantiable RX8 6) (mTm 19 (by decide +kernel) (by decide +kernel)))
  obtain ⟨c8, i8, h8⟩ := u_known (n := 39) hm uX9 (hm (Cond.instantiable RX9 39) (mTm 824 (by decide +kernel) (by decide +kernel)))
  obtain ⟨aI, kI, pI, gI, kI1, kI2⟩ := Cond.arrayClass_spec (hm _ ta_int)
  obtain ⟨aZ, kZ, pZ, gZ, kZ1, kZ2⟩ := Cond.arrayClass_spec (hm _ ta_boolean)
  obtain ⟨aL, kL, pL, gL, kL1, kL2⟩ := Cond.arrayClass_spec (hm _ ta_long)
  obtain ⟨pR, aR, kR, gC, kR1, kR2, gR⟩ := lw_over (hts (Cond.arrayOver (.array .int)) (List.mem_append_right _ (List.mem_of_getElem? (i := 33) (by decide +kernel))))
  have hc : pR = aI := Option.some.inj (gC.symm.trans gI)
  subst hc
  refine ⟨((fun k => ([c0, c1, c2, c3, c4, c5, c6, c7, c8] : List ClassId).getD k c0, fun k => ([i0, i1, i2, i3, i4, i5, i6, i7, i8] : List (Nat → Nat)).getD k i0), fun k => ([pR, aZ, aL, aR] : List ClassId).getD k aR), ⟨fun k q hq => ?_, fun k q hq => ?_⟩, ⟨kR, kR1, kR2⟩, fun q hq => ?_⟩
  · match k, hq with
    | 0, hq => cases hq; exact h0
    | 1, hq => cases hq; exact h1
    | 2, hq => cases hq; exact h2
    | 3, hq => cases hq; exact h3
    | 4, hq => cases hq; exact h4
    | 5, hq => cases hq; exact h5
    | 6, hq => cases hq; exact h6
    | 7, hq => cases hq; exact h7
    | 8, hq => cases hq; exact h8
    | k + 9, hq => simp at hq
  · match k, hq with
    | 0, hq => cases hq; exact ⟨lw_arr kI1 kI2, gI⟩
    | 1, hq => cases hq; exact ⟨lw_arr kZ1 kZ2, gZ⟩
    | 2, hq => cases hq; exact ⟨lw_arr kL1 kL2, gL⟩
    | 3, hq => cases hq; exact ⟨lw_arr kR1 kR2, gR⟩
    | k + 4, hq => simp [nTy] at hq
  · exact hts _ (List.mem_append_right _ (lw_nest q hq))
theorem vk_S_congr {N : Nat} {len : List Nat} {byt : List (List Int32)} {a v a' v' : Nat → Nat} {A : Nat → Prop} {U : State} {H : Heap} (h1 : ∀ i, i < N → a' i = a i) (h2 : ∀ i, i < N → v' i = v i) (h : vk_S N len byt a v A U H) : vk_S N len byt a' v' A U H := by
  refine ⟨fun i hi => ?_, fun i j hi hj e => h.2 i j hi hj (by rw [← h1 i hi, ← h1 j hj]; exact e)⟩
  rw [h1 i hi, h2 i hi]
  exact h.1 i hi
def lw_tm (i : Nat) : Term := .string RX5 (mStC.getD i 0)
def lw_fl : List Cond := flatC (Jvm.Cond.and given_1 narrow_1)
theorem lw_s1 : ∀ i, i < 13 → Cond.exactly (lw_tm i) "java/lang/String" ∈ lw_fl := by decide +kernel
theorem lw_s2 : ∀ i, i < 13 → Cond.eq (.field (lw_tm i) "java/lang/String" "coder" "B") (.int 0) ∈ lw_fl := by decide +kernel
theorem lw_s3 : ∀ i, i < 13 → Cond.arrayOf (.field (lw_tm i) "java/lang/String" "value" "[B") .byte ∈ lw_fl := by decide +kernel
theorem lw_s4 : ∀ i, i < 13 → Cond.eq (.length (.field (lw_tm i) "java/lang/String" "value" "[B")) (.int (Int32.ofNat (mStN.getD i 0))) ∈ lw_fl := by decide +kernel
theorem lw_s5 : ∀ i, i < 13 → ∀ j, j < mStN.getD i 0 → Cond.eq (.elem (.field (lw_tm i) "java/lang/String" "value" "[B") (.int (Int32.ofNat j))) (.int ((mStB.getD i []).getD j 0)) ∈ lw_fl := by decide +kernel
theorem lw_s6 : ∀ i, i < 13 → ∀ j, j < 13 → i < j → Cond.not (Cond.eq (lw_tm i) (lw_tm j)) ∈ lw_fl := by decide +kernel
theorem lw_s7 : ∀ i, i < 13 → mStN.getD i 0 < 2 ^ 31 := by decide +kernel
theorem lw_s8 : ∀ k, k < 13 → Cond.stringRef RX5 (mStC.getD k 0) (mStT.getD k "") ∈ lw_tbl := by
  intro k hk
  refine List.mem_append_right _ ?_
  match k, hk with
  | 0, _ => exact List.mem_of_getElem? (i := 342) (by decide +kernel)
  | 1, _ => exact List.mem_of_getElem? (i := 343) (by decide +kernel)
  | 2, _ => exact List.mem_of_getElem? (i := 344) (by decide +kernel)
  | 3, _ => exact List.mem_of_getElem? (i := 345) (by decide +kernel)
  | 4, _ => exact List.mem_of_getElem? (i := 346) (by decide +kernel)
  | 5, _ => exact List.mem_of_getElem? (i := 347) (by decide +kernel)
  | 6, _ => exact List.mem_of_getElem? (i := 348) (by decide +kernel)
  | 7, _ => exact List.mem_of_getElem? (i := 349) (by decide +kernel)
  | 8, _ => exact List.mem_of_getElem? (i := 350) (by decide +kernel)
  | 9, _ => exact List.mem_of_getElem? (i := 413) (by decide +kernel)
  | 10, _ => exact List.mem_of_getElem? (i := 414) (by decide +kernel)
  | 11, _ => exact List.mem_of_getElem? (i := 415) (by decide +kernel)
  | 12, _ => exact List.mem_of_getElem? (i := 416) (by decide +kernel)
  | k + 13, h => omega
theorem lw_t0 : ∀ j, j < 5 → Cond.eq (.elem (.static RX8 "OVER_PEOPLE" "[I") (.int (Int32.ofNat j))) (.int (([-1, 0, 0, 1, 1] : List Int32).getD j 0)) ∈ lw_fl := by decide +kernel
theorem lw_t1 : ∀ j, j < 7 → Cond.eq (.elem (.static RX8 "OVER_SAYINGS" "[I") (.int (Int32.ofNat j))) (.int (([-1, 0, 1, 0, 3, 3, 5] : List Int32).getD j 0)) ∈ lw_fl := by decide +kernel
theorem lw_t2 : ∀ j, j < 5 → Cond.eq (.elem (.static RX8 "PLACE_OF_SAYING" "[I") (.int (Int32.ofNat j))) (.int (([1, 4, 5, 6, 2] : List Int32).getD j 0)) ∈ lw_fl := by decide +kernel
theorem lw_ro {b : Nat} {s : State} (hts : ∀ w ∈ lw_tbl, w.before #[Value.ref b] s = true) (hgv : (Jvm.Cond.and given_1 narrow_1).before #[Value.ref b] s = true) (V : nV) : ∃ ro : Nat → Nat, ro 150 = b ∧ mRO (ro, V.1, V.2) (fun q => s.heap.size ≤ q) s s.heap := by
  have hs : ∀ c ∈ lw_fl, c.before #[Value.ref b] s = true := flat_of_before _ hgv
  have hm : ∀ w ∈ mTb, w.before #[Value.ref b] s = true := fun w h => hts w (mTb_in w h)
  have hA : ∀ a : Nat, a < s.heap.size → ¬ (fun q : Nat => s.heap.size ≤ q) a := fun a h => Nat.not_le.mpr h
  obtain ⟨adK, adV, hS, hev⟩ := vk_Sof (tm := lw_tm) lw_s7 (fun i hi => hs _ (lw_s1 i hi)) (fun i hi => hs _ (lw_s2 i hi)) (fun i hi => hs _ (lw_s3 i hi)) (fun i hi => hs _ (lw_s4 i hi)) (fun i hi j hj => hs _ (lw_s5 i hi j hj)) (fun i j hi hj hn => (Nat.lt_or_gt_of_ne hn).imp (fun q => hs _ (lw_s6 i hi j hj q)) (fun q => hs _ (lw_s6 j hj i hi q))) hA
  obtain ⟨t0, e0, T0⟩ := va_Tof (tm := .static RX8 "OVER_PEOPLE" "[I") (ty := .int) (N := 5) (f := fun j => .int (([-1, 0, 0, 1, 1] : List Int32).getD j 0)) (by decide) (hs _ (by decide +kernel)) (va_eqt (hs _ (by decide +kernel))) (fun j hj => va_eqt (hs _ (lw_t0 j hj))) hA
  obtain ⟨t1, e1, T1⟩ := va_Tof (tm := .static RX8 "OVER_SAYINGS" "[I") (ty := .int) (N := 7) (f := fun j => .int (([-1, 0, 1, 0, 3, 3, 5] : List Int32).getD j 0)) (by decide) (hs _ (by decide +kernel)) (va_eqt (hs _ (by decide +kernel))) (fun j hj => va_eqt (hs _ (lw_t1 j hj))) hA
  obtain ⟨t2, e2, T2⟩ := va_Tof (tm := .static RX8 "PLACE_OF_SAYING" "[I") (ty := .int) (N := 5) (f := fun j => .int (([1, 4, 5, 6, 2] : List Int32).getD j 0)) (by decide) (hs _ (by decide +kernel)) (va_eqt (hs _ (by decide +kernel))) (fun j hj => va_eqt (hs _ (lw_t2 j hj))) hA
  have Z0 := va_Zref (hts (Cond.laysStatic "NeverBelieved" "OVER_PEOPLE" "[I") (List.mem_append_right _ (List.mem_of_getElem? (i := 497) (by decide +kernel)))) (hm _ ti_1) e0 hA
  have Z1 := va_Zref (hts (Cond.laysStatic "NeverBelieved" "OVER_SAYINGS" "[I") (List.mem_append_right _ (List.mem_of_getElem? (i := 512) (by decide +kernel)))) (hm _ ti_1) e1 hA
  have Z2 := va_Zref (hts (Cond.laysStatic "NeverBelieved" "PLACE_OF_SAYING" "[I") (List.mem_append_right _ (List.mem_of_getElem? (i := 510) (by decide +kernel)))) (hm _ ti_1) e2 hA
  have Zc := va_Zof (hts (Cond.laysStatic "java/lang/String" "COMPACT_STRINGS" "Z") (List.mem_append_right _ (List.mem_of_getElem? (i := 364) (by decide +kernel)))) (hm _ ti_10) (va_eqt (hs (Cond.eq (.static "java/lang/String" "COMPACT_STRINGS" "Z") (.int 1)) (by decide +kernel))) hA
  have Zf := va_Zqof (hts (Cond.laysStatic "jdk/internal/util/Preconditions" "SIOOBE_FORMATTER" "Ljava/util/function/BiFunction;") (List.mem_append_right _ (List.mem_of_getElem? (i := 380) (by decide +kernel)))) (hm _ ti_12) (hs (Cond.isRef (.static "jdk/internal/util/Preconditions" "SIOOBE_FORMATTER" "Ljava/util/function/BiFunction;")) (by decide +kernel)) hA
  obtain ⟨t3, Zf⟩ : ∃ t3 : Nat, va_Z "jdk/internal/util/Preconditions" "SIOOBE_FORMATTER" "Ljava/util/function/BiFunction;" .null (fun q => s.heap.size ≤ q) s s.heap ∨ va_Z "jdk/internal/util/Preconditions" "SIOOBE_FORMATTER" "Ljava/util/function/BiFunction;" (.ref t3) (fun q => s.heap.size ≤ q) s s.heap := by
    rcases Zf with h | ⟨t, h⟩
    · exact ⟨0, Or.inl h⟩
    · exact ⟨t, Or.inr h⟩
  have k1 : ∀ k, k < 13 → (if 100 + k < 120 then adK (100 + k - 100) else if 100 + k < 140 then adV (100 + k - 120) else if 100 + k = 140 then t0 else if 100 + k = 141 then t1 else if 100 + k = 142 then t2 else if 100 + k = 143 then t3 else b) = adK k := fun k hk => by
    rw [if_pos (by omega), Nat.add_sub_cancel_left]
  have k2 : ∀ k, k < 13 → (if 120 + k < 120 then adK (120 + k - 100) else if 120 + k < 140 then adV (120 + k - 120) else if 120 + k = 140 then t0 else if 120 + k = 141 then t1 else if 120 + k = 142 then t2 else if 120 + k = 143 then t3 else b) = adV k := fun k hk => by
    rw [if_neg (by omega), if_pos (by omega), Nat.add_sub_cancel_left]
  refine ⟨fun i => if i < 120 then adK (i - 100) else if i < 140 then adV (i - 120) else if i = 140 then t0 else if i = 141 then t1 else if i = 142 then t2 else if i = 143 then t3 else b, rfl, ⟨fun k hk => ?_, vk_S_congr k1 k2 hS, ⟨Z0, T0⟩, ⟨Z1, T1⟩, ⟨Z2, T2⟩, Zc, Zf⟩⟩
  show vk_R RX5 (mStC.getD k 0) (mStT.getD k "") (if 100 + k < 120 then adK (100 + k - 100) else if 100 + k < 140 then adV (100 + k - 120) else if 100 + k = 140 then t0 else if 100 + k = 141 then t1 else if 100 + k = 142 then t2 else if 100 + k = 143 then t3 else b) s
  rw [k1 k hk]
  exact vk_R.of (hts _ (lw_s8 k hk)) (hev k hk)
