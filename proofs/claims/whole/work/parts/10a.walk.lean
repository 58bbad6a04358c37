/-! ===== CONDITIONS OF THE WALK, method by method, from cut to cut ===== -/
set_option maxRecDepth 20000 in
set_option maxHeartbeats 4000000 in
theorem vX0_add_0 {X : mX} {E : mEnv} {Qm : Option Value → mW → Prop} (C : mCtx X E MX0_add) (F : mFin X E MX0_add Qm) {w : mW}  (p0 : Int32) (p1 : Int32)
    (K : ((w.1 43 0) < (5 : Int32) →
    (vp_in (w.1 43 0) 5 ∧
    (∀ w1 : mW, w1 = (mPI w 44 (w.1 43 0).toNatClampNeg p0) →
    (vp_in (w1.1 43 0) 5 ∧
    (∀ w2 : mW, w2 = (mPI w1 45 (w1.1 43 0).toNatClampNeg p1) →
    (Qm (some (.int (1 : Int32))) (mPI w2 43 0 ((w2.1 43 0) + (1 : Int32))))))))) ∧ (¬ (w.1 43 0) < (5 : Int32) →
    (Qm (some (.int (0 : Int32))) w))) :
    mG X E MX0_add 0 [.ref 43, .int p0, .int p1] [] w := by
  refine mG_aload_n C dX0_add_0 rfl rfl ?_
  refine mG_getI C dX0_add_1 fl_162 sh43 rfl ?_
  refine mG_iconst C dX0_add_4 ic5 ?_
  refine mG_icmp_lt (tgt := 10) C dX0_add_5 rfl (fun h => ?_) (fun h => ?_)
  · have K := K.1 h
    refine mG_aload_n C dX0_add_10 rfl rfl ?_
    refine mG_getR C dX0_add_11 fl_164 sh43 rfl ?_
    refine mG_aload_n C dX0_add_14 rfl rfl ?_
    refine mG_getI C dX0_add_15 fl_162 sh43 rfl ?_
    refine mG_iload_n C dX0_add_18 rfl rfl ?_
    obtain ⟨h1, K⟩ := K
    refine mG_iast C dX0_add_19 sh44 h1 ?_
    refine mG_nm (fun w1 ew1 => ?_)
    have K := K w1 ew1
    refine mG_aload_n C dX0_add_20 rfl rfl ?_
    refine mG_getR C dX0_add_21 fl_165 sh43 rfl ?_
    refine mG_aload_n C dX0_add_24 rfl rfl ?_
    refine mG_getI C dX0_add_25 fl_162 sh43 rfl ?_
    refine mG_iload_n C dX0_add_28 rfl rfl ?_
    obtain ⟨h2, K⟩ := K
    refine mG_iast C dX0_add_29 sh45 h2 ?_
    refine mG_nm (fun w2 ew2 => ?_)
    have K := K w2 ew2
    refine mG_aload_n C dX0_add_30 rfl rfl ?_
    refine mG_dup C dX0_add_31 rfl ?_
    refine mG_getI C dX0_add_32 fl_162 sh43 rfl ?_
    refine mG_iconst C dX0_add_35 ic1 ?_
    refine mG_iadd C dX0_add_36 ?_
    refine mG_putI C dX0_add_37 fp_162 sh43 rfl ?_
    refine mG_iconst C dX0_add_40 ic1 ?_
    exact mG_iret C F dX0_add_41 rfl (by decide) K
  · have K := K.2 h
    refine mG_iconst C dX0_add_8 ic0 ?_
    exact mG_iret C F dX0_add_9 rfl (by decide) K

set_option maxRecDepth 20000 in
set_option maxHeartbeats 4000000 in
theorem vX0_choose_0 {X : mX} {E : mEnv} {Qm : Option Value → mW → Prop} (C : mCtx X E MX0_choose) (F : mFin X E MX0_choose Qm) {w : mW}  (p0 : Int64)
    (K : mG X E MX0_choose 12 [.ref 43, .long p0, .retAddr 0, .int (1 : Int32), .retAddr 0] [] (mPI (mPI w 43 3 (0 : Int32)) 43 4 (0 : Int32))) :
    mG X E MX0_choose 0 [.ref 43, .long p0, .retAddr 0, .retAddr 0, .retAddr 0] [] w := by
  refine mG_aload_n C dX0_choose_0 rfl rfl ?_
  refine mG_iconst C dX0_choose_1 ic0 ?_
  refine mG_putI C dX0_choose_2 fp_166 sh43 rfl ?_
  refine mG_aload_n C dX0_choose_5 rfl rfl ?_
  refine mG_iconst C dX0_choose_6 ic0 ?_
  refine mG_putI C dX0_choose_7 fp_168 sh43 rfl ?_
  refine mG_iconst C dX0_choose_10 ic1 ?_
  refine mG_istore_n (lv' := [.ref 43, .long p0, .retAddr 0, .int (1 : Int32), .retAddr 0]) C dX0_choose_11 rfl (by decide) rfl ?_
  exact K

set_option maxRecDepth 20000 in
set_option maxHeartbeats 4000000 in
theorem vX0_choose_12 {X : mX} {E : mEnv} {Qm : Option Value → mW → Prop} (C : mCtx X E MX0_choose) (F : mFin X E MX0_choose Qm) {w : mW}  (x1 : Int64) (x3 : Int32)
    (K : (((1 : Int32) <<< ((w.1 43 0) &&& 31)) ≤ x3 →
    (Qm none w)) ∧ (¬ ((1 : Int32) <<< ((w.1 43 0) &&& 31)) ≤ x3 →
    (mMi E MX0_worstOf [.ref 43, .int x3, .long x1] w (fun v1 u1 =>
    ((v1 ≤ (u1.1 43 4) →
    (mG X E MX0_choose 12 [.ref 43, .long x1, .retAddr 0, .int (x3 + (1 : Int32)), .retAddr 0] [] u1)) ∧ (¬ v1 ≤ (u1.1 43 4) →
    (mG X E MX0_choose 12 [.ref 43, .long x1, .retAddr 0, .int (x3 + (1 : Int32)), .retAddr 0] [] (mPI (mPI u1 43 4 v1) 43 3 x3)))))))) :
    mG X E MX0_choose 12 [.ref 43, .long x1, .retAddr 0, .int x3, .retAddr 0] [] w := by
  refine mG_iload_n C dX0_choose_12 rfl rfl ?_
  refine mG_iconst C dX0_choose_13 ic1 ?_
  refine mG_aload_n C dX0_choose_14 rfl rfl ?_
  refine mG_getI C dX0_choose_15 fl_162 sh43 rfl ?_
  refine mG_ishl C dX0_choose_18 ?_
  refine mG_icmp_ge (tgt := 56) C dX0_choose_19 rfl (fun h => ?_) (fun h => ?_)
  · have K := K.1 h
    exact mG_vret C F dX0_choose_56 rfl K
  · have K := K.2 h
    refine mG_aload_n C dX0_choose_22 rfl rfl ?_
    refine mG_iload_n C dX0_choose_23 rfl rfl ?_
    refine mG_lload_n C dX0_choose_24 rfl rfl ?_
    refine mG_Vi (Z := MX0_worstOf) (as := [.int x3, .long x1]) (rest := []) C dX0_choose_25 lk_767 zX0_worstOf ⟨Nat.le_of_ble_eq_true rfl, Nat.le_of_ble_eq_true rfl⟩ sh43 rfl rfl (Nat.le_of_ble_eq_true rfl) rfl K (fun v1 u1 K => ?_)
    refine mG_istore (lv' := [.ref 43, .long x1, .retAddr 0, .int x3, .int v1]) C dX0_choose_28 (by decide) rfl ?_
    refine mG_iload C dX0_choose_30 rfl ?_
    refine mG_aload_n C dX0_choose_32 rfl rfl ?_
    refine mG_getI C dX0_choose_33 fl_168 sh43 rfl ?_
    refine mG_icmp_le (tgt := 50) C dX0_choose_36 rfl (fun h => ?_) (fun h => ?_)
    · have K := K.1 h
      refine mG_iincc (lv' := [.ref 43, .long x1, .retAddr 0, .int (x3 + (1 : Int32)), .int v1]) C dX0_choose_50 rfl ic1 (by decide) rfl ?_
      refine mG_goto (tgt := 12) C dX0_choose_53 rfl ?_
      exact mG_holes [4] rfl K
    · have K := K.2 h
      refine mG_aload_n C dX0_choose_39 rfl rfl ?_
      refine mG_iload C dX0_choose_40 rfl ?_
      refine mG_putI C dX0_choose_42 fp_168 sh43 rfl ?_
      refine mG_aload_n C dX0_choose_45 rfl rfl ?_
      refine mG_iload_n C dX0_choose_46 rfl rfl ?_
      refine mG_putI C dX0_choose_47 fp_166 sh43 rfl ?_
      refine mG_iincc (lv' := [.ref 43, .long x1, .retAddr 0, .int (x3 + (1 : Int32)), .int v1]) C dX0_choose_50 rfl ic1 (by decide) rfl ?_
      refine mG_goto (tgt := 12) C dX0_choose_53 rfl ?_
      exact mG_holes [4] rfl K

set_option maxRecDepth 20000 in
set_option maxHeartbeats 4000000 in
theorem vX0_winOf_0 {X : mX} {E : mEnv} {Qm : Option Value → mW → Prop} (C : mCtx X E MX0_winOf) (F : mFin X E MX0_winOf Qm) {w : mW}  (p0 : Int32) (p1 : Int32)
    (K : mG X E MX0_winOf 5 [.ref 43, .int p0, .int p1, .int (0 : Int32), .int (0 : Int32)] [] w) :
    mG X E MX0_winOf 0 [.ref 43, .int p0, .int p1, .retAddr 0, .retAddr 0] [] w := by
  refine mG_iconst C dX0_winOf_0 ic0 ?_
  refine mG_istore_n (lv' := [.ref 43, .int p0, .int p1, .int (0 : Int32), .retAddr 0]) C dX0_winOf_1 rfl (by decide) rfl ?_
  refine mG_iconst C dX0_winOf_2 ic0 ?_
  refine mG_istore (lv' := [.ref 43, .int p0, .int p1, .int (0 : Int32), .int (0 : Int32)]) C dX0_winOf_3 (by decide) rfl ?_
  exact K

set_option maxRecDepth 20000 in
set_option maxHeartbeats 4000000 in
theorem vX0_winOf_5 {X : mX} {E : mEnv} {Qm : Option Value → mW → Prop} (C : mCtx X E MX0_winOf) (F : mFin X E MX0_winOf Qm) {w : mW}  (x1 : Int32) (x2 : Int32) (x3 : Int32) (x4 : Int32)
    (K : ((w.1 43 0) ≤ x4 →
    (Qm (some (.int x3)) w)) ∧ (¬ (w.1 43 0) ≤ x4 →
    ((¬ ((x1 >>> (x4 &&& 31)) &&& (1 : Int32)) = (1 : Int32) →
    (mG X E MX0_winOf 5 [.ref 43, .int x1, .int x2, .int x3, .int (x4 + (1 : Int32))] [] w)) ∧ (((x1 >>> (x4 &&& 31)) &&& (1 : Int32)) = (1 : Int32) →
    (vp_in x4 5 ∧
    (vp_in x4 5 ∧
    (mG X E MX0_winOf 5 [.ref 43, .int x1, .int x2, .int (x3 + (((100 : Int32) * ((x2 >>> ((w.1 44 x4.toNatClampNeg) &&& 31)) &&& (1 : Int32))) - (w.1 45 x4.toNatClampNeg))), .int (x4 + (1 : Int32))] [] w))))))) :
    mG X E MX0_winOf 5 [.ref 43, .int x1, .int x2, .int x3, .int x4] [] w := by
  refine mG_iload C dX0_winOf_5 rfl ?_
  refine mG_aload_n C dX0_winOf_7 rfl rfl ?_
  refine mG_getI C dX0_winOf_8 fl_162 sh43 rfl ?_
  refine mG_icmp_ge (tgt := 55) C dX0_winOf_11 rfl (fun h => ?_) (fun h => ?_)
  · have K := K.1 h
    refine mG_iload_n C dX0_winOf_55 rfl rfl ?_
    exact mG_iret C F dX0_winOf_56 rfl rfl K
  · have K := K.2 h
    refine mG_iload_n C dX0_winOf_14 rfl rfl ?_
    refine mG_iload C dX0_winOf_15 rfl ?_
    refine mG_ishr C dX0_winOf_17 ?_
    refine mG_iconst C dX0_winOf_18 ic1 ?_
    refine mG_iand C dX0_winOf_19 ?_
    refine mG_iconst C dX0_winOf_20 ic1 ?_
    refine mG_icmp_ne (tgt := 49) C dX0_winOf_21 rfl (fun h => ?_) (fun h => ?_)
    · have K := K.1 h
      refine mG_iincc (lv' := [.ref 43, .int x1, .int x2, .int x3, .int (x4 + (1 : Int32))]) C dX0_winOf_49 rfl ic1 (by decide) rfl ?_
      refine mG_goto (tgt := 5) C dX0_winOf_52 rfl ?_
      exact K
    · have K := K.2 h
      refine mG_iload_n C dX0_winOf_24 rfl rfl ?_
      refine mG_bipush C dX0_winOf_25 bp100 ?_
      refine mG_iload_n C dX0_winOf_27 rfl rfl ?_
      refine mG_aload_n C dX0_winOf_28 rfl rfl ?_
      refine mG_getR C dX0_winOf_29 fl_164 sh43 rfl ?_
      refine mG_iload C dX0_winOf_32 rfl ?_
      obtain ⟨h1, K⟩ := K
      refine mG_iald C dX0_winOf_34 sh44 h1 ?_
      refine mG_ishr C dX0_winOf_35 ?_
      refine mG_iconst C dX0_winOf_36 ic1 ?_
      refine mG_iand C dX0_winOf_37 ?_
      refine mG_imul C dX0_winOf_38 ?_
      refine mG_aload_n C dX0_winOf_39 rfl rfl ?_
      refine mG_getR C dX0_winOf_40 fl_165 sh43 rfl ?_
      refine mG_iload C dX0_winOf_43 rfl ?_
      obtain ⟨h2, K⟩ := K
      refine mG_iald C dX0_winOf_45 sh45 h2 ?_
      refine mG_isub C dX0_winOf_46 ?_
      refine mG_iadd C dX0_winOf_47 ?_
      refine mG_istore_n (lv' := [.ref 43, .int x1, .int x2, .int (x3 + (((100 : Int32) * ((x2 >>> ((w.1 44 x4.toNatClampNeg) &&& 31)) &&& (1 : Int32))) - (w.1 45 x4.toNatClampNeg))), .int x4]) C dX0_winOf_48 rfl (by decide) rfl ?_
      refine mG_iincc (lv' := [.ref 43, .int x1, .int x2, .int (x3 + (((100 : Int32) * ((x2 >>> ((w.1 44 x4.toNatClampNeg) &&& 31)) &&& (1 : Int32))) - (w.1 45 x4.toNatClampNeg))), .int (x4 + (1 : Int32))]) C dX0_winOf_49 rfl ic1 (by decide) rfl ?_
      refine mG_goto (tgt := 5) C dX0_winOf_52 rfl ?_
      exact K

set_option maxRecDepth 20000 in
set_option maxHeartbeats 4000000 in
theorem vX0_worstOf_0 {X : mX} {E : mEnv} {Qm : Option Value → mW → Prop} (C : mCtx X E MX0_worstOf) (F : mFin X E MX0_worstOf Qm) {w : mW}  (p0 : Int32) (p1 : Int64)
    (K : mG X E MX0_worstOf 8 [.ref 43, .int p0, .long p1, .retAddr 0, .int (500 : Int32), .int (0 : Int32)] [] w) :
    mG X E MX0_worstOf 0 [.ref 43, .int p0, .long p1, .retAddr 0, .retAddr 0, .retAddr 0] [] w := by
  refine mG_sipush C dX0_worstOf_0 sp500 ?_
  refine mG_istore (lv' := [.ref 43, .int p0, .long p1, .retAddr 0, .int (500 : Int32), .retAddr 0]) C dX0_worstOf_3 (by decide) rfl ?_
  refine mG_iconst C dX0_worstOf_5 ic0 ?_
  refine mG_istore (lv' := [.ref 43, .int p0, .long p1, .retAddr 0, .int (500 : Int32), .int (0 : Int32)]) C dX0_worstOf_6 (by decide) rfl ?_
  exact K

set_option maxRecDepth 20000 in
set_option maxHeartbeats 4000000 in
theorem vX0_worstOf_8 {X : mX} {E : mEnv} {Qm : Option Value → mW → Prop} (C : mCtx X E MX0_worstOf) (F : mFin X E MX0_worstOf Qm) {w : mW}  (x1 : Int32) (x2 : Int64) (x4 : Int32) (x5 : Int32)
    (K : ((64 : Int32) ≤ x5 →
    (Qm (some (.int x4)) w)) ∧ (¬ (64 : Int32) ≤ x5 →
    ((¬ (lg_cmp ((((x2).toUInt64 >>> ((x5).toInt64.toUInt64 &&& Int64.toUInt64 63)).toInt64) &&& (1 : Int64)) (1 : Int64)) = 0 →
    (mG X E MX0_worstOf 8 [.ref 43, .int x1, .long x2, .retAddr 0, .int x4, .int (x5 + (1 : Int32))] [] w)) ∧ ((lg_cmp ((((x2).toUInt64 >>> ((x5).toInt64.toUInt64 &&& Int64.toUInt64 63)).toInt64) &&& (1 : Int64)) (1 : Int64)) = 0 →
    (mMi E MX0_winOf [.ref 43, .int x1, .int x5] w (fun v1 u1 =>
    (mG X E MX0_worstOf 8 [.ref 43, .int x1, .long x2, .retAddr 0, .int (if v1 < x4 then v1 else x4), .int (x5 + (1 : Int32))] [] u1))))))) :
    mG X E MX0_worstOf 8 [.ref 43, .int x1, .long x2, .retAddr 0, .int x4, .int x5] [] w := by
  refine mG_iload C dX0_worstOf_8 rfl ?_
  refine mG_bipush C dX0_worstOf_10 bp64 ?_
  refine mG_icmp_ge (tgt := 46) C dX0_worstOf_12 rfl (fun h => ?_) (fun h => ?_)
  · have K := K.1 h
    refine mG_iload C dX0_worstOf_46 rfl ?_
    exact mG_iret C F dX0_worstOf_48 rfl rfl K
  · have K := K.2 h
    refine mG_lload_n C dX0_worstOf_15 rfl rfl ?_
    refine mG_iload C dX0_worstOf_16 rfl ?_
    refine mG_lushr C dX0_worstOf_18 ?_
    refine mG_lconst (v := 1) C dX0_worstOf_19 (by decide) ?_
    refine mG_land C dX0_worstOf_20 ?_
    refine mG_lconst (v := 1) C dX0_worstOf_21 (by decide) ?_
    refine mG_lcmp C dX0_worstOf_22 ?_
    refine mG_if_ne (tgt := 40) C dX0_worstOf_23 rfl (fun h => ?_) (fun h => ?_)
    · have K := K.1 h
      refine mG_iincc (lv' := [.ref 43, .int x1, .long x2, .retAddr 0, .int x4, .int (x5 + (1 : Int32))]) C dX0_worstOf_40 rfl ic1 (by decide) rfl ?_
      refine mG_goto (tgt := 8) C dX0_worstOf_43 rfl ?_
      exact K
    · have K := K.2 h
      refine mG_iload C dX0_worstOf_26 rfl ?_
      refine mG_aload_n C dX0_worstOf_28 rfl rfl ?_
      refine mG_iload_n C dX0_worstOf_29 rfl rfl ?_
      refine mG_iload C dX0_worstOf_30 rfl ?_
      refine mG_Vi (Z := MX0_winOf) (as := [.int x1, .int x5]) (rest := [.int x4]) C dX0_worstOf_32 lk_771 zX0_winOf ⟨Nat.le_of_ble_eq_true rfl, Nat.le_of_ble_eq_true rfl⟩ sh43 rfl rfl (Nat.le_of_ble_eq_true rfl) rfl K (fun v1 u1 K => ?_)
      refine mG_mmin C dX0_worstOf_35 lk_775 ⟨Nat.le_of_ble_eq_true rfl, Nat.le_of_ble_eq_true rfl⟩ ?_
      refine mG_istore (lv' := [.ref 43, .int x1, .long x2, .retAddr 0, .int (if v1 < x4 then v1 else x4), .int x5]) C dX0_worstOf_38 (by decide) rfl ?_
      refine mG_iincc (lv' := [.ref 43, .int x1, .long x2, .retAddr 0, .int (if v1 < x4 then v1 else x4), .int (x5 + (1 : Int32))]) C dX0_worstOf_40 rfl ic1 (by decide) rfl ?_
      refine mG_goto (tgt := 8) C dX0_worstOf_43 rfl ?_
      exact K

set_option maxRecDepth 20000 in
set_option maxHeartbeats 4000000 in
theorem vX1_add_0 {X : mX} {E : mEnv} {Qm : Option Value → mW → Prop} (C : mCtx X E MX1_add) (F : mFin X E MX1_add Qm) {w : mW} {a0 : Nat} (ha0 : mSh[a0]? = some (.inl (0, 6, [])))
    (K : (¬ (w.1 a0 0) = 0 →
    ((¬ (w.1 a0 0) = (8 : Int32) →
    ((¬ (w.1 a0 0) = (7 : Int32) →
    (mMi E MX5_isOfFact [.int (w.1 a0 0)] w (fun v1 u1 =>
    ((v1 = 0 →
    (mMv E MX1_addOne [.ref 1, .int ((w.1 a0 0) - (3 : Int32)), .ref a0] u1 (fun u2 =>
    (Qm none u2)))) ∧ (¬ v1 = 0 →
    (mMv E MX1_addFact [.ref 1, .int ((w.1 a0 0) - (1 : Int32)), .int (u1.1 a0 1), .int (u1.1 a0 2)] u1 (fun u3 =>
    (Qm none u3)))))))) ∧ ((w.1 a0 0) = (7 : Int32) →
    (mMv E MX1_addCause [.ref 1, .ref a0] w (fun u4 =>
    (Qm none u4)))))) ∧ ((w.1 a0 0) = (8 : Int32) →
    (Qm none (mPI w 1 2 (0 : Int32)))))) ∧ ((w.1 a0 0) = 0 →
    (mMv E MX1_clear [.ref 1] w (fun u5 =>
    (Qm none u5))))) :
    mG X E MX1_add 0 [.ref 1, .ref a0, .retAddr 0] [] w := by
  refine mG_aload_n C dX1_add_0 rfl rfl ?_
  refine mG_iconst C dX1_add_1 ic0 ?_
  refine mG_ialdv C dX1_add_2 ha0 (by unfold vp_in; decide) (by first | rfl | simp [mPI, mPL]) ?_
  refine mG_istore_n (lv' := [.ref 1, .ref a0, .int (w.1 a0 0)]) C dX1_add_3 rfl (by decide) rfl ?_
  refine mG_iload_n C dX1_add_4 rfl rfl ?_
  refine mG_if_ne (tgt := 15) C dX1_add_5 rfl (fun h => ?_) (fun h => ?_)
  · have K := K.1 h
    refine mG_iload_n C dX1_add_15 rfl rfl ?_
    refine mG_bipush C dX1_add_16 bp8 ?_
    refine mG_icmp_ne (tgt := 29) C dX1_add_18 rfl (fun h => ?_) (fun h => ?_)
    · have K := K.1 h
      refine mG_iload_n C dX1_add_29 rfl rfl ?_
      refine mG_bipush C dX1_add_30 bp7 ?_
      refine mG_icmp_ne (tgt := 43) C dX1_add_32 rfl (fun h => ?_) (fun h => ?_)
      · have K := K.1 h
        refine mG_iload_n C dX1_add_43 rfl rfl ?_
        refine mG_Si (Z := MX5_isOfFact) (as := [.int (w.1 a0 0)]) (rest := []) C dX1_add_44 lk_449 zX5_isOfFact ⟨Nat.le_of_ble_eq_true rfl, Nat.le_of_ble_eq_true rfl⟩ rfl (Nat.le_of_ble_eq_true rfl) rfl K (fun v1 u1 K => ?_)
        refine mG_if_eq (tgt := 66) C dX1_add_47 rfl (fun h => ?_) (fun h => ?_)
        · have K := K.1 h
          refine mG_aload_n C dX1_add_66 rfl rfl ?_
          refine mG_iload_n C dX1_add_67 rfl rfl ?_
          refine mG_iconst C dX1_add_68 ic3 ?_
          refine mG_isub C dX1_add_69 ?_
          refine mG_aload_n C dX1_add_70 rfl rfl ?_
          refine mG_Vv (Z := MX1_addOne) (as := [.int ((w.1 a0 0) - (3 : Int32)), .ref a0]) (rest := []) C dX1_add_71 lk_454 zX1_addOne ⟨Nat.le_of_ble_eq_true rfl, Nat.le_of_ble_eq_true rfl⟩ sh1 rfl rfl (Nat.le_of_ble_eq_true rfl) rfl K (fun u2 K => ?_)
          exact mG_vret C F dX1_add_74 rfl K
        · have K := K.2 h
          refine mG_aload_n C dX1_add_50 rfl rfl ?_
          refine mG_iload_n C dX1_add_51 rfl rfl ?_
          refine mG_iconst C dX1_add_52 ic1 ?_
          refine mG_isub C dX1_add_53 ?_
          refine mG_aload_n C dX1_add_54 rfl rfl ?_
          refine mG_iconst C dX1_add_55 ic1 ?_
          refine mG_ialdv C dX1_add_56 ha0 (by unfold vp_in; decide) (by first | rfl | simp [mPI, mPL]) ?_
          refine mG_aload_n C dX1_add_57 rfl rfl ?_
          refine mG_iconst C dX1_add_58 ic2 ?_
          refine mG_ialdv C dX1_add_59 ha0 (by unfold vp_in; decide) (by first | rfl | simp [mPI, mPL]) ?_
          refine mG_Vv (Z := MX1_addFact) (as := [.int ((w.1 a0 0) - (1 : Int32)), .int (u1.1 a0 1), .int (u1.1 a0 2)]) (rest := []) C dX1_add_60 lk_450 zX1_addFact ⟨Nat.le_of_ble_eq_true rfl, Nat.le_of_ble_eq_true rfl⟩ sh1 rfl rfl (Nat.le_of_ble_eq_true rfl) rfl K (fun u3 K => ?_)
          refine mG_goto (tgt := 74) C dX1_add_63 rfl ?_
          exact mG_vret C F dX1_add_74 rfl K
      · have K := K.2 h
        refine mG_aload_n C dX1_add_35 rfl rfl ?_
        refine mG_aload_n C dX1_add_36 rfl rfl ?_
        refine mG_Vv (Z := MX1_addCause) (as := [.ref a0]) (rest := []) C dX1_add_37 lk_442 zX1_addCause ⟨Nat.le_of_ble_eq_true rfl, Nat.le_of_ble_eq_true rfl⟩ sh1 rfl rfl (Nat.le_of_ble_eq_true rfl) rfl K (fun u4 K => ?_)
        refine mG_goto (tgt := 74) C dX1_add_40 rfl ?_
        exact mG_vret C F dX1_add_74 rfl K
    · have K := K.2 h
      refine mG_aload_n C dX1_add_21 rfl rfl ?_
      refine mG_iconst C dX1_add_22 ic0 ?_
      refine mG_putI C dX1_add_23 fp_45 sh1 rfl ?_
      refine mG_goto (tgt := 74) C dX1_add_26 rfl ?_
      exact mG_vret C F dX1_add_74 rfl K
  · have K := K.2 h
    refine mG_aload_n C dX1_add_8 rfl rfl ?_
    refine mG_Vv (Z := MX1_clear) (as := []) (rest := []) C dX1_add_9 lk_438 zX1_clear ⟨Nat.le_of_ble_eq_true rfl, Nat.le_of_ble_eq_true rfl⟩ sh1 rfl rfl (Nat.le_of_ble_eq_true rfl) rfl K (fun u5 K => ?_)
    refine mG_goto (tgt := 74) C dX1_add_12 rfl ?_
    exact mG_vret C F dX1_add_74 rfl K

set_option maxRecDepth 20000 in
set_option maxHeartbeats 4000000 in
theorem vX1_addCause_0 {X : mX} {E : mEnv} {Qm : Option Value → mW → Prop} (C : mCtx X E MX1_addCause) (F : mFin X E MX1_addCause Qm) {w : mW} {a0 : Nat} (ha0 : mSh[a0]? = some (.inl (0, 6, [])))
    (K : ((w.1 1 2) < (6 : Int32) →
    (vp_in (w.1 1 2) 6 ∧
    ((¬ (1 : Int32) < 0 ∧ ¬ (0 : Int32) < 0 ∧ ¬ (4 : Int32) < 0 ∧ (1 : Int32).toNatClampNeg + (4 : Int32).toNatClampNeg ≤ 6 ∧ (0 : Int32).toNatClampNeg + (4 : Int32).toNatClampNeg ≤ 4) ∧
    (∀ w1 : mW, w1 = (mCp w a0 (16 + (w.1 1 2).toNatClampNeg) (1 : Int32).toNatClampNeg (0 : Int32).toNatClampNeg (4 : Int32).toNatClampNeg) →
    (Qm none (mPI w1 1 2 ((w1.1 1 2) + (1 : Int32)))))))) ∧ (¬ (w.1 1 2) < (6 : Int32) →
    (Qm none w))) :
    mG X E MX1_addCause 0 [.ref 1, .ref a0] [] w := by
  refine mG_aload_n C dX1_addCause_0 rfl rfl ?_
  refine mG_getI C dX1_addCause_1 fl_45 sh1 rfl ?_
  refine mG_bipush C dX1_addCause_4 bp6 ?_
  refine mG_icmp_lt (tgt := 10) C dX1_addCause_6 rfl (fun h => ?_) (fun h => ?_)
  · have K := K.1 h
    refine mG_aload_n C dX1_addCause_10 rfl rfl ?_
    refine mG_iconst C dX1_addCause_11 ic1 ?_
    refine mG_aload_n C dX1_addCause_12 rfl rfl ?_
    refine mG_getR C dX1_addCause_13 fl_55 sh1 rfl ?_
    refine mG_aload_n C dX1_addCause_16 rfl rfl ?_
    refine mG_getI C dX1_addCause_17 fl_45 sh1 rfl ?_
    obtain ⟨h1, K⟩ := K
    refine mG_aald (b := 16) C dX1_addCause_20 sh15 h1 rs16 ?_
    refine mG_iconst C dX1_addCause_21 ic0 ?_
    refine mG_iconst C dX1_addCause_22 ic4 ?_
    obtain ⟨h9, K⟩ := K
    refine mG_copy C dX1_addCause_23 lk_446 ha0 (shr16 h1) h9 (by decide) ?_
    refine mG_nm (fun w1 ew1 => ?_)
    have K := K w1 ew1
    refine mG_aload_n C dX1_addCause_26 rfl rfl ?_
    refine mG_dup C dX1_addCause_27 rfl ?_
    refine mG_getI C dX1_addCause_28 fl_45 sh1 rfl ?_
    refine mG_iconst C dX1_addCause_31 ic1 ?_
    refine mG_iadd C dX1_addCause_32 ?_
    refine mG_putI C dX1_addCause_33 fp_45 sh1 rfl ?_
    exact mG_vret C F dX1_addCause_36 rfl K
  · have K := K.2 h
    exact mG_vret C F dX1_addCause_9 rfl K

set_option maxRecDepth 20000 in
set_option maxHeartbeats 4000000 in
theorem vX1_addFact_0 {X : mX} {E : mEnv} {Qm : Option Value → mW → Prop} (C : mCtx X E MX1_addFact) (F : mFin X E MX1_addFact Qm) {w : mW}  (p0 : Int32) (p1 : Int32) (p2 : Int32)
    (K : ((w.1 1 0) < (6 : Int32) →
    (vp_in (w.1 1 0) 6 ∧
    (∀ w1 : mW, w1 = (mPI w (3 + (w.1 1 0).toNatClampNeg) 0 p0) →
    (vp_in (w1.1 1 0) 6 ∧
    (∀ w2 : mW, w2 = (mPI w1 (3 + (w1.1 1 0).toNatClampNeg) 1 p1) →
    (Qm none (mPI (mPI w2 1 3 ((w2.1 1 3) ||| (p2 <<< ((w2.1 1 0) &&& 31)))) 1 0 ((w2.1 1 0) + (1 : Int32))))))))) ∧ (¬ (w.1 1 0) < (6 : Int32) →
    (Qm none w))) :
    mG X E MX1_addFact 0 [.ref 1, .int p0, .int p1, .int p2] [] w := by
  refine mG_aload_n C dX1_addFact_0 rfl rfl ?_
  refine mG_getI C dX1_addFact_1 fl_34 sh1 rfl ?_
  refine mG_bipush C dX1_addFact_4 bp6 ?_
  refine mG_icmp_lt (tgt := 10) C dX1_addFact_6 rfl (fun h => ?_) (fun h => ?_)
  · have K := K.1 h
    refine mG_aload_n C dX1_addFact_10 rfl rfl ?_
    refine mG_getR C dX1_addFact_11 fl_51 sh1 rfl ?_
    refine mG_aload_n C dX1_addFact_14 rfl rfl ?_
    refine mG_getI C dX1_addFact_15 fl_34 sh1 rfl ?_
    obtain ⟨h1, K⟩ := K
    refine mG_aald (b := 3) C dX1_addFact_18 sh2 h1 rs3 ?_
    refine mG_iconst C dX1_addFact_19 ic0 ?_
    refine mG_iload_n C dX1_addFact_20 rfl rfl ?_
    refine mG_iastv C dX1_addFact_21 (shr3 h1) (by unfold vp_in; decide) (k := 0) rfl ?_
    refine mG_nm (fun w1 ew1 => ?_)
    have K := K w1 ew1
    refine mG_aload_n C dX1_addFact_22 rfl rfl ?_
    refine mG_getR C dX1_addFact_23 fl_51 sh1 rfl ?_
    refine mG_aload_n C dX1_addFact_26 rfl rfl ?_
    refine mG_getI C dX1_addFact_27 fl_34 sh1 rfl ?_
    obtain ⟨h2, K⟩ := K
    refine mG_aald (b := 3) C dX1_addFact_30 sh2 h2 rs3 ?_
    refine mG_iconst C dX1_addFact_31 ic1 ?_
    refine mG_iload_n C dX1_addFact_32 rfl rfl ?_
    refine mG_iastv C dX1_addFact_33 (shr3 h2) (by unfold vp_in; decide) (k := 1) rfl ?_
    refine mG_nm (fun w2 ew2 => ?_)
    have K := K w2 ew2
    refine mG_aload_n C dX1_addFact_34 rfl rfl ?_
    refine mG_dup C dX1_addFact_35 rfl ?_
    refine mG_getI C dX1_addFact_36 fl_48 sh1 rfl ?_
    refine mG_iload_n C dX1_addFact_39 rfl rfl ?_
    refine mG_aload_n C dX1_addFact_40 rfl rfl ?_
    refine mG_getI C dX1_addFact_41 fl_34 sh1 rfl ?_
    refine mG_ishl C dX1_addFact_44 ?_
    refine mG_ior C dX1_addFact_45 ?_
    refine mG_putI C dX1_addFact_46 fp_48 sh1 rfl ?_
    refine mG_aload_n C dX1_addFact_49 rfl rfl ?_
    refine mG_dup C dX1_addFact_50 rfl ?_
    refine mG_getIv C dX1_addFact_51 fl_34 sh1 rfl (by first | rfl | simp [mPI, mPL]) ?_
    refine mG_iconst C dX1_addFact_54 ic1 ?_
    refine mG_iadd C dX1_addFact_55 ?_
    refine mG_putI C dX1_addFact_56 fp_34 sh1 rfl ?_
    exact mG_vret C F dX1_addFact_59 rfl K
  · have K := K.2 h
    exact mG_vret C F dX1_addFact_9 rfl K

set_option maxRecDepth 20000 in
set_option maxHeartbeats 4000000 in
theorem vX1_addOne_0 {X : mX} {E : mEnv} {Qm : Option Value → mW → Prop} (C : mCtx X E MX1_addOne) (F : mFin X E MX1_addOne Qm) {w : mW} {a1 : Nat} (ha1 : mSh[a1]? = some (.inl (0, 6, []))) (p0 : Int32)
    (K : ((w.1 1 1) < (5 : Int32) →
    (vp_in (w.1 1 1) 5 ∧
    (∀ w1 : mW, w1 = (mPI w (10 + (w.1 1 1).toNatClampNeg) 0 p0) →
    ((¬ (1 : Int32) < 0 ∧ ¬ (1 : Int32) < 0 ∧ ¬ (4 : Int32) < 0 ∧ (1 : Int32).toNatClampNeg + (4 : Int32).toNatClampNeg ≤ 6 ∧ (1 : Int32).toNatClampNeg + (4 : Int32).toNatClampNeg ≤ 6) ∧
    (∀ w2 : mW, w2 = (mCp w1 a1 (10 + (w.1 1 1).toNatClampNeg) (1 : Int32).toNatClampNeg (1 : Int32).toNatClampNeg (4 : Int32).toNatClampNeg) →
    ((¬ p0 = (2 : Int32) →
    (∀ w3 : mW, w3 = (mPI w2 (10 + (w.1 1 1).toNatClampNeg) 5 (0 : Int32)) →
    ((¬ p0 = (3 : Int32) →
    (Qm none (mPI w3 1 1 ((w3.1 1 1) + (1 : Int32))))) ∧ (p0 = (3 : Int32) →
    (Qm none (mPI (mPI w3 1 4 ((w3.1 1 4) ||| ((1 : Int32) <<< ((w3.1 1 1) &&& 31)))) 1 1 ((w3.1 1 1) + (1 : Int32)))))))) ∧ (p0 = (2 : Int32) →
    (∀ w4 : mW, w4 = (mPI w2 (10 + (w.1 1 1).toNatClampNeg) 5 (w2.1 a1 5)) →
    ((¬ p0 = (3 : Int32) →
    (Qm none (mPI w4 1 1 ((w4.1 1 1) + (1 : Int32))))) ∧ (p0 = (3 : Int32) →
    (Qm none (mPI (mPI w4 1 4 ((w4.1 1 4) ||| ((1 : Int32) <<< ((w4.1 1 1) &&& 31)))) 1 1 ((w4.1 1 1) + (1 : Int32)))))))))))))) ∧ (¬ (w.1 1 1) < (5 : Int32) →
    (Qm none w))) :
    mG X E MX1_addOne 0 [.ref 1, .int p0, .ref a1, .retAddr 0] [] w := by
  refine mG_aload_n C dX1_addOne_0 rfl rfl ?_
  refine mG_getI C dX1_addOne_1 fl_41 sh1 rfl ?_
  refine mG_iconst C dX1_addOne_4 ic5 ?_
  refine mG_icmp_lt (tgt := 9) C dX1_addOne_5 rfl (fun h => ?_) (fun h => ?_)
  · have K := K.1 h
    refine mG_aload_n C dX1_addOne_9 rfl rfl ?_
    refine mG_getR C dX1_addOne_10 fl_53 sh1 rfl ?_
    refine mG_aload_n C dX1_addOne_13 rfl rfl ?_
    refine mG_getI C dX1_addOne_14 fl_41 sh1 rfl ?_
    obtain ⟨h1, K⟩ := K
    refine mG_aald (b := 10) C dX1_addOne_17 sh9 h1 rs10 ?_
    refine mG_astore_n (lv' := [.ref 1, .int p0, .ref a1, .ref (10 + (w.1 1 1).toNatClampNeg)]) C dX1_addOne_18 rfl (by decide) rfl ?_
    refine mG_aload_n C dX1_addOne_19 rfl rfl ?_
    refine mG_iconst C dX1_addOne_20 ic0 ?_
    refine mG_iload_n C dX1_addOne_21 rfl rfl ?_
    refine mG_iastv C dX1_addOne_22 (shr10 h1) (by unfold vp_in; decide) (k := 0) rfl ?_
    refine mG_nm (fun w1 ew1 => ?_)
    have K := K w1 ew1
    refine mG_aload_n C dX1_addOne_23 rfl rfl ?_
    refine mG_iconst C dX1_addOne_24 ic1 ?_
    refine mG_aload_n C dX1_addOne_25 rfl rfl ?_
    refine mG_iconst C dX1_addOne_26 ic1 ?_
    refine mG_iconst C dX1_addOne_27 ic4 ?_
    obtain ⟨h9, K⟩ := K
    refine mG_copy C dX1_addOne_28 lk_446 ha1 (shr10 h1) h9 (by decide) ?_
    refine mG_nm (fun w2 ew2 => ?_)
    have K := K w2 ew2
    refine mG_aload_n C dX1_addOne_31 rfl rfl ?_
    refine mG_iconst C dX1_addOne_32 ic5 ?_
    refine mG_iload_n C dX1_addOne_33 rfl rfl ?_
    refine mG_iconst C dX1_addOne_34 ic2 ?_
    refine mG_icmp_ne (tgt := 44) C dX1_addOne_35 rfl (fun h => ?_) (fun h => ?_)
    · have K := K.1 h
      refine mG_iconst C dX1_addOne_44 ic0 ?_
      refine mG_iastv C dX1_addOne_45 (shr10 h1) (by unfold vp_in; decide) (k := 5) rfl ?_
      refine mG_nm (fun w3 ew3 => ?_)
      have K := K w3 ew3
      refine mG_iload_n C dX1_addOne_46 rfl rfl ?_
      refine mG_iconst C dX1_addOne_47 ic3 ?_
      refine mG_icmp_ne (tgt := 66) C dX1_addOne_48 rfl (fun h => ?_) (fun h => ?_)
      · have K := K.1 h
        refine mG_aload_n C dX1_addOne_66 rfl rfl ?_
        refine mG_dup C dX1_addOne_67 rfl ?_
        refine mG_getI C dX1_addOne_68 fl_41 sh1 rfl ?_
        refine mG_iconst C dX1_addOne_71 ic1 ?_
        refine mG_iadd C dX1_addOne_72 ?_
        refine mG_putI C dX1_addOne_73 fp_41 sh1 rfl ?_
        exact mG_vret C F dX1_addOne_76 rfl K
      · have K := K.2 h
        refine mG_aload_n C dX1_addOne_51 rfl rfl ?_
        refine mG_dup C dX1_addOne_52 rfl ?_
        refine mG_getI C dX1_addOne_53 fl_50 sh1 rfl ?_
        refine mG_iconst C dX1_addOne_56 ic1 ?_
        refine mG_aload_n C dX1_addOne_57 rfl rfl ?_
        refine mG_getI C dX1_addOne_58 fl_41 sh1 rfl ?_
        refine mG_ishl C dX1_addOne_61 ?_
        refine mG_ior C dX1_addOne_62 ?_
        refine mG_putI C dX1_addOne_63 fp_50 sh1 rfl ?_
        refine mG_aload_n C dX1_addOne_66 rfl rfl ?_
        refine mG_dup C dX1_addOne_67 rfl ?_
        refine mG_getIv C dX1_addOne_68 fl_41 sh1 rfl (by first | rfl | simp [mPI, mPL]) ?_
        refine mG_iconst C dX1_addOne_71 ic1 ?_
        refine mG_iadd C dX1_addOne_72 ?_
        refine mG_putI C dX1_addOne_73 fp_41 sh1 rfl ?_
        exact mG_vret C F dX1_addOne_76 rfl K
    · have K := K.2 h
      refine mG_aload_n C dX1_addOne_38 rfl rfl ?_
      refine mG_iconst C dX1_addOne_39 ic5 ?_
      refine mG_ialdv C dX1_addOne_40 ha1 (by unfold vp_in; decide) (by first | rfl | simp [mPI, mPL]) ?_
      refine mG_goto (tgt := 45) C dX1_addOne_41 rfl ?_
      refine mG_iastv C dX1_addOne_45 (shr10 h1) (by unfold vp_in; decide) (k := 5) rfl ?_
      refine mG_nm (fun w4 ew4 => ?_)
      have K := K w4 ew4
      refine mG_iload_n C dX1_addOne_46 rfl rfl ?_
      refine mG_iconst C dX1_addOne_47 ic3 ?_
      refine mG_icmp_ne (tgt := 66) C dX1_addOne_48 rfl (fun h => ?_) (fun h => ?_)
      · have K := K.1 h
        refine mG_aload_n C dX1_addOne_66 rfl rfl ?_
        refine mG_dup C dX1_addOne_67 rfl ?_
        refine mG_getI C dX1_addOne_68 fl_41 sh1 rfl ?_
        refine mG_iconst C dX1_addOne_71 ic1 ?_
        refine mG_iadd C dX1_addOne_72 ?_
        refine mG_putI C dX1_addOne_73 fp_41 sh1 rfl ?_
        exact mG_vret C F dX1_addOne_76 rfl K
      · have K := K.2 h
        refine mG_aload_n C dX1_addOne_51 rfl rfl ?_
        refine mG_dup C dX1_addOne_52 rfl ?_
        refine mG_getI C dX1_addOne_53 fl_50 sh1 rfl ?_
        refine mG_iconst C dX1_addOne_56 ic1 ?_
        refine mG_aload_n C dX1_addOne_57 rfl rfl ?_
        refine mG_getI C dX1_addOne_58 fl_41 sh1 rfl ?_
        refine mG_ishl C dX1_addOne_61 ?_
        refine mG_ior C dX1_addOne_62 ?_
        refine mG_putI C dX1_addOne_63 fp_50 sh1 rfl ?_
        refine mG_aload_n C dX1_addOne_66 rfl rfl ?_
        refine mG_dup C dX1_addOne_67 rfl ?_
        refine mG_getIv C dX1_addOne_68 fl_41 sh1 rfl (by first | rfl | simp [mPI, mPL]) ?_
        refine mG_iconst C dX1_addOne_71 ic1 ?_
        refine mG_iadd C dX1_addOne_72 ?_
        refine mG_putI C dX1_addOne_73 fp_41 sh1 rfl ?_
        exact mG_vret C F dX1_addOne_76 rfl K
  · have K := K.2 h
    exact mG_vret C F dX1_addOne_8 rfl K

set_option maxRecDepth 20000 in
set_option maxHeartbeats 4000000 in
theorem vX1_become_0 {X : mX} {E : mEnv} {Qm : Option Value → mW → Prop} (C : mCtx X E MX1_become) (F : mFin X E MX1_become Qm) {w : mW}  (p0 : Int32) (p1 : Int32) (p2 : Int32)
    (K : Qm (some (.int ((p0 &&& (((1 : Int32) <<< (p1 &&& 31)) ^^^ (-1 : Int32))) ||| (p2 <<< (p1 &&& 31))))) w) :
    mG X E MX1_become 0 [.int p0, .int p1, .int p2] [] w := by
  refine mG_iload_n C dX1_become_0 rfl rfl ?_
  refine mG_iconst C dX1_become_1 ic1 ?_
  refine mG_iload_n C dX1_become_2 rfl rfl ?_
  refine mG_ishl C dX1_become_3 ?_
  refine mG_iconst C dX1_become_4 icm1 ?_
  refine mG_ixor C dX1_become_5 ?_
  refine mG_iand C dX1_become_6 ?_
  refine mG_iload_n C dX1_become_7 rfl rfl ?_
  refine mG_iload_n C dX1_become_8 rfl rfl ?_
  refine mG_ishl C dX1_become_9 ?_
  refine mG_ior C dX1_become_10 ?_
  exact mG_iret C F dX1_become_11 rfl rfl K

set_option maxRecDepth 20000 in
set_option maxHeartbeats 4000000 in
theorem vX1_believesHer_0 {X : mX} {E : mEnv} {Qm : Option Value → mW → Prop} (C : mCtx X E MX1_believesHer) (F : mFin X E MX1_believesHer Qm) {w : mW}  (p0 : Int32)
    (K : vp_in p0 5 ∧
    (((w.1 (10 + p0.toNatClampNeg) 0) = (1 : Int32) →
    (Qm (some (.int (1 : Int32))) w)) ∧ (¬ (w.1 (10 + p0.toNatClampNeg) 0) = (1 : Int32) →
    ((¬ (w.1 (10 + p0.toNatClampNeg) 0) = (2 : Int32) →
    (Qm (some (.int (0 : Int32))) w)) ∧ ((w.1 (10 + p0.toNatClampNeg) 0) = (2 : Int32) →
    ((¬ ((w.1 (10 + p0.toNatClampNeg) 5) - (w.1 (10 + p0.toNatClampNeg) 5) / (2 : Int32) * (2 : Int32)) = (1 : Int32) →
    (Qm (some (.int (0 : Int32))) w)) ∧ (((w.1 (10 + p0.toNatClampNeg) 5) - (w.1 (10 + p0.toNatClampNeg) 5) / (2 : Int32) * (2 : Int32)) = (1 : Int32) →
    (Qm (some (.int (1 : Int32))) w)))))))) :
    mG X E MX1_believesHer 0 [.ref 1, .int p0, .retAddr 0] [] w := by
  refine mG_aload_n C dX1_believesHer_0 rfl rfl ?_
  refine mG_getR C dX1_believesHer_1 fl_53 sh1 rfl ?_
  refine mG_iload_n C dX1_believesHer_4 rfl rfl ?_
  obtain ⟨h1, K⟩ := K
  refine mG_aald (b := 10) C dX1_believesHer_5 sh9 h1 rs10 ?_
  refine mG_astore_n (lv' := [.ref 1, .int p0, .ref (10 + p0.toNatClampNeg)]) C dX1_believesHer_6 rfl (by decide) rfl ?_
  refine mG_aload_n C dX1_believesHer_7 rfl rfl ?_
  refine mG_iconst C dX1_believesHer_8 ic0 ?_
  refine mG_ialdv C dX1_believesHer_9 (shr10 h1) (by unfold vp_in; decide) (by first | rfl | simp [mPI, mPL]) ?_
  refine mG_iconst C dX1_believesHer_10 ic1 ?_
  refine mG_icmp_eq (tgt := 30) C dX1_believesHer_11 rfl (fun h => ?_) (fun h => ?_)
  · have K := K.1 h
    refine mG_iconst C dX1_believesHer_30 ic1 ?_
    refine mG_goto (tgt := 35) C dX1_believesHer_31 rfl ?_
    exact mG_iret C F dX1_believesHer_35 rfl (by decide) K
  · have K := K.2 h
    refine mG_aload_n C dX1_believesHer_14 rfl rfl ?_
    refine mG_iconst C dX1_believesHer_15 ic0 ?_
    refine mG_ialdv C dX1_believesHer_16 (shr10 h1) (by unfold vp_in; decide) (by first | rfl | simp [mPI, mPL]) ?_
    refine mG_iconst C dX1_believesHer_17 ic2 ?_
    refine mG_icmp_ne (tgt := 34) C dX1_believesHer_18 rfl (fun h => ?_) (fun h => ?_)
    · have K := K.1 h
      refine mG_iconst C dX1_believesHer_34 ic0 ?_
      exact mG_iret C F dX1_believesHer_35 rfl (by decide) K
    · have K := K.2 h
      refine mG_aload_n C dX1_believesHer_21 rfl rfl ?_
      refine mG_iconst C dX1_believesHer_22 ic5 ?_
      refine mG_ialdv C dX1_believesHer_23 (shr10 h1) (by unfold vp_in; decide) (by first | rfl | simp [mPI, mPL]) ?_
      refine mG_iconst C dX1_believesHer_24 ic2 ?_
      refine mG_irem C dX1_believesHer_25 (by decide) ?_
      refine mG_iconst C dX1_believesHer_26 ic1 ?_
      refine mG_icmp_ne (tgt := 34) C dX1_believesHer_27 rfl (fun h => ?_) (fun h => ?_)
      · have K := K.1 h
        refine mG_iconst C dX1_believesHer_34 ic0 ?_
        exact mG_iret C F dX1_believesHer_35 rfl (by decide) K
      · have K := K.2 h
        refine mG_iconst C dX1_believesHer_30 ic1 ?_
        refine mG_goto (tgt := 35) C dX1_believesHer_31 rfl ?_
        exact mG_iret C F dX1_believesHer_35 rfl (by decide) K

set_option maxRecDepth 20000 in
set_option maxHeartbeats 4000000 in
theorem vX1_clear_0 {X : mX} {E : mEnv} {Qm : Option Value → mW → Prop} (C : mCtx X E MX1_clear) (F : mFin X E MX1_clear Qm) {w : mW} 
    (K : Qm none (mPI (mPI (mPI (mPI (mPI w 1 0 (0 : Int32)) 1 1 (0 : Int32)) 1 2 (0 : Int32)) 1 3 (0 : Int32)) 1 4 (0 : Int32))) :
    mG X E MX1_clear 0 [.ref 1] [] w := by
  refine mG_aload_n C dX1_clear_0 rfl rfl ?_
  refine mG_iconst C dX1_clear_1 ic0 ?_
  refine mG_putI C dX1_clear_2 fp_34 sh1 rfl ?_
  refine mG_aload_n C dX1_clear_5 rfl rfl ?_
  refine mG_iconst C dX1_clear_6 ic0 ?_
  refine mG_putI C dX1_clear_7 fp_41 sh1 rfl ?_
  refine mG_aload_n C dX1_clear_10 rfl rfl ?_
  refine mG_iconst C dX1_clear_11 ic0 ?_
  refine mG_putI C dX1_clear_12 fp_45 sh1 rfl ?_
  refine mG_aload_n C dX1_clear_15 rfl rfl ?_
  refine mG_iconst C dX1_clear_16 ic0 ?_
  refine mG_putI C dX1_clear_17 fp_48 sh1 rfl ?_
  refine mG_aload_n C dX1_clear_20 rfl rfl ?_
  refine mG_iconst C dX1_clear_21 ic0 ?_
  refine mG_putI C dX1_clear_22 fp_50 sh1 rfl ?_
  exact mG_vret C F dX1_clear_25 rfl K

set_option maxRecDepth 20000 in
set_option maxHeartbeats 4000000 in
theorem vX1_dawn_0 {X : mX} {E : mEnv} {Qm : Option Value → mW → Prop} (C : mCtx X E MX1_dawn) (F : mFin X E MX1_dawn Qm) {w : mW}  (p0 : Int32) (p1 : Int32)
    (K : mG X E MX1_dawn 5 [.ref 1, .retAddr 0, .int p1, .int p0, .int (0 : Int32), .retAddr 0] [] w) :
    mG X E MX1_dawn 0 [.ref 1, .int p0, .int p1, .retAddr 0, .retAddr 0, .retAddr 0] [] w := by
  refine mG_iload_n C dX1_dawn_0 rfl rfl ?_
  refine mG_istore_n (lv' := [.ref 1, .int p0, .int p1, .int p0, .retAddr 0, .retAddr 0]) C dX1_dawn_1 rfl (by decide) rfl ?_
  refine mG_iconst C dX1_dawn_2 ic0 ?_
  refine mG_istore (lv' := [.ref 1, .int p0, .int p1, .int p0, .int (0 : Int32), .retAddr 0]) C dX1_dawn_3 (by decide) rfl ?_
  exact mG_holes [1] rfl K

set_option maxRecDepth 20000 in
set_option maxHeartbeats 4000000 in
theorem vX1_dawn_5 {X : mX} {E : mEnv} {Qm : Option Value → mW → Prop} (C : mCtx X E MX1_dawn) (F : mFin X E MX1_dawn Qm) {w : mW}  (x2 : Int32) (x3 : Int32) (x4 : Int32)
    (K : ((w.1 1 1) ≤ x4 →
    (mG X E MX1_dawn 56 [.ref 1, .retAddr 0, .retAddr 0, .int x3, .int (0 : Int32), .retAddr 0] [] w)) ∧ (¬ (w.1 1 1) ≤ x4 →
    ((¬ ((x2 >>> (x4 &&& 31)) &&& (1 : Int32)) = (1 : Int32) →
    (mG X E MX1_dawn 5 [.ref 1, .retAddr 0, .int x2, .int x3, .int (x4 + (1 : Int32)), .retAddr 0] [] w)) ∧ (((x2 >>> (x4 &&& 31)) &&& (1 : Int32)) = (1 : Int32) →
    (vp_in x4 5 ∧
    (vp_in x4 5 ∧
    (mMi E MX1_become [.int x3, .int (w.1 (10 + x4.toNatClampNeg) 3), .int (w.1 (10 + x4.toNatClampNeg) 4)] w (fun v1 u1 =>
    (mG X E MX1_dawn 5 [.ref 1, .retAddr 0, .int x2, .int v1, .int (x4 + (1 : Int32)), .retAddr 0] [] u1))))))))) :
    mG X E MX1_dawn 5 [.ref 1, .retAddr 0, .int x2, .int x3, .int x4, .retAddr 0] [] w := by
  refine mG_iload C dX1_dawn_5 rfl ?_
  refine mG_aload_n C dX1_dawn_7 rfl rfl ?_
  refine mG_getI C dX1_dawn_8 fl_41 sh1 rfl ?_
  refine mG_icmp_ge (tgt := 53) C dX1_dawn_11 rfl (fun h => ?_) (fun h => ?_)
  · have K := K.1 h
    refine mG_iconst C dX1_dawn_53 ic0 ?_
    refine mG_istore (lv' := [.ref 1, .retAddr 0, .int x2, .int x3, .int (0 : Int32), .retAddr 0]) C dX1_dawn_54 (by decide) rfl ?_
    exact mG_holes [2] rfl K
  · have K := K.2 h
    refine mG_iload_n C dX1_dawn_14 rfl rfl ?_
    refine mG_iload C dX1_dawn_15 rfl ?_
    refine mG_ishr C dX1_dawn_17 ?_
    refine mG_iconst C dX1_dawn_18 ic1 ?_
    refine mG_iand C dX1_dawn_19 ?_
    refine mG_iconst C dX1_dawn_20 ic1 ?_
    refine mG_icmp_ne (tgt := 47) C dX1_dawn_21 rfl (fun h => ?_) (fun h => ?_)
    · have K := K.1 h
      refine mG_iincc (lv' := [.ref 1, .retAddr 0, .int x2, .int x3, .int (x4 + (1 : Int32)), .retAddr 0]) C dX1_dawn_47 rfl ic1 (by decide) rfl ?_
      refine mG_goto (tgt := 5) C dX1_dawn_50 rfl ?_
      exact K
    · have K := K.2 h
      refine mG_iload_n C dX1_dawn_24 rfl rfl ?_
      refine mG_aload_n C dX1_dawn_25 rfl rfl ?_
      refine mG_getR C dX1_dawn_26 fl_53 sh1 rfl ?_
      refine mG_iload C dX1_dawn_29 rfl ?_
      obtain ⟨h1, K⟩ := K
      refine mG_aald (b := 10) C dX1_dawn_31 sh9 h1 rs10 ?_
      refine mG_iconst C dX1_dawn_32 ic3 ?_
      refine mG_ialdv C dX1_dawn_33 (shr10 h1) (by unfold vp_in; decide) (by first | rfl | simp [mPI, mPL]) ?_
      refine mG_aload_n C dX1_dawn_34 rfl rfl ?_
      refine mG_getR C dX1_dawn_35 fl_53 sh1 rfl ?_
      refine mG_iload C dX1_dawn_38 rfl ?_
      obtain ⟨h2, K⟩ := K
      refine mG_aald (b := 10) C dX1_dawn_40 sh9 h2 rs10 ?_
      refine mG_iconst C dX1_dawn_41 ic4 ?_
      refine mG_ialdv C dX1_dawn_42 (shr10 h2) (by unfold vp_in; decide) (by first | rfl | simp [mPI, mPL]) ?_
      refine mG_Si (Z := MX1_become) (as := [.int x3, .int (w.1 (10 + x4.toNatClampNeg) 3), .int (w.1 (10 + x4.toNatClampNeg) 4)]) (rest := []) C dX1_dawn_43 lk_548 zX1_become ⟨Nat.le_of_ble_eq_true rfl, Nat.le_of_ble_eq_true rfl⟩ rfl (Nat.le_of_ble_eq_true rfl) rfl K (fun v1 u1 K => ?_)
      refine mG_istore_n (lv' := [.ref 1, .retAddr 0, .int x2, .int v1, .int x4, .retAddr 0]) C dX1_dawn_46 rfl (by decide) rfl ?_
      refine mG_iincc (lv' := [.ref 1, .retAddr 0, .int x2, .int v1, .int (x4 + (1 : Int32)), .retAddr 0]) C dX1_dawn_47 rfl ic1 (by decide) rfl ?_
      refine mG_goto (tgt := 5) C dX1_dawn_50 rfl ?_
      exact K

set_option maxRecDepth 20000 in
set_option maxHeartbeats 4000000 in
theorem vX1_dawn_56 {X : mX} {E : mEnv} {Qm : Option Value → mW → Prop} (C : mCtx X E MX1_dawn) (F : mFin X E MX1_dawn Qm) {w : mW}  (x3 : Int32) (x4 : Int32)
    (K : ((w.1 1 2) ≤ x4 →
    (Qm (some (.int x3)) w)) ∧ (¬ (w.1 1 2) ≤ x4 →
    (vp_in x4 6 ∧
    ((¬ ((x3 >>> ((w.1 (16 + x4.toNatClampNeg) 0) &&& 31)) &&& (1 : Int32)) = (w.1 (16 + x4.toNatClampNeg) 1) →
    (mG X E MX1_dawn 56 [.ref 1, .retAddr 0, .retAddr 0, .int x3, .int (x4 + (1 : Int32)), .retAddr 0] [] w)) ∧ (((x3 >>> ((w.1 (16 + x4.toNatClampNeg) 0) &&& 31)) &&& (1 : Int32)) = (w.1 (16 + x4.toNatClampNeg) 1) →
    (mMi E MX1_become [.int x3, .int (w.1 (16 + x4.toNatClampNeg) 2), .int (w.1 (16 + x4.toNatClampNeg) 3)] w (fun v1 u1 =>
    (mG X E MX1_dawn 56 [.ref 1, .retAddr 0, .retAddr 0, .int v1, .int (x4 + (1 : Int32)), .retAddr 0] [] u1)))))))) :
    mG X E MX1_dawn 56 [.ref 1, .retAddr 0, .retAddr 0, .int x3, .int x4, .retAddr 0] [] w := by
  refine mG_iload C dX1_dawn_56 rfl ?_
  refine mG_aload_n C dX1_dawn_58 rfl rfl ?_
  refine mG_getI C dX1_dawn_59 fl_45 sh1 rfl ?_
  refine mG_icmp_ge (tgt := 108) C dX1_dawn_62 rfl (fun h => ?_) (fun h => ?_)
  · have K := K.1 h
    refine mG_iload_n C dX1_dawn_108 rfl rfl ?_
    exact mG_iret C F dX1_dawn_109 rfl rfl K
  · have K := K.2 h
    refine mG_aload_n C dX1_dawn_65 rfl rfl ?_
    refine mG_getR C dX1_dawn_66 fl_55 sh1 rfl ?_
    refine mG_iload C dX1_dawn_69 rfl ?_
    obtain ⟨h1, K⟩ := K
    refine mG_aald (b := 16) C dX1_dawn_71 sh15 h1 rs16 ?_
    refine mG_astore (lv' := [.ref 1, .retAddr 0, .retAddr 0, .int x3, .int x4, .ref (16 + x4.toNatClampNeg)]) C dX1_dawn_72 (by decide) rfl ?_
    refine mG_iload_n C dX1_dawn_74 rfl rfl ?_
    refine mG_aload C dX1_dawn_75 rfl ?_
    refine mG_iconst C dX1_dawn_77 ic0 ?_
    refine mG_ialdv C dX1_dawn_78 (shr16 h1) (by unfold vp_in; decide) (by first | rfl | simp [mPI, mPL]) ?_
    refine mG_ishr C dX1_dawn_79 ?_
    refine mG_iconst C dX1_dawn_80 ic1 ?_
    refine mG_iand C dX1_dawn_81 ?_
    refine mG_aload C dX1_dawn_82 rfl ?_
    refine mG_iconst C dX1_dawn_84 ic1 ?_
    refine mG_ialdv C dX1_dawn_85 (shr16 h1) (by unfold vp_in; decide) (by first | rfl | simp [mPI, mPL]) ?_
    refine mG_icmp_ne (tgt := 102) C dX1_dawn_86 rfl (fun h => ?_) (fun h => ?_)
    · have K := K.1 h
      refine mG_iincc (lv' := [.ref 1, .retAddr 0, .retAddr 0, .int x3, .int (x4 + (1 : Int32)), .ref (16 + x4.toNatClampNeg)]) C dX1_dawn_102 rfl ic1 (by decide) rfl ?_
      refine mG_goto (tgt := 56) C dX1_dawn_105 rfl ?_
      exact mG_holes [5] rfl K
    · have K := K.2 h
      refine mG_iload_n C dX1_dawn_89 rfl rfl ?_
      refine mG_aload C dX1_dawn_90 rfl ?_
      refine mG_iconst C dX1_dawn_92 ic2 ?_
      refine mG_ialdv C dX1_dawn_93 (shr16 h1) (by unfold vp_in; decide) (by first | rfl | simp [mPI, mPL]) ?_
      refine mG_aload C dX1_dawn_94 rfl ?_
      refine mG_iconst C dX1_dawn_96 ic3 ?_
      refine mG_ialdv C dX1_dawn_97 (shr16 h1) (by unfold vp_in; decide) (by first | rfl | simp [mPI, mPL]) ?_
      refine mG_Si (Z := MX1_become) (as := [.int x3, .int (w.1 (16 + x4.toNatClampNeg) 2), .int (w.1 (16 + x4.toNatClampNeg) 3)]) (rest := []) C dX1_dawn_98 lk_548 zX1_become ⟨Nat.le_of_ble_eq_true rfl, Nat.le_of_ble_eq_true rfl⟩ rfl (Nat.le_of_ble_eq_true rfl) rfl K (fun v1 u1 K => ?_)
      refine mG_istore_n (lv' := [.ref 1, .retAddr 0, .retAddr 0, .int v1, .int x4, .ref (16 + x4.toNatClampNeg)]) C dX1_dawn_101 rfl (by decide) rfl ?_
      refine mG_iincc (lv' := [.ref 1, .retAddr 0, .retAddr 0, .int v1, .int (x4 + (1 : Int32)), .ref (16 + x4.toNatClampNeg)]) C dX1_dawn_102 rfl ic1 (by decide) rfl ?_
      refine mG_goto (tgt := 56) C dX1_dawn_105 rfl ?_
      exact mG_holes [5] rfl K

set_option maxRecDepth 20000 in
set_option maxHeartbeats 4000000 in
theorem vX1_doers_0 {X : mX} {E : mEnv} {Qm : Option Value → mW → Prop} (C : mCtx X E MX1_doers) (F : mFin X E MX1_doers Qm) {w : mW}  (p0 : Int64)
    (K : mG X E MX1_doers 5 [.ref 1, .long p0, .retAddr 0, .int (0 : Int32), .int (0 : Int32)] [] w) :
    mG X E MX1_doers 0 [.ref 1, .long p0, .retAddr 0, .retAddr 0, .retAddr 0] [] w := by
  refine mG_iconst C dX1_doers_0 ic0 ?_
  refine mG_istore_n (lv' := [.ref 1, .long p0, .retAddr 0, .int (0 : Int32), .retAddr 0]) C dX1_doers_1 rfl (by decide) rfl ?_
  refine mG_iconst C dX1_doers_2 ic0 ?_
  refine mG_istore (lv' := [.ref 1, .long p0, .retAddr 0, .int (0 : Int32), .int (0 : Int32)]) C dX1_doers_3 (by decide) rfl ?_
  exact K

set_option maxRecDepth 20000 in
set_option maxHeartbeats 4000000 in
theorem vX1_doers_5 {X : mX} {E : mEnv} {Qm : Option Value → mW → Prop} (C : mCtx X E MX1_doers) (F : mFin X E MX1_doers Qm) {w : mW}  (x1 : Int64) (x3 : Int32) (x4 : Int32)
    (K : ((w.1 1 1) ≤ x4 →
    (Qm (some (.int x3)) w)) ∧ (¬ (w.1 1 1) ≤ x4 →
    (mMi E MX4_mindOf [.long x1, .int x4] w (fun v1 u1 =>
    (mMi E MX1_doesDeed [.ref 1, .int x4, .int v1] u1 (fun v2 u2 =>
    ((v2 = 0 →
    (mG X E MX1_doers 5 [.ref 1, .long x1, .retAddr 0, .int x3, .int (x4 + (1 : Int32))] [] u2)) ∧ (¬ v2 = 0 →
    (mG X E MX1_doers 5 [.ref 1, .long x1, .retAddr 0, .int (x3 ||| ((1 : Int32) <<< (x4 &&& 31))), .int (x4 + (1 : Int32))] [] u2))))))))) :
    mG X E MX1_doers 5 [.ref 1, .long x1, .retAddr 0, .int x3, .int x4] [] w := by
  refine mG_iload C dX1_doers_5 rfl ?_
  refine mG_aload_n C dX1_doers_7 rfl rfl ?_
  refine mG_getI C dX1_doers_8 fl_41 sh1 rfl ?_
  refine mG_icmp_ge (tgt := 42) C dX1_doers_11 rfl (fun h => ?_) (fun h => ?_)
  · have K := K.1 h
    refine mG_iload_n C dX1_doers_42 rfl rfl ?_
    exact mG_iret C F dX1_doers_43 rfl rfl K
  · have K := K.2 h
    refine mG_aload_n C dX1_doers_14 rfl rfl ?_
    refine mG_iload C dX1_doers_15 rfl ?_
    refine mG_lload_n C dX1_doers_17 rfl rfl ?_
    refine mG_iload C dX1_doers_18 rfl ?_
    refine mG_Si (Z := MX4_mindOf) (as := [.long x1, .int x4]) (rest := [.int x4, .ref 1]) C dX1_doers_20 lk_538 zX4_mindOf ⟨Nat.le_of_ble_eq_true rfl, Nat.le_of_ble_eq_true rfl⟩ rfl (Nat.le_of_ble_eq_true rfl) rfl K (fun v1 u1 K => ?_)
    refine mG_Vi (Z := MX1_doesDeed) (as := [.int x4, .int v1]) (rest := []) C dX1_doers_23 lk_539 zX1_doesDeed ⟨Nat.le_of_ble_eq_true rfl, Nat.le_of_ble_eq_true rfl⟩ sh1 rfl rfl (Nat.le_of_ble_eq_true rfl) rfl K (fun v2 u2 K => ?_)
    refine mG_if_eq (tgt := 36) C dX1_doers_26 rfl (fun h => ?_) (fun h => ?_)
    · have K := K.1 h
      refine mG_iincc (lv' := [.ref 1, .long x1, .retAddr 0, .int x3, .int (x4 + (1 : Int32))]) C dX1_doers_36 rfl ic1 (by decide) rfl ?_
      refine mG_goto (tgt := 5) C dX1_doers_39 rfl ?_
      exact K
    · have K := K.2 h
      refine mG_iload_n C dX1_doers_29 rfl rfl ?_
      refine mG_iconst C dX1_doers_30 ic1 ?_
      refine mG_iload C dX1_doers_31 rfl ?_
      refine mG_ishl C dX1_doers_33 ?_
      refine mG_ior C dX1_doers_34 ?_
      refine mG_istore_n (lv' := [.ref 1, .long x1, .retAddr 0, .int (x3 ||| ((1 : Int32) <<< (x4 &&& 31))), .int x4]) C dX1_doers_35 rfl (by decide) rfl ?_
      refine mG_iincc (lv' := [.ref 1, .long x1, .retAddr 0, .int (x3 ||| ((1 : Int32) <<< (x4 &&& 31))), .int (x4 + (1 : Int32))]) C dX1_doers_36 rfl ic1 (by decide) rfl ?_
      refine mG_goto (tgt := 5) C dX1_doers_39 rfl ?_
      exact K

set_option maxRecDepth 20000 in
set_option maxHeartbeats 4000000 in
theorem vX1_doesDeed_0 {X : mX} {E : mEnv} {Qm : Option Value → mW → Prop} (C : mCtx X E MX1_doesDeed) (F : mFin X E MX1_doesDeed Qm) {w : mW}  (p0 : Int32) (p1 : Int32)
    (K : vp_in p0 5 ∧
    (vp_in p0 5 ∧
    (mMi E MX4_holds [.int p1, .int (w.1 (10 + p0.toNatClampNeg) 1), .int (w.1 (10 + p0.toNatClampNeg) 2)] w (fun v1 u1 =>
    (narrow .boolean (.int v1) = .int v1 ∧ Qm (some (.int v1)) u1))))) :
    mG X E MX1_doesDeed 0 [.ref 1, .int p0, .int p1] [] w := by
  refine mG_iload_n C dX1_doesDeed_0 rfl rfl ?_
  refine mG_aload_n C dX1_doesDeed_1 rfl rfl ?_
  refine mG_getR C dX1_doesDeed_2 fl_53 sh1 rfl ?_
  refine mG_iload_n C dX1_doesDeed_5 rfl rfl ?_
  obtain ⟨h1, K⟩ := K
  refine mG_aald (b := 10) C dX1_doesDeed_6 sh9 h1 rs10 ?_
  refine mG_iconst C dX1_doesDeed_7 ic1 ?_
  refine mG_ialdv C dX1_doesDeed_8 (shr10 h1) (by unfold vp_in; decide) (by first | rfl | simp [mPI, mPL]) ?_
  refine mG_aload_n C dX1_doesDeed_9 rfl rfl ?_
  refine mG_getR C dX1_doesDeed_10 fl_53 sh1 rfl ?_
  refine mG_iload_n C dX1_doesDeed_13 rfl rfl ?_
  obtain ⟨h2, K⟩ := K
  refine mG_aald (b := 10) C dX1_doesDeed_14 sh9 h2 rs10 ?_
  refine mG_iconst C dX1_doesDeed_15 ic2 ?_
  refine mG_ialdv C dX1_doesDeed_16 (shr10 h2) (by unfold vp_in; decide) (by first | rfl | simp [mPI, mPL]) ?_
  refine mG_Si (Z := MX4_holds) (as := [.int p1, .int (w.1 (10 + p0.toNatClampNeg) 1), .int (w.1 (10 + p0.toNatClampNeg) 2)]) (rest := []) C dX1_doesDeed_17 lk_543 zX4_holds ⟨Nat.le_of_ble_eq_true rfl, Nat.le_of_ble_eq_true rfl⟩ rfl (Nat.le_of_ble_eq_true rfl) rfl K (fun v1 u1 K => ?_)
  exact mG_iret C F dX1_doesDeed_20 rfl K.1 K.2

set_option maxRecDepth 20000 in
set_option maxHeartbeats 4000000 in
theorem vX1_everyone_0 {X : mX} {E : mEnv} {Qm : Option Value → mW → Prop} (C : mCtx X E MX1_everyone) (F : mFin X E MX1_everyone Qm) {w : mW} 
    (K : Qm (some (.int (((1 : Int32) <<< ((w.1 1 1) &&& 31)) - (1 : Int32)))) w) :
    mG X E MX1_everyone 0 [.ref 1] [] w := by
  refine mG_iconst C dX1_everyone_0 ic1 ?_
  refine mG_aload_n C dX1_everyone_1 rfl rfl ?_
  refine mG_getI C dX1_everyone_2 fl_41 sh1 rfl ?_
  refine mG_ishl C dX1_everyone_5 ?_
  refine mG_iconst C dX1_everyone_6 ic1 ?_
  refine mG_isub C dX1_everyone_7 ?_
  exact mG_iret C F dX1_everyone_8 rfl rfl K

set_option maxRecDepth 20000 in
set_option maxHeartbeats 4000000 in
theorem vX1_hasFact_0 {X : mX} {E : mEnv} {Qm : Option Value → mW → Prop} (C : mCtx X E MX1_hasFact) (F : mFin X E MX1_hasFact Qm) {w : mW}  (p0 : Int32)
    (K : (p0 < 0 →
    (Qm (some (.int (0 : Int32))) w)) ∧ (¬ p0 < 0 →
    (((w.1 1 0) ≤ p0 →
    (Qm (some (.int (0 : Int32))) w)) ∧ (¬ (w.1 1 0) ≤ p0 →
    (Qm (some (.int (1 : Int32))) w))))) :
    mG X E MX1_hasFact 0 [.ref 1, .int p0] [] w := by
  refine mG_iload_n C dX1_hasFact_0 rfl rfl ?_
  refine mG_if_lt (tgt := 16) C dX1_hasFact_1 rfl (fun h => ?_) (fun h => ?_)
  · have K := K.1 h
    refine mG_iconst C dX1_hasFact_16 ic0 ?_
    exact mG_iret C F dX1_hasFact_17 rfl (by decide) K
  · have K := K.2 h
    refine mG_iload_n C dX1_hasFact_4 rfl rfl ?_
    refine mG_aload_n C dX1_hasFact_5 rfl rfl ?_
    refine mG_getI C dX1_hasFact_6 fl_34 sh1 rfl ?_
    refine mG_icmp_ge (tgt := 16) C dX1_hasFact_9 rfl (fun h => ?_) (fun h => ?_)
    · have K := K.1 h
      refine mG_iconst C dX1_hasFact_16 ic0 ?_
      exact mG_iret C F dX1_hasFact_17 rfl (by decide) K
    · have K := K.2 h
      refine mG_iconst C dX1_hasFact_12 ic1 ?_
      refine mG_goto (tgt := 17) C dX1_hasFact_13 rfl ?_
      exact mG_iret C F dX1_hasFact_17 rfl (by decide) K

set_option maxRecDepth 20000 in
set_option maxHeartbeats 4000000 in
theorem vX1_hasOne_0 {X : mX} {E : mEnv} {Qm : Option Value → mW → Prop} (C : mCtx X E MX1_hasOne) (F : mFin X E MX1_hasOne Qm) {w : mW}  (p0 : Int32)
    (K : (p0 < 0 →
    (Qm (some (.int (0 : Int32))) w)) ∧ (¬ p0 < 0 →
    (((w.1 1 1) ≤ p0 →
    (Qm (some (.int (0 : Int32))) w)) ∧ (¬ (w.1 1 1) ≤ p0 →
    (Qm (some (.int (1 : Int32))) w))))) :
    mG X E MX1_hasOne 0 [.ref 1, .int p0] [] w := by
  refine mG_iload_n C dX1_hasOne_0 rfl rfl ?_
  refine mG_if_lt (tgt := 16) C dX1_hasOne_1 rfl (fun h => ?_) (fun h => ?_)
  · have K := K.1 h
    refine mG_iconst C dX1_hasOne_16 ic0 ?_
    exact mG_iret C F dX1_hasOne_17 rfl (by decide) K
  · have K := K.2 h
    refine mG_iload_n C dX1_hasOne_4 rfl rfl ?_
    refine mG_aload_n C dX1_hasOne_5 rfl rfl ?_
    refine mG_getI C dX1_hasOne_6 fl_41 sh1 rfl ?_
    refine mG_icmp_ge (tgt := 16) C dX1_hasOne_9 rfl (fun h => ?_) (fun h => ?_)
    · have K := K.1 h
      refine mG_iconst C dX1_hasOne_16 ic0 ?_
      exact mG_iret C F dX1_hasOne_17 rfl (by decide) K
    · have K := K.2 h
      refine mG_iconst C dX1_hasOne_12 ic1 ?_
      refine mG_goto (tgt := 17) C dX1_hasOne_13 rfl ?_
      exact mG_iret C F dX1_hasOne_17 rfl (by decide) K

set_option maxRecDepth 20000 in
set_option maxHeartbeats 4000000 in
theorem vX1_sumOf_0 {X : mX} {E : mEnv} {Qm : Option Value → mW → Prop} (C : mCtx X E MX1_sumOf) (F : mFin X E MX1_sumOf Qm) {w : mW}  (p0 : Int32)
    (K : mG X E MX1_sumOf 4 [.ref 1, .int p0, .int (0 : Int32), .int (0 : Int32)] [] w) :
    mG X E MX1_sumOf 0 [.ref 1, .int p0, .retAddr 0, .retAddr 0] [] w := by
  refine mG_iconst C dX1_sumOf_0 ic0 ?_
  refine mG_istore_n (lv' := [.ref 1, .int p0, .int (0 : Int32), .retAddr 0]) C dX1_sumOf_1 rfl (by decide) rfl ?_
  refine mG_iconst C dX1_sumOf_2 ic0 ?_
  refine mG_istore_n (lv' := [.ref 1, .int p0, .int (0 : Int32), .int (0 : Int32)]) C dX1_sumOf_3 rfl (by decide) rfl ?_
  exact K

set_option maxRecDepth 20000 in
set_option maxHeartbeats 4000000 in
theorem vX1_sumOf_4 {X : mX} {E : mEnv} {Qm : Option Value → mW → Prop} (C : mCtx X E MX1_sumOf) (F : mFin X E MX1_sumOf Qm) {w : mW}  (x1 : Int32) (x2 : Int32) (x3 : Int32)
    (K : ((w.1 1 0) ≤ x3 →
    (Qm (some (.int x2)) w)) ∧ (¬ (w.1 1 0) ≤ x3 →
    ((¬ ((x1 >>> (x3 &&& 31)) &&& (1 : Int32)) = (1 : Int32) →
    (mG X E MX1_sumOf 4 [.ref 1, .int x1, .int x2, .int (x3 + (1 : Int32))] [] w)) ∧ (((x1 >>> (x3 &&& 31)) &&& (1 : Int32)) = (1 : Int32) →
    (vp_in x3 6 ∧
    ((¬ (w.1 (3 + x3.toNatClampNeg) 0) = 0 →
    (vp_in x3 6 ∧
    (mG X E MX1_sumOf 4 [.ref 1, .int x1, .int (x2 + (-(w.1 (3 + x3.toNatClampNeg) 1))), .int (x3 + (1 : Int32))] [] w))) ∧ ((w.1 (3 + x3.toNatClampNeg) 0) = 0 →
    (vp_in x3 6 ∧
    (mG X E MX1_sumOf 4 [.ref 1, .int x1, .int (x2 + (w.1 (3 + x3.toNatClampNeg) 1)), .int (x3 + (1 : Int32))] [] w))))))))) :
    mG X E MX1_sumOf 4 [.ref 1, .int x1, .int x2, .int x3] [] w := by
  refine mG_iload_n C dX1_sumOf_4 rfl rfl ?_
  refine mG_aload_n C dX1_sumOf_5 rfl rfl ?_
  refine mG_getI C dX1_sumOf_6 fl_34 sh1 rfl ?_
  refine mG_icmp_ge (tgt := 61) C dX1_sumOf_9 rfl (fun h => ?_) (fun h => ?_)
  · have K := K.1 h
    refine mG_iload_n C dX1_sumOf_61 rfl rfl ?_
    exact mG_iret C F dX1_sumOf_62 rfl rfl K
  · have K := K.2 h
    refine mG_iload_n C dX1_sumOf_12 rfl rfl ?_
    refine mG_iload_n C dX1_sumOf_13 rfl rfl ?_
    refine mG_ishr C dX1_sumOf_14 ?_
    refine mG_iconst C dX1_sumOf_15 ic1 ?_
    refine mG_iand C dX1_sumOf_16 ?_
    refine mG_iconst C dX1_sumOf_17 ic1 ?_
    refine mG_icmp_ne (tgt := 55) C dX1_sumOf_18 rfl (fun h => ?_) (fun h => ?_)
    · have K := K.1 h
      refine mG_iincc (lv' := [.ref 1, .int x1, .int x2, .int (x3 + (1 : Int32))]) C dX1_sumOf_55 rfl ic1 (by decide) rfl ?_
      refine mG_goto (tgt := 4) C dX1_sumOf_58 rfl ?_
      exact K
    · have K := K.2 h
      refine mG_iload_n C dX1_sumOf_21 rfl rfl ?_
      refine mG_aload_n C dX1_sumOf_22 rfl rfl ?_
      refine mG_getR C dX1_sumOf_23 fl_51 sh1 rfl ?_
      refine mG_iload_n C dX1_sumOf_26 rfl rfl ?_
      obtain ⟨h1, K⟩ := K
      refine mG_aald (b := 3) C dX1_sumOf_27 sh2 h1 rs3 ?_
      refine mG_iconst C dX1_sumOf_28 ic0 ?_
      refine mG_ialdv C dX1_sumOf_29 (shr3 h1) (by unfold vp_in; decide) (by first | rfl | simp [mPI, mPL]) ?_
      refine mG_if_ne (tgt := 44) C dX1_sumOf_30 rfl (fun h => ?_) (fun h => ?_)
      · have K := K.1 h
        refine mG_aload_n C dX1_sumOf_44 rfl rfl ?_
        refine mG_getR C dX1_sumOf_45 fl_51 sh1 rfl ?_
        refine mG_iload_n C dX1_sumOf_48 rfl rfl ?_
        obtain ⟨h2, K⟩ := K
        refine mG_aald (b := 3) C dX1_sumOf_49 sh2 h2 rs3 ?_
        refine mG_iconst C dX1_sumOf_50 ic1 ?_
        refine mG_ialdv C dX1_sumOf_51 (shr3 h2) (by unfold vp_in; decide) (by first | rfl | simp [mPI, mPL]) ?_
        refine mG_ineg C dX1_sumOf_52 ?_
        refine mG_iadd C dX1_sumOf_53 ?_
        refine mG_istore_n (lv' := [.ref 1, .int x1, .int (x2 + (-(w.1 (3 + x3.toNatClampNeg) 1))), .int x3]) C dX1_sumOf_54 rfl (by decide) rfl ?_
        refine mG_iincc (lv' := [.ref 1, .int x1, .int (x2 + (-(w.1 (3 + x3.toNatClampNeg) 1))), .int (x3 + (1 : Int32))]) C dX1_sumOf_55 rfl ic1 (by decide) rfl ?_
        refine mG_goto (tgt := 4) C dX1_sumOf_58 rfl ?_
        exact K
      · have K := K.2 h
        refine mG_aload_n C dX1_sumOf_33 rfl rfl ?_
        refine mG_getR C dX1_sumOf_34 fl_51 sh1 rfl ?_
        refine mG_iload_n C dX1_sumOf_37 rfl rfl ?_
        obtain ⟨h3, K⟩ := K
        refine mG_aald (b := 3) C dX1_sumOf_38 sh2 h3 rs3 ?_
        refine mG_iconst C dX1_sumOf_39 ic1 ?_
        refine mG_ialdv C dX1_sumOf_40 (shr3 h3) (by unfold vp_in; decide) (by first | rfl | simp [mPI, mPL]) ?_
        refine mG_goto (tgt := 53) C dX1_sumOf_41 rfl ?_
        refine mG_iadd C dX1_sumOf_53 ?_
        refine mG_istore_n (lv' := [.ref 1, .int x1, .int (x2 + (w.1 (3 + x3.toNatClampNeg) 1)), .int x3]) C dX1_sumOf_54 rfl (by decide) rfl ?_
        refine mG_iincc (lv' := [.ref 1, .int x1, .int (x2 + (w.1 (3 + x3.toNatClampNeg) 1)), .int (x3 + (1 : Int32))]) C dX1_sumOf_55 rfl ic1 (by decide) rfl ?_
        refine mG_goto (tgt := 4) C dX1_sumOf_58 rfl ?_
        exact K

set_option maxRecDepth 20000 in
set_option maxHeartbeats 4000000 in
theorem vX2_begin_0 {X : mX} {E : mEnv} {Qm : Option Value → mW → Prop} (C : mCtx X E MX2_begin) (F : mFin X E MX2_begin Qm) {w : mW}  (p0 : Int32)
    (K : Qm none (mPI (mPI (mPI (mPL (mPI w 39 0 p0) 39 3 (0 : Int64)) 39 1 (0 : Int32)) 39 2 (0 : Int32)) 39 4 (0 : Int32))) :
    mG X E MX2_begin 0 [.ref 39, .int p0] [] w := by
  refine mG_aload_n C dX2_begin_0 rfl rfl ?_
  refine mG_iload_n C dX2_begin_1 rfl rfl ?_
  refine mG_putI C dX2_begin_2 fp_122 sh39 rfl ?_
  refine mG_aload_n C dX2_begin_5 rfl rfl ?_
  refine mG_lconst (v := 0) C dX2_begin_6 (by decide) ?_
  refine mG_putL C dX2_begin_7 fp_128 sh39 rfl ?_
  refine mG_aload_n C dX2_begin_10 rfl rfl ?_
  refine mG_iconst C dX2_begin_11 ic0 ?_
  refine mG_putI C dX2_begin_12 fp_124 sh39 rfl ?_
  refine mG_aload_n C dX2_begin_15 rfl rfl ?_
  refine mG_iconst C dX2_begin_16 ic0 ?_
  refine mG_putI C dX2_begin_17 fp_126 sh39 rfl ?_
  refine mG_aload_n C dX2_begin_20 rfl rfl ?_
  refine mG_iconst C dX2_begin_21 ic0 ?_
  refine mG_putI C dX2_begin_22 fp_130 sh39 rfl ?_
  exact mG_vret C F dX2_begin_25 rfl K

set_option maxRecDepth 20000 in
set_option maxHeartbeats 4000000 in
theorem vX2_put_0 {X : mX} {E : mEnv} {Qm : Option Value → mW → Prop} (C : mCtx X E MX2_put) (F : mFin X E MX2_put Qm) {w : mW}  (p0 : Int32)
    (K : (p0 < 0 →
    (Qm none w)) ∧ (¬ p0 < 0 →
    ((p0 < (10 : Int32) →
    (vp_in p0 10 ∧
    (∀ w1 : mW, w1 = (mPI w 40 p0.toNatClampNeg (w.1 39 0)) →
    (vp_in p0 10 ∧
    (∀ w2 : mW, w2 = (mPL w1 41 p0.toNatClampNeg (w1.2 39 3)) →
    (vp_in p0 10 ∧
    (∀ w3 : mW, w3 = (mPI w2 42 p0.toNatClampNeg (w2.1 39 1)) →
    (Qm none w3)))))))) ∧ (¬ p0 < (10 : Int32) →
    (Qm none w))))) :
    mG X E MX2_put 0 [.ref 39, .int p0] [] w := by
  refine mG_iload_n C dX2_put_0 rfl rfl ?_
  refine mG_if_lt (tgt := 13) C dX2_put_1 rfl (fun h => ?_) (fun h => ?_)
  · have K := K.1 h
    exact mG_vret C F dX2_put_13 rfl K
  · have K := K.2 h
    refine mG_iload_n C dX2_put_4 rfl rfl ?_
    refine mG_aload_n C dX2_put_5 rfl rfl ?_
    refine mG_getR C dX2_put_6 fl_133 sh39 rfl ?_
    refine mG_alen (v := 10) C dX2_put_9 sh40 (by decide) ?_
    refine mG_icmp_lt (tgt := 14) C dX2_put_10 rfl (fun h => ?_) (fun h => ?_)
    · have K := K.1 h
      refine mG_aload_n C dX2_put_14 rfl rfl ?_
      refine mG_getR C dX2_put_15 fl_133 sh39 rfl ?_
      refine mG_iload_n C dX2_put_18 rfl rfl ?_
      refine mG_aload_n C dX2_put_19 rfl rfl ?_
      refine mG_getI C dX2_put_20 fl_122 sh39 rfl ?_
      obtain ⟨h1, K⟩ := K
      refine mG_iast C dX2_put_23 sh40 h1 ?_
      refine mG_nm (fun w1 ew1 => ?_)
      have K := K w1 ew1
      refine mG_aload_n C dX2_put_24 rfl rfl ?_
      refine mG_getR C dX2_put_25 fl_134 sh39 rfl ?_
      refine mG_iload_n C dX2_put_28 rfl rfl ?_
      refine mG_aload_n C dX2_put_29 rfl rfl ?_
      refine mG_getL C dX2_put_30 fl_128 sh39 rfl ?_
      obtain ⟨h2, K⟩ := K
      refine mG_last C dX2_put_33 sh41 h2 ?_
      refine mG_nm (fun w2 ew2 => ?_)
      have K := K w2 ew2
      refine mG_aload_n C dX2_put_34 rfl rfl ?_
      refine mG_getR C dX2_put_35 fl_135 sh39 rfl ?_
      refine mG_iload_n C dX2_put_38 rfl rfl ?_
      refine mG_aload_n C dX2_put_39 rfl rfl ?_
      refine mG_getI C dX2_put_40 fl_124 sh39 rfl ?_
      obtain ⟨h3, K⟩ := K
      refine mG_iast C dX2_put_43 sh42 h3 ?_
      refine mG_nm (fun w3 ew3 => ?_)
      have K := K w3 ew3
      exact mG_vret C F dX2_put_44 rfl K
    · have K := K.2 h
      exact mG_vret C F dX2_put_13 rfl K

set_option maxRecDepth 20000 in
set_option maxHeartbeats 4000000 in
theorem vX2_remember_0 {X : mX} {E : mEnv} {Qm : Option Value → mW → Prop} (C : mCtx X E MX2_remember) (F : mFin X E MX2_remember Qm) {w : mW} 
    (K : mMv E MX2_put [.ref 39, .int (((w.1 39 5) + (1 : Int32)) - ((w.1 39 5) + (1 : Int32)) / (8 : Int32) * (8 : Int32))] (mPI w 39 5 (((w.1 39 5) + (1 : Int32)) - ((w.1 39 5) + (1 : Int32)) / (8 : Int32) * (8 : Int32))) (fun u1 =>
    (Qm none (mPI u1 39 2 (if (8 : Int32) < ((u1.1 39 2) + (1 : Int32)) then (8 : Int32) else ((u1.1 39 2) + (1 : Int32))))))) :
    mG X E MX2_remember 0 [.ref 39] [] w := by
  refine mG_aload_n C dX2_remember_0 rfl rfl ?_
  refine mG_aload_n C dX2_remember_1 rfl rfl ?_
  refine mG_getI C dX2_remember_2 fl_132 sh39 rfl ?_
  refine mG_iconst C dX2_remember_5 ic1 ?_
  refine mG_iadd C dX2_remember_6 ?_
  refine mG_bipush C dX2_remember_7 bp8 ?_
  refine mG_irem C dX2_remember_9 (by decide) ?_
  refine mG_putI C dX2_remember_10 fp_132 sh39 rfl ?_
  refine mG_aload_n C dX2_remember_13 rfl rfl ?_
  refine mG_aload_n C dX2_remember_14 rfl rfl ?_
  refine mG_getIv C dX2_remember_15 fl_132 sh39 rfl (by first | rfl | simp [mPI, mPL]) ?_
  refine mG_Vv (Z := MX2_put) (as := [.int (((w.1 39 5) + (1 : Int32)) - ((w.1 39 5) + (1 : Int32)) / (8 : Int32) * (8 : Int32))]) (rest := []) C dX2_remember_18 lk_624 zX2_put ⟨Nat.le_of_ble_eq_true rfl, Nat.le_of_ble_eq_true rfl⟩ sh39 rfl rfl (Nat.le_of_ble_eq_true rfl) rfl K (fun u1 K => ?_)
  refine mG_aload_n C dX2_remember_21 rfl rfl ?_
  refine mG_aload_n C dX2_remember_22 rfl rfl ?_
  refine mG_getI C dX2_remember_23 fl_126 sh39 rfl ?_
  refine mG_iconst C dX2_remember_26 ic1 ?_
  refine mG_iadd C dX2_remember_27 ?_
  refine mG_bipush C dX2_remember_28 bp8 ?_
  refine mG_mmin C dX2_remember_30 lk_628 ⟨Nat.le_of_ble_eq_true rfl, Nat.le_of_ble_eq_true rfl⟩ ?_
  refine mG_putI C dX2_remember_33 fp_126 sh39 rfl ?_
  exact mG_vret C F dX2_remember_36 rfl K

set_option maxRecDepth 20000 in
set_option maxHeartbeats 4000000 in
theorem vX2_stepBack_0 {X : mX} {E : mEnv} {Qm : Option Value → mW → Prop} (C : mCtx X E MX2_stepBack) (F : mFin X E MX2_stepBack Qm) {w : mW} 
    (K : (¬ (w.1 39 2) = 0 →
    (mMv E MX2_take [.ref 39, .int (w.1 39 5)] w (fun u1 =>
    (∀ w1 : mW, w1 = (mPI (mPI u1 39 5 ((((u1.1 39 5) + (8 : Int32)) - (1 : Int32)) - (((u1.1 39 5) + (8 : Int32)) - (1 : Int32)) / (8 : Int32) * (8 : Int32))) 39 2 ((u1.1 39 2) - (1 : Int32))) →
    (Qm (some (.int (1 : Int32))) w1))))) ∧ ((w.1 39 2) = 0 →
    (Qm (some (.int (0 : Int32))) w))) :
    mG X E MX2_stepBack 0 [.ref 39] [] w := by
  refine mG_aload_n C dX2_stepBack_0 rfl rfl ?_
  refine mG_getI C dX2_stepBack_1 fl_126 sh39 rfl ?_
  refine mG_if_ne (tgt := 9) C dX2_stepBack_4 rfl (fun h => ?_) (fun h => ?_)
  · have K := K.1 h
    refine mG_aload_n C dX2_stepBack_9 rfl rfl ?_
    refine mG_aload_n C dX2_stepBack_10 rfl rfl ?_
    refine mG_getI C dX2_stepBack_11 fl_132 sh39 rfl ?_
    refine mG_Vv (Z := MX2_take) (as := [.int (w.1 39 5)]) (rest := []) C dX2_stepBack_14 lk_646 zX2_take ⟨Nat.le_of_ble_eq_true rfl, Nat.le_of_ble_eq_true rfl⟩ sh39 rfl rfl (Nat.le_of_ble_eq_true rfl) rfl K (fun u1 K => ?_)
    refine mG_aload_n C dX2_stepBack_17 rfl rfl ?_
    refine mG_aload_n C dX2_stepBack_18 rfl rfl ?_
    refine mG_getI C dX2_stepBack_19 fl_132 sh39 rfl ?_
    refine mG_bipush C dX2_stepBack_22 bp8 ?_
    refine mG_iadd C dX2_stepBack_24 ?_
    refine mG_iconst C dX2_stepBack_25 ic1 ?_
    refine mG_isub C dX2_stepBack_26 ?_
    refine mG_bipush C dX2_stepBack_27 bp8 ?_
    refine mG_irem C dX2_stepBack_29 (by decide) ?_
    refine mG_putI C dX2_stepBack_30 fp_132 sh39 rfl ?_
    refine mG_aload_n C dX2_stepBack_33 rfl rfl ?_
    refine mG_dup C dX2_stepBack_34 rfl ?_
    refine mG_getIv C dX2_stepBack_35 fl_126 sh39 rfl (by first | rfl | simp [mPI, mPL]) ?_
    refine mG_iconst C dX2_stepBack_38 ic1 ?_
    refine mG_isub C dX2_stepBack_39 ?_
    refine mG_putI C dX2_stepBack_40 fp_126 sh39 rfl ?_
    refine mG_nm (fun w1 ew1 => ?_)
    have K := K w1 ew1
    refine mG_iconst C dX2_stepBack_43 ic1 ?_
    exact mG_iret C F dX2_stepBack_44 rfl (by decide) K
  · have K := K.2 h
    refine mG_iconst C dX2_stepBack_7 ic0 ?_
    exact mG_iret C F dX2_stepBack_8 rfl (by decide) K

set_option maxRecDepth 20000 in
set_option maxHeartbeats 4000000 in
theorem vX2_take_0 {X : mX} {E : mEnv} {Qm : Option Value → mW → Prop} (C : mCtx X E MX2_take) (F : mFin X E MX2_take Qm) {w : mW}  (p0 : Int32)
    (K : (p0 < 0 →
    (Qm none w)) ∧ (¬ p0 < 0 →
    ((p0 < (10 : Int32) →
    (vp_in p0 10 ∧
    (vp_in p0 10 ∧
    (vp_in p0 10 ∧
    (Qm none (mPI (mPL (mPI w 39 0 (w.1 40 p0.toNatClampNeg)) 39 3 (w.2 41 p0.toNatClampNeg)) 39 1 (w.1 42 p0.toNatClampNeg))))))) ∧ (¬ p0 < (10 : Int32) →
    (Qm none w))))) :
    mG X E MX2_take 0 [.ref 39, .int p0] [] w := by
  refine mG_iload_n C dX2_take_0 rfl rfl ?_
  refine mG_if_lt (tgt := 13) C dX2_take_1 rfl (fun h => ?_) (fun h => ?_)
  · have K := K.1 h
    exact mG_vret C F dX2_take_13 rfl K
  · have K := K.2 h
    refine mG_iload_n C dX2_take_4 rfl rfl ?_
    refine mG_aload_n C dX2_take_5 rfl rfl ?_
    refine mG_getR C dX2_take_6 fl_133 sh39 rfl ?_
    refine mG_alen (v := 10) C dX2_take_9 sh40 (by decide) ?_
    refine mG_icmp_lt (tgt := 14) C dX2_take_10 rfl (fun h => ?_) (fun h => ?_)
    · have K := K.1 h
      refine mG_aload_n C dX2_take_14 rfl rfl ?_
      refine mG_aload_n C dX2_take_15 rfl rfl ?_
      refine mG_getR C dX2_take_16 fl_133 sh39 rfl ?_
      refine mG_iload_n C dX2_take_19 rfl rfl ?_
      obtain ⟨h1, K⟩ := K
      refine mG_iald C dX2_take_20 sh40 h1 ?_
      refine mG_putI C dX2_take_21 fp_122 sh39 rfl ?_
      refine mG_aload_n C dX2_take_24 rfl rfl ?_
      refine mG_aload_n C dX2_take_25 rfl rfl ?_
      refine mG_getR C dX2_take_26 fl_134 sh39 rfl ?_
      refine mG_iload_n C dX2_take_29 rfl rfl ?_
      obtain ⟨h2, K⟩ := K
      refine mG_laldv C dX2_take_30 sh41 h2 (by first | rfl | simp [mPI, mPL]) ?_
      refine mG_putL C dX2_take_31 fp_128 sh39 rfl ?_
      refine mG_aload_n C dX2_take_34 rfl rfl ?_
      refine mG_aload_n C dX2_take_35 rfl rfl ?_
      refine mG_getR C dX2_take_36 fl_135 sh39 rfl ?_
      refine mG_iload_n C dX2_take_39 rfl rfl ?_
      obtain ⟨h3, K⟩ := K
      refine mG_ialdv C dX2_take_40 sh42 h3 (by first | rfl | simp [mPI, mPL]) ?_
      refine mG_putI C dX2_take_41 fp_124 sh39 rfl ?_
      exact mG_vret C F dX2_take_44 rfl K
    · have K := K.2 h
      exact mG_vret C F dX2_take_13 rfl K

set_option maxRecDepth 20000 in
set_option maxHeartbeats 4000000 in
theorem vX4_hold_0 {X : mX} {E : mEnv} {Qm : Option Value → mW → Prop} (C : mCtx X E MX4_hold) (F : mFin X E MX4_hold Qm) {w : mW}  (p0 : Int32) (p1 : Int32) (p2 : Int32)
    (K : Qm (some (.int (((p0 &&& (((1 : Int32) <<< (((6 : Int32) + p1) &&& 31)) ^^^ (-1 : Int32))) ||| ((1 : Int32) <<< (p1 &&& 31))) ||| (p2 <<< (((6 : Int32) + p1) &&& 31))))) w) :
    mG X E MX4_hold 0 [.int p0, .int p1, .int p2, .retAddr 0] [] w := by
  refine mG_iload_n C dX4_hold_0 rfl rfl ?_
  refine mG_iconst C dX4_hold_1 ic1 ?_
  refine mG_bipush C dX4_hold_2 bp6 ?_
  refine mG_iload_n C dX4_hold_4 rfl rfl ?_
  refine mG_iadd C dX4_hold_5 ?_
  refine mG_ishl C dX4_hold_6 ?_
  refine mG_iconst C dX4_hold_7 icm1 ?_
  refine mG_ixor C dX4_hold_8 ?_
  refine mG_iand C dX4_hold_9 ?_
  refine mG_istore_n (lv' := [.int p0, .int p1, .int p2, .int (p0 &&& (((1 : Int32) <<< (((6 : Int32) + p1) &&& 31)) ^^^ (-1 : Int32)))]) C dX4_hold_10 rfl (by decide) rfl ?_
  refine mG_iload_n C dX4_hold_11 rfl rfl ?_
  refine mG_iconst C dX4_hold_12 ic1 ?_
  refine mG_iload_n C dX4_hold_13 rfl rfl ?_
  refine mG_ishl C dX4_hold_14 ?_
  refine mG_ior C dX4_hold_15 ?_
  refine mG_iload_n C dX4_hold_16 rfl rfl ?_
  refine mG_bipush C dX4_hold_17 bp6 ?_
  refine mG_iload_n C dX4_hold_19 rfl rfl ?_
  refine mG_iadd C dX4_hold_20 ?_
  refine mG_ishl C dX4_hold_21 ?_
  refine mG_ior C dX4_hold_22 ?_
  exact mG_iret C F dX4_hold_23 rfl rfl K

set_option maxRecDepth 20000 in
set_option maxHeartbeats 4000000 in
theorem vX4_holds_0 {X : mX} {E : mEnv} {Qm : Option Value → mW → Prop} (C : mCtx X E MX4_holds) (F : mFin X E MX4_holds Qm) {w : mW}  (p0 : Int32) (p1 : Int32) (p2 : Int32)
    (K : (¬ ((p0 >>> (p1 &&& 31)) &&& (1 : Int32)) = (1 : Int32) →
    (Qm (some (.int (0 : Int32))) w)) ∧ (((p0 >>> (p1 &&& 31)) &&& (1 : Int32)) = (1 : Int32) →
    ((¬ ((p0 >>> (((6 : Int32) + p1) &&& 31)) &&& (1 : Int32)) = p2 →
    (Qm (some (.int (0 : Int32))) w)) ∧ (((p0 >>> (((6 : Int32) + p1) &&& 31)) &&& (1 : Int32)) = p2 →
    (Qm (some (.int (1 : Int32))) w))))) :
    mG X E MX4_holds 0 [.int p0, .int p1, .int p2] [] w := by
  refine mG_iload_n C dX4_holds_0 rfl rfl ?_
  refine mG_iload_n C dX4_holds_1 rfl rfl ?_
  refine mG_ishr C dX4_holds_2 ?_
  refine mG_iconst C dX4_holds_3 ic1 ?_
  refine mG_iand C dX4_holds_4 ?_
  refine mG_iconst C dX4_holds_5 ic1 ?_
  refine mG_icmp_ne (tgt := 25) C dX4_holds_6 rfl (fun h => ?_) (fun h => ?_)
  · have K := K.1 h
    refine mG_iconst C dX4_holds_25 ic0 ?_
    exact mG_iret C F dX4_holds_26 rfl (by decide) K
  · have K := K.2 h
    refine mG_iload_n C dX4_holds_9 rfl rfl ?_
    refine mG_bipush C dX4_holds_10 bp6 ?_
    refine mG_iload_n C dX4_holds_12 rfl rfl ?_
    refine mG_iadd C dX4_holds_13 ?_
    refine mG_ishr C dX4_holds_14 ?_
    refine mG_iconst C dX4_holds_15 ic1 ?_
    refine mG_iand C dX4_holds_16 ?_
    refine mG_iload_n C dX4_holds_17 rfl rfl ?_
    refine mG_icmp_ne (tgt := 25) C dX4_holds_18 rfl (fun h => ?_) (fun h => ?_)
    · have K := K.1 h
      refine mG_iconst C dX4_holds_25 ic0 ?_
      exact mG_iret C F dX4_holds_26 rfl (by decide) K
    · have K := K.2 h
      refine mG_iconst C dX4_holds_21 ic1 ?_
      refine mG_goto (tgt := 26) C dX4_holds_22 rfl ?_
      exact mG_iret C F dX4_holds_26 rfl (by decide) K

set_option maxRecDepth 20000 in
set_option maxHeartbeats 4000000 in
theorem vX4_mindOf_0 {X : mX} {E : mEnv} {Qm : Option Value → mW → Prop} (C : mCtx X E MX4_mindOf) (F : mFin X E MX4_mindOf Qm) {w : mW}  (p0 : Int64) (p1 : Int32)
    (K : Qm (some (.int (((((p0).toUInt64 >>> (((12 : Int32) * p1).toInt64.toUInt64 &&& Int64.toUInt64 63)).toInt64).toInt32) &&& (4095 : Int32)))) w) :
    mG X E MX4_mindOf 0 [.long p0, .retAddr 0, .int p1] [] w := by
  refine mG_lload_n C dX4_mindOf_0 rfl rfl ?_
  refine mG_bipush C dX4_mindOf_1 bp12 ?_
  refine mG_iload_n C dX4_mindOf_3 rfl rfl ?_
  refine mG_imul C dX4_mindOf_4 ?_
  refine mG_lushr C dX4_mindOf_5 ?_
  refine mG_l2i C dX4_mindOf_6 ?_
  refine mG_sipush C dX4_mindOf_7 sp4095 ?_
  refine mG_iand C dX4_mindOf_10 ?_
  exact mG_iret C F dX4_mindOf_11 rfl rfl K

set_option maxRecDepth 20000 in
set_option maxHeartbeats 4000000 in
theorem vX4_thingsBelieved_0 {X : mX} {E : mEnv} {Qm : Option Value → mW → Prop} (C : mCtx X E MX4_thingsBelieved) (F : mFin X E MX4_thingsBelieved Qm) {w : mW}  (p0 : Int64)
    (K : mG X E MX4_thingsBelieved 4 [.long p0, .retAddr 0, .int (0 : Int32), .int (0 : Int32)] [] w) :
    mG X E MX4_thingsBelieved 0 [.long p0, .retAddr 0, .retAddr 0, .retAddr 0] [] w := by
  refine mG_iconst C dX4_thingsBelieved_0 ic0 ?_
  refine mG_istore_n (lv' := [.long p0, .retAddr 0, .int (0 : Int32), .retAddr 0]) C dX4_thingsBelieved_1 rfl (by decide) rfl ?_
  refine mG_iconst C dX4_thingsBelieved_2 ic0 ?_
  refine mG_istore_n (lv' := [.long p0, .retAddr 0, .int (0 : Int32), .int (0 : Int32)]) C dX4_thingsBelieved_3 rfl (by decide) rfl ?_
  exact K

set_option maxRecDepth 20000 in
set_option maxHeartbeats 4000000 in
theorem vX4_thingsBelieved_4 {X : mX} {E : mEnv} {Qm : Option Value → mW → Prop} (C : mCtx X E MX4_thingsBelieved) (F : mFin X E MX4_thingsBelieved Qm) {w : mW}  (x0 : Int64) (x2 : Int32) (x3 : Int32)
    (K : ((5 : Int32) ≤ x3 →
    (Qm (some (.int x2)) w)) ∧ (¬ (5 : Int32) ≤ x3 →
    (mMi E MX4_mindOf [.long x0, .int x3] w (fun v1 u1 =>
    (mMi E MJ6_bitCount_0f7a4 [.int (v1 &&& (63 : Int32))] u1 (fun v2 u2 =>
    (mG X E MX4_thingsBelieved 4 [.long x0, .retAddr 0, .int (x2 + v2), .int (x3 + (1 : Int32))] [] u2))))))) :
    mG X E MX4_thingsBelieved 4 [.long x0, .retAddr 0, .int x2, .int x3] [] w := by
  refine mG_iload_n C dX4_thingsBelieved_4 rfl rfl ?_
  refine mG_iconst C dX4_thingsBelieved_5 ic5 ?_
  refine mG_icmp_ge (tgt := 29) C dX4_thingsBelieved_6 rfl (fun h => ?_) (fun h => ?_)
  · have K := K.1 h
    refine mG_iload_n C dX4_thingsBelieved_29 rfl rfl ?_
    exact mG_iret C F dX4_thingsBelieved_30 rfl rfl K
  · have K := K.2 h
    refine mG_iload_n C dX4_thingsBelieved_9 rfl rfl ?_
    refine mG_lload_n C dX4_thingsBelieved_10 rfl rfl ?_
    refine mG_iload_n C dX4_thingsBelieved_11 rfl rfl ?_
    refine mG_Si (Z := MX4_mindOf) (as := [.long x0, .int x3]) (rest := [.int x2]) C dX4_thingsBelieved_12 lk_619 zX4_mindOf ⟨Nat.le_of_ble_eq_true rfl, Nat.le_of_ble_eq_true rfl⟩ rfl (Nat.le_of_ble_eq_true rfl) rfl K (fun v1 u1 K => ?_)
    refine mG_bipush C dX4_thingsBelieved_15 bp63 ?_
    refine mG_iand C dX4_thingsBelieved_17 ?_
    refine mG_Si (Z := MJ6_bitCount_0f7a4) (as := [.int (v1 &&& (63 : Int32))]) (rest := [.int x2]) C dX4_thingsBelieved_18 lk_817 zJ6_bitCount_0f7a4 ⟨Nat.le_of_ble_eq_true rfl, Nat.le_of_ble_eq_true rfl⟩ rfl (Nat.le_of_ble_eq_true rfl) rfl K (fun v2 u2 K => ?_)
    refine mG_iadd C dX4_thingsBelieved_21 ?_
    refine mG_istore_n (lv' := [.long x0, .retAddr 0, .int (x2 + v2), .int x3]) C dX4_thingsBelieved_22 rfl (by decide) rfl ?_
    refine mG_iincc (lv' := [.long x0, .retAddr 0, .int (x2 + v2), .int (x3 + (1 : Int32))]) C dX4_thingsBelieved_23 rfl ic1 (by decide) rfl ?_
    refine mG_goto (tgt := 4) C dX4_thingsBelieved_26 rfl ?_
    exact K

set_option maxRecDepth 20000 in
set_option maxHeartbeats 4000000 in
theorem vX4_whoDiffer_0 {X : mX} {E : mEnv} {Qm : Option Value → mW → Prop} (C : mCtx X E MX4_whoDiffer) (F : mFin X E MX4_whoDiffer Qm) {w : mW}  (p0 : Int64) (p1 : Int64)
    (K : mG X E MX4_whoDiffer 6 [.long p0, .retAddr 0, .long p1, .retAddr 0, .int (0 : Int32), .int (0 : Int32)] [] w) :
    mG X E MX4_whoDiffer 0 [.long p0, .retAddr 0, .long p1, .retAddr 0, .retAddr 0, .retAddr 0] [] w := by
  refine mG_iconst C dX4_whoDiffer_0 ic0 ?_
  refine mG_istore (lv' := [.long p0, .retAddr 0, .long p1, .retAddr 0, .int (0 : Int32), .retAddr 0]) C dX4_whoDiffer_1 (by decide) rfl ?_
  refine mG_iconst C dX4_whoDiffer_3 ic0 ?_
  refine mG_istore (lv' := [.long p0, .retAddr 0, .long p1, .retAddr 0, .int (0 : Int32), .int (0 : Int32)]) C dX4_whoDiffer_4 (by decide) rfl ?_
  exact K

set_option maxRecDepth 20000 in
set_option maxHeartbeats 4000000 in
theorem vX4_whoDiffer_6 {X : mX} {E : mEnv} {Qm : Option Value → mW → Prop} (C : mCtx X E MX4_whoDiffer) (F : mFin X E MX4_whoDiffer Qm) {w : mW}  (x0 : Int64) (x2 : Int64) (x4 : Int32) (x5 : Int32)
    (K : ((5 : Int32) ≤ x5 →
    (Qm (some (.int x4)) w)) ∧ (¬ (5 : Int32) ≤ x5 →
    (mMi E MX4_mindOf [.long x0, .int x5] w (fun v1 u1 =>
    (mMi E MX4_mindOf [.long x2, .int x5] u1 (fun v2 u2 =>
    ((v1 = v2 →
    (mG X E MX4_whoDiffer 6 [.long x0, .retAddr 0, .long x2, .retAddr 0, .int x4, .int (x5 + (1 : Int32))] [] u2)) ∧ (¬ v1 = v2 →
    (mG X E MX4_whoDiffer 6 [.long x0, .retAddr 0, .long x2, .retAddr 0, .int (x4 ||| ((1 : Int32) <<< (x5 &&& 31))), .int (x5 + (1 : Int32))] [] u2))))))))) :
    mG X E MX4_whoDiffer 6 [.long x0, .retAddr 0, .long x2, .retAddr 0, .int x4, .int x5] [] w := by
  refine mG_iload C dX4_whoDiffer_6 rfl ?_
  refine mG_iconst C dX4_whoDiffer_8 ic5 ?_
  refine mG_icmp_ge (tgt := 42) C dX4_whoDiffer_9 rfl (fun h => ?_) (fun h => ?_)
  · have K := K.1 h
    refine mG_iload C dX4_whoDiffer_42 rfl ?_
    exact mG_iret C F dX4_whoDiffer_44 rfl rfl K
  · have K := K.2 h
    refine mG_lload_n C dX4_whoDiffer_12 rfl rfl ?_
    refine mG_iload C dX4_whoDiffer_13 rfl ?_
    refine mG_Si (Z := MX4_mindOf) (as := [.long x0, .int x5]) (rest := []) C dX4_whoDiffer_15 lk_619 zX4_mindOf ⟨Nat.le_of_ble_eq_true rfl, Nat.le_of_ble_eq_true rfl⟩ rfl (Nat.le_of_ble_eq_true rfl) rfl K (fun v1 u1 K => ?_)
    refine mG_lload_n C dX4_whoDiffer_18 rfl rfl ?_
    refine mG_iload C dX4_whoDiffer_19 rfl ?_
    refine mG_Si (Z := MX4_mindOf) (as := [.long x2, .int x5]) (rest := [.int v1]) C dX4_whoDiffer_21 lk_619 zX4_mindOf ⟨Nat.le_of_ble_eq_true rfl, Nat.le_of_ble_eq_true rfl⟩ rfl (Nat.le_of_ble_eq_true rfl) rfl K (fun v2 u2 K => ?_)
    refine mG_icmp_eq (tgt := 36) C dX4_whoDiffer_24 rfl (fun h => ?_) (fun h => ?_)
    · have K := K.1 h
      refine mG_iincc (lv' := [.long x0, .retAddr 0, .long x2, .retAddr 0, .int x4, .int (x5 + (1 : Int32))]) C dX4_whoDiffer_36 rfl ic1 (by decide) rfl ?_
      refine mG_goto (tgt := 6) C dX4_whoDiffer_39 rfl ?_
      exact K
    · have K := K.2 h
      refine mG_iload C dX4_whoDiffer_27 rfl ?_
      refine mG_iconst C dX4_whoDiffer_29 ic1 ?_
      refine mG_iload C dX4_whoDiffer_30 rfl ?_
      refine mG_ishl C dX4_whoDiffer_32 ?_
      refine mG_ior C dX4_whoDiffer_33 ?_
      refine mG_istore (lv' := [.long x0, .retAddr 0, .long x2, .retAddr 0, .int (x4 ||| ((1 : Int32) <<< (x5 &&& 31))), .int x5]) C dX4_whoDiffer_34 (by decide) rfl ?_
      refine mG_iincc (lv' := [.long x0, .retAddr 0, .long x2, .retAddr 0, .int (x4 ||| ((1 : Int32) <<< (x5 &&& 31))), .int (x5 + (1 : Int32))]) C dX4_whoDiffer_36 rfl ic1 (by decide) rfl ?_
      refine mG_goto (tgt := 6) C dX4_whoDiffer_39 rfl ?_
      exact K

set_option maxRecDepth 20000 in
set_option maxHeartbeats 4000000 in
theorem vX4_withMind_0 {X : mX} {E : mEnv} {Qm : Option Value → mW → Prop} (C : mCtx X E MX4_withMind) (F : mFin X E MX4_withMind Qm) {w : mW}  (p0 : Int64) (p1 : Int32) (p2 : Int32)
    (K : Qm (some (.long ((p0 &&& (((4095 : Int64) <<< (((12 : Int32) * p1).toInt64 &&& 63)) ^^^ (-1 : Int64))) ||| (((p2).toInt64) <<< (((12 : Int32) * p1).toInt64 &&& 63))))) w) :
    mG X E MX4_withMind 0 [.long p0, .retAddr 0, .int p1, .int p2] [] w := by
  refine mG_lload_n C dX4_withMind_0 rfl rfl ?_
  refine mG_ldc2 C dX4_withMind_1 kl_614 ?_
  refine mG_bipush C dX4_withMind_4 bp12 ?_
  refine mG_iload_n C dX4_withMind_6 rfl rfl ?_
  refine mG_imul C dX4_withMind_7 ?_
  refine mG_lshl C dX4_withMind_8 ?_
  refine mG_ldc2 C dX4_withMind_9 kl_615 ?_
  refine mG_lxor C dX4_withMind_12 ?_
  refine mG_land C dX4_withMind_13 ?_
  refine mG_iload_n C dX4_withMind_14 rfl rfl ?_
  refine mG_i2l C dX4_withMind_15 ?_
  refine mG_bipush C dX4_withMind_16 bp12 ?_
  refine mG_iload_n C dX4_withMind_18 rfl rfl ?_
  refine mG_imul C dX4_withMind_19 ?_
  refine mG_lshl C dX4_withMind_20 ?_
  refine mG_lor C dX4_withMind_21 ?_
  exact mG_lret C F dX4_withMind_22 rfl K

set_option maxRecDepth 20000 in
set_option maxHeartbeats 4000000 in
theorem vJ6_bitCount_0f7a4_0 {X : mX} {E : mEnv} {Qm : Option Value → mW → Prop} (C : mCtx X E MJ6_bitCount_0f7a4) (F : mFin X E MJ6_bitCount_0f7a4 Qm) {w : mW}  (p0 : Int32)
    (K : Qm (some (.int ((((((((p0 - ((((p0).toUInt32 >>> (((1 : Int32)).toUInt32 &&& Int32.toUInt32 31)).toInt32) &&& (1431655765 : Int32))) &&& (858993459 : Int32)) + ((((p0 - ((((p0).toUInt32 >>> (((1 : Int32)).toUInt32 &&& Int32.toUInt32 31)).toInt32) &&& (1431655765 : Int32))).toUInt32 >>> (((2 : Int32)).toUInt32 &&& Int32.toUInt32 31)).toInt32) &&& (858993459 : Int32))) + (((((p0 - ((((p0).toUInt32 >>> (((1 : Int32)).toUInt32 &&& Int32.toUInt32 31)).toInt32) &&& (1431655765 : Int32))) &&& (858993459 : Int32)) + ((((p0 - ((((p0).toUInt32 >>> (((1 : Int32)).toUInt32 &&& Int32.toUInt32 31)).toInt32) &&& (1431655765 : Int32))).toUInt32 >>> (((2 : Int32)).toUInt32 &&& Int32.toUInt32 31)).toInt32) &&& (858993459 : Int32))).toUInt32 >>> (((4 : Int32)).toUInt32 &&& Int32.toUInt32 31)).toInt32)) &&& (252645135 : Int32)) + (((((((p0 - ((((p0).toUInt32 >>> (((1 : Int32)).toUInt32 &&& Int32.toUInt32 31)).toInt32) &&& (1431655765 : Int32))) &&& (858993459 : Int32)) + ((((p0 - ((((p0).toUInt32 >>> (((1 : Int32)).toUInt32 &&& Int32.toUInt32 31)).toInt32) &&& (1431655765 : Int32))).toUInt32 >>> (((2 : Int32)).toUInt32 &&& Int32.toUInt32 31)).toInt32) &&& (858993459 : Int32))) + (((((p0 - ((((p0).toUInt32 >>> (((1 : Int32)).toUInt32 &&& Int32.toUInt32 31)).toInt32) &&& (1431655765 : Int32))) &&& (858993459 : Int32)) + ((((p0 - ((((p0).toUInt32 >>> (((1 : Int32)).toUInt32 &&& Int32.toUInt32 31)).toInt32) &&& (1431655765 : Int32))).toUInt32 >>> (((2 : Int32)).toUInt32 &&& Int32.toUInt32 31)).toInt32) &&& (858993459 : Int32))).toUInt32 >>> (((4 : Int32)).toUInt32 &&& Int32.toUInt32 31)).toInt32)) &&& (252645135 : Int32)).toUInt32 >>> (((8 : Int32)).toUInt32 &&& Int32.toUInt32 31)).toInt32)) + ((((((((p0 - ((((p0).toUInt32 >>> (((1 : Int32)).toUInt32 &&& Int32.toUInt32 31)).toInt32) &&& (1431655765 : Int32))) &&& (858993459 : Int32)) + ((((p0 - ((((p0).toUInt32 >>> (((1 : Int32)).toUInt32 &&& Int32.toUInt32 31)).toInt32) &&& (1431655765 : Int32))).toUInt32 >>> (((2 : Int32)).toUInt32 &&& Int32.toUInt32 31)).toInt32) &&& (858993459 : Int32))) + (((((p0 - ((((p0).toUInt32 >>> (((1 : Int32)).toUInt32 &&& Int32.toUInt32 31)).toInt32) &&& (1431655765 : Int32))) &&& (858993459 : Int32)) + ((((p0 - ((((p0).toUInt32 >>> (((1 : Int32)).toUInt32 &&& Int32.toUInt32 31)).toInt32) &&& (1431655765 : Int32))).toUInt32 >>> (((2 : Int32)).toUInt32 &&& Int32.toUInt32 31)).toInt32) &&& (858993459 : Int32))).toUInt32 >>> (((4 : Int32)).toUInt32 &&& Int32.toUInt32 31)).toInt32)) &&& (252645135 : Int32)) + (((((((p0 - ((((p0).toUInt32 >>> (((1 : Int32)).toUInt32 &&& Int32.toUInt32 31)).toInt32) &&& (1431655765 : Int32))) &&& (858993459 : Int32)) + ((((p0 - ((((p0).toUInt32 >>> (((1 : Int32)).toUInt32 &&& Int32.toUInt32 31)).toInt32) &&& (1431655765 : Int32))).toUInt32 >>> (((2 : Int32)).toUInt32 &&& Int32.toUInt32 31)).toInt32) &&& (858993459 : Int32))) + (((((p0 - ((((p0).toUInt32 >>> (((1 : Int32)).toUInt32 &&& Int32.toUInt32 31)).toInt32) &&& (1431655765 : Int32))) &&& (858993459 : Int32)) + ((((p0 - ((((p0).toUInt32 >>> (((1 : Int32)).toUInt32 &&& Int32.toUInt32 31)).toInt32) &&& (1431655765 : Int32))).toUInt32 >>> (((2 : Int32)).toUInt32 &&& Int32.toUInt32 31)).toInt32) &&& (858993459 : Int32))).toUInt32 >>> (((4 : Int32)).toUInt32 &&& Int32.toUInt32 31)).toInt32)) &&& (252645135 : Int32)).toUInt32 >>> (((8 : Int32)).toUInt32 &&& Int32.toUInt32 31)).toInt32)).toUInt32 >>> (((16 : Int32)).toUInt32 &&& Int32.toUInt32 31)).toInt32)) &&& (63 : Int32)))) w) :
    mG X E MJ6_bitCount_0f7a4 0 [.int p0] [] w := by
  refine mG_iload_n C dJ6_bitCount_0f7a4_0 rfl rfl ?_
  refine mG_iload_n C dJ6_bitCount_0f7a4_1 rfl rfl ?_
  refine mG_iconst C dJ6_bitCount_0f7a4_2 ic1 ?_
  refine mG_iushr C dJ6_bitCount_0f7a4_3 rfl ?_
  refine mG_ldcw C dJ6_bitCount_0f7a4_4 kc_820_265 ?_
  refine mG_iand C dJ6_bitCount_0f7a4_7 ?_
  refine mG_isub C dJ6_bitCount_0f7a4_8 ?_
  refine mG_istore_n (lv' := [.int (p0 - ((((p0).toUInt32 >>> (((1 : Int32)).toUInt32 &&& Int32.toUInt32 31)).toInt32) &&& (1431655765 : Int32)))]) C dJ6_bitCount_0f7a4_9 rfl (by decide) rfl ?_
  refine mG_iload_n C dJ6_bitCount_0f7a4_10 rfl rfl ?_
  refine mG_ldcw C dJ6_bitCount_0f7a4_11 kc_821_266 ?_
  refine mG_iand C dJ6_bitCount_0f7a4_14 ?_
  refine mG_iload_n C dJ6_bitCount_0f7a4_15 rfl rfl ?_
  refine mG_iconst C dJ6_bitCount_0f7a4_16 ic2 ?_
  refine mG_iushr C dJ6_bitCount_0f7a4_17 rfl ?_
  refine mG_ldcw C dJ6_bitCount_0f7a4_18 kc_821_266 ?_
  refine mG_iand C dJ6_bitCount_0f7a4_21 ?_
  refine mG_iadd C dJ6_bitCount_0f7a4_22 ?_
  refine mG_istore_n (lv' := [.int (((p0 - ((((p0).toUInt32 >>> (((1 : Int32)).toUInt32 &&& Int32.toUInt32 31)).toInt32) &&& (1431655765 : Int32))) &&& (858993459 : Int32)) + ((((p0 - ((((p0).toUInt32 >>> (((1 : Int32)).toUInt32 &&& Int32.toUInt32 31)).toInt32) &&& (1431655765 : Int32))).toUInt32 >>> (((2 : Int32)).toUInt32 &&& Int32.toUInt32 31)).toInt32) &&& (858993459 : Int32)))]) C dJ6_bitCount_0f7a4_23 rfl (by decide) rfl ?_
  refine mG_iload_n C dJ6_bitCount_0f7a4_24 rfl rfl ?_
  refine mG_iload_n C dJ6_bitCount_0f7a4_25 rfl rfl ?_
  refine mG_iconst C dJ6_bitCount_0f7a4_26 ic4 ?_
  refine mG_iushr C dJ6_bitCount_0f7a4_27 rfl ?_
  refine mG_iadd C dJ6_bitCount_0f7a4_28 ?_
  refine mG_ldcw C dJ6_bitCount_0f7a4_29 kc_822_267 ?_
  refine mG_iand C dJ6_bitCount_0f7a4_32 ?_
  refine mG_istore_n (lv' := [.int (((((p0 - ((((p0).toUInt32 >>> (((1 : Int32)).toUInt32 &&& Int32.toUInt32 31)).toInt32) &&& (1431655765 : Int32))) &&& (858993459 : Int32)) + ((((p0 - ((((p0).toUInt32 >>> (((1 : Int32)).toUInt32 &&& Int32.toUInt32 31)).toInt32) &&& (1431655765 : Int32))).toUInt32 >>> (((2 : Int32)).toUInt32 &&& Int32.toUInt32 31)).toInt32) &&& (858993459 : Int32))) + (((((p0 - ((((p0).toUInt32 >>> (((1 : Int32)).toUInt32 &&& Int32.toUInt32 31)).toInt32) &&& (1431655765 : Int32))) &&& (858993459 : Int32)) + ((((p0 - ((((p0).toUInt32 >>> (((1 : Int32)).toUInt32 &&& Int32.toUInt32 31)).toInt32) &&& (1431655765 : Int32))).toUInt32 >>> (((2 : Int32)).toUInt32 &&& Int32.toUInt32 31)).toInt32) &&& (858993459 : Int32))).toUInt32 >>> (((4 : Int32)).toUInt32 &&& Int32.toUInt32 31)).toInt32)) &&& (252645135 : Int32))]) C dJ6_bitCount_0f7a4_33 rfl (by decide) rfl ?_
  refine mG_iload_n C dJ6_bitCount_0f7a4_34 rfl rfl ?_
  refine mG_iload_n C dJ6_bitCount_0f7a4_35 rfl rfl ?_
  refine mG_bipush C dJ6_bitCount_0f7a4_36 bp8 ?_
  refine mG_iushr C dJ6_bitCount_0f7a4_38 rfl ?_
  refine mG_iadd C dJ6_bitCount_0f7a4_39 ?_
  refine mG_istore_n (lv' := [.int ((((((p0 - ((((p0).toUInt32 >>> (((1 : Int32)).toUInt32 &&& Int32.toUInt32 31)).toInt32) &&& (1431655765 : Int32))) &&& (858993459 : Int32)) + ((((p0 - ((((p0).toUInt32 >>> (((1 : Int32)).toUInt32 &&& Int32.toUInt32 31)).toInt32) &&& (1431655765 : Int32))).toUInt32 >>> (((2 : Int32)).toUInt32 &&& Int32.toUInt32 31)).toInt32) &&& (858993459 : Int32))) + (((((p0 - ((((p0).toUInt32 >>> (((1 : Int32)).toUInt32 &&& Int32.toUInt32 31)).toInt32) &&& (1431655765 : Int32))) &&& (858993459 : Int32)) + ((((p0 - ((((p0).toUInt32 >>> (((1 : Int32)).toUInt32 &&& Int32.toUInt32 31)).toInt32) &&& (1431655765 : Int32))).toUInt32 >>> (((2 : Int32)).toUInt32 &&& Int32.toUInt32 31)).toInt32) &&& (858993459 : Int32))).toUInt32 >>> (((4 : Int32)).toUInt32 &&& Int32.toUInt32 31)).toInt32)) &&& (252645135 : Int32)) + (((((((p0 - ((((p0).toUInt32 >>> (((1 : Int32)).toUInt32 &&& Int32.toUInt32 31)).toInt32) &&& (1431655765 : Int32))) &&& (858993459 : Int32)) + ((((p0 - ((((p0).toUInt32 >>> (((1 : Int32)).toUInt32 &&& Int32.toUInt32 31)).toInt32) &&& (1431655765 : Int32))).toUInt32 >>> (((2 : Int32)).toUInt32 &&& Int32.toUInt32 31)).toInt32) &&& (858993459 : Int32))) + (((((p0 - ((((p0).toUInt32 >>> (((1 : Int32)).toUInt32 &&& Int32.toUInt32 31)).toInt32) &&& (1431655765 : Int32))) &&& (858993459 : Int32)) + ((((p0 - ((((p0).toUInt32 >>> (((1 : Int32)).toUInt32 &&& Int32.toUInt32 31)).toInt32) &&& (1431655765 : Int32))).toUInt32 >>> (((2 : Int32)).toUInt32 &&& Int32.toUInt32 31)).toInt32) &&& (858993459 : Int32))).toUInt32 >>> (((4 : Int32)).toUInt32 &&& Int32.toUInt32 31)).toInt32)) &&& (252645135 : Int32)).toUInt32 >>> (((8 : Int32)).toUInt32 &&& Int32.toUInt32 31)).toInt32))]) C dJ6_bitCount_0f7a4_40 rfl (by decide) rfl ?_
  refine mG_iload_n C dJ6_bitCount_0f7a4_41 rfl rfl ?_
  refine mG_iload_n C dJ6_bitCount_0f7a4_42 rfl rfl ?_
  refine mG_bipush C dJ6_bitCount_0f7a4_43 bp16 ?_
  refine mG_iushr C dJ6_bitCount_0f7a4_45 rfl ?_
  refine mG_iadd C dJ6_bitCount_0f7a4_46 ?_
  refine mG_istore_n (lv' := [.int (((((((p0 - ((((p0).toUInt32 >>> (((1 : Int32)).toUInt32 &&& Int32.toUInt32 31)).toInt32) &&& (1431655765 : Int32))) &&& (858993459 : Int32)) + ((((p0 - ((((p0).toUInt32 >>> (((1 : Int32)).toUInt32 &&& Int32.toUInt32 31)).toInt32) &&& (1431655765 : Int32))).toUInt32 >>> (((2 : Int32)).toUInt32 &&& Int32.toUInt32 31)).toInt32) &&& (858993459 : Int32))) + (((((p0 - ((((p0).toUInt32 >>> (((1 : Int32)).toUInt32 &&& Int32.toUInt32 31)).toInt32) &&& (1431655765 : Int32))) &&& (858993459 : Int32)) + ((((p0 - ((((p0).toUInt32 >>> (((1 : Int32)).toUInt32 &&& Int32.toUInt32 31)).toInt32) &&& (1431655765 : Int32))).toUInt32 >>> (((2 : Int32)).toUInt32 &&& Int32.toUInt32 31)).toInt32) &&& (858993459 : Int32))).toUInt32 >>> (((4 : Int32)).toUInt32 &&& Int32.toUInt32 31)).toInt32)) &&& (252645135 : Int32)) + (((((((p0 - ((((p0).toUInt32 >>> (((1 : Int32)).toUInt32 &&& Int32.toUInt32 31)).toInt32) &&& (1431655765 : Int32))) &&& (858993459 : Int32)) + ((((p0 - ((((p0).toUInt32 >>> (((1 : Int32)).toUInt32 &&& Int32.toUInt32 31)).toInt32) &&& (1431655765 : Int32))).toUInt32 >>> (((2 : Int32)).toUInt32 &&& Int32.toUInt32 31)).toInt32) &&& (858993459 : Int32))) + (((((p0 - ((((p0).toUInt32 >>> (((1 : Int32)).toUInt32 &&& Int32.toUInt32 31)).toInt32) &&& (1431655765 : Int32))) &&& (858993459 : Int32)) + ((((p0 - ((((p0).toUInt32 >>> (((1 : Int32)).toUInt32 &&& Int32.toUInt32 31)).toInt32) &&& (1431655765 : Int32))).toUInt32 >>> (((2 : Int32)).toUInt32 &&& Int32.toUInt32 31)).toInt32) &&& (858993459 : Int32))).toUInt32 >>> (((4 : Int32)).toUInt32 &&& Int32.toUInt32 31)).toInt32)) &&& (252645135 : Int32)).toUInt32 >>> (((8 : Int32)).toUInt32 &&& Int32.toUInt32 31)).toInt32)) + ((((((((p0 - ((((p0).toUInt32 >>> (((1 : Int32)).toUInt32 &&& Int32.toUInt32 31)).toInt32) &&& (1431655765 : Int32))) &&& (858993459 : Int32)) + ((((p0 - ((((p0).toUInt32 >>> (((1 : Int32)).toUInt32 &&& Int32.toUInt32 31)).toInt32) &&& (1431655765 : Int32))).toUInt32 >>> (((2 : Int32)).toUInt32 &&& Int32.toUInt32 31)).toInt32) &&& (858993459 : Int32))) + (((((p0 - ((((p0).toUInt32 >>> (((1 : Int32)).toUInt32 &&& Int32.toUInt32 31)).toInt32) &&& (1431655765 : Int32))) &&& (858993459 : Int32)) + ((((p0 - ((((p0).toUInt32 >>> (((1 : Int32)).toUInt32 &&& Int32.toUInt32 31)).toInt32) &&& (1431655765 : Int32))).toUInt32 >>> (((2 : Int32)).toUInt32 &&& Int32.toUInt32 31)).toInt32) &&& (858993459 : Int32))).toUInt32 >>> (((4 : Int32)).toUInt32 &&& Int32.toUInt32 31)).toInt32)) &&& (252645135 : Int32)) + (((((((p0 - ((((p0).toUInt32 >>> (((1 : Int32)).toUInt32 &&& Int32.toUInt32 31)).toInt32) &&& (1431655765 : Int32))) &&& (858993459 : Int32)) + ((((p0 - ((((p0).toUInt32 >>> (((1 : Int32)).toUInt32 &&& Int32.toUInt32 31)).toInt32) &&& (1431655765 : Int32))).toUInt32 >>> (((2 : Int32)).toUInt32 &&& Int32.toUInt32 31)).toInt32) &&& (858993459 : Int32))) + (((((p0 - ((((p0).toUInt32 >>> (((1 : Int32)).toUInt32 &&& Int32.toUInt32 31)).toInt32) &&& (1431655765 : Int32))) &&& (858993459 : Int32)) + ((((p0 - ((((p0).toUInt32 >>> (((1 : Int32)).toUInt32 &&& Int32.toUInt32 31)).toInt32) &&& (1431655765 : Int32))).toUInt32 >>> (((2 : Int32)).toUInt32 &&& Int32.toUInt32 31)).toInt32) &&& (858993459 : Int32))).toUInt32 >>> (((4 : Int32)).toUInt32 &&& Int32.toUInt32 31)).toInt32)) &&& (252645135 : Int32)).toUInt32 >>> (((8 : Int32)).toUInt32 &&& Int32.toUInt32 31)).toInt32)).toUInt32 >>> (((16 : Int32)).toUInt32 &&& Int32.toUInt32 31)).toInt32))]) C dJ6_bitCount_0f7a4_47 rfl (by decide) rfl ?_
  refine mG_iload_n C dJ6_bitCount_0f7a4_48 rfl rfl ?_
  refine mG_bipush C dJ6_bitCount_0f7a4_49 bp63 ?_
  refine mG_iand C dJ6_bitCount_0f7a4_51 ?_
  exact mG_iret C F dJ6_bitCount_0f7a4_52 rfl rfl K
