/-! ===== CONDITIONS OF THE WALK, method by method, from cut to cut ===== -/
set_option maxRecDepth 20000 in
set_option maxHeartbeats 4000000 in
theorem vX6_countEmpty_0 {X : mX} {E : mEnv} {Qm : Option Value → mW → Prop} (C : mCtx X E MX6_countEmpty) (F : mFin X E MX6_countEmpty Qm) {w : mW}  (p0 : Int32)
    (K : mMv E MX6_startCounting [.ref 58] w (fun u1 =>
    (mG X E MX6_countEmpty 6 [.ref 58, .int p0, .int (0 : Int32)] [] u1))) :
    mG X E MX6_countEmpty 0 [.ref 58, .int p0, .retAddr 0] [] w := by
  refine mG_aload_n C dX6_countEmpty_0 rfl rfl ?_
  refine mG_Vv (Z := MX6_startCounting) (as := []) (rest := []) C dX6_countEmpty_1 lk_699 zX6_startCounting ⟨Nat.le_of_ble_eq_true rfl, Nat.le_of_ble_eq_true rfl⟩ sh58 rfl rfl (Nat.le_of_ble_eq_true rfl) rfl K (fun u1 K => ?_)
  refine mG_iconst C dX6_countEmpty_4 ic0 ?_
  refine mG_istore_n (lv' := [.ref 58, .int p0, .int (0 : Int32)]) C dX6_countEmpty_5 rfl (by decide) rfl ?_
  exact K

set_option maxRecDepth 20000 in
set_option maxHeartbeats 4000000 in
theorem vX6_countEmpty_6 {X : mX} {E : mEnv} {Qm : Option Value → mW → Prop} (C : mCtx X E MX6_countEmpty) (F : mFin X E MX6_countEmpty Qm) {w : mW}  (x1 : Int32) (x2 : Int32)
    (K : ((720 : Int32) ≤ x2 →
    (Qm none w)) ∧ (¬ (720 : Int32) ≤ x2 →
    (mMi E MX3_comeTo [.ref 46, .int x2] w (fun v1 u1 =>
    ((¬ v1 = 0 →
    (mMv E MX3_listen [.ref 46] u1 (fun u2 =>
    (mMi E MX3_isSoSaidTo [.ref 46, .int ((1 : Int32) <<< (x1 &&& 31))] u2 (fun v2 u3 =>
    ((v2 = 0 →
    (mG X E MX6_countEmpty 6 [.ref 58, .int x1, .int (x2 + (1 : Int32))] [] u3)) ∧ (¬ v2 = 0 →
    (mMi E MX3_movesIfSaidTo [.ref 46, .int ((1 : Int32) <<< (x1 &&& 31))] u3 (fun v3 u4 =>
    ((¬ v3 = 0 →
    (mG X E MX6_countEmpty 6 [.ref 58, .int x1, .int (x2 + (1 : Int32))] [] u4)) ∧ (v3 = 0 →
    (mMi E MX7_number [.ref 47] u4 (fun v4 u5 =>
    (mMv E MX6_countIn [.ref 58, .int v4] u5 (fun u6 =>
    (mG X E MX6_countEmpty 6 [.ref 58, .int x1, .int (x2 + (1 : Int32))] [] u6)))))))))))))))) ∧ (v1 = 0 →
    (mG X E MX6_countEmpty 6 [.ref 58, .int x1, .int (x2 + (1 : Int32))] [] u1))))))) :
    mG X E MX6_countEmpty 6 [.ref 58, .int x1, .int x2] [] w := by
  refine mG_iload_n C dX6_countEmpty_6 rfl rfl ?_
  refine mG_sipush C dX6_countEmpty_7 sp720 ?_
  refine mG_icmp_ge (tgt := 80) C dX6_countEmpty_10 rfl (fun h => ?_) (fun h => ?_)
  · have K := K.1 h
    exact mG_vret C F dX6_countEmpty_80 rfl K
  · have K := K.2 h
    refine mG_aload_n C dX6_countEmpty_13 rfl rfl ?_
    refine mG_getR C dX6_countEmpty_14 fl_253 sh58 rfl ?_
    refine mG_iload_n C dX6_countEmpty_17 rfl rfl ?_
    refine mG_Vi (Z := MX3_comeTo) (as := [.int x2]) (rest := []) C dX6_countEmpty_18 lk_677 zX3_comeTo ⟨Nat.le_of_ble_eq_true rfl, Nat.le_of_ble_eq_true rfl⟩ sh46 rfl rfl (Nat.le_of_ble_eq_true rfl) rfl K (fun v1 u1 K => ?_)
    refine mG_if_ne (tgt := 27) C dX6_countEmpty_21 rfl (fun h => ?_) (fun h => ?_)
    · have K := K.1 h
      refine mG_aload_n C dX6_countEmpty_27 rfl rfl ?_
      refine mG_getR C dX6_countEmpty_28 fl_253 sh58 rfl ?_
      refine mG_Vv (Z := MX3_listen) (as := []) (rest := []) C dX6_countEmpty_31 lk_685 zX3_listen ⟨Nat.le_of_ble_eq_true rfl, Nat.le_of_ble_eq_true rfl⟩ sh46 rfl rfl (Nat.le_of_ble_eq_true rfl) rfl K (fun u2 K => ?_)
      refine mG_aload_n C dX6_countEmpty_34 rfl rfl ?_
      refine mG_getR C dX6_countEmpty_35 fl_253 sh58 rfl ?_
      refine mG_iconst C dX6_countEmpty_38 ic1 ?_
      refine mG_iload_n C dX6_countEmpty_39 rfl rfl ?_
      refine mG_ishl C dX6_countEmpty_40 ?_
      refine mG_Vi (Z := MX3_isSoSaidTo) (as := [.int ((1 : Int32) <<< (x1 &&& 31))]) (rest := []) C dX6_countEmpty_41 lk_686 zX3_isSoSaidTo ⟨Nat.le_of_ble_eq_true rfl, Nat.le_of_ble_eq_true rfl⟩ sh46 rfl rfl (Nat.le_of_ble_eq_true rfl) rfl K (fun v2 u3 K => ?_)
      refine mG_if_eq (tgt := 74) C dX6_countEmpty_44 rfl (fun h => ?_) (fun h => ?_)
      · have K := K.1 h
        refine mG_iincc (lv' := [.ref 58, .int x1, .int (x2 + (1 : Int32))]) C dX6_countEmpty_74 rfl ic1 (by decide) rfl ?_
        refine mG_goto (tgt := 6) C dX6_countEmpty_77 rfl ?_
        exact K
      · have K := K.2 h
        refine mG_aload_n C dX6_countEmpty_47 rfl rfl ?_
        refine mG_getR C dX6_countEmpty_48 fl_253 sh58 rfl ?_
        refine mG_iconst C dX6_countEmpty_51 ic1 ?_
        refine mG_iload_n C dX6_countEmpty_52 rfl rfl ?_
        refine mG_ishl C dX6_countEmpty_53 ?_
        refine mG_Vi (Z := MX3_movesIfSaidTo) (as := [.int ((1 : Int32) <<< (x1 &&& 31))]) (rest := []) C dX6_countEmpty_54 lk_703 zX3_movesIfSaidTo ⟨Nat.le_of_ble_eq_true rfl, Nat.le_of_ble_eq_true rfl⟩ sh46 rfl rfl (Nat.le_of_ble_eq_true rfl) rfl K (fun v3 u4 K => ?_)
        refine mG_if_ne (tgt := 74) C dX6_countEmpty_57 rfl (fun h => ?_) (fun h => ?_)
        · have K := K.1 h
          refine mG_iincc (lv' := [.ref 58, .int x1, .int (x2 + (1 : Int32))]) C dX6_countEmpty_74 rfl ic1 (by decide) rfl ?_
          refine mG_goto (tgt := 6) C dX6_countEmpty_77 rfl ?_
          exact K
        · have K := K.2 h
          refine mG_aload_n C dX6_countEmpty_60 rfl rfl ?_
          refine mG_aload_n C dX6_countEmpty_61 rfl rfl ?_
          refine mG_getR C dX6_countEmpty_62 fl_253 sh58 rfl ?_
          refine mG_getR C dX6_countEmpty_65 fl_212 sh46 rfl ?_
          refine mG_Vi (Z := MX7_number) (as := []) (rest := [.ref 58]) C dX6_countEmpty_68 lk_687 zX7_number ⟨Nat.le_of_ble_eq_true rfl, Nat.le_of_ble_eq_true rfl⟩ sh47 rfl rfl (Nat.le_of_ble_eq_true rfl) rfl K (fun v4 u5 K => ?_)
          refine mG_Vv (Z := MX6_countIn) (as := [.int v4]) (rest := []) C dX6_countEmpty_71 lk_708 zX6_countIn ⟨Nat.le_of_ble_eq_true rfl, Nat.le_of_ble_eq_true rfl⟩ sh58 rfl rfl (Nat.le_of_ble_eq_true rfl) rfl K (fun u6 K => ?_)
          refine mG_iincc (lv' := [.ref 58, .int x1, .int (x2 + (1 : Int32))]) C dX6_countEmpty_74 rfl ic1 (by decide) rfl ?_
          refine mG_goto (tgt := 6) C dX6_countEmpty_77 rfl ?_
          exact K
    · have K := K.2 h
      refine mG_goto (tgt := 74) C dX6_countEmpty_24 rfl ?_
      refine mG_iincc (lv' := [.ref 58, .int x1, .int (x2 + (1 : Int32))]) C dX6_countEmpty_74 rfl ic1 (by decide) rfl ?_
      refine mG_goto (tgt := 6) C dX6_countEmpty_77 rfl ?_
      exact K

set_option maxRecDepth 20000 in
set_option maxHeartbeats 4000000 in
theorem vX6_countIn_0 {X : mX} {E : mEnv} {Qm : Option Value → mW → Prop} (C : mCtx X E MX6_countIn) (F : mFin X E MX6_countIn Qm) {w : mW}  (p0 : Int32)
    (K : (¬ (w.1 58 6) = 0 →
    (Qm none (mPI w 58 6 ((w.1 58 6) + (1 : Int32))))) ∧ ((w.1 58 6) = 0 →
    (Qm none (mPI (mPI w 58 7 p0) 58 6 ((w.1 58 6) + (1 : Int32)))))) :
    mG X E MX6_countIn 0 [.ref 58, .int p0] [] w := by
  refine mG_aload_n C dX6_countIn_0 rfl rfl ?_
  refine mG_getI C dX6_countIn_1 fl_261 sh58 rfl ?_
  refine mG_if_ne (tgt := 12) C dX6_countIn_4 rfl (fun h => ?_) (fun h => ?_)
  · have K := K.1 h
    refine mG_aload_n C dX6_countIn_12 rfl rfl ?_
    refine mG_dup C dX6_countIn_13 rfl ?_
    refine mG_getI C dX6_countIn_14 fl_261 sh58 rfl ?_
    refine mG_iconst C dX6_countIn_17 ic1 ?_
    refine mG_iadd C dX6_countIn_18 ?_
    refine mG_putI C dX6_countIn_19 fp_261 sh58 rfl ?_
    exact mG_vret C F dX6_countIn_22 rfl K
  · have K := K.2 h
    refine mG_aload_n C dX6_countIn_7 rfl rfl ?_
    refine mG_iload_n C dX6_countIn_8 rfl rfl ?_
    refine mG_putI C dX6_countIn_9 fp_263 sh58 rfl ?_
    refine mG_aload_n C dX6_countIn_12 rfl rfl ?_
    refine mG_dup C dX6_countIn_13 rfl ?_
    refine mG_getIv C dX6_countIn_14 fl_261 sh58 rfl (by first | rfl | simp [mPI, mPL]) ?_
    refine mG_iconst C dX6_countIn_17 ic1 ?_
    refine mG_iadd C dX6_countIn_18 ?_
    refine mG_putI C dX6_countIn_19 fp_261 sh58 rfl ?_
    exact mG_vret C F dX6_countIn_22 rfl K

set_option maxRecDepth 20000 in
set_option maxHeartbeats 4000000 in
theorem vX6_countRests_0 {X : mX} {E : mEnv} {Qm : Option Value → mW → Prop} (C : mCtx X E MX6_countRests) (F : mFin X E MX6_countRests Qm) {w : mW}  (p0 : Int64) (p1 : Int32) (p2 : Int32) (p3 : Int32) (p4 : Int32)
    (K : mG X E MX6_countRests 3 [.ref 58, .long p0, .retAddr 0, .int p1, .int p2, .int p3, .int p4, .int (0 : Int32), .retAddr 0, .retAddr 0] [] w) :
    mG X E MX6_countRests 0 [.ref 58, .long p0, .retAddr 0, .int p1, .int p2, .int p3, .int p4, .retAddr 0, .retAddr 0, .retAddr 0] [] w := by
  refine mG_iconst C dX6_countRests_0 ic0 ?_
  refine mG_istore (lv' := [.ref 58, .long p0, .retAddr 0, .int p1, .int p2, .int p3, .int p4, .int (0 : Int32), .retAddr 0, .retAddr 0]) C dX6_countRests_1 (by decide) rfl ?_
  exact K

set_option maxRecDepth 20000 in
set_option maxHeartbeats 4000000 in
theorem vX6_countRests_3 {X : mX} {E : mEnv} {Qm : Option Value → mW → Prop} (C : mCtx X E MX6_countRests) (F : mFin X E MX6_countRests Qm) {w : mW}  (x1 : Int64) (x3 : Int32) (x4 : Int32) (x5 : Int32) (x6 : Int32) (x7 : Int32)
    (K : ((4 : Int32) ≤ x7 →
    (mMv E MX6_startCounting [.ref 58] w (fun u1 =>
    (mG X E MX6_countRests 92 [.ref 58, .retAddr 0, .retAddr 0, .retAddr 0, .retAddr 0, .retAddr 0, .retAddr 0, .int (0 : Int32), .retAddr 0, .retAddr 0] [] u1)))) ∧ (¬ (4 : Int32) ≤ x7 →
    ((¬ (x7 >>> ((1 : Int32) &&& 31)) = (1 : Int32) →
    (mMl E MX6_stance [.long x1, .int x3, .int x5, .int ((1 : Int32) - x6)] w (fun v1 u2 =>
    ((¬ (x7 &&& (1 : Int32)) = (1 : Int32) →
    (mMl E MX6_stance [.long v1, .int x4, .int x5, .int ((1 : Int32) - x6)] u2 (fun v2 u3 =>
    (mMi E MX3_sumIfHeld [.ref 46, .long v2] u3 (fun v3 u4 =>
    (vp_in x7 4 ∧
    (∀ w1 : mW, w1 = (mPI u4 59 x7.toNatClampNeg v3) →
    (mG X E MX6_countRests 3 [.ref 58, .long x1, .retAddr 0, .int x3, .int x4, .int x5, .int x6, .int (x7 + (1 : Int32)), .retAddr 0, .retAddr 0] [] w1)))))))) ∧ ((x7 &&& (1 : Int32)) = (1 : Int32) →
    (mMl E MX6_stance [.long v1, .int x4, .int x5, .int x6] u2 (fun v4 u5 =>
    (mMi E MX3_sumIfHeld [.ref 46, .long v4] u5 (fun v5 u6 =>
    (vp_in x7 4 ∧
    (∀ w2 : mW, w2 = (mPI u6 59 x7.toNatClampNeg v5) →
    (mG X E MX6_countRests 3 [.ref 58, .long x1, .retAddr 0, .int x3, .int x4, .int x5, .int x6, .int (x7 + (1 : Int32)), .retAddr 0, .retAddr 0] [] w2)))))))))))) ∧ ((x7 >>> ((1 : Int32) &&& 31)) = (1 : Int32) →
    (mMl E MX6_stance [.long x1, .int x3, .int x5, .int x6] w (fun v6 u7 =>
    ((¬ (x7 &&& (1 : Int32)) = (1 : Int32) →
    (mMl E MX6_stance [.long v6, .int x4, .int x5, .int ((1 : Int32) - x6)] u7 (fun v7 u8 =>
    (mMi E MX3_sumIfHeld [.ref 46, .long v7] u8 (fun v8 u9 =>
    (vp_in x7 4 ∧
    (∀ w3 : mW, w3 = (mPI u9 59 x7.toNatClampNeg v8) →
    (mG X E MX6_countRests 3 [.ref 58, .long x1, .retAddr 0, .int x3, .int x4, .int x5, .int x6, .int (x7 + (1 : Int32)), .retAddr 0, .retAddr 0] [] w3)))))))) ∧ ((x7 &&& (1 : Int32)) = (1 : Int32) →
    (mMl E MX6_stance [.long v6, .int x4, .int x5, .int x6] u7 (fun v9 u10 =>
    (mMi E MX3_sumIfHeld [.ref 46, .long v9] u10 (fun v10 u11 =>
    (vp_in x7 4 ∧
    (∀ w4 : mW, w4 = (mPI u11 59 x7.toNatClampNeg v10) →
    (mG X E MX6_countRests 3 [.ref 58, .long x1, .retAddr 0, .int x3, .int x4, .int x5, .int x6, .int (x7 + (1 : Int32)), .retAddr 0, .retAddr 0] [] w4))))))))))))))) :
    mG X E MX6_countRests 3 [.ref 58, .long x1, .retAddr 0, .int x3, .int x4, .int x5, .int x6, .int x7, .retAddr 0, .retAddr 0] [] w := by
  refine mG_iload C dX6_countRests_3 rfl ?_
  refine mG_iconst C dX6_countRests_5 ic4 ?_
  refine mG_icmp_ge (tgt := 85) C dX6_countRests_6 rfl (fun h => ?_) (fun h => ?_)
  · have K := K.1 h
    refine mG_aload_n C dX6_countRests_85 rfl rfl ?_
    refine mG_Vv (Z := MX6_startCounting) (as := []) (rest := []) C dX6_countRests_86 lk_699 zX6_startCounting ⟨Nat.le_of_ble_eq_true rfl, Nat.le_of_ble_eq_true rfl⟩ sh58 rfl rfl (Nat.le_of_ble_eq_true rfl) rfl K (fun u1 K => ?_)
    refine mG_iconst C dX6_countRests_89 ic0 ?_
    refine mG_istore (lv' := [.ref 58, .long x1, .retAddr 0, .int x3, .int x4, .int x5, .int x6, .int (0 : Int32), .retAddr 0, .retAddr 0]) C dX6_countRests_90 (by decide) rfl ?_
    exact mG_holes [1, 3, 4, 5, 6] rfl K
  · have K := K.2 h
    refine mG_lload_n C dX6_countRests_9 rfl rfl ?_
    refine mG_iload_n C dX6_countRests_10 rfl rfl ?_
    refine mG_iload C dX6_countRests_11 rfl ?_
    refine mG_iload C dX6_countRests_13 rfl ?_
    refine mG_iconst C dX6_countRests_15 ic1 ?_
    refine mG_ishr C dX6_countRests_16 ?_
    refine mG_iconst C dX6_countRests_17 ic1 ?_
    refine mG_icmp_ne (tgt := 26) C dX6_countRests_18 rfl (fun h => ?_) (fun h => ?_)
    · have K := K.1 h
      refine mG_iconst C dX6_countRests_26 ic1 ?_
      refine mG_iload C dX6_countRests_27 rfl ?_
      refine mG_isub C dX6_countRests_29 ?_
      refine mG_Sl (Z := MX6_stance) (as := [.long x1, .int x3, .int x5, .int ((1 : Int32) - x6)]) (rest := []) C dX6_countRests_30 lk_732 zX6_stance ⟨Nat.le_of_ble_eq_true rfl, Nat.le_of_ble_eq_true rfl⟩ rfl (Nat.le_of_ble_eq_true rfl) rfl K (fun v1 u2 K => ?_)
      refine mG_lstore (lv' := [.ref 58, .long x1, .retAddr 0, .int x3, .int x4, .int x5, .int x6, .int x7, .long v1, .retAddr 0]) C dX6_countRests_33 (by decide) rfl ?_
      refine mG_lload C dX6_countRests_35 rfl ?_
      refine mG_iload C dX6_countRests_37 rfl ?_
      refine mG_iload C dX6_countRests_39 rfl ?_
      refine mG_iload C dX6_countRests_41 rfl ?_
      refine mG_iconst C dX6_countRests_43 ic1 ?_
      refine mG_iand C dX6_countRests_44 ?_
      refine mG_iconst C dX6_countRests_45 ic1 ?_
      refine mG_icmp_ne (tgt := 54) C dX6_countRests_46 rfl (fun h => ?_) (fun h => ?_)
      · have K := K.1 h
        refine mG_iconst C dX6_countRests_54 ic1 ?_
        refine mG_iload C dX6_countRests_55 rfl ?_
        refine mG_isub C dX6_countRests_57 ?_
        refine mG_Sl (Z := MX6_stance) (as := [.long v1, .int x4, .int x5, .int ((1 : Int32) - x6)]) (rest := []) C dX6_countRests_58 lk_732 zX6_stance ⟨Nat.le_of_ble_eq_true rfl, Nat.le_of_ble_eq_true rfl⟩ rfl (Nat.le_of_ble_eq_true rfl) rfl K (fun v2 u3 K => ?_)
        refine mG_lstore (lv' := [.ref 58, .long x1, .retAddr 0, .int x3, .int x4, .int x5, .int x6, .int x7, .long v2, .retAddr 0]) C dX6_countRests_61 (by decide) rfl ?_
        refine mG_aload_n C dX6_countRests_63 rfl rfl ?_
        refine mG_getR C dX6_countRests_64 fl_265 sh58 rfl ?_
        refine mG_iload C dX6_countRests_67 rfl ?_
        refine mG_aload_n C dX6_countRests_69 rfl rfl ?_
        refine mG_getR C dX6_countRests_70 fl_253 sh58 rfl ?_
        refine mG_lload C dX6_countRests_73 rfl ?_
        refine mG_Vi (Z := MX3_sumIfHeld) (as := [.long v2]) (rest := [.int x7, .ref 59]) C dX6_countRests_75 lk_738 zX3_sumIfHeld ⟨Nat.le_of_ble_eq_true rfl, Nat.le_of_ble_eq_true rfl⟩ sh46 rfl rfl (Nat.le_of_ble_eq_true rfl) rfl K (fun v3 u4 K => ?_)
        obtain ⟨h1, K⟩ := K
        refine mG_iast C dX6_countRests_78 sh59 h1 ?_
        refine mG_nm (fun w1 ew1 => ?_)
        have K := K w1 ew1
        refine mG_iincc (lv' := [.ref 58, .long x1, .retAddr 0, .int x3, .int x4, .int x5, .int x6, .int (x7 + (1 : Int32)), .long v2, .retAddr 0]) C dX6_countRests_79 rfl ic1 (by decide) rfl ?_
        refine mG_goto (tgt := 3) C dX6_countRests_82 rfl ?_
        exact mG_holes [8] rfl K
      · have K := K.2 h
        refine mG_iload C dX6_countRests_49 rfl ?_
        refine mG_goto (tgt := 58) C dX6_countRests_51 rfl ?_
        refine mG_Sl (Z := MX6_stance) (as := [.long v1, .int x4, .int x5, .int x6]) (rest := []) C dX6_countRests_58 lk_732 zX6_stance ⟨Nat.le_of_ble_eq_true rfl, Nat.le_of_ble_eq_true rfl⟩ rfl (Nat.le_of_ble_eq_true rfl) rfl K (fun v4 u5 K => ?_)
        refine mG_lstore (lv' := [.ref 58, .long x1, .retAddr 0, .int x3, .int x4, .int x5, .int x6, .int x7, .long v4, .retAddr 0]) C dX6_countRests_61 (by decide) rfl ?_
        refine mG_aload_n C dX6_countRests_63 rfl rfl ?_
        refine mG_getR C dX6_countRests_64 fl_265 sh58 rfl ?_
        refine mG_iload C dX6_countRests_67 rfl ?_
        refine mG_aload_n C dX6_countRests_69 rfl rfl ?_
        refine mG_getR C dX6_countRests_70 fl_253 sh58 rfl ?_
        refine mG_lload C dX6_countRests_73 rfl ?_
        refine mG_Vi (Z := MX3_sumIfHeld) (as := [.long v4]) (rest := [.int x7, .ref 59]) C dX6_countRests_75 lk_738 zX3_sumIfHeld ⟨Nat.le_of_ble_eq_true rfl, Nat.le_of_ble_eq_true rfl⟩ sh46 rfl rfl (Nat.le_of_ble_eq_true rfl) rfl K (fun v5 u6 K => ?_)
        obtain ⟨h2, K⟩ := K
        refine mG_iast C dX6_countRests_78 sh59 h2 ?_
        refine mG_nm (fun w2 ew2 => ?_)
        have K := K w2 ew2
        refine mG_iincc (lv' := [.ref 58, .long x1, .retAddr 0, .int x3, .int x4, .int x5, .int x6, .int (x7 + (1 : Int32)), .long v4, .retAddr 0]) C dX6_countRests_79 rfl ic1 (by decide) rfl ?_
        refine mG_goto (tgt := 3) C dX6_countRests_82 rfl ?_
        exact mG_holes [8] rfl K
    · have K := K.2 h
      refine mG_iload C dX6_countRests_21 rfl ?_
      refine mG_goto (tgt := 30) C dX6_countRests_23 rfl ?_
      refine mG_Sl (Z := MX6_stance) (as := [.long x1, .int x3, .int x5, .int x6]) (rest := []) C dX6_countRests_30 lk_732 zX6_stance ⟨Nat.le_of_ble_eq_true rfl, Nat.le_of_ble_eq_true rfl⟩ rfl (Nat.le_of_ble_eq_true rfl) rfl K (fun v6 u7 K => ?_)
      refine mG_lstore (lv' := [.ref 58, .long x1, .retAddr 0, .int x3, .int x4, .int x5, .int x6, .int x7, .long v6, .retAddr 0]) C dX6_countRests_33 (by decide) rfl ?_
      refine mG_lload C dX6_countRests_35 rfl ?_
      refine mG_iload C dX6_countRests_37 rfl ?_
      refine mG_iload C dX6_countRests_39 rfl ?_
      refine mG_iload C dX6_countRests_41 rfl ?_
      refine mG_iconst C dX6_countRests_43 ic1 ?_
      refine mG_iand C dX6_countRests_44 ?_
      refine mG_iconst C dX6_countRests_45 ic1 ?_
      refine mG_icmp_ne (tgt := 54) C dX6_countRests_46 rfl (fun h => ?_) (fun h => ?_)
      · have K := K.1 h
        refine mG_iconst C dX6_countRests_54 ic1 ?_
        refine mG_iload C dX6_countRests_55 rfl ?_
        refine mG_isub C dX6_countRests_57 ?_
        refine mG_Sl (Z := MX6_stance) (as := [.long v6, .int x4, .int x5, .int ((1 : Int32) - x6)]) (rest := []) C dX6_countRests_58 lk_732 zX6_stance ⟨Nat.le_of_ble_eq_true rfl, Nat.le_of_ble_eq_true rfl⟩ rfl (Nat.le_of_ble_eq_true rfl) rfl K (fun v7 u8 K => ?_)
        refine mG_lstore (lv' := [.ref 58, .long x1, .retAddr 0, .int x3, .int x4, .int x5, .int x6, .int x7, .long v7, .retAddr 0]) C dX6_countRests_61 (by decide) rfl ?_
        refine mG_aload_n C dX6_countRests_63 rfl rfl ?_
        refine mG_getR C dX6_countRests_64 fl_265 sh58 rfl ?_
        refine mG_iload C dX6_countRests_67 rfl ?_
        refine mG_aload_n C dX6_countRests_69 rfl rfl ?_
        refine mG_getR C dX6_countRests_70 fl_253 sh58 rfl ?_
        refine mG_lload C dX6_countRests_73 rfl ?_
        refine mG_Vi (Z := MX3_sumIfHeld) (as := [.long v7]) (rest := [.int x7, .ref 59]) C dX6_countRests_75 lk_738 zX3_sumIfHeld ⟨Nat.le_of_ble_eq_true rfl, Nat.le_of_ble_eq_true rfl⟩ sh46 rfl rfl (Nat.le_of_ble_eq_true rfl) rfl K (fun v8 u9 K => ?_)
        obtain ⟨h3, K⟩ := K
        refine mG_iast C dX6_countRests_78 sh59 h3 ?_
        refine mG_nm (fun w3 ew3 => ?_)
        have K := K w3 ew3
        refine mG_iincc (lv' := [.ref 58, .long x1, .retAddr 0, .int x3, .int x4, .int x5, .int x6, .int (x7 + (1 : Int32)), .long v7, .retAddr 0]) C dX6_countRests_79 rfl ic1 (by decide) rfl ?_
        refine mG_goto (tgt := 3) C dX6_countRests_82 rfl ?_
        exact mG_holes [8] rfl K
      · have K := K.2 h
        refine mG_iload C dX6_countRests_49 rfl ?_
        refine mG_goto (tgt := 58) C dX6_countRests_51 rfl ?_
        refine mG_Sl (Z := MX6_stance) (as := [.long v6, .int x4, .int x5, .int x6]) (rest := []) C dX6_countRests_58 lk_732 zX6_stance ⟨Nat.le_of_ble_eq_true rfl, Nat.le_of_ble_eq_true rfl⟩ rfl (Nat.le_of_ble_eq_true rfl) rfl K (fun v9 u10 K => ?_)
        refine mG_lstore (lv' := [.ref 58, .long x1, .retAddr 0, .int x3, .int x4, .int x5, .int x6, .int x7, .long v9, .retAddr 0]) C dX6_countRests_61 (by decide) rfl ?_
        refine mG_aload_n C dX6_countRests_63 rfl rfl ?_
        refine mG_getR C dX6_countRests_64 fl_265 sh58 rfl ?_
        refine mG_iload C dX6_countRests_67 rfl ?_
        refine mG_aload_n C dX6_countRests_69 rfl rfl ?_
        refine mG_getR C dX6_countRests_70 fl_253 sh58 rfl ?_
        refine mG_lload C dX6_countRests_73 rfl ?_
        refine mG_Vi (Z := MX3_sumIfHeld) (as := [.long v9]) (rest := [.int x7, .ref 59]) C dX6_countRests_75 lk_738 zX3_sumIfHeld ⟨Nat.le_of_ble_eq_true rfl, Nat.le_of_ble_eq_true rfl⟩ sh46 rfl rfl (Nat.le_of_ble_eq_true rfl) rfl K (fun v10 u11 K => ?_)
        obtain ⟨h4, K⟩ := K
        refine mG_iast C dX6_countRests_78 sh59 h4 ?_
        refine mG_nm (fun w4 ew4 => ?_)
        have K := K w4 ew4
        refine mG_iincc (lv' := [.ref 58, .long x1, .retAddr 0, .int x3, .int x4, .int x5, .int x6, .int (x7 + (1 : Int32)), .long v9, .retAddr 0]) C dX6_countRests_79 rfl ic1 (by decide) rfl ?_
        refine mG_goto (tgt := 3) C dX6_countRests_82 rfl ?_
        exact mG_holes [8] rfl K

set_option maxRecDepth 20000 in
set_option maxHeartbeats 4000000 in
theorem vX6_countRests_92 {X : mX} {E : mEnv} {Qm : Option Value → mW → Prop} (C : mCtx X E MX6_countRests) (F : mFin X E MX6_countRests Qm) {w : mW}  (x7 : Int32)
    (K : ((4 : Int32) ≤ x7 →
    (Qm none w)) ∧ (¬ (4 : Int32) ≤ x7 →
    (vp_in (x7 ^^^ (2 : Int32)) 4 ∧
    (vp_in x7 4 ∧
    (((w.1 59 x7.toNatClampNeg) < (w.1 59 ((x7 ^^^ (2 : Int32)).toNatClampNeg)) →
    (mG X E MX6_countRests 92 [.ref 58, .retAddr 0, .retAddr 0, .retAddr 0, .retAddr 0, .retAddr 0, .retAddr 0, .int (x7 + (1 : Int32)), .retAddr 0, .retAddr 0] [] w)) ∧ (¬ (w.1 59 x7.toNatClampNeg) < (w.1 59 ((x7 ^^^ (2 : Int32)).toNatClampNeg)) →
    (vp_in (x7 ^^^ (1 : Int32)) 4 ∧
    (vp_in x7 4 ∧
    (((w.1 59 x7.toNatClampNeg) < (w.1 59 ((x7 ^^^ (1 : Int32)).toNatClampNeg)) →
    (mG X E MX6_countRests 92 [.ref 58, .retAddr 0, .retAddr 0, .retAddr 0, .retAddr 0, .retAddr 0, .retAddr 0, .int (x7 + (1 : Int32)), .retAddr 0, .retAddr 0] [] w)) ∧ (¬ (w.1 59 x7.toNatClampNeg) < (w.1 59 ((x7 ^^^ (1 : Int32)).toNatClampNeg)) →
    (mMv E MX6_countIn [.ref 58, .int x7] w (fun u1 =>
    (mG X E MX6_countRests 92 [.ref 58, .retAddr 0, .retAddr 0, .retAddr 0, .retAddr 0, .retAddr 0, .retAddr 0, .int (x7 + (1 : Int32)), .retAddr 0, .retAddr 0] [] u1))))))))))))) :
    mG X E MX6_countRests 92 [.ref 58, .retAddr 0, .retAddr 0, .retAddr 0, .retAddr 0, .retAddr 0, .retAddr 0, .int x7, .retAddr 0, .retAddr 0] [] w := by
  refine mG_iload C dX6_countRests_92 rfl ?_
  refine mG_iconst C dX6_countRests_94 ic4 ?_
  refine mG_icmp_ge (tgt := 148) C dX6_countRests_95 rfl (fun h => ?_) (fun h => ?_)
  · have K := K.1 h
    exact mG_vret C F dX6_countRests_148 rfl K
  · have K := K.2 h
    refine mG_aload_n C dX6_countRests_98 rfl rfl ?_
    refine mG_getR C dX6_countRests_99 fl_265 sh58 rfl ?_
    refine mG_iload C dX6_countRests_102 rfl ?_
    refine mG_iconst C dX6_countRests_104 ic2 ?_
    refine mG_ixor C dX6_countRests_105 ?_
    obtain ⟨h1, K⟩ := K
    refine mG_iald C dX6_countRests_106 sh59 h1 ?_
    refine mG_aload_n C dX6_countRests_107 rfl rfl ?_
    refine mG_getR C dX6_countRests_108 fl_265 sh58 rfl ?_
    refine mG_iload C dX6_countRests_111 rfl ?_
    obtain ⟨h2, K⟩ := K
    refine mG_iald C dX6_countRests_113 sh59 h2 ?_
    refine mG_icmp_gt (tgt := 142) C dX6_countRests_114 rfl (fun h => ?_) (fun h => ?_)
    · have K := K.1 h
      refine mG_iincc (lv' := [.ref 58, .retAddr 0, .retAddr 0, .retAddr 0, .retAddr 0, .retAddr 0, .retAddr 0, .int (x7 + (1 : Int32)), .retAddr 0, .retAddr 0]) C dX6_countRests_142 rfl ic1 (by decide) rfl ?_
      refine mG_goto (tgt := 92) C dX6_countRests_145 rfl ?_
      exact K
    · have K := K.2 h
      refine mG_aload_n C dX6_countRests_117 rfl rfl ?_
      refine mG_getR C dX6_countRests_118 fl_265 sh58 rfl ?_
      refine mG_iload C dX6_countRests_121 rfl ?_
      refine mG_iconst C dX6_countRests_123 ic1 ?_
      refine mG_ixor C dX6_countRests_124 ?_
      obtain ⟨h3, K⟩ := K
      refine mG_iald C dX6_countRests_125 sh59 h3 ?_
      refine mG_aload_n C dX6_countRests_126 rfl rfl ?_
      refine mG_getR C dX6_countRests_127 fl_265 sh58 rfl ?_
      refine mG_iload C dX6_countRests_130 rfl ?_
      obtain ⟨h4, K⟩ := K
      refine mG_iald C dX6_countRests_132 sh59 h4 ?_
      refine mG_icmp_gt (tgt := 142) C dX6_countRests_133 rfl (fun h => ?_) (fun h => ?_)
      · have K := K.1 h
        refine mG_iincc (lv' := [.ref 58, .retAddr 0, .retAddr 0, .retAddr 0, .retAddr 0, .retAddr 0, .retAddr 0, .int (x7 + (1 : Int32)), .retAddr 0, .retAddr 0]) C dX6_countRests_142 rfl ic1 (by decide) rfl ?_
        refine mG_goto (tgt := 92) C dX6_countRests_145 rfl ?_
        exact K
      · have K := K.2 h
        refine mG_aload_n C dX6_countRests_136 rfl rfl ?_
        refine mG_iload C dX6_countRests_137 rfl ?_
        refine mG_Vv (Z := MX6_countIn) (as := [.int x7]) (rest := []) C dX6_countRests_139 lk_708 zX6_countIn ⟨Nat.le_of_ble_eq_true rfl, Nat.le_of_ble_eq_true rfl⟩ sh58 rfl rfl (Nat.le_of_ble_eq_true rfl) rfl K (fun u1 K => ?_)
        refine mG_iincc (lv' := [.ref 58, .retAddr 0, .retAddr 0, .retAddr 0, .retAddr 0, .retAddr 0, .retAddr 0, .int (x7 + (1 : Int32)), .retAddr 0, .retAddr 0]) C dX6_countRests_142 rfl ic1 (by decide) rfl ?_
        refine mG_goto (tgt := 92) C dX6_countRests_145 rfl ?_
        exact K

set_option maxRecDepth 20000 in
set_option maxHeartbeats 4000000 in
theorem vX6_countSaid_0 {X : mX} {E : mEnv} {Qm : Option Value → mW → Prop} (C : mCtx X E MX6_countSaid) (F : mFin X E MX6_countSaid Qm) {w : mW}  (p0 : Int32) (p1 : Int32)
    (K : mMv E MX6_startCounting [.ref 58] w (fun u1 =>
    (mG X E MX6_countSaid 6 [.ref 58, .int p0, .int p1, .int (0 : Int32)] [] u1))) :
    mG X E MX6_countSaid 0 [.ref 58, .int p0, .int p1, .retAddr 0] [] w := by
  refine mG_aload_n C dX6_countSaid_0 rfl rfl ?_
  refine mG_Vv (Z := MX6_startCounting) (as := []) (rest := []) C dX6_countSaid_1 lk_699 zX6_startCounting ⟨Nat.le_of_ble_eq_true rfl, Nat.le_of_ble_eq_true rfl⟩ sh58 rfl rfl (Nat.le_of_ble_eq_true rfl) rfl K (fun u1 K => ?_)
  refine mG_iconst C dX6_countSaid_4 ic0 ?_
  refine mG_istore_n (lv' := [.ref 58, .int p0, .int p1, .int (0 : Int32)]) C dX6_countSaid_5 rfl (by decide) rfl ?_
  exact K

set_option maxRecDepth 20000 in
set_option maxHeartbeats 4000000 in
theorem vX6_countSaid_6 {X : mX} {E : mEnv} {Qm : Option Value → mW → Prop} (C : mCtx X E MX6_countSaid) (F : mFin X E MX6_countSaid Qm) {w : mW}  (x1 : Int32) (x2 : Int32) (x3 : Int32)
    (K : ((720 : Int32) ≤ x3 →
    (Qm none w)) ∧ (¬ (720 : Int32) ≤ x3 →
    (mMi E MX3_comeTo [.ref 46, .int x3] w (fun v1 u1 =>
    ((¬ v1 = 0 →
    (mMv E MX3_listen [.ref 46] u1 (fun u2 =>
    (mMi E MX3_isSoSaidTo [.ref 46, .int ((1 : Int32) <<< (x1 &&& 31))] u2 (fun v2 u3 =>
    ((v2 = 0 →
    (mG X E MX6_countSaid 6 [.ref 58, .int x1, .int x2, .int (x3 + (1 : Int32))] [] u3)) ∧ (¬ v2 = 0 →
    (mMi E MX3_doesDeedIfTold [.ref 46, .int x1] u3 (fun v3 u4 =>
    ((¬ v3 = x2 →
    (mG X E MX6_countSaid 6 [.ref 58, .int x1, .int x2, .int (x3 + (1 : Int32))] [] u4)) ∧ (v3 = x2 →
    (mMi E MX7_number [.ref 47] u4 (fun v4 u5 =>
    (mMv E MX6_countIn [.ref 58, .int v4] u5 (fun u6 =>
    (mG X E MX6_countSaid 6 [.ref 58, .int x1, .int x2, .int (x3 + (1 : Int32))] [] u6)))))))))))))))) ∧ (v1 = 0 →
    (mG X E MX6_countSaid 6 [.ref 58, .int x1, .int x2, .int (x3 + (1 : Int32))] [] u1))))))) :
    mG X E MX6_countSaid 6 [.ref 58, .int x1, .int x2, .int x3] [] w := by
  refine mG_iload_n C dX6_countSaid_6 rfl rfl ?_
  refine mG_sipush C dX6_countSaid_7 sp720 ?_
  refine mG_icmp_ge (tgt := 79) C dX6_countSaid_10 rfl (fun h => ?_) (fun h => ?_)
  · have K := K.1 h
    exact mG_vret C F dX6_countSaid_79 rfl K
  · have K := K.2 h
    refine mG_aload_n C dX6_countSaid_13 rfl rfl ?_
    refine mG_getR C dX6_countSaid_14 fl_253 sh58 rfl ?_
    refine mG_iload_n C dX6_countSaid_17 rfl rfl ?_
    refine mG_Vi (Z := MX3_comeTo) (as := [.int x3]) (rest := []) C dX6_countSaid_18 lk_677 zX3_comeTo ⟨Nat.le_of_ble_eq_true rfl, Nat.le_of_ble_eq_true rfl⟩ sh46 rfl rfl (Nat.le_of_ble_eq_true rfl) rfl K (fun v1 u1 K => ?_)
    refine mG_if_ne (tgt := 27) C dX6_countSaid_21 rfl (fun h => ?_) (fun h => ?_)
    · have K := K.1 h
      refine mG_aload_n C dX6_countSaid_27 rfl rfl ?_
      refine mG_getR C dX6_countSaid_28 fl_253 sh58 rfl ?_
      refine mG_Vv (Z := MX3_listen) (as := []) (rest := []) C dX6_countSaid_31 lk_685 zX3_listen ⟨Nat.le_of_ble_eq_true rfl, Nat.le_of_ble_eq_true rfl⟩ sh46 rfl rfl (Nat.le_of_ble_eq_true rfl) rfl K (fun u2 K => ?_)
      refine mG_aload_n C dX6_countSaid_34 rfl rfl ?_
      refine mG_getR C dX6_countSaid_35 fl_253 sh58 rfl ?_
      refine mG_iconst C dX6_countSaid_38 ic1 ?_
      refine mG_iload_n C dX6_countSaid_39 rfl rfl ?_
      refine mG_ishl C dX6_countSaid_40 ?_
      refine mG_Vi (Z := MX3_isSoSaidTo) (as := [.int ((1 : Int32) <<< (x1 &&& 31))]) (rest := []) C dX6_countSaid_41 lk_686 zX3_isSoSaidTo ⟨Nat.le_of_ble_eq_true rfl, Nat.le_of_ble_eq_true rfl⟩ sh46 rfl rfl (Nat.le_of_ble_eq_true rfl) rfl K (fun v2 u3 K => ?_)
      refine mG_if_eq (tgt := 73) C dX6_countSaid_44 rfl (fun h => ?_) (fun h => ?_)
      · have K := K.1 h
        refine mG_iincc (lv' := [.ref 58, .int x1, .int x2, .int (x3 + (1 : Int32))]) C dX6_countSaid_73 rfl ic1 (by decide) rfl ?_
        refine mG_goto (tgt := 6) C dX6_countSaid_76 rfl ?_
        exact K
      · have K := K.2 h
        refine mG_aload_n C dX6_countSaid_47 rfl rfl ?_
        refine mG_getR C dX6_countSaid_48 fl_253 sh58 rfl ?_
        refine mG_iload_n C dX6_countSaid_51 rfl rfl ?_
        refine mG_Vi (Z := MX3_doesDeedIfTold) (as := [.int x1]) (rest := []) C dX6_countSaid_52 lk_720 zX3_doesDeedIfTold ⟨Nat.le_of_ble_eq_true rfl, Nat.le_of_ble_eq_true rfl⟩ sh46 rfl rfl (Nat.le_of_ble_eq_true rfl) rfl K (fun v3 u4 K => ?_)
        refine mG_iload_n C dX6_countSaid_55 rfl rfl ?_
        refine mG_icmp_ne (tgt := 73) C dX6_countSaid_56 rfl (fun h => ?_) (fun h => ?_)
        · have K := K.1 h
          refine mG_iincc (lv' := [.ref 58, .int x1, .int x2, .int (x3 + (1 : Int32))]) C dX6_countSaid_73 rfl ic1 (by decide) rfl ?_
          refine mG_goto (tgt := 6) C dX6_countSaid_76 rfl ?_
          exact K
        · have K := K.2 h
          refine mG_aload_n C dX6_countSaid_59 rfl rfl ?_
          refine mG_aload_n C dX6_countSaid_60 rfl rfl ?_
          refine mG_getR C dX6_countSaid_61 fl_253 sh58 rfl ?_
          refine mG_getR C dX6_countSaid_64 fl_212 sh46 rfl ?_
          refine mG_Vi (Z := MX7_number) (as := []) (rest := [.ref 58]) C dX6_countSaid_67 lk_687 zX7_number ⟨Nat.le_of_ble_eq_true rfl, Nat.le_of_ble_eq_true rfl⟩ sh47 rfl rfl (Nat.le_of_ble_eq_true rfl) rfl K (fun v4 u5 K => ?_)
          refine mG_Vv (Z := MX6_countIn) (as := [.int v4]) (rest := []) C dX6_countSaid_70 lk_708 zX6_countIn ⟨Nat.le_of_ble_eq_true rfl, Nat.le_of_ble_eq_true rfl⟩ sh58 rfl rfl (Nat.le_of_ble_eq_true rfl) rfl K (fun u6 K => ?_)
          refine mG_iincc (lv' := [.ref 58, .int x1, .int x2, .int (x3 + (1 : Int32))]) C dX6_countSaid_73 rfl ic1 (by decide) rfl ?_
          refine mG_goto (tgt := 6) C dX6_countSaid_76 rfl ?_
          exact K
    · have K := K.2 h
      refine mG_goto (tgt := 73) C dX6_countSaid_24 rfl ?_
      refine mG_iincc (lv' := [.ref 58, .int x1, .int x2, .int (x3 + (1 : Int32))]) C dX6_countSaid_73 rfl ic1 (by decide) rfl ?_
      refine mG_goto (tgt := 6) C dX6_countSaid_76 rfl ?_
      exact K

set_option maxRecDepth 20000 in
set_option maxHeartbeats 4000000 in
theorem vX6_outcomes_0 {X : mX} {E : mEnv} {Qm : Option Value → mW → Prop} (C : mCtx X E MX6_outcomes) (F : mFin X E MX6_outcomes Qm) {w : mW} 
    (K : mMi E MX3_truthIfSaidTo [.ref 46, .int (0 : Int32)] w (fun v1 u1 =>
    (mG X E MX6_outcomes 13 [.ref 58, .long ((1 : Int64) <<< ((v1).toInt64 &&& 63)), .retAddr 0, .int (0 : Int32), .retAddr 0] [] u1))) :
    mG X E MX6_outcomes 0 [.ref 58, .retAddr 0, .retAddr 0, .retAddr 0, .retAddr 0] [] w := by
  refine mG_lconst (v := 1) C dX6_outcomes_0 (by decide) ?_
  refine mG_aload_n C dX6_outcomes_1 rfl rfl ?_
  refine mG_getR C dX6_outcomes_2 fl_253 sh58 rfl ?_
  refine mG_iconst C dX6_outcomes_5 ic0 ?_
  refine mG_Vi (Z := MX3_truthIfSaidTo) (as := [.int (0 : Int32)]) (rest := [.long (1 : Int64)]) C dX6_outcomes_6 lk_762 zX3_truthIfSaidTo ⟨Nat.le_of_ble_eq_true rfl, Nat.le_of_ble_eq_true rfl⟩ sh46 rfl rfl (Nat.le_of_ble_eq_true rfl) rfl K (fun v1 u1 K => ?_)
  refine mG_lshl C dX6_outcomes_9 ?_
  refine mG_lstore_n (lv' := [.ref 58, .long ((1 : Int64) <<< ((v1).toInt64 &&& 63)), .retAddr 0, .retAddr 0, .retAddr 0]) C dX6_outcomes_10 rfl (by decide) rfl ?_
  refine mG_iconst C dX6_outcomes_11 ic0 ?_
  refine mG_istore_n (lv' := [.ref 58, .long ((1 : Int64) <<< ((v1).toInt64 &&& 63)), .retAddr 0, .int (0 : Int32), .retAddr 0]) C dX6_outcomes_12 rfl (by decide) rfl ?_
  exact K

set_option maxRecDepth 20000 in
set_option maxHeartbeats 4000000 in
theorem vX6_outcomes_13 {X : mX} {E : mEnv} {Qm : Option Value → mW → Prop} (C : mCtx X E MX6_outcomes) (F : mFin X E MX6_outcomes Qm) {w : mW}  (x1 : Int64) (x3 : Int32)
    (K : ((720 : Int32) ≤ x3 →
    (Qm (some (.long x1)) w)) ∧ (¬ (720 : Int32) ≤ x3 →
    (mMi E MX3_comeTo [.ref 46, .int x3] w (fun v1 u1 =>
    ((¬ v1 = 0 →
    (mMv E MX3_listen [.ref 46] u1 (fun u2 =>
    (mG X E MX6_outcomes 44 [.ref 58, .long x1, .retAddr 0, .int x3, .int (0 : Int32)] [] u2)))) ∧ (v1 = 0 →
    (mG X E MX6_outcomes 13 [.ref 58, .long x1, .retAddr 0, .int (x3 + (1 : Int32)), .retAddr 0] [] u1))))))) :
    mG X E MX6_outcomes 13 [.ref 58, .long x1, .retAddr 0, .int x3, .retAddr 0] [] w := by
  refine mG_iload_n C dX6_outcomes_13 rfl rfl ?_
  refine mG_sipush C dX6_outcomes_14 sp720 ?_
  refine mG_icmp_ge (tgt := 98) C dX6_outcomes_17 rfl (fun h => ?_) (fun h => ?_)
  · have K := K.1 h
    refine mG_lload_n C dX6_outcomes_98 rfl rfl ?_
    exact mG_lret C F dX6_outcomes_99 rfl K
  · have K := K.2 h
    refine mG_aload_n C dX6_outcomes_20 rfl rfl ?_
    refine mG_getR C dX6_outcomes_21 fl_253 sh58 rfl ?_
    refine mG_iload_n C dX6_outcomes_24 rfl rfl ?_
    refine mG_Vi (Z := MX3_comeTo) (as := [.int x3]) (rest := []) C dX6_outcomes_25 lk_677 zX3_comeTo ⟨Nat.le_of_ble_eq_true rfl, Nat.le_of_ble_eq_true rfl⟩ sh46 rfl rfl (Nat.le_of_ble_eq_true rfl) rfl K (fun v1 u1 K => ?_)
    refine mG_if_ne (tgt := 34) C dX6_outcomes_28 rfl (fun h => ?_) (fun h => ?_)
    · have K := K.1 h
      refine mG_aload_n C dX6_outcomes_34 rfl rfl ?_
      refine mG_getR C dX6_outcomes_35 fl_253 sh58 rfl ?_
      refine mG_Vv (Z := MX3_listen) (as := []) (rest := []) C dX6_outcomes_38 lk_685 zX3_listen ⟨Nat.le_of_ble_eq_true rfl, Nat.le_of_ble_eq_true rfl⟩ sh46 rfl rfl (Nat.le_of_ble_eq_true rfl) rfl K (fun u2 K => ?_)
      refine mG_iconst C dX6_outcomes_41 ic0 ?_
      refine mG_istore (lv' := [.ref 58, .long x1, .retAddr 0, .int x3, .int (0 : Int32)]) C dX6_outcomes_42 (by decide) rfl ?_
      exact K
    · have K := K.2 h
      refine mG_goto (tgt := 92) C dX6_outcomes_31 rfl ?_
      refine mG_iincc (lv' := [.ref 58, .long x1, .retAddr 0, .int (x3 + (1 : Int32)), .retAddr 0]) C dX6_outcomes_92 rfl ic1 (by decide) rfl ?_
      refine mG_goto (tgt := 13) C dX6_outcomes_95 rfl ?_
      exact K

set_option maxRecDepth 20000 in
set_option maxHeartbeats 4000000 in
theorem vX6_outcomes_44 {X : mX} {E : mEnv} {Qm : Option Value → mW → Prop} (C : mCtx X E MX6_outcomes) (F : mFin X E MX6_outcomes Qm) {w : mW}  (x1 : Int64) (x3 : Int32) (x4 : Int32)
    (K : ((w.1 1 1) ≤ x4 →
    (mG X E MX6_outcomes 13 [.ref 58, .long x1, .retAddr 0, .int (x3 + (1 : Int32)), .retAddr 0] [] w)) ∧ (¬ (w.1 1 1) ≤ x4 →
    (mMi E MX3_isSoSaidTo [.ref 46, .int ((1 : Int32) <<< (x4 &&& 31))] w (fun v1 u1 =>
    ((v1 = 0 →
    (mG X E MX6_outcomes 44 [.ref 58, .long x1, .retAddr 0, .int x3, .int (x4 + (1 : Int32))] [] u1)) ∧ (¬ v1 = 0 →
    (mMi E MX3_truthIfSaidTo [.ref 46, .int ((1 : Int32) <<< (x4 &&& 31))] u1 (fun v2 u2 =>
    (mG X E MX6_outcomes 44 [.ref 58, .long (x1 ||| ((1 : Int64) <<< ((v2).toInt64 &&& 63))), .retAddr 0, .int x3, .int (x4 + (1 : Int32))] [] u2))))))))) :
    mG X E MX6_outcomes 44 [.ref 58, .long x1, .retAddr 0, .int x3, .int x4] [] w := by
  refine mG_iload C dX6_outcomes_44 rfl ?_
  refine mG_aload_n C dX6_outcomes_46 rfl rfl ?_
  refine mG_getR C dX6_outcomes_47 fl_252 sh58 rfl ?_
  refine mG_getI C dX6_outcomes_50 fl_40 sh1 rfl ?_
  refine mG_icmp_ge (tgt := 92) C dX6_outcomes_53 rfl (fun h => ?_) (fun h => ?_)
  · have K := K.1 h
    refine mG_iincc (lv' := [.ref 58, .long x1, .retAddr 0, .int (x3 + (1 : Int32)), .int x4]) C dX6_outcomes_92 rfl ic1 (by decide) rfl ?_
    refine mG_goto (tgt := 13) C dX6_outcomes_95 rfl ?_
    exact mG_holes [4] rfl K
  · have K := K.2 h
    refine mG_aload_n C dX6_outcomes_56 rfl rfl ?_
    refine mG_getR C dX6_outcomes_57 fl_253 sh58 rfl ?_
    refine mG_iconst C dX6_outcomes_60 ic1 ?_
    refine mG_iload C dX6_outcomes_61 rfl ?_
    refine mG_ishl C dX6_outcomes_63 ?_
    refine mG_Vi (Z := MX3_isSoSaidTo) (as := [.int ((1 : Int32) <<< (x4 &&& 31))]) (rest := []) C dX6_outcomes_64 lk_686 zX3_isSoSaidTo ⟨Nat.le_of_ble_eq_true rfl, Nat.le_of_ble_eq_true rfl⟩ sh46 rfl rfl (Nat.le_of_ble_eq_true rfl) rfl K (fun v1 u1 K => ?_)
    refine mG_if_eq (tgt := 86) C dX6_outcomes_67 rfl (fun h => ?_) (fun h => ?_)
    · have K := K.1 h
      refine mG_iincc (lv' := [.ref 58, .long x1, .retAddr 0, .int x3, .int (x4 + (1 : Int32))]) C dX6_outcomes_86 rfl ic1 (by decide) rfl ?_
      refine mG_goto (tgt := 44) C dX6_outcomes_89 rfl ?_
      exact K
    · have K := K.2 h
      refine mG_lload_n C dX6_outcomes_70 rfl rfl ?_
      refine mG_lconst (v := 1) C dX6_outcomes_71 (by decide) ?_
      refine mG_aload_n C dX6_outcomes_72 rfl rfl ?_
      refine mG_getR C dX6_outcomes_73 fl_253 sh58 rfl ?_
      refine mG_iconst C dX6_outcomes_76 ic1 ?_
      refine mG_iload C dX6_outcomes_77 rfl ?_
      refine mG_ishl C dX6_outcomes_79 ?_
      refine mG_Vi (Z := MX3_truthIfSaidTo) (as := [.int ((1 : Int32) <<< (x4 &&& 31))]) (rest := [.long (1 : Int64), .long x1]) C dX6_outcomes_80 lk_762 zX3_truthIfSaidTo ⟨Nat.le_of_ble_eq_true rfl, Nat.le_of_ble_eq_true rfl⟩ sh46 rfl rfl (Nat.le_of_ble_eq_true rfl) rfl K (fun v2 u2 K => ?_)
      refine mG_lshl C dX6_outcomes_83 ?_
      refine mG_lor C dX6_outcomes_84 ?_
      refine mG_lstore_n (lv' := [.ref 58, .long (x1 ||| ((1 : Int64) <<< ((v2).toInt64 &&& 63))), .retAddr 0, .int x3, .int x4]) C dX6_outcomes_85 rfl (by decide) rfl ?_
      refine mG_iincc (lv' := [.ref 58, .long (x1 ||| ((1 : Int64) <<< ((v2).toInt64 &&& 63))), .retAddr 0, .int x3, .int (x4 + (1 : Int32))]) C dX6_outcomes_86 rfl ic1 (by decide) rfl ?_
      refine mG_goto (tgt := 44) C dX6_outcomes_89 rfl ?_
      exact K

set_option maxRecDepth 20000 in
set_option maxHeartbeats 4000000 in
theorem vX6_seekBest_0 {X : mX} {E : mEnv} {Qm : Option Value → mW → Prop} (C : mCtx X E MX6_seekBest) (F : mFin X E MX6_seekBest Qm) {w : mW}  (p0 : Int32) (p1 : Int64)
    (K : mMv E MX3_look [.ref 46, .int p0, .long p1] w (fun u1 =>
    (mMi E MX3_sumIfSaidTo [.ref 46, .int (0 : Int32)] u1 (fun v1 u2 =>
    (mG X E MX6_seekBest 45 [.ref 58, .retAddr 0, .retAddr 0, .retAddr 0, .int ((1 : Int32) <<< ((u2.1 1 1) &&& 31)), .int (0 : Int32), .retAddr 0, .retAddr 0] [] (mPI (mPI (mPI u2 58 3 v1) 58 4 (-1 : Int32)) 58 5 (0 : Int32))))))) :
    mG X E MX6_seekBest 0 [.ref 58, .int p0, .long p1, .retAddr 0, .retAddr 0, .retAddr 0, .retAddr 0, .retAddr 0] [] w := by
  refine mG_aload_n C dX6_seekBest_0 rfl rfl ?_
  refine mG_getR C dX6_seekBest_1 fl_253 sh58 rfl ?_
  refine mG_iload_n C dX6_seekBest_4 rfl rfl ?_
  refine mG_lload_n C dX6_seekBest_5 rfl rfl ?_
  refine mG_Vv (Z := MX3_look) (as := [.int p0, .long p1]) (rest := []) C dX6_seekBest_6 lk_672 zX3_look ⟨Nat.le_of_ble_eq_true rfl, Nat.le_of_ble_eq_true rfl⟩ sh46 rfl rfl (Nat.le_of_ble_eq_true rfl) rfl K (fun u1 K => ?_)
  refine mG_aload_n C dX6_seekBest_9 rfl rfl ?_
  refine mG_aload_n C dX6_seekBest_10 rfl rfl ?_
  refine mG_getR C dX6_seekBest_11 fl_253 sh58 rfl ?_
  refine mG_iconst C dX6_seekBest_14 ic0 ?_
  refine mG_Vi (Z := MX3_sumIfSaidTo) (as := [.int (0 : Int32)]) (rest := [.ref 58]) C dX6_seekBest_15 lk_673 zX3_sumIfSaidTo ⟨Nat.le_of_ble_eq_true rfl, Nat.le_of_ble_eq_true rfl⟩ sh46 rfl rfl (Nat.le_of_ble_eq_true rfl) rfl K (fun v1 u2 K => ?_)
  refine mG_putI C dX6_seekBest_18 fp_255 sh58 rfl ?_
  refine mG_aload_n C dX6_seekBest_21 rfl rfl ?_
  refine mG_iconst C dX6_seekBest_22 icm1 ?_
  refine mG_putI C dX6_seekBest_23 fp_257 sh58 rfl ?_
  refine mG_aload_n C dX6_seekBest_26 rfl rfl ?_
  refine mG_iconst C dX6_seekBest_27 ic0 ?_
  refine mG_putI C dX6_seekBest_28 fp_259 sh58 rfl ?_
  refine mG_iconst C dX6_seekBest_31 ic1 ?_
  refine mG_aload_n C dX6_seekBest_32 rfl rfl ?_
  refine mG_getR C dX6_seekBest_33 fl_252 sh58 rfl ?_
  refine mG_getIv C dX6_seekBest_36 fl_40 sh1 rfl (by first | rfl | simp [mPI, mPL]) ?_
  refine mG_ishl C dX6_seekBest_39 ?_
  refine mG_istore (lv' := [.ref 58, .int p0, .long p1, .retAddr 0, .int ((1 : Int32) <<< ((u2.1 1 1) &&& 31)), .retAddr 0, .retAddr 0, .retAddr 0]) C dX6_seekBest_40 (by decide) rfl ?_
  refine mG_iconst C dX6_seekBest_42 ic0 ?_
  refine mG_istore (lv' := [.ref 58, .int p0, .long p1, .retAddr 0, .int ((1 : Int32) <<< ((u2.1 1 1) &&& 31)), .int (0 : Int32), .retAddr 0, .retAddr 0]) C dX6_seekBest_43 (by decide) rfl ?_
  exact mG_holes [1, 2] rfl K

set_option maxRecDepth 20000 in
set_option maxHeartbeats 4000000 in
theorem vX6_seekBest_45 {X : mX} {E : mEnv} {Qm : Option Value → mW → Prop} (C : mCtx X E MX6_seekBest) (F : mFin X E MX6_seekBest Qm) {w : mW}  (x4 : Int32) (x5 : Int32)
    (K : ((720 : Int32) ≤ x5 →
    (Qm none w)) ∧ (¬ (720 : Int32) ≤ x5 →
    (mMi E MX3_comeTo [.ref 46, .int x5] w (fun v1 u1 =>
    ((¬ v1 = 0 →
    (mMv E MX3_listen [.ref 46] u1 (fun u2 =>
    (mG X E MX6_seekBest 78 [.ref 58, .retAddr 0, .retAddr 0, .retAddr 0, .int x4, .int x5, .int (1 : Int32), .retAddr 0] [] u2)))) ∧ (v1 = 0 →
    (mG X E MX6_seekBest 45 [.ref 58, .retAddr 0, .retAddr 0, .retAddr 0, .int x4, .int (x5 + (1 : Int32)), .retAddr 0, .retAddr 0] [] u1))))))) :
    mG X E MX6_seekBest 45 [.ref 58, .retAddr 0, .retAddr 0, .retAddr 0, .int x4, .int x5, .retAddr 0, .retAddr 0] [] w := by
  refine mG_iload C dX6_seekBest_45 rfl ?_
  refine mG_sipush C dX6_seekBest_47 sp720 ?_
  refine mG_icmp_ge (tgt := 155) C dX6_seekBest_50 rfl (fun h => ?_) (fun h => ?_)
  · have K := K.1 h
    exact mG_vret C F dX6_seekBest_155 rfl K
  · have K := K.2 h
    refine mG_aload_n C dX6_seekBest_53 rfl rfl ?_
    refine mG_getR C dX6_seekBest_54 fl_253 sh58 rfl ?_
    refine mG_iload C dX6_seekBest_57 rfl ?_
    refine mG_Vi (Z := MX3_comeTo) (as := [.int x5]) (rest := []) C dX6_seekBest_59 lk_677 zX3_comeTo ⟨Nat.le_of_ble_eq_true rfl, Nat.le_of_ble_eq_true rfl⟩ sh46 rfl rfl (Nat.le_of_ble_eq_true rfl) rfl K (fun v1 u1 K => ?_)
    refine mG_if_ne (tgt := 68) C dX6_seekBest_62 rfl (fun h => ?_) (fun h => ?_)
    · have K := K.1 h
      refine mG_aload_n C dX6_seekBest_68 rfl rfl ?_
      refine mG_getR C dX6_seekBest_69 fl_253 sh58 rfl ?_
      refine mG_Vv (Z := MX3_listen) (as := []) (rest := []) C dX6_seekBest_72 lk_685 zX3_listen ⟨Nat.le_of_ble_eq_true rfl, Nat.le_of_ble_eq_true rfl⟩ sh46 rfl rfl (Nat.le_of_ble_eq_true rfl) rfl K (fun u2 K => ?_)
      refine mG_iconst C dX6_seekBest_75 ic1 ?_
      refine mG_istore (lv' := [.ref 58, .retAddr 0, .retAddr 0, .retAddr 0, .int x4, .int x5, .int (1 : Int32), .retAddr 0]) C dX6_seekBest_76 (by decide) rfl ?_
      exact K
    · have K := K.2 h
      refine mG_goto (tgt := 149) C dX6_seekBest_65 rfl ?_
      refine mG_iincc (lv' := [.ref 58, .retAddr 0, .retAddr 0, .retAddr 0, .int x4, .int (x5 + (1 : Int32)), .retAddr 0, .retAddr 0]) C dX6_seekBest_149 rfl ic1 (by decide) rfl ?_
      refine mG_goto (tgt := 45) C dX6_seekBest_152 rfl ?_
      exact K

set_option maxRecDepth 20000 in
set_option maxHeartbeats 4000000 in
theorem vX6_seekBest_78 {X : mX} {E : mEnv} {Qm : Option Value → mW → Prop} (C : mCtx X E MX6_seekBest) (F : mFin X E MX6_seekBest Qm) {w : mW}  (x4 : Int32) (x5 : Int32) (x6 : Int32)
    (K : (x4 ≤ x6 →
    (mG X E MX6_seekBest 45 [.ref 58, .retAddr 0, .retAddr 0, .retAddr 0, .int x4, .int (x5 + (1 : Int32)), .retAddr 0, .retAddr 0] [] w)) ∧ (¬ x4 ≤ x6 →
    (mMi E MX3_sumIfSaidTo [.ref 46, .int x6] w (fun v1 u1 =>
    ((v1 ≤ (u1.1 58 3) →
    (mG X E MX6_seekBest 78 [.ref 58, .retAddr 0, .retAddr 0, .retAddr 0, .int x4, .int x5, .int (x6 + (1 : Int32)), .retAddr 0] [] u1)) ∧ (¬ v1 ≤ (u1.1 58 3) →
    (mMi E MX3_isSoSaidTo [.ref 46, .int x6] u1 (fun v2 u2 =>
    ((v2 = 0 →
    (mG X E MX6_seekBest 78 [.ref 58, .retAddr 0, .retAddr 0, .retAddr 0, .int x4, .int x5, .int (x6 + (1 : Int32)), .retAddr 0] [] u2)) ∧ (¬ v2 = 0 →
    (mMi E MX7_number [.ref 47] (mPI u2 58 3 v1) (fun v3 u3 =>
    (mG X E MX6_seekBest 78 [.ref 58, .retAddr 0, .retAddr 0, .retAddr 0, .int x4, .int x5, .int (x6 + (1 : Int32)), .retAddr 0] [] (mPI (mPI u3 58 4 v3) 58 5 x6)))))))))))))) :
    mG X E MX6_seekBest 78 [.ref 58, .retAddr 0, .retAddr 0, .retAddr 0, .int x4, .int x5, .int x6, .retAddr 0] [] w := by
  refine mG_iload C dX6_seekBest_78 rfl ?_
  refine mG_iload C dX6_seekBest_80 rfl ?_
  refine mG_icmp_ge (tgt := 149) C dX6_seekBest_82 rfl (fun h => ?_) (fun h => ?_)
  · have K := K.1 h
    refine mG_iincc (lv' := [.ref 58, .retAddr 0, .retAddr 0, .retAddr 0, .int x4, .int (x5 + (1 : Int32)), .int x6, .retAddr 0]) C dX6_seekBest_149 rfl ic1 (by decide) rfl ?_
    refine mG_goto (tgt := 45) C dX6_seekBest_152 rfl ?_
    exact mG_holes [6] rfl K
  · have K := K.2 h
    refine mG_aload_n C dX6_seekBest_85 rfl rfl ?_
    refine mG_getR C dX6_seekBest_86 fl_253 sh58 rfl ?_
    refine mG_iload C dX6_seekBest_89 rfl ?_
    refine mG_Vi (Z := MX3_sumIfSaidTo) (as := [.int x6]) (rest := []) C dX6_seekBest_91 lk_673 zX3_sumIfSaidTo ⟨Nat.le_of_ble_eq_true rfl, Nat.le_of_ble_eq_true rfl⟩ sh46 rfl rfl (Nat.le_of_ble_eq_true rfl) rfl K (fun v1 u1 K => ?_)
    refine mG_istore (lv' := [.ref 58, .retAddr 0, .retAddr 0, .retAddr 0, .int x4, .int x5, .int x6, .int v1]) C dX6_seekBest_94 (by decide) rfl ?_
    refine mG_iload C dX6_seekBest_96 rfl ?_
    refine mG_aload_n C dX6_seekBest_98 rfl rfl ?_
    refine mG_getI C dX6_seekBest_99 fl_255 sh58 rfl ?_
    refine mG_icmp_le (tgt := 143) C dX6_seekBest_102 rfl (fun h => ?_) (fun h => ?_)
    · have K := K.1 h
      refine mG_iincc (lv' := [.ref 58, .retAddr 0, .retAddr 0, .retAddr 0, .int x4, .int x5, .int (x6 + (1 : Int32)), .int v1]) C dX6_seekBest_143 rfl ic1 (by decide) rfl ?_
      refine mG_goto (tgt := 78) C dX6_seekBest_146 rfl ?_
      exact mG_holes [7] rfl K
    · have K := K.2 h
      refine mG_aload_n C dX6_seekBest_105 rfl rfl ?_
      refine mG_getR C dX6_seekBest_106 fl_253 sh58 rfl ?_
      refine mG_iload C dX6_seekBest_109 rfl ?_
      refine mG_Vi (Z := MX3_isSoSaidTo) (as := [.int x6]) (rest := []) C dX6_seekBest_111 lk_686 zX3_isSoSaidTo ⟨Nat.le_of_ble_eq_true rfl, Nat.le_of_ble_eq_true rfl⟩ sh46 rfl rfl (Nat.le_of_ble_eq_true rfl) rfl K (fun v2 u2 K => ?_)
      refine mG_if_eq (tgt := 143) C dX6_seekBest_114 rfl (fun h => ?_) (fun h => ?_)
      · have K := K.1 h
        refine mG_iincc (lv' := [.ref 58, .retAddr 0, .retAddr 0, .retAddr 0, .int x4, .int x5, .int (x6 + (1 : Int32)), .int v1]) C dX6_seekBest_143 rfl ic1 (by decide) rfl ?_
        refine mG_goto (tgt := 78) C dX6_seekBest_146 rfl ?_
        exact mG_holes [7] rfl K
      · have K := K.2 h
        refine mG_aload_n C dX6_seekBest_117 rfl rfl ?_
        refine mG_iload C dX6_seekBest_118 rfl ?_
        refine mG_putI C dX6_seekBest_120 fp_255 sh58 rfl ?_
        refine mG_aload_n C dX6_seekBest_123 rfl rfl ?_
        refine mG_aload_n C dX6_seekBest_124 rfl rfl ?_
        refine mG_getR C dX6_seekBest_125 fl_253 sh58 rfl ?_
        refine mG_getR C dX6_seekBest_128 fl_212 sh46 rfl ?_
        refine mG_Vi (Z := MX7_number) (as := []) (rest := [.ref 58]) C dX6_seekBest_131 lk_687 zX7_number ⟨Nat.le_of_ble_eq_true rfl, Nat.le_of_ble_eq_true rfl⟩ sh47 rfl rfl (Nat.le_of_ble_eq_true rfl) rfl K (fun v3 u3 K => ?_)
        refine mG_putI C dX6_seekBest_134 fp_257 sh58 rfl ?_
        refine mG_aload_n C dX6_seekBest_137 rfl rfl ?_
        refine mG_iload C dX6_seekBest_138 rfl ?_
        refine mG_putI C dX6_seekBest_140 fp_259 sh58 rfl ?_
        refine mG_iincc (lv' := [.ref 58, .retAddr 0, .retAddr 0, .retAddr 0, .int x4, .int x5, .int (x6 + (1 : Int32)), .int v1]) C dX6_seekBest_143 rfl ic1 (by decide) rfl ?_
        refine mG_goto (tgt := 78) C dX6_seekBest_146 rfl ?_
        exact mG_holes [7] rfl K

set_option maxRecDepth 20000 in
set_option maxHeartbeats 4000000 in
theorem vX6_seekPlan_0 {X : mX} {E : mEnv} {Qm : Option Value → mW → Prop} (C : mCtx X E MX6_seekPlan) (F : mFin X E MX6_seekPlan Qm) {w : mW}  (p0 : Int32) (p1 : Int64) (p2 : Int32)
    (K : mMv E MX3_look [.ref 46, .int p0, .long p1] w (fun u1 =>
    (mMi E MX6_sumOfPlan [.ref 58, .int (0 : Int32), .int p2] u1 (fun v1 u2 =>
    (mG X E MX6_seekPlan 33 [.ref 58, .retAddr 0, .retAddr 0, .retAddr 0, .int p2, .int (0 : Int32), .retAddr 0, .retAddr 0] [] (mPI (mPI (mPI u2 58 3 v1) 58 4 (-1 : Int32)) 58 5 (-1 : Int32))))))) :
    mG X E MX6_seekPlan 0 [.ref 58, .int p0, .long p1, .retAddr 0, .int p2, .retAddr 0, .retAddr 0, .retAddr 0] [] w := by
  refine mG_aload_n C dX6_seekPlan_0 rfl rfl ?_
  refine mG_getR C dX6_seekPlan_1 fl_253 sh58 rfl ?_
  refine mG_iload_n C dX6_seekPlan_4 rfl rfl ?_
  refine mG_lload_n C dX6_seekPlan_5 rfl rfl ?_
  refine mG_Vv (Z := MX3_look) (as := [.int p0, .long p1]) (rest := []) C dX6_seekPlan_6 lk_672 zX3_look ⟨Nat.le_of_ble_eq_true rfl, Nat.le_of_ble_eq_true rfl⟩ sh46 rfl rfl (Nat.le_of_ble_eq_true rfl) rfl K (fun u1 K => ?_)
  refine mG_aload_n C dX6_seekPlan_9 rfl rfl ?_
  refine mG_aload_n C dX6_seekPlan_10 rfl rfl ?_
  refine mG_iconst C dX6_seekPlan_11 ic0 ?_
  refine mG_iload C dX6_seekPlan_12 rfl ?_
  refine mG_Vi (Z := MX6_sumOfPlan) (as := [.int (0 : Int32), .int p2]) (rest := [.ref 58]) C dX6_seekPlan_14 lk_784 zX6_sumOfPlan ⟨Nat.le_of_ble_eq_true rfl, Nat.le_of_ble_eq_true rfl⟩ sh58 rfl rfl (Nat.le_of_ble_eq_true rfl) rfl K (fun v1 u2 K => ?_)
  refine mG_putI C dX6_seekPlan_17 fp_255 sh58 rfl ?_
  refine mG_aload_n C dX6_seekPlan_20 rfl rfl ?_
  refine mG_iconst C dX6_seekPlan_21 icm1 ?_
  refine mG_putI C dX6_seekPlan_22 fp_257 sh58 rfl ?_
  refine mG_aload_n C dX6_seekPlan_25 rfl rfl ?_
  refine mG_iconst C dX6_seekPlan_26 icm1 ?_
  refine mG_putI C dX6_seekPlan_27 fp_259 sh58 rfl ?_
  refine mG_iconst C dX6_seekPlan_30 ic0 ?_
  refine mG_istore (lv' := [.ref 58, .int p0, .long p1, .retAddr 0, .int p2, .int (0 : Int32), .retAddr 0, .retAddr 0]) C dX6_seekPlan_31 (by decide) rfl ?_
  exact mG_holes [1, 2] rfl K

set_option maxRecDepth 20000 in
set_option maxHeartbeats 4000000 in
theorem vX6_seekPlan_33 {X : mX} {E : mEnv} {Qm : Option Value → mW → Prop} (C : mCtx X E MX6_seekPlan) (F : mFin X E MX6_seekPlan Qm) {w : mW}  (x4 : Int32) (x5 : Int32)
    (K : ((24 : Int32) ≤ x5 →
    (Qm none w)) ∧ (¬ (24 : Int32) ≤ x5 →
    (mMi E MX7_placeOfSingle [.int x5] w (fun v1 u1 =>
    (mMi E MX3_comeTo [.ref 46, .int v1] u1 (fun v2 u2 =>
    ((¬ v2 = 0 →
    (mMv E MX3_listen [.ref 46] u2 (fun u3 =>
    (mG X E MX6_seekPlan 68 [.ref 58, .retAddr 0, .retAddr 0, .retAddr 0, .int x4, .int x5, .int (0 : Int32), .retAddr 0] [] u3)))) ∧ (v2 = 0 →
    (mG X E MX6_seekPlan 33 [.ref 58, .retAddr 0, .retAddr 0, .retAddr 0, .int x4, .int (x5 + (1 : Int32)), .retAddr 0, .retAddr 0] [] u2))))))))) :
    mG X E MX6_seekPlan 33 [.ref 58, .retAddr 0, .retAddr 0, .retAddr 0, .int x4, .int x5, .retAddr 0, .retAddr 0] [] w := by
  refine mG_iload C dX6_seekPlan_33 rfl ?_
  refine mG_bipush C dX6_seekPlan_35 bp24 ?_
  refine mG_icmp_ge (tgt := 156) C dX6_seekPlan_37 rfl (fun h => ?_) (fun h => ?_)
  · have K := K.1 h
    exact mG_vret C F dX6_seekPlan_156 rfl K
  · have K := K.2 h
    refine mG_aload_n C dX6_seekPlan_40 rfl rfl ?_
    refine mG_getR C dX6_seekPlan_41 fl_253 sh58 rfl ?_
    refine mG_iload C dX6_seekPlan_44 rfl ?_
    refine mG_Si (Z := MX7_placeOfSingle) (as := [.int x5]) (rest := [.ref 46]) C dX6_seekPlan_46 lk_789 zX7_placeOfSingle ⟨Nat.le_of_ble_eq_true rfl, Nat.le_of_ble_eq_true rfl⟩ rfl (Nat.le_of_ble_eq_true rfl) rfl K (fun v1 u1 K => ?_)
    refine mG_Vi (Z := MX3_comeTo) (as := [.int v1]) (rest := []) C dX6_seekPlan_49 lk_677 zX3_comeTo ⟨Nat.le_of_ble_eq_true rfl, Nat.le_of_ble_eq_true rfl⟩ sh46 rfl rfl (Nat.le_of_ble_eq_true rfl) rfl K (fun v2 u2 K => ?_)
    refine mG_if_ne (tgt := 58) C dX6_seekPlan_52 rfl (fun h => ?_) (fun h => ?_)
    · have K := K.1 h
      refine mG_aload_n C dX6_seekPlan_58 rfl rfl ?_
      refine mG_getR C dX6_seekPlan_59 fl_253 sh58 rfl ?_
      refine mG_Vv (Z := MX3_listen) (as := []) (rest := []) C dX6_seekPlan_62 lk_685 zX3_listen ⟨Nat.le_of_ble_eq_true rfl, Nat.le_of_ble_eq_true rfl⟩ sh46 rfl rfl (Nat.le_of_ble_eq_true rfl) rfl K (fun u3 K => ?_)
      refine mG_iconst C dX6_seekPlan_65 ic0 ?_
      refine mG_istore (lv' := [.ref 58, .retAddr 0, .retAddr 0, .retAddr 0, .int x4, .int x5, .int (0 : Int32), .retAddr 0]) C dX6_seekPlan_66 (by decide) rfl ?_
      exact K
    · have K := K.2 h
      refine mG_goto (tgt := 150) C dX6_seekPlan_55 rfl ?_
      refine mG_iincc (lv' := [.ref 58, .retAddr 0, .retAddr 0, .retAddr 0, .int x4, .int (x5 + (1 : Int32)), .retAddr 0, .retAddr 0]) C dX6_seekPlan_150 rfl ic1 (by decide) rfl ?_
      refine mG_goto (tgt := 33) C dX6_seekPlan_153 rfl ?_
      exact K

set_option maxRecDepth 20000 in
set_option maxHeartbeats 4000000 in
theorem vX6_seekPlan_68 {X : mX} {E : mEnv} {Qm : Option Value → mW → Prop} (C : mCtx X E MX6_seekPlan) (F : mFin X E MX6_seekPlan Qm) {w : mW}  (x4 : Int32) (x5 : Int32) (x6 : Int32)
    (K : ((w.1 1 1) ≤ x6 →
    (mG X E MX6_seekPlan 33 [.ref 58, .retAddr 0, .retAddr 0, .retAddr 0, .int x4, .int (x5 + (1 : Int32)), .retAddr 0, .retAddr 0] [] w)) ∧ (¬ (w.1 1 1) ≤ x6 →
    (mMi E MX3_isSoSaidTo [.ref 46, .int ((1 : Int32) <<< (x6 &&& 31))] w (fun v1 u1 =>
    ((¬ v1 = 0 →
    (mMi E MX6_sumOfPlan [.ref 58, .int ((1 : Int32) <<< (x6 &&& 31)), .int x4] u1 (fun v2 u2 =>
    ((v2 ≤ (u2.1 58 3) →
    (mG X E MX6_seekPlan 68 [.ref 58, .retAddr 0, .retAddr 0, .retAddr 0, .int x4, .int x5, .int (x6 + (1 : Int32)), .retAddr 0] [] u2)) ∧ (¬ v2 ≤ (u2.1 58 3) →
    (mMi E MX7_number [.ref 47] (mPI u2 58 3 v2) (fun v3 u3 =>
    (mG X E MX6_seekPlan 68 [.ref 58, .retAddr 0, .retAddr 0, .retAddr 0, .int x4, .int x5, .int (x6 + (1 : Int32)), .retAddr 0] [] (mPI (mPI u3 58 4 v3) 58 5 x6))))))))) ∧ (v1 = 0 →
    (mG X E MX6_seekPlan 68 [.ref 58, .retAddr 0, .retAddr 0, .retAddr 0, .int x4, .int x5, .int (x6 + (1 : Int32)), .retAddr 0] [] u1))))))) :
    mG X E MX6_seekPlan 68 [.ref 58, .retAddr 0, .retAddr 0, .retAddr 0, .int x4, .int x5, .int x6, .retAddr 0] [] w := by
  refine mG_iload C dX6_seekPlan_68 rfl ?_
  refine mG_aload_n C dX6_seekPlan_70 rfl rfl ?_
  refine mG_getR C dX6_seekPlan_71 fl_252 sh58 rfl ?_
  refine mG_getI C dX6_seekPlan_74 fl_40 sh1 rfl ?_
  refine mG_icmp_ge (tgt := 150) C dX6_seekPlan_77 rfl (fun h => ?_) (fun h => ?_)
  · have K := K.1 h
    refine mG_iincc (lv' := [.ref 58, .retAddr 0, .retAddr 0, .retAddr 0, .int x4, .int (x5 + (1 : Int32)), .int x6, .retAddr 0]) C dX6_seekPlan_150 rfl ic1 (by decide) rfl ?_
    refine mG_goto (tgt := 33) C dX6_seekPlan_153 rfl ?_
    exact mG_holes [6] rfl K
  · have K := K.2 h
    refine mG_aload_n C dX6_seekPlan_80 rfl rfl ?_
    refine mG_getR C dX6_seekPlan_81 fl_253 sh58 rfl ?_
    refine mG_iconst C dX6_seekPlan_84 ic1 ?_
    refine mG_iload C dX6_seekPlan_85 rfl ?_
    refine mG_ishl C dX6_seekPlan_87 ?_
    refine mG_Vi (Z := MX3_isSoSaidTo) (as := [.int ((1 : Int32) <<< (x6 &&& 31))]) (rest := []) C dX6_seekPlan_88 lk_686 zX3_isSoSaidTo ⟨Nat.le_of_ble_eq_true rfl, Nat.le_of_ble_eq_true rfl⟩ sh46 rfl rfl (Nat.le_of_ble_eq_true rfl) rfl K (fun v1 u1 K => ?_)
    refine mG_if_ne (tgt := 97) C dX6_seekPlan_91 rfl (fun h => ?_) (fun h => ?_)
    · have K := K.1 h
      refine mG_aload_n C dX6_seekPlan_97 rfl rfl ?_
      refine mG_iconst C dX6_seekPlan_98 ic1 ?_
      refine mG_iload C dX6_seekPlan_99 rfl ?_
      refine mG_ishl C dX6_seekPlan_101 ?_
      refine mG_iload C dX6_seekPlan_102 rfl ?_
      refine mG_Vi (Z := MX6_sumOfPlan) (as := [.int ((1 : Int32) <<< (x6 &&& 31)), .int x4]) (rest := []) C dX6_seekPlan_104 lk_784 zX6_sumOfPlan ⟨Nat.le_of_ble_eq_true rfl, Nat.le_of_ble_eq_true rfl⟩ sh58 rfl rfl (Nat.le_of_ble_eq_true rfl) rfl K (fun v2 u2 K => ?_)
      refine mG_istore (lv' := [.ref 58, .retAddr 0, .retAddr 0, .retAddr 0, .int x4, .int x5, .int x6, .int v2]) C dX6_seekPlan_107 (by decide) rfl ?_
      refine mG_iload C dX6_seekPlan_109 rfl ?_
      refine mG_aload_n C dX6_seekPlan_111 rfl rfl ?_
      refine mG_getI C dX6_seekPlan_112 fl_255 sh58 rfl ?_
      refine mG_icmp_le (tgt := 144) C dX6_seekPlan_115 rfl (fun h => ?_) (fun h => ?_)
      · have K := K.1 h
        refine mG_iincc (lv' := [.ref 58, .retAddr 0, .retAddr 0, .retAddr 0, .int x4, .int x5, .int (x6 + (1 : Int32)), .int v2]) C dX6_seekPlan_144 rfl ic1 (by decide) rfl ?_
        refine mG_goto (tgt := 68) C dX6_seekPlan_147 rfl ?_
        exact mG_holes [7] rfl K
      · have K := K.2 h
        refine mG_aload_n C dX6_seekPlan_118 rfl rfl ?_
        refine mG_iload C dX6_seekPlan_119 rfl ?_
        refine mG_putI C dX6_seekPlan_121 fp_255 sh58 rfl ?_
        refine mG_aload_n C dX6_seekPlan_124 rfl rfl ?_
        refine mG_aload_n C dX6_seekPlan_125 rfl rfl ?_
        refine mG_getR C dX6_seekPlan_126 fl_253 sh58 rfl ?_
        refine mG_getR C dX6_seekPlan_129 fl_212 sh46 rfl ?_
        refine mG_Vi (Z := MX7_number) (as := []) (rest := [.ref 58]) C dX6_seekPlan_132 lk_687 zX7_number ⟨Nat.le_of_ble_eq_true rfl, Nat.le_of_ble_eq_true rfl⟩ sh47 rfl rfl (Nat.le_of_ble_eq_true rfl) rfl K (fun v3 u3 K => ?_)
        refine mG_putI C dX6_seekPlan_135 fp_257 sh58 rfl ?_
        refine mG_aload_n C dX6_seekPlan_138 rfl rfl ?_
        refine mG_iload C dX6_seekPlan_139 rfl ?_
        refine mG_putI C dX6_seekPlan_141 fp_259 sh58 rfl ?_
        refine mG_iincc (lv' := [.ref 58, .retAddr 0, .retAddr 0, .retAddr 0, .int x4, .int x5, .int (x6 + (1 : Int32)), .int v2]) C dX6_seekPlan_144 rfl ic1 (by decide) rfl ?_
        refine mG_goto (tgt := 68) C dX6_seekPlan_147 rfl ?_
        exact mG_holes [7] rfl K
    · have K := K.2 h
      refine mG_goto (tgt := 144) C dX6_seekPlan_94 rfl ?_
      refine mG_iincc (lv' := [.ref 58, .retAddr 0, .retAddr 0, .retAddr 0, .int x4, .int x5, .int (x6 + (1 : Int32)), .retAddr 0]) C dX6_seekPlan_144 rfl ic1 (by decide) rfl ?_
      refine mG_goto (tgt := 68) C dX6_seekPlan_147 rfl ?_
      exact K

set_option maxRecDepth 20000 in
set_option maxHeartbeats 4000000 in
theorem vX6_stance_0 {X : mX} {E : mEnv} {Qm : Option Value → mW → Prop} (C : mCtx X E MX6_stance) (F : mFin X E MX6_stance Qm) {w : mW}  (p0 : Int64) (p1 : Int32) (p2 : Int32) (p3 : Int32)
    (K : mMi E MX4_mindOf [.long p0, .int p1] w (fun v1 u1 =>
    (mMi E MX4_hold [.int v1, .int p2, .int p3] u1 (fun v2 u2 =>
    (mMl E MX4_withMind [.long p0, .int p1, .int v2] u2 (fun v3 u3 =>
    (Qm (some (.long v3)) u3))))))) :
    mG X E MX6_stance 0 [.long p0, .retAddr 0, .int p1, .int p2, .int p3] [] w := by
  refine mG_lload_n C dX6_stance_0 rfl rfl ?_
  refine mG_iload_n C dX6_stance_1 rfl rfl ?_
  refine mG_lload_n C dX6_stance_2 rfl rfl ?_
  refine mG_iload_n C dX6_stance_3 rfl rfl ?_
  refine mG_Si (Z := MX4_mindOf) (as := [.long p0, .int p1]) (rest := [.int p1, .long p0]) C dX6_stance_4 lk_735 zX4_mindOf ⟨Nat.le_of_ble_eq_true rfl, Nat.le_of_ble_eq_true rfl⟩ rfl (Nat.le_of_ble_eq_true rfl) rfl K (fun v1 u1 K => ?_)
  refine mG_iload_n C dX6_stance_7 rfl rfl ?_
  refine mG_iload C dX6_stance_8 rfl ?_
  refine mG_Si (Z := MX4_hold) (as := [.int v1, .int p2, .int p3]) (rest := [.int p1, .long p0]) C dX6_stance_10 lk_736 zX4_hold ⟨Nat.le_of_ble_eq_true rfl, Nat.le_of_ble_eq_true rfl⟩ rfl (Nat.le_of_ble_eq_true rfl) rfl K (fun v2 u2 K => ?_)
  refine mG_Sl (Z := MX4_withMind) (as := [.long p0, .int p1, .int v2]) (rest := []) C dX6_stance_13 lk_737 zX4_withMind ⟨Nat.le_of_ble_eq_true rfl, Nat.le_of_ble_eq_true rfl⟩ rfl (Nat.le_of_ble_eq_true rfl) rfl K (fun v3 u3 K => ?_)
  exact mG_lret C F dX6_stance_16 rfl K

set_option maxRecDepth 20000 in
set_option maxHeartbeats 4000000 in
theorem vX6_startCounting_0 {X : mX} {E : mEnv} {Qm : Option Value → mW → Prop} (C : mCtx X E MX6_startCounting) (F : mFin X E MX6_startCounting Qm) {w : mW} 
    (K : Qm none (mPI (mPI w 58 6 (0 : Int32)) 58 7 (-1 : Int32))) :
    mG X E MX6_startCounting 0 [.ref 58] [] w := by
  refine mG_aload_n C dX6_startCounting_0 rfl rfl ?_
  refine mG_iconst C dX6_startCounting_1 ic0 ?_
  refine mG_putI C dX6_startCounting_2 fp_261 sh58 rfl ?_
  refine mG_aload_n C dX6_startCounting_5 rfl rfl ?_
  refine mG_iconst C dX6_startCounting_6 icm1 ?_
  refine mG_putI C dX6_startCounting_7 fp_263 sh58 rfl ?_
  exact mG_vret C F dX6_startCounting_10 rfl K

set_option maxRecDepth 20000 in
set_option maxHeartbeats 4000000 in
theorem vX6_sumOfPlan_0 {X : mX} {E : mEnv} {Qm : Option Value → mW → Prop} (C : mCtx X E MX6_sumOfPlan) (F : mFin X E MX6_sumOfPlan Qm) {w : mW}  (p0 : Int32) (p1 : Int32)
    (K : (¬ p1 = 0 →
    (mMi E MX3_truthIfSaidTo [.ref 46, .int p0] w (fun v1 u1 =>
    (mMl E MX3_mindsIfSaidTo [.ref 46, .int p0] u1 (fun v2 u2 =>
    (mMv E MX3_look [.ref 52, .int v1, .long v2] u2 (fun u3 =>
    (mMi E MX3_sumIfSaidTo [.ref 52, .int (0 : Int32)] u3 (fun v3 u4 =>
    (mG X E MX6_sumOfPlan 48 [.ref 58, .retAddr 0, .retAddr 0, .int v3, .int (0 : Int32), .retAddr 0] [] u4)))))))))) ∧ (p1 = 0 →
    (mMi E MX3_sumIfSaidTo [.ref 46, .int p0] w (fun v4 u5 =>
    (Qm (some (.int v4)) u5))))) :
    mG X E MX6_sumOfPlan 0 [.ref 58, .int p0, .int p1, .retAddr 0, .retAddr 0, .retAddr 0] [] w := by
  refine mG_iload_n C dX6_sumOfPlan_0 rfl rfl ?_
  refine mG_if_ne (tgt := 13) C dX6_sumOfPlan_1 rfl (fun h => ?_) (fun h => ?_)
  · have K := K.1 h
    refine mG_aload_n C dX6_sumOfPlan_13 rfl rfl ?_
    refine mG_getR C dX6_sumOfPlan_14 fl_254 sh58 rfl ?_
    refine mG_aload_n C dX6_sumOfPlan_17 rfl rfl ?_
    refine mG_getR C dX6_sumOfPlan_18 fl_253 sh58 rfl ?_
    refine mG_iload_n C dX6_sumOfPlan_21 rfl rfl ?_
    refine mG_Vi (Z := MX3_truthIfSaidTo) (as := [.int p0]) (rest := [.ref 52]) C dX6_sumOfPlan_22 lk_762 zX3_truthIfSaidTo ⟨Nat.le_of_ble_eq_true rfl, Nat.le_of_ble_eq_true rfl⟩ sh46 rfl rfl (Nat.le_of_ble_eq_true rfl) rfl K (fun v1 u1 K => ?_)
    refine mG_aload_n C dX6_sumOfPlan_25 rfl rfl ?_
    refine mG_getR C dX6_sumOfPlan_26 fl_253 sh58 rfl ?_
    refine mG_iload_n C dX6_sumOfPlan_29 rfl rfl ?_
    refine mG_Vl (Z := MX3_mindsIfSaidTo) (as := [.int p0]) (rest := [.int v1, .ref 52]) C dX6_sumOfPlan_30 lk_788 zX3_mindsIfSaidTo ⟨Nat.le_of_ble_eq_true rfl, Nat.le_of_ble_eq_true rfl⟩ sh46 rfl rfl (Nat.le_of_ble_eq_true rfl) rfl K (fun v2 u2 K => ?_)
    refine mG_Vv (Z := MX3_look) (as := [.int v1, .long v2]) (rest := []) C dX6_sumOfPlan_33 lk_672 zX3_look ⟨Nat.le_of_ble_eq_true rfl, Nat.le_of_ble_eq_true rfl⟩ sh52 rfl rfl (Nat.le_of_ble_eq_true rfl) rfl K (fun u3 K => ?_)
    refine mG_aload_n C dX6_sumOfPlan_36 rfl rfl ?_
    refine mG_getR C dX6_sumOfPlan_37 fl_254 sh58 rfl ?_
    refine mG_iconst C dX6_sumOfPlan_40 ic0 ?_
    refine mG_Vi (Z := MX3_sumIfSaidTo) (as := [.int (0 : Int32)]) (rest := []) C dX6_sumOfPlan_41 lk_673 zX3_sumIfSaidTo ⟨Nat.le_of_ble_eq_true rfl, Nat.le_of_ble_eq_true rfl⟩ sh52 rfl rfl (Nat.le_of_ble_eq_true rfl) rfl K (fun v3 u4 K => ?_)
    refine mG_istore_n (lv' := [.ref 58, .int p0, .int p1, .int v3, .retAddr 0, .retAddr 0]) C dX6_sumOfPlan_44 rfl (by decide) rfl ?_
    refine mG_iconst C dX6_sumOfPlan_45 ic0 ?_
    refine mG_istore (lv' := [.ref 58, .int p0, .int p1, .int v3, .int (0 : Int32), .retAddr 0]) C dX6_sumOfPlan_46 (by decide) rfl ?_
    exact mG_holes [1, 2] rfl K
  · have K := K.2 h
    refine mG_aload_n C dX6_sumOfPlan_4 rfl rfl ?_
    refine mG_getR C dX6_sumOfPlan_5 fl_253 sh58 rfl ?_
    refine mG_iload_n C dX6_sumOfPlan_8 rfl rfl ?_
    refine mG_Vi (Z := MX3_sumIfSaidTo) (as := [.int p0]) (rest := []) C dX6_sumOfPlan_9 lk_673 zX3_sumIfSaidTo ⟨Nat.le_of_ble_eq_true rfl, Nat.le_of_ble_eq_true rfl⟩ sh46 rfl rfl (Nat.le_of_ble_eq_true rfl) rfl K (fun v4 u5 K => ?_)
    exact mG_iret C F dX6_sumOfPlan_12 rfl rfl K

set_option maxRecDepth 20000 in
set_option maxHeartbeats 4000000 in
theorem vX6_sumOfPlan_48 {X : mX} {E : mEnv} {Qm : Option Value → mW → Prop} (C : mCtx X E MX6_sumOfPlan) (F : mFin X E MX6_sumOfPlan Qm) {w : mW}  (x3 : Int32) (x4 : Int32)
    (K : ((24 : Int32) ≤ x4 →
    (Qm (some (.int x3)) w)) ∧ (¬ (24 : Int32) ≤ x4 →
    (mMi E MX7_placeOfSingle [.int x4] w (fun v1 u1 =>
    (mMi E MX3_comeTo [.ref 52, .int v1] u1 (fun v2 u2 =>
    ((¬ v2 = 0 →
    (mMv E MX3_listen [.ref 52] u2 (fun u3 =>
    (mG X E MX6_sumOfPlan 83 [.ref 58, .retAddr 0, .retAddr 0, .int x3, .int x4, .int (0 : Int32)] [] u3)))) ∧ (v2 = 0 →
    (mG X E MX6_sumOfPlan 48 [.ref 58, .retAddr 0, .retAddr 0, .int x3, .int (x4 + (1 : Int32)), .retAddr 0] [] u2))))))))) :
    mG X E MX6_sumOfPlan 48 [.ref 58, .retAddr 0, .retAddr 0, .int x3, .int x4, .retAddr 0] [] w := by
  refine mG_iload C dX6_sumOfPlan_48 rfl ?_
  refine mG_bipush C dX6_sumOfPlan_50 bp24 ?_
  refine mG_icmp_ge (tgt := 137) C dX6_sumOfPlan_52 rfl (fun h => ?_) (fun h => ?_)
  · have K := K.1 h
    refine mG_iload_n C dX6_sumOfPlan_137 rfl rfl ?_
    exact mG_iret C F dX6_sumOfPlan_138 rfl rfl K
  · have K := K.2 h
    refine mG_aload_n C dX6_sumOfPlan_55 rfl rfl ?_
    refine mG_getR C dX6_sumOfPlan_56 fl_254 sh58 rfl ?_
    refine mG_iload C dX6_sumOfPlan_59 rfl ?_
    refine mG_Si (Z := MX7_placeOfSingle) (as := [.int x4]) (rest := [.ref 52]) C dX6_sumOfPlan_61 lk_789 zX7_placeOfSingle ⟨Nat.le_of_ble_eq_true rfl, Nat.le_of_ble_eq_true rfl⟩ rfl (Nat.le_of_ble_eq_true rfl) rfl K (fun v1 u1 K => ?_)
    refine mG_Vi (Z := MX3_comeTo) (as := [.int v1]) (rest := []) C dX6_sumOfPlan_64 lk_677 zX3_comeTo ⟨Nat.le_of_ble_eq_true rfl, Nat.le_of_ble_eq_true rfl⟩ sh52 rfl rfl (Nat.le_of_ble_eq_true rfl) rfl K (fun v2 u2 K => ?_)
    refine mG_if_ne (tgt := 73) C dX6_sumOfPlan_67 rfl (fun h => ?_) (fun h => ?_)
    · have K := K.1 h
      refine mG_aload_n C dX6_sumOfPlan_73 rfl rfl ?_
      refine mG_getR C dX6_sumOfPlan_74 fl_254 sh58 rfl ?_
      refine mG_Vv (Z := MX3_listen) (as := []) (rest := []) C dX6_sumOfPlan_77 lk_685 zX3_listen ⟨Nat.le_of_ble_eq_true rfl, Nat.le_of_ble_eq_true rfl⟩ sh52 rfl rfl (Nat.le_of_ble_eq_true rfl) rfl K (fun u3 K => ?_)
      refine mG_iconst C dX6_sumOfPlan_80 ic0 ?_
      refine mG_istore (lv' := [.ref 58, .retAddr 0, .retAddr 0, .int x3, .int x4, .int (0 : Int32)]) C dX6_sumOfPlan_81 (by decide) rfl ?_
      exact K
    · have K := K.2 h
      refine mG_goto (tgt := 131) C dX6_sumOfPlan_70 rfl ?_
      refine mG_iincc (lv' := [.ref 58, .retAddr 0, .retAddr 0, .int x3, .int (x4 + (1 : Int32)), .retAddr 0]) C dX6_sumOfPlan_131 rfl ic1 (by decide) rfl ?_
      refine mG_goto (tgt := 48) C dX6_sumOfPlan_134 rfl ?_
      exact K

set_option maxRecDepth 20000 in
set_option maxHeartbeats 4000000 in
theorem vX6_sumOfPlan_83 {X : mX} {E : mEnv} {Qm : Option Value → mW → Prop} (C : mCtx X E MX6_sumOfPlan) (F : mFin X E MX6_sumOfPlan Qm) {w : mW}  (x3 : Int32) (x4 : Int32) (x5 : Int32)
    (K : ((w.1 1 1) ≤ x5 →
    (mG X E MX6_sumOfPlan 48 [.ref 58, .retAddr 0, .retAddr 0, .int x3, .int (x4 + (1 : Int32)), .retAddr 0] [] w)) ∧ (¬ (w.1 1 1) ≤ x5 →
    (mMi E MX3_isSoSaidTo [.ref 52, .int ((1 : Int32) <<< (x5 &&& 31))] w (fun v1 u1 =>
    ((v1 = 0 →
    (mG X E MX6_sumOfPlan 83 [.ref 58, .retAddr 0, .retAddr 0, .int x3, .int x4, .int (x5 + (1 : Int32))] [] u1)) ∧ (¬ v1 = 0 →
    (mMi E MX3_sumIfSaidTo [.ref 52, .int ((1 : Int32) <<< (x5 &&& 31))] u1 (fun v2 u2 =>
    (mG X E MX6_sumOfPlan 83 [.ref 58, .retAddr 0, .retAddr 0, .int (if x3 < v2 then v2 else x3), .int x4, .int (x5 + (1 : Int32))] [] u2))))))))) :
    mG X E MX6_sumOfPlan 83 [.ref 58, .retAddr 0, .retAddr 0, .int x3, .int x4, .int x5] [] w := by
  refine mG_iload C dX6_sumOfPlan_83 rfl ?_
  refine mG_aload_n C dX6_sumOfPlan_85 rfl rfl ?_
  refine mG_getR C dX6_sumOfPlan_86 fl_252 sh58 rfl ?_
  refine mG_getI C dX6_sumOfPlan_89 fl_40 sh1 rfl ?_
  refine mG_icmp_ge (tgt := 131) C dX6_sumOfPlan_92 rfl (fun h => ?_) (fun h => ?_)
  · have K := K.1 h
    refine mG_iincc (lv' := [.ref 58, .retAddr 0, .retAddr 0, .int x3, .int (x4 + (1 : Int32)), .int x5]) C dX6_sumOfPlan_131 rfl ic1 (by decide) rfl ?_
    refine mG_goto (tgt := 48) C dX6_sumOfPlan_134 rfl ?_
    exact mG_holes [5] rfl K
  · have K := K.2 h
    refine mG_aload_n C dX6_sumOfPlan_95 rfl rfl ?_
    refine mG_getR C dX6_sumOfPlan_96 fl_254 sh58 rfl ?_
    refine mG_iconst C dX6_sumOfPlan_99 ic1 ?_
    refine mG_iload C dX6_sumOfPlan_100 rfl ?_
    refine mG_ishl C dX6_sumOfPlan_102 ?_
    refine mG_Vi (Z := MX3_isSoSaidTo) (as := [.int ((1 : Int32) <<< (x5 &&& 31))]) (rest := []) C dX6_sumOfPlan_103 lk_686 zX3_isSoSaidTo ⟨Nat.le_of_ble_eq_true rfl, Nat.le_of_ble_eq_true rfl⟩ sh52 rfl rfl (Nat.le_of_ble_eq_true rfl) rfl K (fun v1 u1 K => ?_)
    refine mG_if_eq (tgt := 125) C dX6_sumOfPlan_106 rfl (fun h => ?_) (fun h => ?_)
    · have K := K.1 h
      refine mG_iincc (lv' := [.ref 58, .retAddr 0, .retAddr 0, .int x3, .int x4, .int (x5 + (1 : Int32))]) C dX6_sumOfPlan_125 rfl ic1 (by decide) rfl ?_
      refine mG_goto (tgt := 83) C dX6_sumOfPlan_128 rfl ?_
      exact K
    · have K := K.2 h
      refine mG_iload_n C dX6_sumOfPlan_109 rfl rfl ?_
      refine mG_aload_n C dX6_sumOfPlan_110 rfl rfl ?_
      refine mG_getR C dX6_sumOfPlan_111 fl_254 sh58 rfl ?_
      refine mG_iconst C dX6_sumOfPlan_114 ic1 ?_
      refine mG_iload C dX6_sumOfPlan_115 rfl ?_
      refine mG_ishl C dX6_sumOfPlan_117 ?_
      refine mG_Vi (Z := MX3_sumIfSaidTo) (as := [.int ((1 : Int32) <<< (x5 &&& 31))]) (rest := [.int x3]) C dX6_sumOfPlan_118 lk_673 zX3_sumIfSaidTo ⟨Nat.le_of_ble_eq_true rfl, Nat.le_of_ble_eq_true rfl⟩ sh52 rfl rfl (Nat.le_of_ble_eq_true rfl) rfl K (fun v2 u2 K => ?_)
      refine mG_mmax C dX6_sumOfPlan_121 lk_792 ⟨Nat.le_of_ble_eq_true rfl, Nat.le_of_ble_eq_true rfl⟩ ?_
      refine mG_istore_n (lv' := [.ref 58, .retAddr 0, .retAddr 0, .int (if x3 < v2 then v2 else x3), .int x4, .int x5]) C dX6_sumOfPlan_124 rfl (by decide) rfl ?_
      refine mG_iincc (lv' := [.ref 58, .retAddr 0, .retAddr 0, .int (if x3 < v2 then v2 else x3), .int x4, .int (x5 + (1 : Int32))]) C dX6_sumOfPlan_125 rfl ic1 (by decide) rfl ?_
      refine mG_goto (tgt := 83) C dX6_sumOfPlan_128 rfl ?_
      exact K

set_option maxRecDepth 20000 in
set_option maxHeartbeats 4000000 in
theorem vX6_sumOfSiege_0 {X : mX} {E : mEnv} {Qm : Option Value → mW → Prop} (C : mCtx X E MX6_sumOfSiege) (F : mFin X E MX6_sumOfSiege Qm) {w : mW}  (p0 : Int32) (p1 : Int32) (p2 : Int32) (p3 : Int64)
    (K : (¬ (w.1 1 0) = 0 →
    (¬ w.1 1 0 = 0 ∧
    ((¬ p1 = (1 : Int32) →
    (mG X E MX6_sumOfSiege 52 [.ref 58, .int p0, .int p1, .retAddr 0, .retAddr 0, .retAddr 0, .int (p2 ^^^ ((1 : Int32) <<< ((p0 - p0 / (w.1 1 0) * (w.1 1 0)) &&& 31))), .long p3, .retAddr 0, .int (0 : Int32)] [] w)) ∧ (p1 = (1 : Int32) →
    (mMv E MX6_seekBest [.ref 58, .int (p2 ^^^ ((1 : Int32) <<< ((p0 - p0 / (w.1 1 0) * (w.1 1 0)) &&& 31))), .long p3] w (fun u1 =>
    (Qm (some (.int (u1.1 58 3))) u1))))))) ∧ ((w.1 1 0) = 0 →
    (Qm (some (.int (0 : Int32))) w))) :
    mG X E MX6_sumOfSiege 0 [.ref 58, .int p0, .int p1, .int p2, .long p3, .retAddr 0, .retAddr 0, .retAddr 0, .retAddr 0, .retAddr 0] [] w := by
  refine mG_aload_n C dX6_sumOfSiege_0 rfl rfl ?_
  refine mG_getR C dX6_sumOfSiege_1 fl_252 sh58 rfl ?_
  refine mG_getI C dX6_sumOfSiege_4 fl_37 sh1 rfl ?_
  refine mG_if_ne (tgt := 12) C dX6_sumOfSiege_7 rfl (fun h => ?_) (fun h => ?_)
  · have K := K.1 h
    refine mG_iload_n C dX6_sumOfSiege_12 rfl rfl ?_
    refine mG_iconst C dX6_sumOfSiege_13 ic1 ?_
    refine mG_iload_n C dX6_sumOfSiege_14 rfl rfl ?_
    refine mG_aload_n C dX6_sumOfSiege_15 rfl rfl ?_
    refine mG_getR C dX6_sumOfSiege_16 fl_252 sh58 rfl ?_
    refine mG_getI C dX6_sumOfSiege_19 fl_37 sh1 rfl ?_
    obtain ⟨h9, K⟩ := K
    refine mG_irem C dX6_sumOfSiege_22 h9 ?_
    refine mG_ishl C dX6_sumOfSiege_23 ?_
    refine mG_ixor C dX6_sumOfSiege_24 ?_
    refine mG_istore (lv' := [.ref 58, .int p0, .int p1, .int p2, .long p3, .retAddr 0, .int (p2 ^^^ ((1 : Int32) <<< ((p0 - p0 / (w.1 1 0) * (w.1 1 0)) &&& 31))), .retAddr 0, .retAddr 0, .retAddr 0]) C dX6_sumOfSiege_25 (by decide) rfl ?_
    refine mG_iload_n C dX6_sumOfSiege_27 rfl rfl ?_
    refine mG_iconst C dX6_sumOfSiege_28 ic1 ?_
    refine mG_icmp_ne (tgt := 45) C dX6_sumOfSiege_29 rfl (fun h => ?_) (fun h => ?_)
    · have K := K.1 h
      refine mG_lload C dX6_sumOfSiege_45 rfl ?_
      refine mG_lstore (lv' := [.ref 58, .int p0, .int p1, .int p2, .long p3, .retAddr 0, .int (p2 ^^^ ((1 : Int32) <<< ((p0 - p0 / (w.1 1 0) * (w.1 1 0)) &&& 31))), .long p3, .retAddr 0, .retAddr 0]) C dX6_sumOfSiege_47 (by decide) rfl ?_
      refine mG_iconst C dX6_sumOfSiege_49 ic0 ?_
      refine mG_istore (lv' := [.ref 58, .int p0, .int p1, .int p2, .long p3, .retAddr 0, .int (p2 ^^^ ((1 : Int32) <<< ((p0 - p0 / (w.1 1 0) * (w.1 1 0)) &&& 31))), .long p3, .retAddr 0, .int (0 : Int32)]) C dX6_sumOfSiege_50 (by decide) rfl ?_
      exact mG_holes [3, 4] rfl K
    · have K := K.2 h
      refine mG_aload_n C dX6_sumOfSiege_32 rfl rfl ?_
      refine mG_iload C dX6_sumOfSiege_33 rfl ?_
      refine mG_lload C dX6_sumOfSiege_35 rfl ?_
      refine mG_Vv (Z := MX6_seekBest) (as := [.int (p2 ^^^ ((1 : Int32) <<< ((p0 - p0 / (w.1 1 0) * (w.1 1 0)) &&& 31))), .long p3]) (rest := []) C dX6_sumOfSiege_37 lk_806 zX6_seekBest ⟨Nat.le_of_ble_eq_true rfl, Nat.le_of_ble_eq_true rfl⟩ sh58 rfl rfl (Nat.le_of_ble_eq_true rfl) rfl K (fun u1 K => ?_)
      refine mG_aload_n C dX6_sumOfSiege_40 rfl rfl ?_
      refine mG_getI C dX6_sumOfSiege_41 fl_255 sh58 rfl ?_
      exact mG_iret C F dX6_sumOfSiege_44 rfl rfl K
  · have K := K.2 h
    refine mG_iconst C dX6_sumOfSiege_10 ic0 ?_
    exact mG_iret C F dX6_sumOfSiege_11 rfl rfl K

set_option maxRecDepth 20000 in
set_option maxHeartbeats 4000000 in
theorem vX6_sumOfSiege_52 {X : mX} {E : mEnv} {Qm : Option Value → mW → Prop} (C : mCtx X E MX6_sumOfSiege) (F : mFin X E MX6_sumOfSiege Qm) {w : mW}  (x1 : Int32) (x2 : Int32) (x6 : Int32) (x7 : Int64) (x9 : Int32)
    (K : ((w.1 1 1) ≤ x9 →
    (mMi E MX1_doers [.ref 1, .long x7] w (fun v1 u1 =>
    (mMi E MX1_dawn [.ref 1, .int x6, .int v1] u1 (fun v2 u2 =>
    (mMi E MX1_sumOf [.ref 1, .int v2] u2 (fun v3 u3 =>
    (Qm (some (.int v3)) u3)))))))) ∧ (¬ (w.1 1 1) ≤ x9 →
    ((¬ x2 = (2 : Int32) →
    (mMi E MX1_doers [.ref 1, .long x7] w (fun v4 u4 =>
    (mMi E MX1_dawn [.ref 1, .int x6, .int v4] u4 (fun v5 u5 =>
    (mMi E MX1_sumOf [.ref 1, .int v5] u5 (fun v6 u6 =>
    (Qm (some (.int v6)) u6)))))))) ∧ (x2 = (2 : Int32) →
    (¬ w.1 1 0 = 0 ∧
    (mMl E MX6_stance [.long x7, .int x9, .int ((x1 / (8 : Int32)) - (x1 / (8 : Int32)) / (w.1 1 0) * (w.1 1 0)), .int ((x1 / (64 : Int32)) - (x1 / (64 : Int32)) / (2 : Int32) * (2 : Int32))] w (fun v7 u7 =>
    (mG X E MX6_sumOfSiege 52 [.ref 58, .int x1, .int x2, .retAddr 0, .retAddr 0, .retAddr 0, .int x6, .long v7, .retAddr 0, .int (x9 + (1 : Int32))] [] u7)))))))) :
    mG X E MX6_sumOfSiege 52 [.ref 58, .int x1, .int x2, .retAddr 0, .retAddr 0, .retAddr 0, .int x6, .long x7, .retAddr 0, .int x9] [] w := by
  refine mG_iload C dX6_sumOfSiege_52 rfl ?_
  refine mG_aload_n C dX6_sumOfSiege_54 rfl rfl ?_
  refine mG_getR C dX6_sumOfSiege_55 fl_252 sh58 rfl ?_
  refine mG_getI C dX6_sumOfSiege_58 fl_40 sh1 rfl ?_
  refine mG_icmp_ge (tgt := 102) C dX6_sumOfSiege_61 rfl (fun h => ?_) (fun h => ?_)
  · have K := K.1 h
    refine mG_aload_n C dX6_sumOfSiege_102 rfl rfl ?_
    refine mG_getR C dX6_sumOfSiege_103 fl_252 sh58 rfl ?_
    refine mG_aload_n C dX6_sumOfSiege_106 rfl rfl ?_
    refine mG_getR C dX6_sumOfSiege_107 fl_252 sh58 rfl ?_
    refine mG_iload C dX6_sumOfSiege_110 rfl ?_
    refine mG_aload_n C dX6_sumOfSiege_112 rfl rfl ?_
    refine mG_getR C dX6_sumOfSiege_113 fl_252 sh58 rfl ?_
    refine mG_lload C dX6_sumOfSiege_116 rfl ?_
    refine mG_Vi (Z := MX1_doers) (as := [.long x7]) (rest := [.int x6, .ref 1, .ref 1]) C dX6_sumOfSiege_118 lk_807 zX1_doers ⟨Nat.le_of_ble_eq_true rfl, Nat.le_of_ble_eq_true rfl⟩ sh1 rfl rfl (Nat.le_of_ble_eq_true rfl) rfl K (fun v1 u1 K => ?_)
    refine mG_Vi (Z := MX1_dawn) (as := [.int x6, .int v1]) (rest := [.ref 1]) C dX6_sumOfSiege_121 lk_808 zX1_dawn ⟨Nat.le_of_ble_eq_true rfl, Nat.le_of_ble_eq_true rfl⟩ sh1 rfl rfl (Nat.le_of_ble_eq_true rfl) rfl K (fun v2 u2 K => ?_)
    refine mG_Vi (Z := MX1_sumOf) (as := [.int v2]) (rest := []) C dX6_sumOfSiege_124 lk_809 zX1_sumOf ⟨Nat.le_of_ble_eq_true rfl, Nat.le_of_ble_eq_true rfl⟩ sh1 rfl rfl (Nat.le_of_ble_eq_true rfl) rfl K (fun v3 u3 K => ?_)
    exact mG_iret C F dX6_sumOfSiege_127 rfl rfl K
  · have K := K.2 h
    refine mG_iload_n C dX6_sumOfSiege_64 rfl rfl ?_
    refine mG_iconst C dX6_sumOfSiege_65 ic2 ?_
    refine mG_icmp_ne (tgt := 102) C dX6_sumOfSiege_66 rfl (fun h => ?_) (fun h => ?_)
    · have K := K.1 h
      refine mG_aload_n C dX6_sumOfSiege_102 rfl rfl ?_
      refine mG_getR C dX6_sumOfSiege_103 fl_252 sh58 rfl ?_
      refine mG_aload_n C dX6_sumOfSiege_106 rfl rfl ?_
      refine mG_getR C dX6_sumOfSiege_107 fl_252 sh58 rfl ?_
      refine mG_iload C dX6_sumOfSiege_110 rfl ?_
      refine mG_aload_n C dX6_sumOfSiege_112 rfl rfl ?_
      refine mG_getR C dX6_sumOfSiege_113 fl_252 sh58 rfl ?_
      refine mG_lload C dX6_sumOfSiege_116 rfl ?_
      refine mG_Vi (Z := MX1_doers) (as := [.long x7]) (rest := [.int x6, .ref 1, .ref 1]) C dX6_sumOfSiege_118 lk_807 zX1_doers ⟨Nat.le_of_ble_eq_true rfl, Nat.le_of_ble_eq_true rfl⟩ sh1 rfl rfl (Nat.le_of_ble_eq_true rfl) rfl K (fun v4 u4 K => ?_)
      refine mG_Vi (Z := MX1_dawn) (as := [.int x6, .int v4]) (rest := [.ref 1]) C dX6_sumOfSiege_121 lk_808 zX1_dawn ⟨Nat.le_of_ble_eq_true rfl, Nat.le_of_ble_eq_true rfl⟩ sh1 rfl rfl (Nat.le_of_ble_eq_true rfl) rfl K (fun v5 u5 K => ?_)
      refine mG_Vi (Z := MX1_sumOf) (as := [.int v5]) (rest := []) C dX6_sumOfSiege_124 lk_809 zX1_sumOf ⟨Nat.le_of_ble_eq_true rfl, Nat.le_of_ble_eq_true rfl⟩ sh1 rfl rfl (Nat.le_of_ble_eq_true rfl) rfl K (fun v6 u6 K => ?_)
      exact mG_iret C F dX6_sumOfSiege_127 rfl rfl K
    · have K := K.2 h
      refine mG_lload C dX6_sumOfSiege_69 rfl ?_
      refine mG_iload C dX6_sumOfSiege_71 rfl ?_
      refine mG_iload_n C dX6_sumOfSiege_73 rfl rfl ?_
      refine mG_bipush C dX6_sumOfSiege_74 bp8 ?_
      refine mG_idiv C dX6_sumOfSiege_76 (by decide) ?_
      refine mG_aload_n C dX6_sumOfSiege_77 rfl rfl ?_
      refine mG_getR C dX6_sumOfSiege_78 fl_252 sh58 rfl ?_
      refine mG_getI C dX6_sumOfSiege_81 fl_37 sh1 rfl ?_
      obtain ⟨h9, K⟩ := K
      refine mG_irem C dX6_sumOfSiege_84 h9 ?_
      refine mG_iload_n C dX6_sumOfSiege_85 rfl rfl ?_
      refine mG_bipush C dX6_sumOfSiege_86 bp64 ?_
      refine mG_idiv C dX6_sumOfSiege_88 (by decide) ?_
      refine mG_iconst C dX6_sumOfSiege_89 ic2 ?_
      refine mG_irem C dX6_sumOfSiege_90 (by decide) ?_
      refine mG_Sl (Z := MX6_stance) (as := [.long x7, .int x9, .int ((x1 / (8 : Int32)) - (x1 / (8 : Int32)) / (w.1 1 0) * (w.1 1 0)), .int ((x1 / (64 : Int32)) - (x1 / (64 : Int32)) / (2 : Int32) * (2 : Int32))]) (rest := []) C dX6_sumOfSiege_91 lk_732 zX6_stance ⟨Nat.le_of_ble_eq_true rfl, Nat.le_of_ble_eq_true rfl⟩ rfl (Nat.le_of_ble_eq_true rfl) rfl K (fun v7 u7 K => ?_)
      refine mG_lstore (lv' := [.ref 58, .int x1, .int x2, .retAddr 0, .retAddr 0, .retAddr 0, .int x6, .long v7, .retAddr 0, .int x9]) C dX6_sumOfSiege_94 (by decide) rfl ?_
      refine mG_iincc (lv' := [.ref 58, .int x1, .int x2, .retAddr 0, .retAddr 0, .retAddr 0, .int x6, .long v7, .retAddr 0, .int (x9 + (1 : Int32))]) C dX6_sumOfSiege_96 rfl ic1 (by decide) rfl ?_
      refine mG_goto (tgt := 52) C dX6_sumOfSiege_99 rfl ?_
      exact K
