/-! ===== CONDITIONS OF THE WALK, method by method, from cut to cut ===== -/
set_option maxRecDepth 20000 in
set_option maxHeartbeats 4000000 in
theorem vX5_append_0 {X : mX} {E : mEnv} {Qm : Option Value → mW → Prop} (C : mCtx X E MX5_append) (F : mFin X E MX5_append Qm) {w : mW}  (p0 : Int32)
    (K : ((w.1 22 1) < (160 : Int32) →
    (vp_in (w.1 22 1) 160 ∧
    (∀ w1 : mW, w1 = (mPI w 23 (w.1 22 1).toNatClampNeg p0) →
    (Qm (some (.int (1 : Int32))) (mPI w1 22 1 ((w1.1 22 1) + (1 : Int32))))))) ∧ (¬ (w.1 22 1) < (160 : Int32) →
    (Qm (some (.int (0 : Int32))) w))) :
    mG X E MX5_append 0 [.ref 22, .int p0] [] w := by
  refine mG_aload_n C dX5_append_0 rfl rfl ?_
  refine mG_getI C dX5_append_1 fl_83 sh22 rfl ?_
  refine mG_sipush C dX5_append_4 sp160 ?_
  refine mG_icmp_lt (tgt := 12) C dX5_append_7 rfl (fun h => ?_) (fun h => ?_)
  · have K := K.1 h
    refine mG_aload_n C dX5_append_12 rfl rfl ?_
    refine mG_getR C dX5_append_13 fl_82 sh22 rfl ?_
    refine mG_aload_n C dX5_append_16 rfl rfl ?_
    refine mG_getI C dX5_append_17 fl_83 sh22 rfl ?_
    refine mG_iload_n C dX5_append_20 rfl rfl ?_
    obtain ⟨h1, K⟩ := K
    refine mG_iast C dX5_append_21 sh23 h1 ?_
    refine mG_nm (fun w1 ew1 => ?_)
    have K := K w1 ew1
    refine mG_aload_n C dX5_append_22 rfl rfl ?_
    refine mG_dup C dX5_append_23 rfl ?_
    refine mG_getI C dX5_append_24 fl_83 sh22 rfl ?_
    refine mG_iconst C dX5_append_27 ic1 ?_
    refine mG_iadd C dX5_append_28 ?_
    refine mG_putI C dX5_append_29 fp_83 sh22 rfl ?_
    refine mG_iconst C dX5_append_32 ic1 ?_
    exact mG_iret C F dX5_append_33 rfl (by decide) K
  · have K := K.2 h
    refine mG_iconst C dX5_append_10 ic0 ?_
    exact mG_iret C F dX5_append_11 rfl (by decide) K

set_option maxRecDepth 20000 in
set_option maxHeartbeats 4000000 in
theorem vX5_countIn_0 {X : mX} {E : mEnv} {Qm : Option Value → mW → Prop} (C : mCtx X E MX5_countIn) (F : mFin X E MX5_countIn Qm) {w : mW}  (p0 : Int32)
    (K : (¬ p0 = 0 →
    ((¬ p0 = (8 : Int32) →
    ((¬ p0 = (7 : Int32) →
    (mMi E MX5_isOfFact [.int p0] w (fun v1 u1 =>
    ((v1 = 0 →
    (Qm none (mPI u1 22 8 ((u1.1 22 8) + (1 : Int32))))) ∧ (¬ v1 = 0 →
    (Qm none (mPI u1 22 7 ((u1.1 22 7) + (1 : Int32))))))))) ∧ (p0 = (7 : Int32) →
    (Qm none (mPI w 22 9 ((w.1 22 9) + (1 : Int32))))))) ∧ (p0 = (8 : Int32) →
    (Qm none (mPI w 22 9 (0 : Int32)))))) ∧ (p0 = 0 →
    (Qm none (mPI (mPI (mPI w 22 7 (0 : Int32)) 22 8 (0 : Int32)) 22 9 (0 : Int32))))) :
    mG X E MX5_countIn 0 [.ref 22, .int p0] [] w := by
  refine mG_iload_n C dX5_countIn_0 rfl rfl ?_
  refine mG_if_ne (tgt := 22) C dX5_countIn_1 rfl (fun h => ?_) (fun h => ?_)
  · have K := K.1 h
    refine mG_iload_n C dX5_countIn_22 rfl rfl ?_
    refine mG_bipush C dX5_countIn_23 bp8 ?_
    refine mG_icmp_ne (tgt := 36) C dX5_countIn_25 rfl (fun h => ?_) (fun h => ?_)
    · have K := K.1 h
      refine mG_iload_n C dX5_countIn_36 rfl rfl ?_
      refine mG_bipush C dX5_countIn_37 bp7 ?_
      refine mG_icmp_ne (tgt := 55) C dX5_countIn_39 rfl (fun h => ?_) (fun h => ?_)
      · have K := K.1 h
        refine mG_iload_n C dX5_countIn_55 rfl rfl ?_
        refine mG_Si (Z := MX5_isOfFact) (as := [.int p0]) (rest := []) C dX5_countIn_56 lk_407 zX5_isOfFact ⟨Nat.le_of_ble_eq_true rfl, Nat.le_of_ble_eq_true rfl⟩ rfl (Nat.le_of_ble_eq_true rfl) rfl K (fun v1 u1 K => ?_)
        refine mG_if_eq (tgt := 75) C dX5_countIn_59 rfl (fun h => ?_) (fun h => ?_)
        · have K := K.1 h
          refine mG_aload_n C dX5_countIn_75 rfl rfl ?_
          refine mG_dup C dX5_countIn_76 rfl ?_
          refine mG_getI C dX5_countIn_77 fl_93 sh22 rfl ?_
          refine mG_iconst C dX5_countIn_80 ic1 ?_
          refine mG_iadd C dX5_countIn_81 ?_
          refine mG_putI C dX5_countIn_82 fp_93 sh22 rfl ?_
          exact mG_vret C F dX5_countIn_85 rfl K
        · have K := K.2 h
          refine mG_aload_n C dX5_countIn_62 rfl rfl ?_
          refine mG_dup C dX5_countIn_63 rfl ?_
          refine mG_getI C dX5_countIn_64 fl_92 sh22 rfl ?_
          refine mG_iconst C dX5_countIn_67 ic1 ?_
          refine mG_iadd C dX5_countIn_68 ?_
          refine mG_putI C dX5_countIn_69 fp_92 sh22 rfl ?_
          refine mG_goto (tgt := 85) C dX5_countIn_72 rfl ?_
          exact mG_vret C F dX5_countIn_85 rfl K
      · have K := K.2 h
        refine mG_aload_n C dX5_countIn_42 rfl rfl ?_
        refine mG_dup C dX5_countIn_43 rfl ?_
        refine mG_getI C dX5_countIn_44 fl_94 sh22 rfl ?_
        refine mG_iconst C dX5_countIn_47 ic1 ?_
        refine mG_iadd C dX5_countIn_48 ?_
        refine mG_putI C dX5_countIn_49 fp_94 sh22 rfl ?_
        refine mG_goto (tgt := 85) C dX5_countIn_52 rfl ?_
        exact mG_vret C F dX5_countIn_85 rfl K
    · have K := K.2 h
      refine mG_aload_n C dX5_countIn_28 rfl rfl ?_
      refine mG_iconst C dX5_countIn_29 ic0 ?_
      refine mG_putI C dX5_countIn_30 fp_94 sh22 rfl ?_
      refine mG_goto (tgt := 85) C dX5_countIn_33 rfl ?_
      exact mG_vret C F dX5_countIn_85 rfl K
  · have K := K.2 h
    refine mG_aload_n C dX5_countIn_4 rfl rfl ?_
    refine mG_iconst C dX5_countIn_5 ic0 ?_
    refine mG_putI C dX5_countIn_6 fp_92 sh22 rfl ?_
    refine mG_aload_n C dX5_countIn_9 rfl rfl ?_
    refine mG_iconst C dX5_countIn_10 ic0 ?_
    refine mG_putI C dX5_countIn_11 fp_93 sh22 rfl ?_
    refine mG_aload_n C dX5_countIn_14 rfl rfl ?_
    refine mG_iconst C dX5_countIn_15 ic0 ?_
    refine mG_putI C dX5_countIn_16 fp_94 sh22 rfl ?_
    refine mG_goto (tgt := 85) C dX5_countIn_19 rfl ?_
    exact mG_vret C F dX5_countIn_85 rfl K

set_option maxRecDepth 20000 in
set_option maxHeartbeats 4000000 in
theorem vX5_firstFault_0 {X : mX} {E : mEnv} {Qm : Option Value → mW → Prop} (C : mCtx X E MX5_firstFault) (F : mFin X E MX5_firstFault Qm) {w : mW} 
    (K : mG X E MX5_firstFault 36 [.ref 22, .retAddr 0, .int (0 : Int32)] [] (mPI (mPI (mPI (mPI (mPI w 22 7 (w.1 1 0)) 22 8 (w.1 1 1)) 22 9 (w.1 1 2)) 22 3 (0 : Int32)) 22 5 (0 : Int32))) :
    mG X E MX5_firstFault 0 [.ref 22, .ref 1, .retAddr 0] [] w := by
  refine mG_aload_n C dX5_firstFault_0 rfl rfl ?_
  refine mG_aload_n C dX5_firstFault_1 rfl rfl ?_
  refine mG_getI C dX5_firstFault_2 fl_36 sh1 rfl ?_
  refine mG_putI C dX5_firstFault_5 fp_92 sh22 rfl ?_
  refine mG_aload_n C dX5_firstFault_8 rfl rfl ?_
  refine mG_aload_n C dX5_firstFault_9 rfl rfl ?_
  refine mG_getIv C dX5_firstFault_10 fl_42 sh1 rfl (by first | rfl | simp [mPI, mPL]) ?_
  refine mG_putI C dX5_firstFault_13 fp_93 sh22 rfl ?_
  refine mG_aload_n C dX5_firstFault_16 rfl rfl ?_
  refine mG_aload_n C dX5_firstFault_17 rfl rfl ?_
  refine mG_getIv C dX5_firstFault_18 fl_44 sh1 rfl (by first | rfl | simp [mPI, mPL]) ?_
  refine mG_putI C dX5_firstFault_21 fp_94 sh22 rfl ?_
  refine mG_aload_n C dX5_firstFault_24 rfl rfl ?_
  refine mG_iconst C dX5_firstFault_25 ic0 ?_
  refine mG_putI C dX5_firstFault_26 fp_87 sh22 rfl ?_
  refine mG_aload_n C dX5_firstFault_29 rfl rfl ?_
  refine mG_iconst C dX5_firstFault_30 ic0 ?_
  refine mG_putI C dX5_firstFault_31 fp_90 sh22 rfl ?_
  refine mG_iconst C dX5_firstFault_34 ic0 ?_
  refine mG_istore_n (lv' := [.ref 22, .ref 1, .int (0 : Int32)]) C dX5_firstFault_35 rfl (by decide) rfl ?_
  exact mG_holes [1] rfl K

set_option maxRecDepth 20000 in
set_option maxHeartbeats 4000000 in
theorem vX5_firstFault_36 {X : mX} {E : mEnv} {Qm : Option Value → mW → Prop} (C : mCtx X E MX5_firstFault) (F : mFin X E MX5_firstFault Qm) {w : mW}  (x2 : Int32)
    (K : ((14 : Int32) ≤ x2 →
    (Qm (some (.int (w.1 22 4))) w)) ∧ (¬ (14 : Int32) ≤ x2 →
    (mMv E MX5_nextToken [.ref 22] w (fun u1 =>
    (vp_in x2 14 ∧
    (mMi E MX5_readClause [.ref 22, .ref (25 + x2.toNatClampNeg)] u1 (fun v1 u2 =>
    ((¬ v1 = 0 →
    (mMv E MX5_nextToken [.ref 22] (mPI u2 22 3 ((u2.1 22 3) + (1 : Int32))) (fun u3 =>
    ((¬ (u3.1 22 6) = 0 →
    (vp_in (u3.1 22 4) 160 ∧
    (((u3.1 23 ((u3.1 22 4).toNatClampNeg)) = (59 : Int32) →
    (mG X E MX5_firstFault 36 [.ref 22, .retAddr 0, .int (x2 + (1 : Int32))] [] u3)) ∧ (¬ (u3.1 23 ((u3.1 22 4).toNatClampNeg)) = (59 : Int32) →
    (Qm (some (.int (u3.1 22 4))) u3))))) ∧ ((u3.1 22 6) = 0 →
    (Qm (some (.int (-1 : Int32))) u3)))))) ∧ (v1 = 0 →
    (Qm (some (.int (u2.1 22 4))) u2)))))))))) :
    mG X E MX5_firstFault 36 [.ref 22, .retAddr 0, .int x2] [] w := by
  refine mG_iload_n C dX5_firstFault_36 rfl rfl ?_
  refine mG_bipush C dX5_firstFault_37 bp14 ?_
  refine mG_icmp_ge (tgt := 112) C dX5_firstFault_39 rfl (fun h => ?_) (fun h => ?_)
  · have K := K.1 h
    refine mG_aload_n C dX5_firstFault_112 rfl rfl ?_
    refine mG_getI C dX5_firstFault_113 fl_89 sh22 rfl ?_
    exact mG_iret C F dX5_firstFault_116 rfl rfl K
  · have K := K.2 h
    refine mG_aload_n C dX5_firstFault_42 rfl rfl ?_
    refine mG_Vv (Z := MX5_nextToken) (as := []) (rest := []) C dX5_firstFault_43 lk_324 zX5_nextToken ⟨Nat.le_of_ble_eq_true rfl, Nat.le_of_ble_eq_true rfl⟩ sh22 rfl rfl (Nat.le_of_ble_eq_true rfl) rfl K (fun u1 K => ?_)
    refine mG_aload_n C dX5_firstFault_46 rfl rfl ?_
    refine mG_aload_n C dX5_firstFault_47 rfl rfl ?_
    refine mG_getR C dX5_firstFault_48 fl_85 sh22 rfl ?_
    refine mG_iload_n C dX5_firstFault_51 rfl rfl ?_
    obtain ⟨h1, K⟩ := K
    refine mG_aald (b := 25) C dX5_firstFault_52 sh24 h1 rs25 ?_
    refine mG_Vi (Z := MX5_readClause) (as := [.ref (25 + x2.toNatClampNeg)]) (rest := []) C dX5_firstFault_53 lk_331 zX5_readClause ⟨Nat.le_of_ble_eq_true rfl, Nat.le_of_ble_eq_true rfl⟩ sh22 rfl rfl (Nat.le_of_ble_eq_true rfl) rfl K (fun v1 u2 K => ?_)
    refine mG_if_ne (tgt := 64) C dX5_firstFault_56 rfl (fun h => ?_) (fun h => ?_)
    · have K := K.1 h
      refine mG_aload_n C dX5_firstFault_64 rfl rfl ?_
      refine mG_dup C dX5_firstFault_65 rfl ?_
      refine mG_getI C dX5_firstFault_66 fl_87 sh22 rfl ?_
      refine mG_iconst C dX5_firstFault_69 ic1 ?_
      refine mG_iadd C dX5_firstFault_70 ?_
      refine mG_putI C dX5_firstFault_71 fp_87 sh22 rfl ?_
      refine mG_aload_n C dX5_firstFault_74 rfl rfl ?_
      refine mG_Vv (Z := MX5_nextToken) (as := []) (rest := []) C dX5_firstFault_75 lk_324 zX5_nextToken ⟨Nat.le_of_ble_eq_true rfl, Nat.le_of_ble_eq_true rfl⟩ sh22 rfl rfl (Nat.le_of_ble_eq_true rfl) rfl K (fun u3 K => ?_)
      refine mG_aload_n C dX5_firstFault_78 rfl rfl ?_
      refine mG_getI C dX5_firstFault_79 fl_91 sh22 rfl ?_
      refine mG_if_ne (tgt := 87) C dX5_firstFault_82 rfl (fun h => ?_) (fun h => ?_)
      · have K := K.1 h
        refine mG_aload_n C dX5_firstFault_87 rfl rfl ?_
        refine mG_getR C dX5_firstFault_88 fl_82 sh22 rfl ?_
        refine mG_aload_n C dX5_firstFault_91 rfl rfl ?_
        refine mG_getI C dX5_firstFault_92 fl_89 sh22 rfl ?_
        obtain ⟨h2, K⟩ := K
        refine mG_iald C dX5_firstFault_95 sh23 h2 ?_
        refine mG_bipush C dX5_firstFault_96 bp59 ?_
        refine mG_icmp_eq (tgt := 106) C dX5_firstFault_98 rfl (fun h => ?_) (fun h => ?_)
        · have K := K.1 h
          refine mG_iincc (lv' := [.ref 22, .retAddr 0, .int (x2 + (1 : Int32))]) C dX5_firstFault_106 rfl ic1 (by decide) rfl ?_
          refine mG_goto (tgt := 36) C dX5_firstFault_109 rfl ?_
          exact K
        · have K := K.2 h
          refine mG_aload_n C dX5_firstFault_101 rfl rfl ?_
          refine mG_getI C dX5_firstFault_102 fl_89 sh22 rfl ?_
          exact mG_iret C F dX5_firstFault_105 rfl rfl K
      · have K := K.2 h
        refine mG_iconst C dX5_firstFault_85 icm1 ?_
        exact mG_iret C F dX5_firstFault_86 rfl rfl K
    · have K := K.2 h
      refine mG_aload_n C dX5_firstFault_59 rfl rfl ?_
      refine mG_getI C dX5_firstFault_60 fl_89 sh22 rfl ?_
      exact mG_iret C F dX5_firstFault_63 rfl rfl K

set_option maxRecDepth 20000 in
set_option maxHeartbeats 4000000 in
theorem vX5_hasRoomFor_0 {X : mX} {E : mEnv} {Qm : Option Value → mW → Prop} (C : mCtx X E MX5_hasRoomFor) (F : mFin X E MX5_hasRoomFor Qm) {w : mW}  (p0 : Int32)
    (K : (p0 = 0 →
    (Qm (some (.int (1 : Int32))) w)) ∧ (¬ p0 = 0 →
    ((¬ p0 = (8 : Int32) →
    (mMi E MX5_isOfFact [.int p0] w (fun v1 u1 =>
    ((v1 = 0 →
    ((¬ p0 = (7 : Int32) →
    (((5 : Int32) ≤ (u1.1 22 8) →
    (Qm (some (.int (0 : Int32))) u1)) ∧ (¬ (5 : Int32) ≤ (u1.1 22 8) →
    (Qm (some (.int (1 : Int32))) u1)))) ∧ (p0 = (7 : Int32) →
    (((6 : Int32) ≤ (u1.1 22 9) →
    (Qm (some (.int (0 : Int32))) u1)) ∧ (¬ (6 : Int32) ≤ (u1.1 22 9) →
    (Qm (some (.int (1 : Int32))) u1)))))) ∧ (¬ v1 = 0 →
    (((6 : Int32) ≤ (u1.1 22 7) →
    (Qm (some (.int (0 : Int32))) u1)) ∧ (¬ (6 : Int32) ≤ (u1.1 22 7) →
    (Qm (some (.int (1 : Int32))) u1)))))))) ∧ (p0 = (8 : Int32) →
    (Qm (some (.int (1 : Int32))) w))))) :
    mG X E MX5_hasRoomFor 0 [.ref 22, .int p0] [] w := by
  refine mG_iload_n C dX5_hasRoomFor_0 rfl rfl ?_
  refine mG_if_eq (tgt := 10) C dX5_hasRoomFor_1 rfl (fun h => ?_) (fun h => ?_)
  · have K := K.1 h
    refine mG_iconst C dX5_hasRoomFor_10 ic1 ?_
    exact mG_iret C F dX5_hasRoomFor_11 rfl (by decide) K
  · have K := K.2 h
    refine mG_iload_n C dX5_hasRoomFor_4 rfl rfl ?_
    refine mG_bipush C dX5_hasRoomFor_5 bp8 ?_
    refine mG_icmp_ne (tgt := 12) C dX5_hasRoomFor_7 rfl (fun h => ?_) (fun h => ?_)
    · have K := K.1 h
      refine mG_iload_n C dX5_hasRoomFor_12 rfl rfl ?_
      refine mG_Si (Z := MX5_isOfFact) (as := [.int p0]) (rest := []) C dX5_hasRoomFor_13 lk_407 zX5_isOfFact ⟨Nat.le_of_ble_eq_true rfl, Nat.le_of_ble_eq_true rfl⟩ rfl (Nat.le_of_ble_eq_true rfl) rfl K (fun v1 u1 K => ?_)
      refine mG_if_eq (tgt := 34) C dX5_hasRoomFor_16 rfl (fun h => ?_) (fun h => ?_)
      · have K := K.1 h
        refine mG_iload_n C dX5_hasRoomFor_34 rfl rfl ?_
        refine mG_bipush C dX5_hasRoomFor_35 bp7 ?_
        refine mG_icmp_ne (tgt := 57) C dX5_hasRoomFor_37 rfl (fun h => ?_) (fun h => ?_)
        · have K := K.1 h
          refine mG_aload_n C dX5_hasRoomFor_57 rfl rfl ?_
          refine mG_getI C dX5_hasRoomFor_58 fl_93 sh22 rfl ?_
          refine mG_iconst C dX5_hasRoomFor_61 ic5 ?_
          refine mG_icmp_ge (tgt := 69) C dX5_hasRoomFor_62 rfl (fun h => ?_) (fun h => ?_)
          · have K := K.1 h
            refine mG_iconst C dX5_hasRoomFor_69 ic0 ?_
            exact mG_iret C F dX5_hasRoomFor_70 rfl (by decide) K
          · have K := K.2 h
            refine mG_iconst C dX5_hasRoomFor_65 ic1 ?_
            refine mG_goto (tgt := 70) C dX5_hasRoomFor_66 rfl ?_
            exact mG_iret C F dX5_hasRoomFor_70 rfl (by decide) K
        · have K := K.2 h
          refine mG_aload_n C dX5_hasRoomFor_40 rfl rfl ?_
          refine mG_getI C dX5_hasRoomFor_41 fl_94 sh22 rfl ?_
          refine mG_bipush C dX5_hasRoomFor_44 bp6 ?_
          refine mG_icmp_ge (tgt := 53) C dX5_hasRoomFor_46 rfl (fun h => ?_) (fun h => ?_)
          · have K := K.1 h
            refine mG_iconst C dX5_hasRoomFor_53 ic0 ?_
            refine mG_goto (tgt := 70) C dX5_hasRoomFor_54 rfl ?_
            exact mG_iret C F dX5_hasRoomFor_70 rfl (by decide) K
          · have K := K.2 h
            refine mG_iconst C dX5_hasRoomFor_49 ic1 ?_
            refine mG_goto (tgt := 70) C dX5_hasRoomFor_50 rfl ?_
            exact mG_iret C F dX5_hasRoomFor_70 rfl (by decide) K
      · have K := K.2 h
        refine mG_aload_n C dX5_hasRoomFor_19 rfl rfl ?_
        refine mG_getI C dX5_hasRoomFor_20 fl_92 sh22 rfl ?_
        refine mG_bipush C dX5_hasRoomFor_23 bp6 ?_
        refine mG_icmp_ge (tgt := 32) C dX5_hasRoomFor_25 rfl (fun h => ?_) (fun h => ?_)
        · have K := K.1 h
          refine mG_iconst C dX5_hasRoomFor_32 ic0 ?_
          exact mG_iret C F dX5_hasRoomFor_33 rfl (by decide) K
        · have K := K.2 h
          refine mG_iconst C dX5_hasRoomFor_28 ic1 ?_
          refine mG_goto (tgt := 33) C dX5_hasRoomFor_29 rfl ?_
          exact mG_iret C F dX5_hasRoomFor_33 rfl (by decide) K
    · have K := K.2 h
      refine mG_iconst C dX5_hasRoomFor_10 ic1 ?_
      exact mG_iret C F dX5_hasRoomFor_11 rfl (by decide) K

set_option maxRecDepth 20000 in
set_option maxHeartbeats 4000000 in
theorem vX5_isOfFact_0 {X : mX} {E : mEnv} {Qm : Option Value → mW → Prop} (C : mCtx X E MX5_isOfFact) (F : mFin X E MX5_isOfFact Qm) {w : mW}  (p0 : Int32)
    (K : (p0 = (1 : Int32) →
    (Qm (some (.int (1 : Int32))) w)) ∧ (¬ p0 = (1 : Int32) →
    ((¬ p0 = (2 : Int32) →
    (Qm (some (.int (0 : Int32))) w)) ∧ (p0 = (2 : Int32) →
    (Qm (some (.int (1 : Int32))) w))))) :
    mG X E MX5_isOfFact 0 [.int p0] [] w := by
  refine mG_iload_n C dX5_isOfFact_0 rfl rfl ?_
  refine mG_iconst C dX5_isOfFact_1 ic1 ?_
  refine mG_icmp_eq (tgt := 10) C dX5_isOfFact_2 rfl (fun h => ?_) (fun h => ?_)
  · have K := K.1 h
    refine mG_iconst C dX5_isOfFact_10 ic1 ?_
    refine mG_goto (tgt := 15) C dX5_isOfFact_11 rfl ?_
    exact mG_iret C F dX5_isOfFact_15 rfl (by decide) K
  · have K := K.2 h
    refine mG_iload_n C dX5_isOfFact_5 rfl rfl ?_
    refine mG_iconst C dX5_isOfFact_6 ic2 ?_
    refine mG_icmp_ne (tgt := 14) C dX5_isOfFact_7 rfl (fun h => ?_) (fun h => ?_)
    · have K := K.1 h
      refine mG_iconst C dX5_isOfFact_14 ic0 ?_
      exact mG_iret C F dX5_isOfFact_15 rfl (by decide) K
    · have K := K.2 h
      refine mG_iconst C dX5_isOfFact_10 ic1 ?_
      refine mG_goto (tgt := 15) C dX5_isOfFact_11 rfl ?_
      exact mG_iret C F dX5_isOfFact_15 rfl (by decide) K

set_option maxRecDepth 20000 in
set_option maxHeartbeats 4000000 in
theorem vX5_isToken_0 {X : mX} {E : mEnv} {Qm : Option Value → mW → Prop} (C : mCtx X E MX5_isToken) (F : mFin X E MX5_isToken Qm) {w : mW} {t : Nat}
    (K : (∃ k : Nat, k < 13 ∧ t = 100 + k) ∧
    (mMi E MJ0_length_8abf5 [.ref t] w (fun v1 u1 =>
    ((v1 = ((u1.1 22 5) - (u1.1 22 4)) →
    (mG X E MX5_isToken 20 [.ref 22, .ref t, .int (0 : Int32)] [] u1)) ∧ (¬ v1 = ((u1.1 22 5) - (u1.1 22 4)) →
    (Qm (some (.int (0 : Int32))) u1)))))) :
    mG X E MX5_isToken 0 [.ref 22, .ref t, .retAddr 0] [] w := by
  refine mG_aload_n C dX5_isToken_0 rfl rfl ?_
  obtain ⟨h8, K⟩ := K
  refine mG_Ti (Z := MJ0_length_8abf5) (as := []) (rest := []) C dX5_isToken_1 lk_355 zJ0_length_8abf5 ⟨Nat.le_of_ble_eq_true rfl, Nat.le_of_ble_eq_true rfl⟩ h8 rfl rfl (Nat.le_of_ble_eq_true rfl) rfl K (fun v1 u1 K => ?_)
  refine mG_aload_n C dX5_isToken_4 rfl rfl ?_
  refine mG_getI C dX5_isToken_5 fl_90 sh22 rfl ?_
  refine mG_aload_n C dX5_isToken_8 rfl rfl ?_
  refine mG_getI C dX5_isToken_9 fl_89 sh22 rfl ?_
  refine mG_isub C dX5_isToken_12 ?_
  refine mG_icmp_eq (tgt := 18) C dX5_isToken_13 rfl (fun h => ?_) (fun h => ?_)
  · have K := K.1 h
    refine mG_iconst C dX5_isToken_18 ic0 ?_
    refine mG_istore_n (lv' := [.ref 22, .ref t, .int (0 : Int32)]) C dX5_isToken_19 rfl (by decide) rfl ?_
    exact K
  · have K := K.2 h
    refine mG_iconst C dX5_isToken_16 ic0 ?_
    exact mG_iret C F dX5_isToken_17 rfl (by decide) K

set_option maxRecDepth 20000 in
set_option maxHeartbeats 4000000 in
theorem vX5_isToken_20 {X : mX} {E : mEnv} {Qm : Option Value → mW → Prop} (C : mCtx X E MX5_isToken) (F : mFin X E MX5_isToken Qm) {w : mW} {t : Nat} (x2 : Int32)
    (K : (∃ k : Nat, k < 13 ∧ t = 100 + k) ∧
    (mMi E MJ0_length_8abf5 [.ref t] w (fun v1 u1 =>
    ((v1 ≤ x2 →
    (Qm (some (.int (1 : Int32))) u1)) ∧ (¬ v1 ≤ x2 →
    ((∃ k : Nat, k < 13 ∧ t = 100 + k) ∧
    (mMi E MJ0_charAt_5068e [.ref t, .int x2] u1 (fun v2 u2 =>
    (vp_in ((u2.1 22 4) + x2) 160 ∧
    ((v2 = (u2.1 23 (((u2.1 22 4) + x2).toNatClampNeg)) →
    (mG X E MX5_isToken 20 [.ref 22, .ref t, .int (x2 + (1 : Int32))] [] u2)) ∧ (¬ v2 = (u2.1 23 (((u2.1 22 4) + x2).toNatClampNeg)) →
    (Qm (some (.int (0 : Int32))) u2)))))))))))) :
    mG X E MX5_isToken 20 [.ref 22, .ref t, .int x2] [] w := by
  refine mG_iload_n C dX5_isToken_20 rfl rfl ?_
  refine mG_aload_n C dX5_isToken_21 rfl rfl ?_
  obtain ⟨h8, K⟩ := K
  refine mG_Ti (Z := MJ0_length_8abf5) (as := []) (rest := [.int x2]) C dX5_isToken_22 lk_355 zJ0_length_8abf5 ⟨Nat.le_of_ble_eq_true rfl, Nat.le_of_ble_eq_true rfl⟩ h8 rfl rfl (Nat.le_of_ble_eq_true rfl) rfl K (fun v1 u1 K => ?_)
  refine mG_icmp_ge (tgt := 55) C dX5_isToken_25 rfl (fun h => ?_) (fun h => ?_)
  · have K := K.1 h
    refine mG_iconst C dX5_isToken_55 ic1 ?_
    exact mG_iret C F dX5_isToken_56 rfl (by decide) K
  · have K := K.2 h
    refine mG_aload_n C dX5_isToken_28 rfl rfl ?_
    refine mG_iload_n C dX5_isToken_29 rfl rfl ?_
    obtain ⟨h8, K⟩ := K
    refine mG_Ti (Z := MJ0_charAt_5068e) (as := [.int x2]) (rest := []) C dX5_isToken_30 lk_365 zJ0_charAt_5068e ⟨Nat.le_of_ble_eq_true rfl, Nat.le_of_ble_eq_true rfl⟩ h8 rfl rfl (Nat.le_of_ble_eq_true rfl) rfl K (fun v2 u2 K => ?_)
    refine mG_aload_n C dX5_isToken_33 rfl rfl ?_
    refine mG_getR C dX5_isToken_34 fl_82 sh22 rfl ?_
    refine mG_aload_n C dX5_isToken_37 rfl rfl ?_
    refine mG_getI C dX5_isToken_38 fl_89 sh22 rfl ?_
    refine mG_iload_n C dX5_isToken_41 rfl rfl ?_
    refine mG_iadd C dX5_isToken_42 ?_
    obtain ⟨h1, K⟩ := K
    refine mG_iald C dX5_isToken_43 sh23 h1 ?_
    refine mG_icmp_eq (tgt := 49) C dX5_isToken_44 rfl (fun h => ?_) (fun h => ?_)
    · have K := K.1 h
      refine mG_iincc (lv' := [.ref 22, .ref t, .int (x2 + (1 : Int32))]) C dX5_isToken_49 rfl ic1 (by decide) rfl ?_
      refine mG_goto (tgt := 20) C dX5_isToken_52 rfl ?_
      exact K
    · have K := K.2 h
      refine mG_iconst C dX5_isToken_47 ic0 ?_
      exact mG_iret C F dX5_isToken_48 rfl (by decide) K

set_option maxRecDepth 20000 in
set_option maxHeartbeats 4000000 in
theorem vX5_mostOf_0 {X : mX} {E : mEnv} {Qm : Option Value → mW → Prop} (C : mCtx X E MX5_mostOf) (F : mFin X E MX5_mostOf Qm) {w : mW}  (p0 : Int32)
    (K : (p0 = (98 : Int32) →
    (Qm (some (.int (1 : Int32))) w)) ∧ (¬ p0 = (98 : Int32) →
    ((p0 = (100 : Int32) →
    (Qm (some (.int (3 : Int32))) w)) ∧ (¬ p0 = (100 : Int32) →
    ((p0 = (118 : Int32) →
    (Qm (some (.int (40 : Int32))) w)) ∧ (¬ p0 = (118 : Int32) →
    (Qm (some (.int ((w.1 22 7) - (1 : Int32)))) w))))))) :
    mG X E MX5_mostOf 0 [.ref 22, .int p0] [] w := by
  refine mG_iload_n C dX5_mostOf_0 rfl rfl ?_
  by_cases g98 : p0 = (98 : Int32)
  · have K := K.1 g98
    refine mG_lookupEq (off := 38) (tgt := 39) C dX5_mostOf_1 g98 rfl (by decide) rfl ?_
    refine mG_iconst C dX5_mostOf_39 ic1 ?_
    exact mG_iret C F dX5_mostOf_40 rfl rfl K
  · have K := K.2 g98
    by_cases g100 : p0 = (100 : Int32)
    · have K := K.1 g100
      refine mG_lookupEq (off := 40) (tgt := 41) C dX5_mostOf_1 g100 rfl (by decide) rfl ?_
      refine mG_iconst C dX5_mostOf_41 ic3 ?_
      exact mG_iret C F dX5_mostOf_42 rfl rfl K
    · have K := K.2 g100
      by_cases g118 : p0 = (118 : Int32)
      · have K := K.1 g118
        refine mG_lookupEq (off := 35) (tgt := 36) C dX5_mostOf_1 g118 rfl (by decide) rfl ?_
        refine mG_bipush C dX5_mostOf_36 bp40 ?_
        exact mG_iret C F dX5_mostOf_38 rfl rfl K
      · have K := K.2 g118
        refine mG_lookup (off := 42) (tgt := 43) C dX5_mostOf_1 rfl (by refine (lv_osw g98 (by decide)).trans ?_; refine (lv_osw g100 (by decide)).trans ?_; refine (lv_osw g118 (by decide)).trans ?_; rfl) rfl ?_
        refine mG_aload_n C dX5_mostOf_43 rfl rfl ?_
        refine mG_getI C dX5_mostOf_44 fl_92 sh22 rfl ?_
        refine mG_iconst C dX5_mostOf_47 ic1 ?_
        refine mG_isub C dX5_mostOf_48 ?_
        exact mG_iret C F dX5_mostOf_49 rfl rfl K

set_option maxRecDepth 20000 in
set_option maxHeartbeats 4000000 in
theorem vX5_nextToken_0 {X : mX} {E : mEnv} {Qm : Option Value → mW → Prop} (C : mCtx X E MX5_nextToken) (F : mFin X E MX5_nextToken Qm) {w : mW} 
    (K : mG X E MX5_nextToken 8 [.ref 22] [] (mPI w 22 4 (w.1 22 5))) :
    mG X E MX5_nextToken 0 [.ref 22] [] w := by
  refine mG_aload_n C dX5_nextToken_0 rfl rfl ?_
  refine mG_aload_n C dX5_nextToken_1 rfl rfl ?_
  refine mG_getI C dX5_nextToken_2 fl_90 sh22 rfl ?_
  refine mG_putI C dX5_nextToken_5 fp_89 sh22 rfl ?_
  exact K

set_option maxRecDepth 20000 in
set_option maxHeartbeats 4000000 in
theorem vX5_nextToken_8 {X : mX} {E : mEnv} {Qm : Option Value → mW → Prop} (C : mCtx X E MX5_nextToken) (F : mFin X E MX5_nextToken Qm) {w : mW} 
    (K : ((w.1 22 1) ≤ (w.1 22 4) →
    (((w.1 22 4) < (w.1 22 1) →
    (vp_in (w.1 22 4) 160 ∧
    (mMi E MX5_sortOf [.int (w.1 23 ((w.1 22 4).toNatClampNeg))] (mPI (mPI w 22 5 (w.1 22 4)) 22 6 (0 : Int32)) (fun v1 u1 =>
    (mG X E MX5_nextToken 97 [.ref 22] [] (mPI (mPI u1 22 6 v1) 22 5 ((u1.1 22 5) + (1 : Int32)))))))) ∧ (¬ (w.1 22 4) < (w.1 22 1) →
    (Qm none (mPI (mPI w 22 5 (w.1 22 4)) 22 6 (0 : Int32)))))) ∧ (¬ (w.1 22 1) ≤ (w.1 22 4) →
    (vp_in (w.1 22 4) 160 ∧
    ((¬ (w.1 23 ((w.1 22 4).toNatClampNeg)) = (32 : Int32) →
    (((w.1 22 4) < (w.1 22 1) →
    (vp_in (w.1 22 4) 160 ∧
    (mMi E MX5_sortOf [.int (w.1 23 ((w.1 22 4).toNatClampNeg))] (mPI (mPI w 22 5 (w.1 22 4)) 22 6 (0 : Int32)) (fun v2 u2 =>
    (mG X E MX5_nextToken 97 [.ref 22] [] (mPI (mPI u2 22 6 v2) 22 5 ((u2.1 22 5) + (1 : Int32)))))))) ∧ (¬ (w.1 22 4) < (w.1 22 1) →
    (Qm none (mPI (mPI w 22 5 (w.1 22 4)) 22 6 (0 : Int32)))))) ∧ ((w.1 23 ((w.1 22 4).toNatClampNeg)) = (32 : Int32) →
    (mG X E MX5_nextToken 8 [.ref 22] [] (mPI w 22 4 ((w.1 22 4) + (1 : Int32))))))))) :
    mG X E MX5_nextToken 8 [.ref 22] [] w := by
  refine mG_aload_n C dX5_nextToken_8 rfl rfl ?_
  refine mG_getI C dX5_nextToken_9 fl_89 sh22 rfl ?_
  refine mG_aload_n C dX5_nextToken_12 rfl rfl ?_
  refine mG_getI C dX5_nextToken_13 fl_83 sh22 rfl ?_
  refine mG_icmp_ge (tgt := 46) C dX5_nextToken_16 rfl (fun h => ?_) (fun h => ?_)
  · have K := K.1 h
    refine mG_aload_n C dX5_nextToken_46 rfl rfl ?_
    refine mG_aload_n C dX5_nextToken_47 rfl rfl ?_
    refine mG_getI C dX5_nextToken_48 fl_89 sh22 rfl ?_
    refine mG_putI C dX5_nextToken_51 fp_90 sh22 rfl ?_
    refine mG_aload_n C dX5_nextToken_54 rfl rfl ?_
    refine mG_iconst C dX5_nextToken_55 ic0 ?_
    refine mG_putI C dX5_nextToken_56 fp_91 sh22 rfl ?_
    refine mG_aload_n C dX5_nextToken_59 rfl rfl ?_
    refine mG_getIv C dX5_nextToken_60 fl_89 sh22 rfl (by first | rfl | simp [mPI, mPL]) ?_
    refine mG_aload_n C dX5_nextToken_63 rfl rfl ?_
    refine mG_getIv C dX5_nextToken_64 fl_83 sh22 rfl (by first | rfl | simp [mPI, mPL]) ?_
    refine mG_icmp_lt (tgt := 71) C dX5_nextToken_67 rfl (fun h => ?_) (fun h => ?_)
    · have K := K.1 h
      refine mG_aload_n C dX5_nextToken_71 rfl rfl ?_
      refine mG_aload_n C dX5_nextToken_72 rfl rfl ?_
      refine mG_getR C dX5_nextToken_73 fl_82 sh22 rfl ?_
      refine mG_aload_n C dX5_nextToken_76 rfl rfl ?_
      refine mG_getIv C dX5_nextToken_77 fl_89 sh22 rfl (by first | rfl | simp [mPI, mPL]) ?_
      obtain ⟨h1, K⟩ := K
      refine mG_ialdv C dX5_nextToken_80 sh23 h1 (by first | rfl | simp [mPI, mPL]) ?_
      refine mG_Si (Z := MX5_sortOf) (as := [.int (w.1 23 ((w.1 22 4).toNatClampNeg))]) (rest := [.ref 22]) C dX5_nextToken_81 lk_328 zX5_sortOf ⟨Nat.le_of_ble_eq_true rfl, Nat.le_of_ble_eq_true rfl⟩ rfl (Nat.le_of_ble_eq_true rfl) rfl K (fun v1 u1 K => ?_)
      refine mG_putI C dX5_nextToken_84 fp_91 sh22 rfl ?_
      refine mG_aload_n C dX5_nextToken_87 rfl rfl ?_
      refine mG_dup C dX5_nextToken_88 rfl ?_
      refine mG_getIv C dX5_nextToken_89 fl_90 sh22 rfl (by first | rfl | simp [mPI, mPL]) ?_
      refine mG_iconst C dX5_nextToken_92 ic1 ?_
      refine mG_iadd C dX5_nextToken_93 ?_
      refine mG_putI C dX5_nextToken_94 fp_90 sh22 rfl ?_
      exact K
    · have K := K.2 h
      exact mG_vret C F dX5_nextToken_70 rfl K
  · have K := K.2 h
    refine mG_aload_n C dX5_nextToken_19 rfl rfl ?_
    refine mG_getR C dX5_nextToken_20 fl_82 sh22 rfl ?_
    refine mG_aload_n C dX5_nextToken_23 rfl rfl ?_
    refine mG_getI C dX5_nextToken_24 fl_89 sh22 rfl ?_
    obtain ⟨h2, K⟩ := K
    refine mG_iald C dX5_nextToken_27 sh23 h2 ?_
    refine mG_bipush C dX5_nextToken_28 bp32 ?_
    refine mG_icmp_ne (tgt := 46) C dX5_nextToken_30 rfl (fun h => ?_) (fun h => ?_)
    · have K := K.1 h
      refine mG_aload_n C dX5_nextToken_46 rfl rfl ?_
      refine mG_aload_n C dX5_nextToken_47 rfl rfl ?_
      refine mG_getI C dX5_nextToken_48 fl_89 sh22 rfl ?_
      refine mG_putI C dX5_nextToken_51 fp_90 sh22 rfl ?_
      refine mG_aload_n C dX5_nextToken_54 rfl rfl ?_
      refine mG_iconst C dX5_nextToken_55 ic0 ?_
      refine mG_putI C dX5_nextToken_56 fp_91 sh22 rfl ?_
      refine mG_aload_n C dX5_nextToken_59 rfl rfl ?_
      refine mG_getIv C dX5_nextToken_60 fl_89 sh22 rfl (by first | rfl | simp [mPI, mPL]) ?_
      refine mG_aload_n C dX5_nextToken_63 rfl rfl ?_
      refine mG_getIv C dX5_nextToken_64 fl_83 sh22 rfl (by first | rfl | simp [mPI, mPL]) ?_
      refine mG_icmp_lt (tgt := 71) C dX5_nextToken_67 rfl (fun h => ?_) (fun h => ?_)
      · have K := K.1 h
        refine mG_aload_n C dX5_nextToken_71 rfl rfl ?_
        refine mG_aload_n C dX5_nextToken_72 rfl rfl ?_
        refine mG_getR C dX5_nextToken_73 fl_82 sh22 rfl ?_
        refine mG_aload_n C dX5_nextToken_76 rfl rfl ?_
        refine mG_getIv C dX5_nextToken_77 fl_89 sh22 rfl (by first | rfl | simp [mPI, mPL]) ?_
        obtain ⟨h3, K⟩ := K
        refine mG_ialdv C dX5_nextToken_80 sh23 h3 (by first | rfl | simp [mPI, mPL]) ?_
        refine mG_Si (Z := MX5_sortOf) (as := [.int (w.1 23 ((w.1 22 4).toNatClampNeg))]) (rest := [.ref 22]) C dX5_nextToken_81 lk_328 zX5_sortOf ⟨Nat.le_of_ble_eq_true rfl, Nat.le_of_ble_eq_true rfl⟩ rfl (Nat.le_of_ble_eq_true rfl) rfl K (fun v2 u2 K => ?_)
        refine mG_putI C dX5_nextToken_84 fp_91 sh22 rfl ?_
        refine mG_aload_n C dX5_nextToken_87 rfl rfl ?_
        refine mG_dup C dX5_nextToken_88 rfl ?_
        refine mG_getIv C dX5_nextToken_89 fl_90 sh22 rfl (by first | rfl | simp [mPI, mPL]) ?_
        refine mG_iconst C dX5_nextToken_92 ic1 ?_
        refine mG_iadd C dX5_nextToken_93 ?_
        refine mG_putI C dX5_nextToken_94 fp_90 sh22 rfl ?_
        exact K
      · have K := K.2 h
        exact mG_vret C F dX5_nextToken_70 rfl K
    · have K := K.2 h
      refine mG_aload_n C dX5_nextToken_33 rfl rfl ?_
      refine mG_dup C dX5_nextToken_34 rfl ?_
      refine mG_getI C dX5_nextToken_35 fl_89 sh22 rfl ?_
      refine mG_iconst C dX5_nextToken_38 ic1 ?_
      refine mG_iadd C dX5_nextToken_39 ?_
      refine mG_putI C dX5_nextToken_40 fp_89 sh22 rfl ?_
      refine mG_goto (tgt := 8) C dX5_nextToken_43 rfl ?_
      exact K

set_option maxRecDepth 20000 in
set_option maxHeartbeats 4000000 in
theorem vX5_nextToken_97 {X : mX} {E : mEnv} {Qm : Option Value → mW → Prop} (C : mCtx X E MX5_nextToken) (F : mFin X E MX5_nextToken Qm) {w : mW} 
    (K : ((w.1 22 6) = (3 : Int32) →
    (Qm none w)) ∧ (¬ (w.1 22 6) = (3 : Int32) →
    (((w.1 22 1) ≤ (w.1 22 5) →
    (Qm none w)) ∧ (¬ (w.1 22 1) ≤ (w.1 22 5) →
    (vp_in (w.1 22 5) 160 ∧
    (mMi E MX5_sortOf [.int (w.1 23 ((w.1 22 5).toNatClampNeg))] w (fun v1 u1 =>
    ((¬ v1 = (u1.1 22 6) →
    (Qm none u1)) ∧ (v1 = (u1.1 22 6) →
    (mG X E MX5_nextToken 97 [.ref 22] [] (mPI u1 22 5 ((u1.1 22 5) + (1 : Int32))))))))))))) :
    mG X E MX5_nextToken 97 [.ref 22] [] w := by
  refine mG_aload_n C dX5_nextToken_97 rfl rfl ?_
  refine mG_getI C dX5_nextToken_98 fl_91 sh22 rfl ?_
  refine mG_iconst C dX5_nextToken_101 ic3 ?_
  refine mG_icmp_eq (tgt := 148) C dX5_nextToken_102 rfl (fun h => ?_) (fun h => ?_)
  · have K := K.1 h
    exact mG_vret C F dX5_nextToken_148 rfl K
  · have K := K.2 h
    refine mG_aload_n C dX5_nextToken_105 rfl rfl ?_
    refine mG_getI C dX5_nextToken_106 fl_90 sh22 rfl ?_
    refine mG_aload_n C dX5_nextToken_109 rfl rfl ?_
    refine mG_getI C dX5_nextToken_110 fl_83 sh22 rfl ?_
    refine mG_icmp_ge (tgt := 148) C dX5_nextToken_113 rfl (fun h => ?_) (fun h => ?_)
    · have K := K.1 h
      exact mG_vret C F dX5_nextToken_148 rfl K
    · have K := K.2 h
      refine mG_aload_n C dX5_nextToken_116 rfl rfl ?_
      refine mG_getR C dX5_nextToken_117 fl_82 sh22 rfl ?_
      refine mG_aload_n C dX5_nextToken_120 rfl rfl ?_
      refine mG_getI C dX5_nextToken_121 fl_90 sh22 rfl ?_
      obtain ⟨h1, K⟩ := K
      refine mG_iald C dX5_nextToken_124 sh23 h1 ?_
      refine mG_Si (Z := MX5_sortOf) (as := [.int (w.1 23 ((w.1 22 5).toNatClampNeg))]) (rest := []) C dX5_nextToken_125 lk_328 zX5_sortOf ⟨Nat.le_of_ble_eq_true rfl, Nat.le_of_ble_eq_true rfl⟩ rfl (Nat.le_of_ble_eq_true rfl) rfl K (fun v1 u1 K => ?_)
      refine mG_aload_n C dX5_nextToken_128 rfl rfl ?_
      refine mG_getI C dX5_nextToken_129 fl_91 sh22 rfl ?_
      refine mG_icmp_ne (tgt := 148) C dX5_nextToken_132 rfl (fun h => ?_) (fun h => ?_)
      · have K := K.1 h
        exact mG_vret C F dX5_nextToken_148 rfl K
      · have K := K.2 h
        refine mG_aload_n C dX5_nextToken_135 rfl rfl ?_
        refine mG_dup C dX5_nextToken_136 rfl ?_
        refine mG_getI C dX5_nextToken_137 fl_90 sh22 rfl ?_
        refine mG_iconst C dX5_nextToken_140 ic1 ?_
        refine mG_iadd C dX5_nextToken_141 ?_
        refine mG_putI C dX5_nextToken_142 fp_90 sh22 rfl ?_
        refine mG_goto (tgt := 97) C dX5_nextToken_145 rfl ?_
        exact K

set_option maxRecDepth 20000 in
set_option maxHeartbeats 4000000 in
theorem vX5_numberOfToken_0 {X : mX} {E : mEnv} {Qm : Option Value → mW → Prop} (C : mCtx X E MX5_numberOfToken) (F : mFin X E MX5_numberOfToken Qm) {w : mW} 
    (K : (¬ (w.1 22 6) = (2 : Int32) →
    (Qm (some (.int (-1 : Int32))) w)) ∧ ((w.1 22 6) = (2 : Int32) →
    ((((w.1 22 5) - (w.1 22 4)) ≤ (2 : Int32) →
    (mG X E MX5_numberOfToken 30 [.ref 22, .int (0 : Int32), .int (w.1 22 4)] [] w)) ∧ (¬ ((w.1 22 5) - (w.1 22 4)) ≤ (2 : Int32) →
    (Qm (some (.int (-1 : Int32))) w))))) :
    mG X E MX5_numberOfToken 0 [.ref 22, .retAddr 0, .retAddr 0] [] w := by
  refine mG_aload_n C dX5_numberOfToken_0 rfl rfl ?_
  refine mG_getI C dX5_numberOfToken_1 fl_91 sh22 rfl ?_
  refine mG_iconst C dX5_numberOfToken_4 ic2 ?_
  refine mG_icmp_ne (tgt := 21) C dX5_numberOfToken_5 rfl (fun h => ?_) (fun h => ?_)
  · have K := K.1 h
    refine mG_iconst C dX5_numberOfToken_21 icm1 ?_
    exact mG_iret C F dX5_numberOfToken_22 rfl rfl K
  · have K := K.2 h
    refine mG_aload_n C dX5_numberOfToken_8 rfl rfl ?_
    refine mG_getI C dX5_numberOfToken_9 fl_90 sh22 rfl ?_
    refine mG_aload_n C dX5_numberOfToken_12 rfl rfl ?_
    refine mG_getI C dX5_numberOfToken_13 fl_89 sh22 rfl ?_
    refine mG_isub C dX5_numberOfToken_16 ?_
    refine mG_iconst C dX5_numberOfToken_17 ic2 ?_
    refine mG_icmp_le (tgt := 23) C dX5_numberOfToken_18 rfl (fun h => ?_) (fun h => ?_)
    · have K := K.1 h
      refine mG_iconst C dX5_numberOfToken_23 ic0 ?_
      refine mG_istore_n (lv' := [.ref 22, .int (0 : Int32), .retAddr 0]) C dX5_numberOfToken_24 rfl (by decide) rfl ?_
      refine mG_aload_n C dX5_numberOfToken_25 rfl rfl ?_
      refine mG_getI C dX5_numberOfToken_26 fl_89 sh22 rfl ?_
      refine mG_istore_n (lv' := [.ref 22, .int (0 : Int32), .int (w.1 22 4)]) C dX5_numberOfToken_29 rfl (by decide) rfl ?_
      exact K
    · have K := K.2 h
      refine mG_iconst C dX5_numberOfToken_21 icm1 ?_
      exact mG_iret C F dX5_numberOfToken_22 rfl rfl K

set_option maxRecDepth 20000 in
set_option maxHeartbeats 4000000 in
theorem vX5_numberOfToken_30 {X : mX} {E : mEnv} {Qm : Option Value → mW → Prop} (C : mCtx X E MX5_numberOfToken) (F : mFin X E MX5_numberOfToken Qm) {w : mW}  (x1 : Int32) (x2 : Int32)
    (K : ((w.1 22 5) ≤ x2 →
    (Qm (some (.int x1)) w)) ∧ (¬ (w.1 22 5) ≤ x2 →
    (vp_in x2 160 ∧
    (mG X E MX5_numberOfToken 30 [.ref 22, .int ((((10 : Int32) * x1) + (w.1 23 x2.toNatClampNeg)) - (48 : Int32)), .int (x2 + (1 : Int32))] [] w)))) :
    mG X E MX5_numberOfToken 30 [.ref 22, .int x1, .int x2] [] w := by
  refine mG_iload_n C dX5_numberOfToken_30 rfl rfl ?_
  refine mG_aload_n C dX5_numberOfToken_31 rfl rfl ?_
  refine mG_getI C dX5_numberOfToken_32 fl_90 sh22 rfl ?_
  refine mG_icmp_ge (tgt := 59) C dX5_numberOfToken_35 rfl (fun h => ?_) (fun h => ?_)
  · have K := K.1 h
    refine mG_iload_n C dX5_numberOfToken_59 rfl rfl ?_
    exact mG_iret C F dX5_numberOfToken_60 rfl rfl K
  · have K := K.2 h
    refine mG_bipush C dX5_numberOfToken_38 bp10 ?_
    refine mG_iload_n C dX5_numberOfToken_40 rfl rfl ?_
    refine mG_imul C dX5_numberOfToken_41 ?_
    refine mG_aload_n C dX5_numberOfToken_42 rfl rfl ?_
    refine mG_getR C dX5_numberOfToken_43 fl_82 sh22 rfl ?_
    refine mG_iload_n C dX5_numberOfToken_46 rfl rfl ?_
    obtain ⟨h1, K⟩ := K
    refine mG_iald C dX5_numberOfToken_47 sh23 h1 ?_
    refine mG_iadd C dX5_numberOfToken_48 ?_
    refine mG_bipush C dX5_numberOfToken_49 bp48 ?_
    refine mG_isub C dX5_numberOfToken_51 ?_
    refine mG_istore_n (lv' := [.ref 22, .int ((((10 : Int32) * x1) + (w.1 23 x2.toNatClampNeg)) - (48 : Int32)), .int x2]) C dX5_numberOfToken_52 rfl (by decide) rfl ?_
    refine mG_iincc (lv' := [.ref 22, .int ((((10 : Int32) * x1) + (w.1 23 x2.toNatClampNeg)) - (48 : Int32)), .int (x2 + (1 : Int32))]) C dX5_numberOfToken_53 rfl ic1 (by decide) rfl ?_
    refine mG_goto (tgt := 30) C dX5_numberOfToken_56 rfl ?_
    exact K

set_option maxRecDepth 20000 in
set_option maxHeartbeats 4000000 in
theorem vX5_numbersOf_0 {X : mX} {E : mEnv} {Qm : Option Value → mW → Prop} (C : mCtx X E MX5_numbersOf) (F : mFin X E MX5_numbersOf Qm) {w : mW}  (p0 : Int32)
    (K : (p0 = (0 : Int32) →
    (Qm (some (.ref 109)) w)) ∧ (¬ p0 = (0 : Int32) →
    ((p0 = (1 : Int32) →
    (Qm (some (.ref 110)) w)) ∧ (¬ p0 = (1 : Int32) →
    ((p0 = (2 : Int32) →
    (Qm (some (.ref 110)) w)) ∧ (¬ p0 = (2 : Int32) →
    ((p0 = (3 : Int32) →
    (Qm (some (.ref 112)) w)) ∧ (¬ p0 = (3 : Int32) →
    ((p0 = (4 : Int32) →
    (Qm (some (.ref 112)) w)) ∧ (¬ p0 = (4 : Int32) →
    ((p0 = (5 : Int32) →
    (Qm (some (.ref 111)) w)) ∧ (¬ p0 = (5 : Int32) →
    ((p0 = (6 : Int32) →
    (Qm (some (.ref 112)) w)) ∧ (¬ p0 = (6 : Int32) →
    ((p0 = (7 : Int32) →
    (Qm (some (.ref 112)) w)) ∧ (¬ p0 = (7 : Int32) →
    ((p0 = (8 : Int32) →
    (Qm (some (.ref 109)) w)) ∧ (¬ p0 = (8 : Int32) →
    (Qm (some (.ref 112)) w))))))))))))))))))) :
    mG X E MX5_numbersOf 0 [.int p0] [] w := by
  refine mG_iload_n C dX5_numbersOf_0 rfl rfl ?_
  by_cases g0 : p0 = (0 : Int32)
  · have K := K.1 g0
    refine mG_tableEq (off := 51) (tgt := 52) C dX5_numbersOf_1 g0 (by decide) (by decide) rfl rfl ?_
    refine mG_ldcS (k := 9) C dX5_numbersOf_52 (by decide) rfl rfl ?_
    exact mG_aret C F dX5_numbersOf_54 rfl K
  · have K := K.2 g0
    by_cases g1 : p0 = (1 : Int32)
    · have K := K.1 g1
      refine mG_tableEq (off := 54) (tgt := 55) C dX5_numbersOf_1 g1 (by decide) (by decide) rfl rfl ?_
      refine mG_ldcS (k := 10) C dX5_numbersOf_55 (by decide) rfl rfl ?_
      exact mG_aret C F dX5_numbersOf_57 rfl K
    · have K := K.2 g1
      by_cases g2 : p0 = (2 : Int32)
      · have K := K.1 g2
        refine mG_tableEq (off := 54) (tgt := 55) C dX5_numbersOf_1 g2 (by decide) (by decide) rfl rfl ?_
        refine mG_ldcS (k := 10) C dX5_numbersOf_55 (by decide) rfl rfl ?_
        exact mG_aret C F dX5_numbersOf_57 rfl K
      · have K := K.2 g2
        by_cases g3 : p0 = (3 : Int32)
        · have K := K.1 g3
          refine mG_tableEq (off := 60) (tgt := 61) C dX5_numbersOf_1 g3 (by decide) (by decide) rfl rfl ?_
          refine mG_ldcS (k := 12) C dX5_numbersOf_61 (by decide) rfl rfl ?_
          exact mG_aret C F dX5_numbersOf_63 rfl K
        · have K := K.2 g3
          by_cases g4 : p0 = (4 : Int32)
          · have K := K.1 g4
            refine mG_tableEq (off := 60) (tgt := 61) C dX5_numbersOf_1 g4 (by decide) (by decide) rfl rfl ?_
            refine mG_ldcS (k := 12) C dX5_numbersOf_61 (by decide) rfl rfl ?_
            exact mG_aret C F dX5_numbersOf_63 rfl K
          · have K := K.2 g4
            by_cases g5 : p0 = (5 : Int32)
            · have K := K.1 g5
              refine mG_tableEq (off := 57) (tgt := 58) C dX5_numbersOf_1 g5 (by decide) (by decide) rfl rfl ?_
              refine mG_ldcS (k := 11) C dX5_numbersOf_58 (by decide) rfl rfl ?_
              exact mG_aret C F dX5_numbersOf_60 rfl K
            · have K := K.2 g5
              by_cases g6 : p0 = (6 : Int32)
              · have K := K.1 g6
                refine mG_tableEq (off := 60) (tgt := 61) C dX5_numbersOf_1 g6 (by decide) (by decide) rfl rfl ?_
                refine mG_ldcS (k := 12) C dX5_numbersOf_61 (by decide) rfl rfl ?_
                exact mG_aret C F dX5_numbersOf_63 rfl K
              · have K := K.2 g6
                by_cases g7 : p0 = (7 : Int32)
                · have K := K.1 g7
                  refine mG_tableEq (off := 60) (tgt := 61) C dX5_numbersOf_1 g7 (by decide) (by decide) rfl rfl ?_
                  refine mG_ldcS (k := 12) C dX5_numbersOf_61 (by decide) rfl rfl ?_
                  exact mG_aret C F dX5_numbersOf_63 rfl K
                · have K := K.2 g7
                  by_cases g8 : p0 = (8 : Int32)
                  · have K := K.1 g8
                    refine mG_tableEq (off := 51) (tgt := 52) C dX5_numbersOf_1 g8 (by decide) (by decide) rfl rfl ?_
                    refine mG_ldcS (k := 9) C dX5_numbersOf_52 (by decide) rfl rfl ?_
                    exact mG_aret C F dX5_numbersOf_54 rfl K
                  · have K := K.2 g8
                    have e0 := lv_neT g0 (show (0 : Int32).toInt = 0 by decide)
                    have e1 := lv_neT g1 (show (1 : Int32).toInt = 1 by decide)
                    have e2 := lv_neT g2 (show (2 : Int32).toInt = 2 by decide)
                    have e3 := lv_neT g3 (show (3 : Int32).toInt = 3 by decide)
                    have e4 := lv_neT g4 (show (4 : Int32).toInt = 4 by decide)
                    have e5 := lv_neT g5 (show (5 : Int32).toInt = 5 by decide)
                    have e6 := lv_neT g6 (show (6 : Int32).toInt = 6 by decide)
                    have e7 := lv_neT g7 (show (7 : Int32).toInt = 7 by decide)
                    have e8 := lv_neT g8 (show (8 : Int32).toInt = 8 by decide)
                    refine mG_tableOut (tgt := 61) C dX5_numbersOf_1 (by omega) rfl ?_
                    refine mG_ldcS (k := 12) C dX5_numbersOf_61 (by decide) rfl rfl ?_
                    exact mG_aret C F dX5_numbersOf_63 rfl K

set_option maxRecDepth 20000 in
set_option maxHeartbeats 4000000 in
theorem vX5_readClause_0 {X : mX} {E : mEnv} {Qm : Option Value → mW → Prop} (C : mCtx X E MX5_readClause) (F : mFin X E MX5_readClause Qm) {w : mW} {a0 : Nat} (ha0 : mSh[a0]? = some (.inl (0, 6, [])))
    (K : mMi E MX5_wordOfToken [.ref 22] w (fun v1 u1 =>
    ((v1 = (-1 : Int32) →
    (Qm (some (.int (0 : Int32))) u1)) ∧ (¬ v1 = (-1 : Int32) →
    (mMi E MX5_hasRoomFor [.ref 22, .int v1] u1 (fun v2 u2 =>
    ((¬ v2 = 0 →
    (∀ w1 : mW, w1 = (mPI u2 a0 0 v1) →
    (mMr E MX5_numbersOf [.int v1] w1 (fun v3 u3 =>
    (mG X E MX5_readClause 32 [.ref 22, .ref a0, .int v1, .ref v3, .int (0 : Int32), .retAddr 0] [] u3))))) ∧ (v2 = 0 →
    (Qm (some (.int (0 : Int32))) u2))))))))) :
    mG X E MX5_readClause 0 [.ref 22, .ref a0, .retAddr 0, .retAddr 0, .retAddr 0, .retAddr 0] [] w := by
  refine mG_aload_n C dX5_readClause_0 rfl rfl ?_
  refine mG_Vi (Z := MX5_wordOfToken) (as := []) (rest := []) C dX5_readClause_1 lk_335 zX5_wordOfToken ⟨Nat.le_of_ble_eq_true rfl, Nat.le_of_ble_eq_true rfl⟩ sh22 rfl rfl (Nat.le_of_ble_eq_true rfl) rfl K (fun v1 u1 K => ?_)
  refine mG_istore_n (lv' := [.ref 22, .ref a0, .int v1, .retAddr 0, .retAddr 0, .retAddr 0]) C dX5_readClause_4 rfl (by decide) rfl ?_
  refine mG_iload_n C dX5_readClause_5 rfl rfl ?_
  refine mG_iconst C dX5_readClause_6 icm1 ?_
  refine mG_icmp_eq (tgt := 18) C dX5_readClause_7 rfl (fun h => ?_) (fun h => ?_)
  · have K := K.1 h
    refine mG_iconst C dX5_readClause_18 ic0 ?_
    exact mG_iret C F dX5_readClause_19 rfl (by decide) K
  · have K := K.2 h
    refine mG_aload_n C dX5_readClause_10 rfl rfl ?_
    refine mG_iload_n C dX5_readClause_11 rfl rfl ?_
    refine mG_Vi (Z := MX5_hasRoomFor) (as := [.int v1]) (rest := []) C dX5_readClause_12 lk_403 zX5_hasRoomFor ⟨Nat.le_of_ble_eq_true rfl, Nat.le_of_ble_eq_true rfl⟩ sh22 rfl rfl (Nat.le_of_ble_eq_true rfl) rfl K (fun v2 u2 K => ?_)
    refine mG_if_ne (tgt := 20) C dX5_readClause_15 rfl (fun h => ?_) (fun h => ?_)
    · have K := K.1 h
      refine mG_aload_n C dX5_readClause_20 rfl rfl ?_
      refine mG_iconst C dX5_readClause_21 ic0 ?_
      refine mG_iload_n C dX5_readClause_22 rfl rfl ?_
      refine mG_iastv C dX5_readClause_23 ha0 (by unfold vp_in; decide) (k := 0) rfl ?_
      refine mG_nm (fun w1 ew1 => ?_)
      have K := K w1 ew1
      refine mG_iload_n C dX5_readClause_24 rfl rfl ?_
      refine mG_Sr (Z := MX5_numbersOf) (as := [.int v1]) (rest := []) C dX5_readClause_25 lk_410 zX5_numbersOf ⟨Nat.le_of_ble_eq_true rfl, Nat.le_of_ble_eq_true rfl⟩ rfl (Nat.le_of_ble_eq_true rfl) rfl K (fun v3 u3 K => ?_)
      refine mG_astore_n (lv' := [.ref 22, .ref a0, .int v1, .ref v3, .retAddr 0, .retAddr 0]) C dX5_readClause_28 rfl (by decide) rfl ?_
      refine mG_iconst C dX5_readClause_29 ic0 ?_
      refine mG_istore (lv' := [.ref 22, .ref a0, .int v1, .ref v3, .int (0 : Int32), .retAddr 0]) C dX5_readClause_30 (by decide) rfl ?_
      exact K
    · have K := K.2 h
      refine mG_iconst C dX5_readClause_18 ic0 ?_
      exact mG_iret C F dX5_readClause_19 rfl (by decide) K

set_option maxRecDepth 20000 in
set_option maxHeartbeats 4000000 in
theorem vX5_readClause_32 {X : mX} {E : mEnv} {Qm : Option Value → mW → Prop} (C : mCtx X E MX5_readClause) (F : mFin X E MX5_readClause Qm) {w : mW} {a0 : Nat} (ha0 : mSh[a0]? = some (.inl (0, 6, []))) (x2 : Int32) (x3 : Nat) (x4 : Int32)
    (K : (∃ k : Nat, k < 13 ∧ x3 = 100 + k) ∧
    (mMi E MJ0_length_8abf5 [.ref x3] w (fun v1 u1 =>
    ((v1 ≤ x4 →
    (mMv E MX5_countIn [.ref 22, .int x2] u1 (fun u2 =>
    (Qm (some (.int (1 : Int32))) u2)))) ∧ (¬ v1 ≤ x4 →
    (((6 : Int32) ≤ (x4 + (1 : Int32)) →
    (mMv E MX5_countIn [.ref 22, .int x2] u1 (fun u3 =>
    (Qm (some (.int (1 : Int32))) u3)))) ∧ (¬ (6 : Int32) ≤ (x4 + (1 : Int32)) →
    (mMv E MX5_nextToken [.ref 22] u1 (fun u4 =>
    (mMi E MX5_numberOfToken [.ref 22] u4 (fun v2 u5 =>
    ((v2 = (-1 : Int32) →
    (Qm (some (.int (0 : Int32))) u5)) ∧ (¬ v2 = (-1 : Int32) →
    ((∃ k : Nat, k < 13 ∧ x3 = 100 + k) ∧
    (mMi E MJ0_charAt_5068e [.ref x3, .int x4] u5 (fun v3 u6 =>
    (mMi E MX5_mostOf [.ref 22, .int v3] u6 (fun v4 u7 =>
    ((v2 ≤ v4 →
    (vp_in (x4 + (1 : Int32)) 6 ∧
    (∀ w1 : mW, w1 = (mPI u7 a0 (x4 + (1 : Int32)).toNatClampNeg v2) →
    (mG X E MX5_readClause 32 [.ref 22, .ref a0, .int x2, .ref x3, .int (x4 + (1 : Int32)), .retAddr 0] [] w1)))) ∧ (¬ v2 ≤ v4 →
    (Qm (some (.int (0 : Int32))) u7))))))))))))))))))))) :
    mG X E MX5_readClause 32 [.ref 22, .ref a0, .int x2, .ref x3, .int x4, .retAddr 0] [] w := by
  refine mG_iload C dX5_readClause_32 rfl ?_
  refine mG_aload_n C dX5_readClause_34 rfl rfl ?_
  obtain ⟨h8, K⟩ := K
  refine mG_Ti (Z := MJ0_length_8abf5) (as := []) (rest := [.int x4]) C dX5_readClause_35 lk_355 zJ0_length_8abf5 ⟨Nat.le_of_ble_eq_true rfl, Nat.le_of_ble_eq_true rfl⟩ h8 rfl rfl (Nat.le_of_ble_eq_true rfl) rfl K (fun v1 u1 K => ?_)
  refine mG_icmp_ge (tgt := 97) C dX5_readClause_38 rfl (fun h => ?_) (fun h => ?_)
  · have K := K.1 h
    refine mG_aload_n C dX5_readClause_97 rfl rfl ?_
    refine mG_iload_n C dX5_readClause_98 rfl rfl ?_
    refine mG_Vv (Z := MX5_countIn) (as := [.int x2]) (rest := []) C dX5_readClause_99 lk_425 zX5_countIn ⟨Nat.le_of_ble_eq_true rfl, Nat.le_of_ble_eq_true rfl⟩ sh22 rfl rfl (Nat.le_of_ble_eq_true rfl) rfl K (fun u2 K => ?_)
    refine mG_iconst C dX5_readClause_102 ic1 ?_
    exact mG_iret C F dX5_readClause_103 rfl (by decide) K
  · have K := K.2 h
    refine mG_iload C dX5_readClause_41 rfl ?_
    refine mG_iconst C dX5_readClause_43 ic1 ?_
    refine mG_iadd C dX5_readClause_44 ?_
    refine mG_aload_n C dX5_readClause_45 rfl rfl ?_
    refine mG_alen (v := 6) C dX5_readClause_46 ha0 (by decide) ?_
    refine mG_icmp_ge (tgt := 97) C dX5_readClause_47 rfl (fun h => ?_) (fun h => ?_)
    · have K := K.1 h
      refine mG_aload_n C dX5_readClause_97 rfl rfl ?_
      refine mG_iload_n C dX5_readClause_98 rfl rfl ?_
      refine mG_Vv (Z := MX5_countIn) (as := [.int x2]) (rest := []) C dX5_readClause_99 lk_425 zX5_countIn ⟨Nat.le_of_ble_eq_true rfl, Nat.le_of_ble_eq_true rfl⟩ sh22 rfl rfl (Nat.le_of_ble_eq_true rfl) rfl K (fun u3 K => ?_)
      refine mG_iconst C dX5_readClause_102 ic1 ?_
      exact mG_iret C F dX5_readClause_103 rfl (by decide) K
    · have K := K.2 h
      refine mG_aload_n C dX5_readClause_50 rfl rfl ?_
      refine mG_Vv (Z := MX5_nextToken) (as := []) (rest := []) C dX5_readClause_51 lk_324 zX5_nextToken ⟨Nat.le_of_ble_eq_true rfl, Nat.le_of_ble_eq_true rfl⟩ sh22 rfl rfl (Nat.le_of_ble_eq_true rfl) rfl K (fun u4 K => ?_)
      refine mG_aload_n C dX5_readClause_54 rfl rfl ?_
      refine mG_Vi (Z := MX5_numberOfToken) (as := []) (rest := []) C dX5_readClause_55 lk_417 zX5_numberOfToken ⟨Nat.le_of_ble_eq_true rfl, Nat.le_of_ble_eq_true rfl⟩ sh22 rfl rfl (Nat.le_of_ble_eq_true rfl) rfl K (fun v2 u5 K => ?_)
      refine mG_istore (lv' := [.ref 22, .ref a0, .int x2, .ref x3, .int x4, .int v2]) C dX5_readClause_58 (by decide) rfl ?_
      refine mG_iload C dX5_readClause_60 rfl ?_
      refine mG_iconst C dX5_readClause_62 icm1 ?_
      refine mG_icmp_eq (tgt := 81) C dX5_readClause_63 rfl (fun h => ?_) (fun h => ?_)
      · have K := K.1 h
        refine mG_iconst C dX5_readClause_81 ic0 ?_
        exact mG_iret C F dX5_readClause_82 rfl (by decide) K
      · have K := K.2 h
        refine mG_iload C dX5_readClause_66 rfl ?_
        refine mG_aload_n C dX5_readClause_68 rfl rfl ?_
        refine mG_aload_n C dX5_readClause_69 rfl rfl ?_
        refine mG_iload C dX5_readClause_70 rfl ?_
        obtain ⟨h8, K⟩ := K
        refine mG_Ti (Z := MJ0_charAt_5068e) (as := [.int x4]) (rest := [.ref 22, .int v2]) C dX5_readClause_72 lk_365 zJ0_charAt_5068e ⟨Nat.le_of_ble_eq_true rfl, Nat.le_of_ble_eq_true rfl⟩ h8 rfl rfl (Nat.le_of_ble_eq_true rfl) rfl K (fun v3 u6 K => ?_)
        refine mG_Vi (Z := MX5_mostOf) (as := [.int v3]) (rest := [.int v2]) C dX5_readClause_75 lk_421 zX5_mostOf ⟨Nat.le_of_ble_eq_true rfl, Nat.le_of_ble_eq_true rfl⟩ sh22 rfl rfl (Nat.le_of_ble_eq_true rfl) rfl K (fun v4 u7 K => ?_)
        refine mG_icmp_le (tgt := 83) C dX5_readClause_78 rfl (fun h => ?_) (fun h => ?_)
        · have K := K.1 h
          refine mG_aload_n C dX5_readClause_83 rfl rfl ?_
          refine mG_iload C dX5_readClause_84 rfl ?_
          refine mG_iconst C dX5_readClause_86 ic1 ?_
          refine mG_iadd C dX5_readClause_87 ?_
          refine mG_iload C dX5_readClause_88 rfl ?_
          obtain ⟨h1, K⟩ := K
          refine mG_iast C dX5_readClause_90 ha0 h1 ?_
          refine mG_nm (fun w1 ew1 => ?_)
          have K := K w1 ew1
          refine mG_iincc (lv' := [.ref 22, .ref a0, .int x2, .ref x3, .int (x4 + (1 : Int32)), .int v2]) C dX5_readClause_91 rfl ic1 (by decide) rfl ?_
          refine mG_goto (tgt := 32) C dX5_readClause_94 rfl ?_
          exact mG_holes [5] rfl K
        · have K := K.2 h
          refine mG_iconst C dX5_readClause_81 ic0 ?_
          exact mG_iret C F dX5_readClause_82 rfl (by decide) K

set_option maxRecDepth 20000 in
set_option maxHeartbeats 4000000 in
theorem vX5_sortOf_0 {X : mX} {E : mEnv} {Qm : Option Value → mW → Prop} (C : mCtx X E MX5_sortOf) (F : mFin X E MX5_sortOf Qm) {w : mW}  (p0 : Int32)
    (K : (p0 < (97 : Int32) →
    ((p0 < (48 : Int32) →
    (Qm (some (.int (3 : Int32))) w)) ∧ (¬ p0 < (48 : Int32) →
    (((57 : Int32) < p0 →
    (Qm (some (.int (3 : Int32))) w)) ∧ (¬ (57 : Int32) < p0 →
    (Qm (some (.int (2 : Int32))) w)))))) ∧ (¬ p0 < (97 : Int32) →
    (((122 : Int32) < p0 →
    ((p0 < (48 : Int32) →
    (Qm (some (.int (3 : Int32))) w)) ∧ (¬ p0 < (48 : Int32) →
    (((57 : Int32) < p0 →
    (Qm (some (.int (3 : Int32))) w)) ∧ (¬ (57 : Int32) < p0 →
    (Qm (some (.int (2 : Int32))) w)))))) ∧ (¬ (122 : Int32) < p0 →
    (Qm (some (.int (1 : Int32))) w))))) :
    mG X E MX5_sortOf 0 [.int p0] [] w := by
  refine mG_iload_n C dX5_sortOf_0 rfl rfl ?_
  refine mG_bipush C dX5_sortOf_1 bp97 ?_
  refine mG_icmp_lt (tgt := 14) C dX5_sortOf_3 rfl (fun h => ?_) (fun h => ?_)
  · have K := K.1 h
    refine mG_iload_n C dX5_sortOf_14 rfl rfl ?_
    refine mG_bipush C dX5_sortOf_15 bp48 ?_
    refine mG_icmp_lt (tgt := 30) C dX5_sortOf_17 rfl (fun h => ?_) (fun h => ?_)
    · have K := K.1 h
      refine mG_iconst C dX5_sortOf_30 ic3 ?_
      exact mG_iret C F dX5_sortOf_31 rfl rfl K
    · have K := K.2 h
      refine mG_iload_n C dX5_sortOf_20 rfl rfl ?_
      refine mG_bipush C dX5_sortOf_21 bp57 ?_
      refine mG_icmp_gt (tgt := 30) C dX5_sortOf_23 rfl (fun h => ?_) (fun h => ?_)
      · have K := K.1 h
        refine mG_iconst C dX5_sortOf_30 ic3 ?_
        exact mG_iret C F dX5_sortOf_31 rfl rfl K
      · have K := K.2 h
        refine mG_iconst C dX5_sortOf_26 ic2 ?_
        refine mG_goto (tgt := 31) C dX5_sortOf_27 rfl ?_
        exact mG_iret C F dX5_sortOf_31 rfl rfl K
  · have K := K.2 h
    refine mG_iload_n C dX5_sortOf_6 rfl rfl ?_
    refine mG_bipush C dX5_sortOf_7 bp122 ?_
    refine mG_icmp_gt (tgt := 14) C dX5_sortOf_9 rfl (fun h => ?_) (fun h => ?_)
    · have K := K.1 h
      refine mG_iload_n C dX5_sortOf_14 rfl rfl ?_
      refine mG_bipush C dX5_sortOf_15 bp48 ?_
      refine mG_icmp_lt (tgt := 30) C dX5_sortOf_17 rfl (fun h => ?_) (fun h => ?_)
      · have K := K.1 h
        refine mG_iconst C dX5_sortOf_30 ic3 ?_
        exact mG_iret C F dX5_sortOf_31 rfl rfl K
      · have K := K.2 h
        refine mG_iload_n C dX5_sortOf_20 rfl rfl ?_
        refine mG_bipush C dX5_sortOf_21 bp57 ?_
        refine mG_icmp_gt (tgt := 30) C dX5_sortOf_23 rfl (fun h => ?_) (fun h => ?_)
        · have K := K.1 h
          refine mG_iconst C dX5_sortOf_30 ic3 ?_
          exact mG_iret C F dX5_sortOf_31 rfl rfl K
        · have K := K.2 h
          refine mG_iconst C dX5_sortOf_26 ic2 ?_
          refine mG_goto (tgt := 31) C dX5_sortOf_27 rfl ?_
          exact mG_iret C F dX5_sortOf_31 rfl rfl K
    · have K := K.2 h
      refine mG_iconst C dX5_sortOf_12 ic1 ?_
      exact mG_iret C F dX5_sortOf_13 rfl rfl K

set_option maxRecDepth 20000 in
set_option maxHeartbeats 4000000 in
theorem vX5_textOf_0 {X : mX} {E : mEnv} {Qm : Option Value → mW → Prop} (C : mCtx X E MX5_textOf) (F : mFin X E MX5_textOf Qm) {w : mW}  (p0 : Int32)
    (K : (p0 = (0 : Int32) →
    (Qm (some (.ref 100)) w)) ∧ (¬ p0 = (0 : Int32) →
    ((p0 = (1 : Int32) →
    (Qm (some (.ref 101)) w)) ∧ (¬ p0 = (1 : Int32) →
    ((p0 = (2 : Int32) →
    (Qm (some (.ref 102)) w)) ∧ (¬ p0 = (2 : Int32) →
    ((p0 = (3 : Int32) →
    (Qm (some (.ref 103)) w)) ∧ (¬ p0 = (3 : Int32) →
    ((p0 = (4 : Int32) →
    (Qm (some (.ref 104)) w)) ∧ (¬ p0 = (4 : Int32) →
    ((p0 = (5 : Int32) →
    (Qm (some (.ref 105)) w)) ∧ (¬ p0 = (5 : Int32) →
    ((p0 = (6 : Int32) →
    (Qm (some (.ref 106)) w)) ∧ (¬ p0 = (6 : Int32) →
    ((p0 = (7 : Int32) →
    (Qm (some (.ref 107)) w)) ∧ (¬ p0 = (7 : Int32) →
    (Qm (some (.ref 108)) w))))))))))))))))) :
    mG X E MX5_textOf 0 [.int p0] [] w := by
  refine mG_iload_n C dX5_textOf_0 rfl rfl ?_
  by_cases g0 : p0 = (0 : Int32)
  · have K := K.1 g0
    refine mG_tableEq (off := 47) (tgt := 48) C dX5_textOf_1 g0 (by decide) (by decide) rfl rfl ?_
    refine mG_ldcS (k := 0) C dX5_textOf_48 (by decide) rfl rfl ?_
    exact mG_aret C F dX5_textOf_50 rfl K
  · have K := K.2 g0
    by_cases g1 : p0 = (1 : Int32)
    · have K := K.1 g1
      refine mG_tableEq (off := 50) (tgt := 51) C dX5_textOf_1 g1 (by decide) (by decide) rfl rfl ?_
      refine mG_ldcS (k := 1) C dX5_textOf_51 (by decide) rfl rfl ?_
      exact mG_aret C F dX5_textOf_53 rfl K
    · have K := K.2 g1
      by_cases g2 : p0 = (2 : Int32)
      · have K := K.1 g2
        refine mG_tableEq (off := 53) (tgt := 54) C dX5_textOf_1 g2 (by decide) (by decide) rfl rfl ?_
        refine mG_ldcS (k := 2) C dX5_textOf_54 (by decide) rfl rfl ?_
        exact mG_aret C F dX5_textOf_56 rfl K
      · have K := K.2 g2
        by_cases g3 : p0 = (3 : Int32)
        · have K := K.1 g3
          refine mG_tableEq (off := 56) (tgt := 57) C dX5_textOf_1 g3 (by decide) (by decide) rfl rfl ?_
          refine mG_ldcS (k := 3) C dX5_textOf_57 (by decide) rfl rfl ?_
          exact mG_aret C F dX5_textOf_59 rfl K
        · have K := K.2 g3
          by_cases g4 : p0 = (4 : Int32)
          · have K := K.1 g4
            refine mG_tableEq (off := 59) (tgt := 60) C dX5_textOf_1 g4 (by decide) (by decide) rfl rfl ?_
            refine mG_ldcS (k := 4) C dX5_textOf_60 (by decide) rfl rfl ?_
            exact mG_aret C F dX5_textOf_62 rfl K
          · have K := K.2 g4
            by_cases g5 : p0 = (5 : Int32)
            · have K := K.1 g5
              refine mG_tableEq (off := 62) (tgt := 63) C dX5_textOf_1 g5 (by decide) (by decide) rfl rfl ?_
              refine mG_ldcS (k := 5) C dX5_textOf_63 (by decide) rfl rfl ?_
              exact mG_aret C F dX5_textOf_65 rfl K
            · have K := K.2 g5
              by_cases g6 : p0 = (6 : Int32)
              · have K := K.1 g6
                refine mG_tableEq (off := 65) (tgt := 66) C dX5_textOf_1 g6 (by decide) (by decide) rfl rfl ?_
                refine mG_ldcS (k := 6) C dX5_textOf_66 (by decide) rfl rfl ?_
                exact mG_aret C F dX5_textOf_68 rfl K
              · have K := K.2 g6
                by_cases g7 : p0 = (7 : Int32)
                · have K := K.1 g7
                  refine mG_tableEq (off := 68) (tgt := 69) C dX5_textOf_1 g7 (by decide) (by decide) rfl rfl ?_
                  refine mG_ldcS (k := 7) C dX5_textOf_69 (by decide) rfl rfl ?_
                  exact mG_aret C F dX5_textOf_71 rfl K
                · have K := K.2 g7
                  have e0 := lv_neT g0 (show (0 : Int32).toInt = 0 by decide)
                  have e1 := lv_neT g1 (show (1 : Int32).toInt = 1 by decide)
                  have e2 := lv_neT g2 (show (2 : Int32).toInt = 2 by decide)
                  have e3 := lv_neT g3 (show (3 : Int32).toInt = 3 by decide)
                  have e4 := lv_neT g4 (show (4 : Int32).toInt = 4 by decide)
                  have e5 := lv_neT g5 (show (5 : Int32).toInt = 5 by decide)
                  have e6 := lv_neT g6 (show (6 : Int32).toInt = 6 by decide)
                  have e7 := lv_neT g7 (show (7 : Int32).toInt = 7 by decide)
                  refine mG_tableOut (tgt := 72) C dX5_textOf_1 (by omega) rfl ?_
                  refine mG_ldcS (k := 8) C dX5_textOf_72 (by decide) rfl rfl ?_
                  exact mG_aret C F dX5_textOf_74 rfl K

set_option maxRecDepth 20000 in
set_option maxHeartbeats 4000000 in
theorem vX5_wordOfToken_0 {X : mX} {E : mEnv} {Qm : Option Value → mW → Prop} (C : mCtx X E MX5_wordOfToken) (F : mFin X E MX5_wordOfToken Qm) {w : mW} 
    (K : ((w.1 22 6) = (1 : Int32) →
    (mG X E MX5_wordOfToken 12 [.ref 22, .int (0 : Int32)] [] w)) ∧ (¬ (w.1 22 6) = (1 : Int32) →
    (Qm (some (.int (-1 : Int32))) w))) :
    mG X E MX5_wordOfToken 0 [.ref 22, .retAddr 0] [] w := by
  refine mG_aload_n C dX5_wordOfToken_0 rfl rfl ?_
  refine mG_getI C dX5_wordOfToken_1 fl_91 sh22 rfl ?_
  refine mG_iconst C dX5_wordOfToken_4 ic1 ?_
  refine mG_icmp_eq (tgt := 10) C dX5_wordOfToken_5 rfl (fun h => ?_) (fun h => ?_)
  · have K := K.1 h
    refine mG_iconst C dX5_wordOfToken_10 ic0 ?_
    refine mG_istore_n (lv' := [.ref 22, .int (0 : Int32)]) C dX5_wordOfToken_11 rfl (by decide) rfl ?_
    exact K
  · have K := K.2 h
    refine mG_iconst C dX5_wordOfToken_8 icm1 ?_
    exact mG_iret C F dX5_wordOfToken_9 rfl rfl K

set_option maxRecDepth 20000 in
set_option maxHeartbeats 4000000 in
theorem vX5_wordOfToken_12 {X : mX} {E : mEnv} {Qm : Option Value → mW → Prop} (C : mCtx X E MX5_wordOfToken) (F : mFin X E MX5_wordOfToken Qm) {w : mW}  (x1 : Int32)
    (K : ((9 : Int32) ≤ x1 →
    (Qm (some (.int (-1 : Int32))) w)) ∧ (¬ (9 : Int32) ≤ x1 →
    (mMr E MX5_textOf [.int x1] w (fun v1 u1 =>
    (mMi E MX5_isToken [.ref 22, .ref v1] u1 (fun v2 u2 =>
    ((v2 = 0 →
    (mG X E MX5_wordOfToken 12 [.ref 22, .int (x1 + (1 : Int32))] [] u2)) ∧ (¬ v2 = 0 →
    (Qm (some (.int x1)) u2))))))))) :
    mG X E MX5_wordOfToken 12 [.ref 22, .int x1] [] w := by
  refine mG_iload_n C dX5_wordOfToken_12 rfl rfl ?_
  refine mG_bipush C dX5_wordOfToken_13 bp9 ?_
  refine mG_icmp_ge (tgt := 37) C dX5_wordOfToken_15 rfl (fun h => ?_) (fun h => ?_)
  · have K := K.1 h
    refine mG_iconst C dX5_wordOfToken_37 icm1 ?_
    exact mG_iret C F dX5_wordOfToken_38 rfl rfl K
  · have K := K.2 h
    refine mG_aload_n C dX5_wordOfToken_18 rfl rfl ?_
    refine mG_iload_n C dX5_wordOfToken_19 rfl rfl ?_
    refine mG_Sr (Z := MX5_textOf) (as := [.int x1]) (rest := [.ref 22]) C dX5_wordOfToken_20 lk_339 zX5_textOf ⟨Nat.le_of_ble_eq_true rfl, Nat.le_of_ble_eq_true rfl⟩ rfl (Nat.le_of_ble_eq_true rfl) rfl K (fun v1 u1 K => ?_)
    refine mG_Vi (Z := MX5_isToken) (as := [.ref v1]) (rest := []) C dX5_wordOfToken_23 lk_351 zX5_isToken ⟨Nat.le_of_ble_eq_true rfl, Nat.le_of_ble_eq_true rfl⟩ sh22 rfl rfl (Nat.le_of_ble_eq_true rfl) rfl K (fun v2 u2 K => ?_)
    refine mG_if_eq (tgt := 31) C dX5_wordOfToken_26 rfl (fun h => ?_) (fun h => ?_)
    · have K := K.1 h
      refine mG_iincc (lv' := [.ref 22, .int (x1 + (1 : Int32))]) C dX5_wordOfToken_31 rfl ic1 (by decide) rfl ?_
      refine mG_goto (tgt := 12) C dX5_wordOfToken_34 rfl ?_
      exact K
    · have K := K.2 h
      refine mG_iload_n C dX5_wordOfToken_29 rfl rfl ?_
      exact mG_iret C F dX5_wordOfToken_30 rfl rfl K
