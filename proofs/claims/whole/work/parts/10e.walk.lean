/-! ===== CONDITIONS OF THE WALK, method by method, from cut to cut ===== -/
set_option maxRecDepth 20000 in
set_option maxHeartbeats 4000000 in
theorem vX8_as_0 {X : mX} {E : mEnv} {Qm : Option Value → mW → Prop} (C : mCtx X E MX8_as) (F : mFin X E MX8_as Qm) {w : mW}  (p0 : Int32) (p1 : Int32)
    (K : mMi E MX1_hasOne [.ref 1, .int p0] w (fun v1 u1 =>
    ((¬ v1 = 0 →
    ((p1 < 0 →
    (Qm (some (.int (-3 : Int32))) u1)) ∧ (¬ p1 < 0 →
    ((p1 < (5 : Int32) →
    (vp_in p0 5 ∧
    (mMi E MX8_isUnder [.ref 140, .int ((u1.1 (10 + p0.toNatClampNeg) 0) + (1 : Int32)), .int p1] u1 (fun v2 u2 =>
    ((¬ v2 = 0 →
    (mMi E MX1_believesHer [.ref 1, .int p0] u2 (fun v3 u3 =>
    ((v3 = 0 →
    (Qm (some (.int (0 : Int32))) u3)) ∧ (¬ v3 = 0 →
    (Qm (some (.int (1 : Int32))) u3)))))) ∧ (v2 = 0 →
    (Qm (some (.int (-4 : Int32))) u2))))))) ∧ (¬ p1 < (5 : Int32) →
    (Qm (some (.int (-3 : Int32))) u1)))))) ∧ (v1 = 0 →
    (Qm (some (.int (-2 : Int32))) u1))))) :
    mG X E MX8_as 0 [.ref 0, .int p0, .int p1] [] w := by
  refine mG_aload_n C dX8_as_0 rfl rfl ?_
  refine mG_getR C dX8_as_1 fl_285 sh0 rfl ?_
  refine mG_iload_n C dX8_as_4 rfl rfl ?_
  refine mG_Vi (Z := MX1_hasOne) (as := [.int p0]) (rest := []) C dX8_as_5 lk_474 zX1_hasOne ⟨Nat.le_of_ble_eq_true rfl, Nat.le_of_ble_eq_true rfl⟩ sh1 rfl rfl (Nat.le_of_ble_eq_true rfl) rfl K (fun v1 u1 K => ?_)
  refine mG_if_ne (tgt := 14) C dX8_as_8 rfl (fun h => ?_) (fun h => ?_)
  · have K := K.1 h
    refine mG_iload_n C dX8_as_14 rfl rfl ?_
    refine mG_if_lt (tgt := 26) C dX8_as_15 rfl (fun h => ?_) (fun h => ?_)
    · have K := K.1 h
      refine mG_bipush C dX8_as_26 bpm3 ?_
      exact mG_iret C F dX8_as_28 rfl rfl K
    · have K := K.2 h
      refine mG_iload_n C dX8_as_18 rfl rfl ?_
      refine mG_gets (v := .ref 140) C dX8_as_19 gs_496 ro140 ?_
      refine mG_tlen C dX8_as_22 rt140 rfl ?_
      refine mG_icmp_lt (tgt := 29) C dX8_as_23 rfl (fun h => ?_) (fun h => ?_)
      · have K := K.1 h
        refine mG_gets (v := .ref 140) C dX8_as_29 gs_496 ro140 ?_
        refine mG_aload_n C dX8_as_32 rfl rfl ?_
        refine mG_getR C dX8_as_33 fl_285 sh0 rfl ?_
        refine mG_getR C dX8_as_36 fl_54 sh1 rfl ?_
        refine mG_iload_n C dX8_as_39 rfl rfl ?_
        obtain ⟨h1, K⟩ := K
        refine mG_aald (b := 10) C dX8_as_40 sh9 h1 rs10 ?_
        refine mG_iconst C dX8_as_41 ic0 ?_
        refine mG_ialdv C dX8_as_42 (shr10 h1) (by unfold vp_in; decide) (by first | rfl | simp [mPI, mPL]) ?_
        refine mG_iconst C dX8_as_43 ic1 ?_
        refine mG_iadd C dX8_as_44 ?_
        refine mG_iload_n C dX8_as_45 rfl rfl ?_
        refine mG_Si (Z := MX8_isUnder) (as := [.ref 140, .int ((u1.1 (10 + p0.toNatClampNeg) 0) + (1 : Int32)), .int p1]) (rest := []) C dX8_as_46 lk_498 zX8_isUnder ⟨Nat.le_of_ble_eq_true rfl, Nat.le_of_ble_eq_true rfl⟩ rfl (Nat.le_of_ble_eq_true rfl) rfl K (fun v2 u2 K => ?_)
        refine mG_if_ne (tgt := 55) C dX8_as_49 rfl (fun h => ?_) (fun h => ?_)
        · have K := K.1 h
          refine mG_aload_n C dX8_as_55 rfl rfl ?_
          refine mG_getR C dX8_as_56 fl_285 sh0 rfl ?_
          refine mG_iload_n C dX8_as_59 rfl rfl ?_
          refine mG_Vi (Z := MX1_believesHer) (as := [.int p0]) (rest := []) C dX8_as_60 lk_501 zX1_believesHer ⟨Nat.le_of_ble_eq_true rfl, Nat.le_of_ble_eq_true rfl⟩ sh1 rfl rfl (Nat.le_of_ble_eq_true rfl) rfl K (fun v3 u3 K => ?_)
          refine mG_if_eq (tgt := 70) C dX8_as_63 rfl (fun h => ?_) (fun h => ?_)
          · have K := K.1 h
            refine mG_iconst C dX8_as_70 ic0 ?_
            exact mG_iret C F dX8_as_71 rfl rfl K
          · have K := K.2 h
            refine mG_iconst C dX8_as_66 ic1 ?_
            refine mG_goto (tgt := 71) C dX8_as_67 rfl ?_
            exact mG_iret C F dX8_as_71 rfl rfl K
        · have K := K.2 h
          refine mG_bipush C dX8_as_52 bpm4 ?_
          exact mG_iret C F dX8_as_54 rfl rfl K
      · have K := K.2 h
        refine mG_bipush C dX8_as_26 bpm3 ?_
        exact mG_iret C F dX8_as_28 rfl rfl K
  · have K := K.2 h
    refine mG_bipush C dX8_as_11 bpm2 ?_
    exact mG_iret C F dX8_as_13 rfl rfl K

set_option maxRecDepth 20000 in
set_option maxHeartbeats 4000000 in
theorem vX8_back_0 {X : mX} {E : mEnv} {Qm : Option Value → mW → Prop} (C : mCtx X E MX8_back) (F : mFin X E MX8_back Qm) {w : mW}  (p0 : Int32)
    (K : mMi E MX8_isBit [.int p0] w (fun v1 u1 =>
    ((¬ v1 = 0 →
    ((¬ (((u1.1 39 4) >>> (p0 &&& 31)) &&& (1 : Int32)) = 0 →
    (mMv E MX2_take [.ref 39, .int ((8 : Int32) + p0)] u1 (fun u2 =>
    (Qm (some (.int (u2.1 39 1))) (mPI u2 39 2 (0 : Int32)))))) ∧ ((((u1.1 39 4) >>> (p0 &&& 31)) &&& (1 : Int32)) = 0 →
    (Qm (some (.int (-4 : Int32))) u1)))) ∧ (v1 = 0 →
    (Qm (some (.int (-2 : Int32))) u1))))) :
    mG X E MX8_back 0 [.ref 0, .int p0] [] w := by
  refine mG_iload_n C dX8_back_0 rfl rfl ?_
  refine mG_Si (Z := MX8_isBit) (as := [.int p0]) (rest := []) C dX8_back_1 lk_527 zX8_isBit ⟨Nat.le_of_ble_eq_true rfl, Nat.le_of_ble_eq_true rfl⟩ rfl (Nat.le_of_ble_eq_true rfl) rfl K (fun v1 u1 K => ?_)
  refine mG_if_ne (tgt := 10) C dX8_back_4 rfl (fun h => ?_) (fun h => ?_)
  · have K := K.1 h
    refine mG_aload_n C dX8_back_10 rfl rfl ?_
    refine mG_getR C dX8_back_11 fl_287 sh0 rfl ?_
    refine mG_getI C dX8_back_14 fl_131 sh39 rfl ?_
    refine mG_iload_n C dX8_back_17 rfl rfl ?_
    refine mG_ishr C dX8_back_18 ?_
    refine mG_iconst C dX8_back_19 ic1 ?_
    refine mG_iand C dX8_back_20 ?_
    refine mG_if_ne (tgt := 27) C dX8_back_21 rfl (fun h => ?_) (fun h => ?_)
    · have K := K.1 h
      refine mG_aload_n C dX8_back_27 rfl rfl ?_
      refine mG_getR C dX8_back_28 fl_287 sh0 rfl ?_
      refine mG_bipush C dX8_back_31 bp8 ?_
      refine mG_iload_n C dX8_back_33 rfl rfl ?_
      refine mG_iadd C dX8_back_34 ?_
      refine mG_Vv (Z := MX2_take) (as := [.int ((8 : Int32) + p0)]) (rest := []) C dX8_back_35 lk_659 zX2_take ⟨Nat.le_of_ble_eq_true rfl, Nat.le_of_ble_eq_true rfl⟩ sh39 rfl rfl (Nat.le_of_ble_eq_true rfl) rfl K (fun u2 K => ?_)
      refine mG_aload_n C dX8_back_38 rfl rfl ?_
      refine mG_getR C dX8_back_39 fl_287 sh0 rfl ?_
      refine mG_iconst C dX8_back_42 ic0 ?_
      refine mG_putI C dX8_back_43 fp_127 sh39 rfl ?_
      refine mG_aload_n C dX8_back_46 rfl rfl ?_
      refine mG_getR C dX8_back_47 fl_287 sh0 rfl ?_
      refine mG_getIv C dX8_back_50 fl_125 sh39 rfl (by first | rfl | simp [mPI, mPL]) ?_
      exact mG_iret C F dX8_back_53 rfl rfl K
    · have K := K.2 h
      refine mG_bipush C dX8_back_24 bpm4 ?_
      exact mG_iret C F dX8_back_26 rfl rfl K
  · have K := K.2 h
    refine mG_bipush C dX8_back_7 bpm2 ?_
    exact mG_iret C F dX8_back_9 rfl rfl K

set_option maxRecDepth 20000 in
set_option maxHeartbeats 4000000 in
theorem vX8_belief_0 {X : mX} {E : mEnv} {Qm : Option Value → mW → Prop} (C : mCtx X E MX8_belief) (F : mFin X E MX8_belief Qm) {w : mW}  (p0 : Int32) (p1 : Int32)
    (K : mMi E MX1_hasOne [.ref 1, .int p0] w (fun v1 u1 =>
    ((v1 = 0 →
    (Qm (some (.int (-2 : Int32))) u1)) ∧ (¬ v1 = 0 →
    (mMi E MX1_hasFact [.ref 1, .int p1] u1 (fun v2 u2 =>
    ((¬ v2 = 0 →
    (mMi E MX4_mindOf [.long (u2.2 39 3), .int p0] u2 (fun v3 u3 =>
    (mMi E MX4_holds [.int v3, .int p1, .int (0 : Int32)] u3 (fun v4 u4 =>
    ((v4 = 0 →
    (mMi E MX4_holds [.int v3, .int p1, .int (1 : Int32)] u4 (fun v5 u5 =>
    ((v5 = 0 →
    (Qm (some (.int (-1 : Int32))) u5)) ∧ (¬ v5 = 0 →
    (Qm (some (.int (1 : Int32))) u5)))))) ∧ (¬ v4 = 0 →
    (Qm (some (.int (0 : Int32))) u4)))))))) ∧ (v2 = 0 →
    (Qm (some (.int (-2 : Int32))) u2))))))))) :
    mG X E MX8_belief 0 [.ref 0, .int p0, .int p1, .retAddr 0] [] w := by
  refine mG_aload_n C dX8_belief_0 rfl rfl ?_
  refine mG_getR C dX8_belief_1 fl_285 sh0 rfl ?_
  refine mG_iload_n C dX8_belief_4 rfl rfl ?_
  refine mG_Vi (Z := MX1_hasOne) (as := [.int p0]) (rest := []) C dX8_belief_5 lk_474 zX1_hasOne ⟨Nat.le_of_ble_eq_true rfl, Nat.le_of_ble_eq_true rfl⟩ sh1 rfl rfl (Nat.le_of_ble_eq_true rfl) rfl K (fun v1 u1 K => ?_)
  refine mG_if_eq (tgt := 22) C dX8_belief_8 rfl (fun h => ?_) (fun h => ?_)
  · have K := K.1 h
    refine mG_bipush C dX8_belief_22 bpm2 ?_
    exact mG_iret C F dX8_belief_24 rfl rfl K
  · have K := K.2 h
    refine mG_aload_n C dX8_belief_11 rfl rfl ?_
    refine mG_getR C dX8_belief_12 fl_285 sh0 rfl ?_
    refine mG_iload_n C dX8_belief_15 rfl rfl ?_
    refine mG_Vi (Z := MX1_hasFact) (as := [.int p1]) (rest := []) C dX8_belief_16 lk_466 zX1_hasFact ⟨Nat.le_of_ble_eq_true rfl, Nat.le_of_ble_eq_true rfl⟩ sh1 rfl rfl (Nat.le_of_ble_eq_true rfl) rfl K (fun v2 u2 K => ?_)
    refine mG_if_ne (tgt := 25) C dX8_belief_19 rfl (fun h => ?_) (fun h => ?_)
    · have K := K.1 h
      refine mG_aload_n C dX8_belief_25 rfl rfl ?_
      refine mG_getR C dX8_belief_26 fl_287 sh0 rfl ?_
      refine mG_getL C dX8_belief_29 fl_129 sh39 rfl ?_
      refine mG_iload_n C dX8_belief_32 rfl rfl ?_
      refine mG_Si (Z := MX4_mindOf) (as := [.long (u2.2 39 3), .int p0]) (rest := []) C dX8_belief_33 lk_486 zX4_mindOf ⟨Nat.le_of_ble_eq_true rfl, Nat.le_of_ble_eq_true rfl⟩ rfl (Nat.le_of_ble_eq_true rfl) rfl K (fun v3 u3 K => ?_)
      refine mG_istore_n (lv' := [.ref 0, .int p0, .int p1, .int v3]) C dX8_belief_36 rfl (by decide) rfl ?_
      refine mG_iload_n C dX8_belief_37 rfl rfl ?_
      refine mG_iload_n C dX8_belief_38 rfl rfl ?_
      refine mG_iconst C dX8_belief_39 ic0 ?_
      refine mG_Si (Z := MX4_holds) (as := [.int v3, .int p1, .int (0 : Int32)]) (rest := []) C dX8_belief_40 lk_489 zX4_holds ⟨Nat.le_of_ble_eq_true rfl, Nat.le_of_ble_eq_true rfl⟩ rfl (Nat.le_of_ble_eq_true rfl) rfl K (fun v4 u4 K => ?_)
      refine mG_if_eq (tgt := 50) C dX8_belief_43 rfl (fun h => ?_) (fun h => ?_)
      · have K := K.1 h
        refine mG_iload_n C dX8_belief_50 rfl rfl ?_
        refine mG_iload_n C dX8_belief_51 rfl rfl ?_
        refine mG_iconst C dX8_belief_52 ic1 ?_
        refine mG_Si (Z := MX4_holds) (as := [.int v3, .int p1, .int (1 : Int32)]) (rest := []) C dX8_belief_53 lk_489 zX4_holds ⟨Nat.le_of_ble_eq_true rfl, Nat.le_of_ble_eq_true rfl⟩ rfl (Nat.le_of_ble_eq_true rfl) rfl K (fun v5 u5 K => ?_)
        refine mG_if_eq (tgt := 63) C dX8_belief_56 rfl (fun h => ?_) (fun h => ?_)
        · have K := K.1 h
          refine mG_iconst C dX8_belief_63 icm1 ?_
          exact mG_iret C F dX8_belief_64 rfl rfl K
        · have K := K.2 h
          refine mG_iconst C dX8_belief_59 ic1 ?_
          refine mG_goto (tgt := 64) C dX8_belief_60 rfl ?_
          exact mG_iret C F dX8_belief_64 rfl rfl K
      · have K := K.2 h
        refine mG_iconst C dX8_belief_46 ic0 ?_
        refine mG_goto (tgt := 64) C dX8_belief_47 rfl ?_
        exact mG_iret C F dX8_belief_64 rfl rfl K
    · have K := K.2 h
      refine mG_bipush C dX8_belief_22 bpm2 ?_
      exact mG_iret C F dX8_belief_24 rfl rfl K

set_option maxRecDepth 20000 in
set_option maxHeartbeats 4000000 in
theorem vX8_best_0 {X : mX} {E : mEnv} {Qm : Option Value → mW → Prop} (C : mCtx X E MX8_best) (F : mFin X E MX8_best Qm) {w : mW}  (p0 : Int32)
    (K : (p0 < 0 →
    (Qm (some (.int (-3 : Int32))) w)) ∧ (¬ p0 < 0 →
    ((p0 ≤ (2 : Int32) →
    (mMv E MX6_seekBest [.ref 58, .int (w.1 39 0), .long (w.2 39 3)] w (fun u1 =>
    ((¬ p0 = 0 →
    ((¬ p0 = (1 : Int32) →
    (Qm (some (.int (u1.1 58 5))) u1)) ∧ (p0 = (1 : Int32) →
    (Qm (some (.int (u1.1 58 4))) u1)))) ∧ (p0 = 0 →
    (Qm (some (.int ((u1.1 58 3) + (9999 : Int32)))) u1)))))) ∧ (¬ p0 ≤ (2 : Int32) →
    (Qm (some (.int (-3 : Int32))) w))))) :
    mG X E MX8_best 0 [.ref 0, .int p0] [] w := by
  refine mG_iload_n C dX8_best_0 rfl rfl ?_
  refine mG_if_lt (tgt := 9) C dX8_best_1 rfl (fun h => ?_) (fun h => ?_)
  · have K := K.1 h
    refine mG_bipush C dX8_best_9 bpm3 ?_
    exact mG_iret C F dX8_best_11 rfl rfl K
  · have K := K.2 h
    refine mG_iload_n C dX8_best_4 rfl rfl ?_
    refine mG_iconst C dX8_best_5 ic2 ?_
    refine mG_icmp_le (tgt := 12) C dX8_best_6 rfl (fun h => ?_) (fun h => ?_)
    · have K := K.1 h
      refine mG_aload_n C dX8_best_12 rfl rfl ?_
      refine mG_getR C dX8_best_13 fl_290 sh0 rfl ?_
      refine mG_aload_n C dX8_best_16 rfl rfl ?_
      refine mG_getR C dX8_best_17 fl_287 sh0 rfl ?_
      refine mG_getI C dX8_best_20 fl_123 sh39 rfl ?_
      refine mG_aload_n C dX8_best_23 rfl rfl ?_
      refine mG_getR C dX8_best_24 fl_287 sh0 rfl ?_
      refine mG_getL C dX8_best_27 fl_129 sh39 rfl ?_
      refine mG_Vv (Z := MX6_seekBest) (as := [.int (w.1 39 0), .long (w.2 39 3)]) (rest := []) C dX8_best_30 lk_668 zX6_seekBest ⟨Nat.le_of_ble_eq_true rfl, Nat.le_of_ble_eq_true rfl⟩ sh58 rfl rfl (Nat.le_of_ble_eq_true rfl) rfl K (fun u1 K => ?_)
      refine mG_iload_n C dX8_best_33 rfl rfl ?_
      refine mG_if_ne (tgt := 51) C dX8_best_34 rfl (fun h => ?_) (fun h => ?_)
      · have K := K.1 h
        refine mG_iload_n C dX8_best_51 rfl rfl ?_
        refine mG_iconst C dX8_best_52 ic1 ?_
        refine mG_icmp_ne (tgt := 66) C dX8_best_53 rfl (fun h => ?_) (fun h => ?_)
        · have K := K.1 h
          refine mG_aload_n C dX8_best_66 rfl rfl ?_
          refine mG_getR C dX8_best_67 fl_290 sh0 rfl ?_
          refine mG_getI C dX8_best_70 fl_260 sh58 rfl ?_
          exact mG_iret C F dX8_best_73 rfl rfl K
        · have K := K.2 h
          refine mG_aload_n C dX8_best_56 rfl rfl ?_
          refine mG_getR C dX8_best_57 fl_290 sh0 rfl ?_
          refine mG_getI C dX8_best_60 fl_258 sh58 rfl ?_
          refine mG_goto (tgt := 73) C dX8_best_63 rfl ?_
          exact mG_iret C F dX8_best_73 rfl rfl K
      · have K := K.2 h
        refine mG_aload_n C dX8_best_37 rfl rfl ?_
        refine mG_getR C dX8_best_38 fl_290 sh0 rfl ?_
        refine mG_getI C dX8_best_41 fl_256 sh58 rfl ?_
        refine mG_sipush C dX8_best_44 sp9999 ?_
        refine mG_iadd C dX8_best_47 ?_
        refine mG_goto (tgt := 73) C dX8_best_48 rfl ?_
        exact mG_iret C F dX8_best_73 rfl rfl K
    · have K := K.2 h
      refine mG_bipush C dX8_best_9 bpm3 ?_
      exact mG_iret C F dX8_best_11 rfl rfl K

set_option maxRecDepth 20000 in
set_option maxHeartbeats 4000000 in
theorem vX8_bet_0 {X : mX} {E : mEnv} {Qm : Option Value → mW → Prop} (C : mCtx X E MX8_bet) (F : mFin X E MX8_bet Qm) {w : mW}  (p0 : Int32) (p1 : Int32)
    (K : mMi E MX1_hasFact [.ref 1, .int p0] w (fun v1 u1 =>
    ((¬ v1 = 0 →
    ((p1 < 0 →
    (Qm (some (.int (-3 : Int32))) u1)) ∧ (¬ p1 < 0 →
    ((p1 ≤ (99 : Int32) →
    (mMi E MX0_add [.ref 43, .int p0, .int p1] u1 (fun v2 u2 =>
    ((v2 = 0 →
    (Qm (some (.int (-5 : Int32))) u2)) ∧ (¬ v2 = 0 →
    (Qm (some (.int (u2.1 43 0))) u2)))))) ∧ (¬ p1 ≤ (99 : Int32) →
    (Qm (some (.int (-3 : Int32))) u1)))))) ∧ (v1 = 0 →
    (Qm (some (.int (-2 : Int32))) u1))))) :
    mG X E MX8_bet 0 [.ref 0, .int p0, .int p1] [] w := by
  refine mG_aload_n C dX8_bet_0 rfl rfl ?_
  refine mG_getR C dX8_bet_1 fl_285 sh0 rfl ?_
  refine mG_iload_n C dX8_bet_4 rfl rfl ?_
  refine mG_Vi (Z := MX1_hasFact) (as := [.int p0]) (rest := []) C dX8_bet_5 lk_466 zX1_hasFact ⟨Nat.le_of_ble_eq_true rfl, Nat.le_of_ble_eq_true rfl⟩ sh1 rfl rfl (Nat.le_of_ble_eq_true rfl) rfl K (fun v1 u1 K => ?_)
  refine mG_if_ne (tgt := 14) C dX8_bet_8 rfl (fun h => ?_) (fun h => ?_)
  · have K := K.1 h
    refine mG_iload_n C dX8_bet_14 rfl rfl ?_
    refine mG_if_lt (tgt := 24) C dX8_bet_15 rfl (fun h => ?_) (fun h => ?_)
    · have K := K.1 h
      refine mG_bipush C dX8_bet_24 bpm3 ?_
      exact mG_iret C F dX8_bet_26 rfl rfl K
    · have K := K.2 h
      refine mG_iload_n C dX8_bet_18 rfl rfl ?_
      refine mG_bipush C dX8_bet_19 bp99 ?_
      refine mG_icmp_le (tgt := 27) C dX8_bet_21 rfl (fun h => ?_) (fun h => ?_)
      · have K := K.1 h
        refine mG_aload_n C dX8_bet_27 rfl rfl ?_
        refine mG_getR C dX8_bet_28 fl_288 sh0 rfl ?_
        refine mG_iload_n C dX8_bet_31 rfl rfl ?_
        refine mG_iload_n C dX8_bet_32 rfl rfl ?_
        refine mG_Vi (Z := MX0_add) (as := [.int p0, .int p1]) (rest := []) C dX8_bet_33 lk_746 zX0_add ⟨Nat.le_of_ble_eq_true rfl, Nat.le_of_ble_eq_true rfl⟩ sh43 rfl rfl (Nat.le_of_ble_eq_true rfl) rfl K (fun v2 u2 K => ?_)
        refine mG_if_eq (tgt := 49) C dX8_bet_36 rfl (fun h => ?_) (fun h => ?_)
        · have K := K.1 h
          refine mG_bipush C dX8_bet_49 bpm5 ?_
          exact mG_iret C F dX8_bet_51 rfl rfl K
        · have K := K.2 h
          refine mG_aload_n C dX8_bet_39 rfl rfl ?_
          refine mG_getR C dX8_bet_40 fl_288 sh0 rfl ?_
          refine mG_getI C dX8_bet_43 fl_163 sh43 rfl ?_
          refine mG_goto (tgt := 51) C dX8_bet_46 rfl ?_
          exact mG_iret C F dX8_bet_51 rfl rfl K
      · have K := K.2 h
        refine mG_bipush C dX8_bet_24 bpm3 ?_
        exact mG_iret C F dX8_bet_26 rfl rfl K
  · have K := K.2 h
    refine mG_bipush C dX8_bet_11 bpm2 ?_
    exact mG_iret C F dX8_bet_13 rfl rfl K

set_option maxRecDepth 20000 in
set_option maxHeartbeats 4000000 in
theorem vX8_call_0 {X : mX} {E : mEnv} {Qm : Option Value → mW → Prop} (C : mCtx X E MX8_call) (F : mFin X E MX8_call Qm) {w : mW} 
    (K : Qm (some (.int (w.1 43 0))) (mPI w 43 0 (0 : Int32))) :
    mG X E MX8_call 0 [.ref 0, .retAddr 0] [] w := by
  refine mG_aload_n C dX8_call_0 rfl rfl ?_
  refine mG_getR C dX8_call_1 fl_288 sh0 rfl ?_
  refine mG_getI C dX8_call_4 fl_163 sh43 rfl ?_
  refine mG_istore_n (lv' := [.ref 0, .int (w.1 43 0)]) C dX8_call_7 rfl (by decide) rfl ?_
  refine mG_aload_n C dX8_call_8 rfl rfl ?_
  refine mG_getR C dX8_call_9 fl_288 sh0 rfl ?_
  refine mG_iconst C dX8_call_12 ic0 ?_
  refine mG_putI C dX8_call_13 fp_163 sh43 rfl ?_
  refine mG_iload_n C dX8_call_16 rfl rfl ?_
  exact mG_iret C F dX8_call_17 rfl rfl K

set_option maxRecDepth 20000 in
set_option maxHeartbeats 4000000 in
theorem vX8_cause_0 {X : mX} {E : mEnv} {Qm : Option Value → mW → Prop} (C : mCtx X E MX8_cause) (F : mFin X E MX8_cause Qm) {w : mW}  (p0 : Int32) (p1 : Int32)
    (K : (p0 < 0 →
    (Qm (some (.int (-2 : Int32))) w)) ∧ (¬ p0 < 0 →
    ((p0 < (w.1 1 2) →
    ((p1 < 0 →
    (Qm (some (.int (-3 : Int32))) w)) ∧ (¬ p1 < 0 →
    ((p1 ≤ (3 : Int32) →
    (vp_in p0 6 ∧
    (vp_in p1 4 ∧
    (Qm (some (.int (w.1 (16 + p0.toNatClampNeg) p1.toNatClampNeg))) w)))) ∧ (¬ p1 ≤ (3 : Int32) →
    (Qm (some (.int (-3 : Int32))) w)))))) ∧ (¬ p0 < (w.1 1 2) →
    (Qm (some (.int (-2 : Int32))) w))))) :
    mG X E MX8_cause 0 [.ref 0, .int p0, .int p1] [] w := by
  refine mG_iload_n C dX8_cause_0 rfl rfl ?_
  refine mG_if_lt (tgt := 15) C dX8_cause_1 rfl (fun h => ?_) (fun h => ?_)
  · have K := K.1 h
    refine mG_bipush C dX8_cause_15 bpm2 ?_
    exact mG_iret C F dX8_cause_17 rfl rfl K
  · have K := K.2 h
    refine mG_iload_n C dX8_cause_4 rfl rfl ?_
    refine mG_aload_n C dX8_cause_5 rfl rfl ?_
    refine mG_getR C dX8_cause_6 fl_285 sh0 rfl ?_
    refine mG_getI C dX8_cause_9 fl_46 sh1 rfl ?_
    refine mG_icmp_lt (tgt := 18) C dX8_cause_12 rfl (fun h => ?_) (fun h => ?_)
    · have K := K.1 h
      refine mG_iload_n C dX8_cause_18 rfl rfl ?_
      refine mG_if_lt (tgt := 27) C dX8_cause_19 rfl (fun h => ?_) (fun h => ?_)
      · have K := K.1 h
        refine mG_bipush C dX8_cause_27 bpm3 ?_
        refine mG_goto (tgt := 43) C dX8_cause_29 rfl ?_
        exact mG_iret C F dX8_cause_43 rfl rfl K
      · have K := K.2 h
        refine mG_iload_n C dX8_cause_22 rfl rfl ?_
        refine mG_iconst C dX8_cause_23 ic3 ?_
        refine mG_icmp_le (tgt := 32) C dX8_cause_24 rfl (fun h => ?_) (fun h => ?_)
        · have K := K.1 h
          refine mG_aload_n C dX8_cause_32 rfl rfl ?_
          refine mG_getR C dX8_cause_33 fl_285 sh0 rfl ?_
          refine mG_getR C dX8_cause_36 fl_56 sh1 rfl ?_
          refine mG_iload_n C dX8_cause_39 rfl rfl ?_
          obtain ⟨h1, K⟩ := K
          refine mG_aald (b := 16) C dX8_cause_40 sh15 h1 rs16 ?_
          refine mG_iload_n C dX8_cause_41 rfl rfl ?_
          obtain ⟨h2, K⟩ := K
          refine mG_iald C dX8_cause_42 (shr16 h1) h2 ?_
          exact mG_iret C F dX8_cause_43 rfl rfl K
        · have K := K.2 h
          refine mG_bipush C dX8_cause_27 bpm3 ?_
          refine mG_goto (tgt := 43) C dX8_cause_29 rfl ?_
          exact mG_iret C F dX8_cause_43 rfl rfl K
    · have K := K.2 h
      refine mG_bipush C dX8_cause_15 bpm2 ?_
      exact mG_iret C F dX8_cause_17 rfl rfl K

set_option maxRecDepth 20000 in
set_option maxHeartbeats 4000000 in
theorem vX8_city_0 {X : mX} {E : mEnv} {Qm : Option Value → mW → Prop} (C : mCtx X E MX8_city) (F : mFin X E MX8_city Qm) {w : mW} 
    (K : mMi E MX5_firstFault [.ref 22, .ref 1] w (fun v1 u1 =>
    ((v1 = (-1 : Int32) →
    (mG X E MX8_city 20 [.ref 0, .int (0 : Int32)] [] u1)) ∧ (¬ v1 = (-1 : Int32) →
    (Qm (some (.int (-4 : Int32))) u1))))) :
    mG X E MX8_city 0 [.ref 0, .retAddr 0] [] w := by
  refine mG_aload_n C dX8_city_0 rfl rfl ?_
  refine mG_getR C dX8_city_1 fl_286 sh0 rfl ?_
  refine mG_aload_n C dX8_city_4 rfl rfl ?_
  refine mG_getR C dX8_city_5 fl_285 sh0 rfl ?_
  refine mG_Vi (Z := MX5_firstFault) (as := [.ref 1]) (rest := []) C dX8_city_8 lk_320 zX5_firstFault ⟨Nat.le_of_ble_eq_true rfl, Nat.le_of_ble_eq_true rfl⟩ sh22 rfl rfl (Nat.le_of_ble_eq_true rfl) rfl K (fun v1 u1 K => ?_)
  refine mG_iconst C dX8_city_11 icm1 ?_
  refine mG_icmp_eq (tgt := 18) C dX8_city_12 rfl (fun h => ?_) (fun h => ?_)
  · have K := K.1 h
    refine mG_iconst C dX8_city_18 ic0 ?_
    refine mG_istore_n (lv' := [.ref 0, .int (0 : Int32)]) C dX8_city_19 rfl (by decide) rfl ?_
    exact K
  · have K := K.2 h
    refine mG_bipush C dX8_city_15 bpm4 ?_
    exact mG_iret C F dX8_city_17 rfl rfl K

set_option maxRecDepth 20000 in
set_option maxHeartbeats 4000000 in
theorem vX8_city_20 {X : mX} {E : mEnv} {Qm : Option Value → mW → Prop} (C : mCtx X E MX8_city) (F : mFin X E MX8_city Qm) {w : mW}  (x1 : Int32)
    (K : ((w.1 22 3) ≤ x1 →
    (mMv E MX2_begin [.ref 39, .int (w.1 1 3)] w (fun u1 =>
    (Qm (some (.int (u1.1 22 3))) (mPI (mPI u1 43 0 (0 : Int32)) 22 1 (0 : Int32)))))) ∧ (¬ (w.1 22 3) ≤ x1 →
    (vp_in x1 14 ∧
    (mMv E MX1_add [.ref 1, .ref (25 + x1.toNatClampNeg)] w (fun u2 =>
    (mG X E MX8_city 20 [.ref 0, .int (x1 + (1 : Int32))] [] u2)))))) :
    mG X E MX8_city 20 [.ref 0, .int x1] [] w := by
  refine mG_iload_n C dX8_city_20 rfl rfl ?_
  refine mG_aload_n C dX8_city_21 rfl rfl ?_
  refine mG_getR C dX8_city_22 fl_286 sh0 rfl ?_
  refine mG_getI C dX8_city_25 fl_88 sh22 rfl ?_
  refine mG_icmp_ge (tgt := 53) C dX8_city_28 rfl (fun h => ?_) (fun h => ?_)
  · have K := K.1 h
    refine mG_aload_n C dX8_city_53 rfl rfl ?_
    refine mG_getR C dX8_city_54 fl_287 sh0 rfl ?_
    refine mG_aload_n C dX8_city_57 rfl rfl ?_
    refine mG_getR C dX8_city_58 fl_285 sh0 rfl ?_
    refine mG_getI C dX8_city_61 fl_47 sh1 rfl ?_
    refine mG_Vv (Z := MX2_begin) (as := [.int (w.1 1 3)]) (rest := []) C dX8_city_64 lk_458 zX2_begin ⟨Nat.le_of_ble_eq_true rfl, Nat.le_of_ble_eq_true rfl⟩ sh39 rfl rfl (Nat.le_of_ble_eq_true rfl) rfl K (fun u1 K => ?_)
    refine mG_aload_n C dX8_city_67 rfl rfl ?_
    refine mG_getR C dX8_city_68 fl_288 sh0 rfl ?_
    refine mG_iconst C dX8_city_71 ic0 ?_
    refine mG_putI C dX8_city_72 fp_163 sh43 rfl ?_
    refine mG_aload_n C dX8_city_75 rfl rfl ?_
    refine mG_getR C dX8_city_76 fl_286 sh0 rfl ?_
    refine mG_iconst C dX8_city_79 ic0 ?_
    refine mG_putI C dX8_city_80 fp_84 sh22 rfl ?_
    refine mG_aload_n C dX8_city_83 rfl rfl ?_
    refine mG_getR C dX8_city_84 fl_286 sh0 rfl ?_
    refine mG_getIv C dX8_city_87 fl_88 sh22 rfl (by first | rfl | simp [mPI, mPL]) ?_
    exact mG_iret C F dX8_city_90 rfl rfl K
  · have K := K.2 h
    refine mG_aload_n C dX8_city_31 rfl rfl ?_
    refine mG_getR C dX8_city_32 fl_285 sh0 rfl ?_
    refine mG_aload_n C dX8_city_35 rfl rfl ?_
    refine mG_getR C dX8_city_36 fl_286 sh0 rfl ?_
    refine mG_getR C dX8_city_39 fl_86 sh22 rfl ?_
    refine mG_iload_n C dX8_city_42 rfl rfl ?_
    obtain ⟨h1, K⟩ := K
    refine mG_aald (b := 25) C dX8_city_43 sh24 h1 rs25 ?_
    refine mG_Vv (Z := MX1_add) (as := [.ref (25 + x1.toNatClampNeg)]) (rest := []) C dX8_city_44 lk_434 zX1_add ⟨Nat.le_of_ble_eq_true rfl, Nat.le_of_ble_eq_true rfl⟩ sh1 rfl rfl (Nat.le_of_ble_eq_true rfl) rfl K (fun u2 K => ?_)
    refine mG_iincc (lv' := [.ref 0, .int (x1 + (1 : Int32))]) C dX8_city_47 rfl ic1 (by decide) rfl ?_
    refine mG_goto (tgt := 20) C dX8_city_50 rfl ?_
    exact K

set_option maxRecDepth 20000 in
set_option maxHeartbeats 4000000 in
theorem vX8_coming_0 {X : mX} {E : mEnv} {Qm : Option Value → mW → Prop} (C : mCtx X E MX8_coming) (F : mFin X E MX8_coming Qm) {w : mW}  (p0 : Int32) (p1 : Int32)
    (K : (p0 < (1 : Int32) →
    (Qm (some (.int (-3 : Int32))) w)) ∧ (¬ p0 < (1 : Int32) →
    (((20 : Int32) < p0 →
    (Qm (some (.int (-3 : Int32))) w)) ∧ (¬ (20 : Int32) < p0 →
    (mMi E MX8_isBit [.int p1] w (fun v1 u1 =>
    ((¬ v1 = 0 →
    (mMi E MX1_doers [.ref 1, .long (u1.2 39 3)] u1 (fun v2 u2 =>
    (mG X E MX8_coming 48 [.ref 0, .int p0, .int p1, .int v2, .int (u2.1 39 0), .int (0 : Int32)] [] u2)))) ∧ (v1 = 0 →
    (Qm (some (.int (-3 : Int32))) u1))))))))) :
    mG X E MX8_coming 0 [.ref 0, .int p0, .int p1, .retAddr 0, .retAddr 0, .retAddr 0] [] w := by
  refine mG_iload_n C dX8_coming_0 rfl rfl ?_
  refine mG_iconst C dX8_coming_1 ic1 ?_
  refine mG_icmp_lt (tgt := 18) C dX8_coming_2 rfl (fun h => ?_) (fun h => ?_)
  · have K := K.1 h
    refine mG_bipush C dX8_coming_18 bpm3 ?_
    exact mG_iret C F dX8_coming_20 rfl rfl K
  · have K := K.2 h
    refine mG_iload_n C dX8_coming_5 rfl rfl ?_
    refine mG_bipush C dX8_coming_6 bp20 ?_
    refine mG_icmp_gt (tgt := 18) C dX8_coming_8 rfl (fun h => ?_) (fun h => ?_)
    · have K := K.1 h
      refine mG_bipush C dX8_coming_18 bpm3 ?_
      exact mG_iret C F dX8_coming_20 rfl rfl K
    · have K := K.2 h
      refine mG_iload_n C dX8_coming_11 rfl rfl ?_
      refine mG_Si (Z := MX8_isBit) (as := [.int p1]) (rest := []) C dX8_coming_12 lk_527 zX8_isBit ⟨Nat.le_of_ble_eq_true rfl, Nat.le_of_ble_eq_true rfl⟩ rfl (Nat.le_of_ble_eq_true rfl) rfl K (fun v1 u1 K => ?_)
      refine mG_if_ne (tgt := 21) C dX8_coming_15 rfl (fun h => ?_) (fun h => ?_)
      · have K := K.1 h
        refine mG_aload_n C dX8_coming_21 rfl rfl ?_
        refine mG_getR C dX8_coming_22 fl_285 sh0 rfl ?_
        refine mG_aload_n C dX8_coming_25 rfl rfl ?_
        refine mG_getR C dX8_coming_26 fl_287 sh0 rfl ?_
        refine mG_getL C dX8_coming_29 fl_129 sh39 rfl ?_
        refine mG_Vi (Z := MX1_doers) (as := [.long (u1.2 39 3)]) (rest := []) C dX8_coming_32 lk_635 zX1_doers ⟨Nat.le_of_ble_eq_true rfl, Nat.le_of_ble_eq_true rfl⟩ sh1 rfl rfl (Nat.le_of_ble_eq_true rfl) rfl K (fun v2 u2 K => ?_)
        refine mG_istore_n (lv' := [.ref 0, .int p0, .int p1, .int v2, .retAddr 0, .retAddr 0]) C dX8_coming_35 rfl (by decide) rfl ?_
        refine mG_aload_n C dX8_coming_36 rfl rfl ?_
        refine mG_getR C dX8_coming_37 fl_287 sh0 rfl ?_
        refine mG_getI C dX8_coming_40 fl_123 sh39 rfl ?_
        refine mG_istore (lv' := [.ref 0, .int p0, .int p1, .int v2, .int (u2.1 39 0), .retAddr 0]) C dX8_coming_43 (by decide) rfl ?_
        refine mG_iconst C dX8_coming_45 ic0 ?_
        refine mG_istore (lv' := [.ref 0, .int p0, .int p1, .int v2, .int (u2.1 39 0), .int (0 : Int32)]) C dX8_coming_46 (by decide) rfl ?_
        exact K
      · have K := K.2 h
        refine mG_bipush C dX8_coming_18 bpm3 ?_
        exact mG_iret C F dX8_coming_20 rfl rfl K

set_option maxRecDepth 20000 in
set_option maxHeartbeats 4000000 in
theorem vX8_coming_48 {X : mX} {E : mEnv} {Qm : Option Value → mW → Prop} (C : mCtx X E MX8_coming) (F : mFin X E MX8_coming Qm) {w : mW}  (x1 : Int32) (x2 : Int32) (x3 : Int32) (x4 : Int32) (x5 : Int32)
    (K : (x1 ≤ x5 →
    ((¬ x2 = 0 →
    (mMi E MX1_sumOf [.ref 1, .int x4] w (fun v1 u1 =>
    (Qm (some (.int (v1 + (9999 : Int32)))) u1)))) ∧ (x2 = 0 →
    (Qm (some (.int x4)) w)))) ∧ (¬ x1 ≤ x5 →
    (mMi E MX1_dawn [.ref 1, .int x4, .int x3] w (fun v2 u2 =>
    (mG X E MX8_coming 48 [.ref 0, .int x1, .int x2, .int x3, .int v2, .int (x5 + (1 : Int32))] [] u2))))) :
    mG X E MX8_coming 48 [.ref 0, .int x1, .int x2, .int x3, .int x4, .int x5] [] w := by
  refine mG_iload C dX8_coming_48 rfl ?_
  refine mG_iload_n C dX8_coming_50 rfl rfl ?_
  refine mG_icmp_ge (tgt := 72) C dX8_coming_51 rfl (fun h => ?_) (fun h => ?_)
  · have K := K.1 h
    refine mG_iload_n C dX8_coming_72 rfl rfl ?_
    refine mG_if_ne (tgt := 81) C dX8_coming_73 rfl (fun h => ?_) (fun h => ?_)
    · have K := K.1 h
      refine mG_aload_n C dX8_coming_81 rfl rfl ?_
      refine mG_getR C dX8_coming_82 fl_285 sh0 rfl ?_
      refine mG_iload C dX8_coming_85 rfl ?_
      refine mG_Vi (Z := MX1_sumOf) (as := [.int x4]) (rest := []) C dX8_coming_87 lk_637 zX1_sumOf ⟨Nat.le_of_ble_eq_true rfl, Nat.le_of_ble_eq_true rfl⟩ sh1 rfl rfl (Nat.le_of_ble_eq_true rfl) rfl K (fun v1 u1 K => ?_)
      refine mG_sipush C dX8_coming_90 sp9999 ?_
      refine mG_iadd C dX8_coming_93 ?_
      exact mG_iret C F dX8_coming_94 rfl rfl K
    · have K := K.2 h
      refine mG_iload C dX8_coming_76 rfl ?_
      refine mG_goto (tgt := 94) C dX8_coming_78 rfl ?_
      exact mG_iret C F dX8_coming_94 rfl rfl K
  · have K := K.2 h
    refine mG_aload_n C dX8_coming_54 rfl rfl ?_
    refine mG_getR C dX8_coming_55 fl_285 sh0 rfl ?_
    refine mG_iload C dX8_coming_58 rfl ?_
    refine mG_iload_n C dX8_coming_60 rfl rfl ?_
    refine mG_Vi (Z := MX1_dawn) (as := [.int x4, .int x3]) (rest := []) C dX8_coming_61 lk_636 zX1_dawn ⟨Nat.le_of_ble_eq_true rfl, Nat.le_of_ble_eq_true rfl⟩ sh1 rfl rfl (Nat.le_of_ble_eq_true rfl) rfl K (fun v2 u2 K => ?_)
    refine mG_istore (lv' := [.ref 0, .int x1, .int x2, .int x3, .int v2, .int x5]) C dX8_coming_64 (by decide) rfl ?_
    refine mG_iincc (lv' := [.ref 0, .int x1, .int x2, .int x3, .int v2, .int (x5 + (1 : Int32))]) C dX8_coming_66 rfl ic1 (by decide) rfl ?_
    refine mG_goto (tgt := 48) C dX8_coming_69 rfl ?_
    exact K

set_option maxRecDepth 20000 in
set_option maxHeartbeats 4000000 in
theorem vX8_count_0 {X : mX} {E : mEnv} {Qm : Option Value → mW → Prop} (C : mCtx X E MX8_count) (F : mFin X E MX8_count Qm) {w : mW}  (p0 : Int32)
    (K : (p0 = (0 : Int32) →
    (Qm (some (.int (w.1 1 0))) w)) ∧ (¬ p0 = (0 : Int32) →
    ((p0 = (1 : Int32) →
    (Qm (some (.int (w.1 1 1))) w)) ∧ (¬ p0 = (1 : Int32) →
    ((p0 = (2 : Int32) →
    (Qm (some (.int (w.1 1 2))) w)) ∧ (¬ p0 = (2 : Int32) →
    ((p0 = (3 : Int32) →
    (Qm (some (.int (w.1 39 1))) w)) ∧ (¬ p0 = (3 : Int32) →
    ((p0 = (4 : Int32) →
    (mMi E MX1_sumOf [.ref 1, .int (w.1 39 0)] w (fun v1 u1 =>
    (Qm (some (.int (v1 + (9999 : Int32)))) u1)))) ∧ (¬ p0 = (4 : Int32) →
    ((p0 = (5 : Int32) →
    (Qm (some (.int (w.1 39 0))) w)) ∧ (¬ p0 = (5 : Int32) →
    ((p0 = (6 : Int32) →
    (mMi E MX4_thingsBelieved [.long (w.2 39 3)] w (fun v2 u2 =>
    (Qm (some (.int v2)) u2)))) ∧ (¬ p0 = (6 : Int32) →
    ((p0 = (7 : Int32) →
    (Qm (some (.int (w.1 43 0))) w)) ∧ (¬ p0 = (7 : Int32) →
    ((p0 = (8 : Int32) →
    (Qm (some (.int (w.1 39 2))) w)) ∧ (¬ p0 = (8 : Int32) →
    ((p0 = (9 : Int32) →
    (Qm (some (.int (w.1 22 1))) w)) ∧ (¬ p0 = (9 : Int32) →
    (Qm (some (.int (-3 : Int32))) w))))))))))))))))))))) :
    mG X E MX8_count 0 [.ref 0, .int p0] [] w := by
  refine mG_iload_n C dX8_count_0 rfl rfl ?_
  by_cases g0 : p0 = (0 : Int32)
  · have K := K.1 g0
    refine mG_tableEq (off := 55) (tgt := 56) C dX8_count_1 g0 (by decide) (by decide) rfl rfl ?_
    refine mG_aload_n C dX8_count_56 rfl rfl ?_
    refine mG_getR C dX8_count_57 fl_285 sh0 rfl ?_
    refine mG_getI C dX8_count_60 fl_38 sh1 rfl ?_
    exact mG_iret C F dX8_count_63 rfl rfl K
  · have K := K.2 g0
    by_cases g1 : p0 = (1 : Int32)
    · have K := K.1 g1
      refine mG_tableEq (off := 63) (tgt := 64) C dX8_count_1 g1 (by decide) (by decide) rfl rfl ?_
      refine mG_aload_n C dX8_count_64 rfl rfl ?_
      refine mG_getR C dX8_count_65 fl_285 sh0 rfl ?_
      refine mG_getI C dX8_count_68 fl_43 sh1 rfl ?_
      exact mG_iret C F dX8_count_71 rfl rfl K
    · have K := K.2 g1
      by_cases g2 : p0 = (2 : Int32)
      · have K := K.1 g2
        refine mG_tableEq (off := 71) (tgt := 72) C dX8_count_1 g2 (by decide) (by decide) rfl rfl ?_
        refine mG_aload_n C dX8_count_72 rfl rfl ?_
        refine mG_getR C dX8_count_73 fl_285 sh0 rfl ?_
        refine mG_getI C dX8_count_76 fl_46 sh1 rfl ?_
        exact mG_iret C F dX8_count_79 rfl rfl K
      · have K := K.2 g2
        by_cases g3 : p0 = (3 : Int32)
        · have K := K.1 g3
          refine mG_tableEq (off := 79) (tgt := 80) C dX8_count_1 g3 (by decide) (by decide) rfl rfl ?_
          refine mG_aload_n C dX8_count_80 rfl rfl ?_
          refine mG_getR C dX8_count_81 fl_287 sh0 rfl ?_
          refine mG_getI C dX8_count_84 fl_125 sh39 rfl ?_
          exact mG_iret C F dX8_count_87 rfl rfl K
        · have K := K.2 g3
          by_cases g4 : p0 = (4 : Int32)
          · have K := K.1 g4
            refine mG_tableEq (off := 87) (tgt := 88) C dX8_count_1 g4 (by decide) (by decide) rfl rfl ?_
            refine mG_aload_n C dX8_count_88 rfl rfl ?_
            refine mG_getR C dX8_count_89 fl_285 sh0 rfl ?_
            refine mG_aload_n C dX8_count_92 rfl rfl ?_
            refine mG_getR C dX8_count_93 fl_287 sh0 rfl ?_
            refine mG_getI C dX8_count_96 fl_123 sh39 rfl ?_
            refine mG_Vi (Z := MX1_sumOf) (as := [.int (w.1 39 0)]) (rest := []) C dX8_count_99 lk_637 zX1_sumOf ⟨Nat.le_of_ble_eq_true rfl, Nat.le_of_ble_eq_true rfl⟩ sh1 rfl rfl (Nat.le_of_ble_eq_true rfl) rfl K (fun v1 u1 K => ?_)
            refine mG_sipush C dX8_count_102 sp9999 ?_
            refine mG_iadd C dX8_count_105 ?_
            exact mG_iret C F dX8_count_106 rfl rfl K
          · have K := K.2 g4
            by_cases g5 : p0 = (5 : Int32)
            · have K := K.1 g5
              refine mG_tableEq (off := 106) (tgt := 107) C dX8_count_1 g5 (by decide) (by decide) rfl rfl ?_
              refine mG_aload_n C dX8_count_107 rfl rfl ?_
              refine mG_getR C dX8_count_108 fl_287 sh0 rfl ?_
              refine mG_getI C dX8_count_111 fl_123 sh39 rfl ?_
              exact mG_iret C F dX8_count_114 rfl rfl K
            · have K := K.2 g5
              by_cases g6 : p0 = (6 : Int32)
              · have K := K.1 g6
                refine mG_tableEq (off := 114) (tgt := 115) C dX8_count_1 g6 (by decide) (by decide) rfl rfl ?_
                refine mG_aload_n C dX8_count_115 rfl rfl ?_
                refine mG_getR C dX8_count_116 fl_287 sh0 rfl ?_
                refine mG_getL C dX8_count_119 fl_129 sh39 rfl ?_
                refine mG_Si (Z := MX4_thingsBelieved) (as := [.long (w.2 39 3)]) (rest := []) C dX8_count_122 lk_814 zX4_thingsBelieved ⟨Nat.le_of_ble_eq_true rfl, Nat.le_of_ble_eq_true rfl⟩ rfl (Nat.le_of_ble_eq_true rfl) rfl K (fun v2 u2 K => ?_)
                exact mG_iret C F dX8_count_125 rfl rfl K
              · have K := K.2 g6
                by_cases g7 : p0 = (7 : Int32)
                · have K := K.1 g7
                  refine mG_tableEq (off := 125) (tgt := 126) C dX8_count_1 g7 (by decide) (by decide) rfl rfl ?_
                  refine mG_aload_n C dX8_count_126 rfl rfl ?_
                  refine mG_getR C dX8_count_127 fl_288 sh0 rfl ?_
                  refine mG_getI C dX8_count_130 fl_163 sh43 rfl ?_
                  exact mG_iret C F dX8_count_133 rfl rfl K
                · have K := K.2 g7
                  by_cases g8 : p0 = (8 : Int32)
                  · have K := K.1 g8
                    refine mG_tableEq (off := 133) (tgt := 134) C dX8_count_1 g8 (by decide) (by decide) rfl rfl ?_
                    refine mG_aload_n C dX8_count_134 rfl rfl ?_
                    refine mG_getR C dX8_count_135 fl_287 sh0 rfl ?_
                    refine mG_getI C dX8_count_138 fl_127 sh39 rfl ?_
                    exact mG_iret C F dX8_count_141 rfl rfl K
                  · have K := K.2 g8
                    by_cases g9 : p0 = (9 : Int32)
                    · have K := K.1 g9
                      refine mG_tableEq (off := 141) (tgt := 142) C dX8_count_1 g9 (by decide) (by decide) rfl rfl ?_
                      refine mG_aload_n C dX8_count_142 rfl rfl ?_
                      refine mG_getR C dX8_count_143 fl_286 sh0 rfl ?_
                      refine mG_getI C dX8_count_146 fl_84 sh22 rfl ?_
                      exact mG_iret C F dX8_count_149 rfl rfl K
                    · have K := K.2 g9
                      have e0 := lv_neT g0 (show (0 : Int32).toInt = 0 by decide)
                      have e1 := lv_neT g1 (show (1 : Int32).toInt = 1 by decide)
                      have e2 := lv_neT g2 (show (2 : Int32).toInt = 2 by decide)
                      have e3 := lv_neT g3 (show (3 : Int32).toInt = 3 by decide)
                      have e4 := lv_neT g4 (show (4 : Int32).toInt = 4 by decide)
                      have e5 := lv_neT g5 (show (5 : Int32).toInt = 5 by decide)
                      have e6 := lv_neT g6 (show (6 : Int32).toInt = 6 by decide)
                      have e7 := lv_neT g7 (show (7 : Int32).toInt = 7 by decide)
                      have e8 := lv_neT g8 (show (8 : Int32).toInt = 8 by decide)
                      have e9 := lv_neT g9 (show (9 : Int32).toInt = 9 by decide)
                      refine mG_tableOut (tgt := 150) C dX8_count_1 (by omega) rfl ?_
                      refine mG_bipush C dX8_count_150 bpm3 ?_
                      exact mG_iret C F dX8_count_152 rfl rfl K

set_option maxRecDepth 20000 in
set_option maxHeartbeats 4000000 in
theorem vX8_empty_0 {X : mX} {E : mEnv} {Qm : Option Value → mW → Prop} (C : mCtx X E MX8_empty) (F : mFin X E MX8_empty Qm) {w : mW}  (p0 : Int32) (p1 : Int32)
    (K : mMi E MX1_hasOne [.ref 1, .int p0] w (fun v1 u1 =>
    ((¬ v1 = 0 →
    (mMi E MX8_isBit [.int p1] u1 (fun v2 u2 =>
    ((¬ v2 = 0 →
    (mMv E MX3_look [.ref 46, .int (u2.1 39 0), .long (u2.2 39 3)] u2 (fun u3 =>
    (mMv E MX6_countEmpty [.ref 58, .int p0] u3 (fun u4 =>
    ((¬ p1 = 0 →
    (Qm (some (.int (u4.1 58 7))) u4)) ∧ (p1 = 0 →
    (Qm (some (.int (u4.1 58 6))) u4)))))))) ∧ (v2 = 0 →
    (Qm (some (.int (-3 : Int32))) u2)))))) ∧ (v1 = 0 →
    (Qm (some (.int (-2 : Int32))) u1))))) :
    mG X E MX8_empty 0 [.ref 0, .int p0, .int p1] [] w := by
  refine mG_aload_n C dX8_empty_0 rfl rfl ?_
  refine mG_getR C dX8_empty_1 fl_285 sh0 rfl ?_
  refine mG_iload_n C dX8_empty_4 rfl rfl ?_
  refine mG_Vi (Z := MX1_hasOne) (as := [.int p0]) (rest := []) C dX8_empty_5 lk_474 zX1_hasOne ⟨Nat.le_of_ble_eq_true rfl, Nat.le_of_ble_eq_true rfl⟩ sh1 rfl rfl (Nat.le_of_ble_eq_true rfl) rfl K (fun v1 u1 K => ?_)
  refine mG_if_ne (tgt := 14) C dX8_empty_8 rfl (fun h => ?_) (fun h => ?_)
  · have K := K.1 h
    refine mG_iload_n C dX8_empty_14 rfl rfl ?_
    refine mG_Si (Z := MX8_isBit) (as := [.int p1]) (rest := []) C dX8_empty_15 lk_527 zX8_isBit ⟨Nat.le_of_ble_eq_true rfl, Nat.le_of_ble_eq_true rfl⟩ rfl (Nat.le_of_ble_eq_true rfl) rfl K (fun v2 u2 K => ?_)
    refine mG_if_ne (tgt := 24) C dX8_empty_18 rfl (fun h => ?_) (fun h => ?_)
    · have K := K.1 h
      refine mG_aload_n C dX8_empty_24 rfl rfl ?_
      refine mG_getR C dX8_empty_25 fl_289 sh0 rfl ?_
      refine mG_aload_n C dX8_empty_28 rfl rfl ?_
      refine mG_getR C dX8_empty_29 fl_287 sh0 rfl ?_
      refine mG_getI C dX8_empty_32 fl_123 sh39 rfl ?_
      refine mG_aload_n C dX8_empty_35 rfl rfl ?_
      refine mG_getR C dX8_empty_36 fl_287 sh0 rfl ?_
      refine mG_getL C dX8_empty_39 fl_129 sh39 rfl ?_
      refine mG_Vv (Z := MX3_look) (as := [.int (u2.1 39 0), .long (u2.2 39 3)]) (rest := []) C dX8_empty_42 lk_530 zX3_look ⟨Nat.le_of_ble_eq_true rfl, Nat.le_of_ble_eq_true rfl⟩ sh46 rfl rfl (Nat.le_of_ble_eq_true rfl) rfl K (fun u3 K => ?_)
      refine mG_aload_n C dX8_empty_45 rfl rfl ?_
      refine mG_getR C dX8_empty_46 fl_290 sh0 rfl ?_
      refine mG_iload_n C dX8_empty_49 rfl rfl ?_
      refine mG_Vv (Z := MX6_countEmpty) (as := [.int p0]) (rest := []) C dX8_empty_50 lk_695 zX6_countEmpty ⟨Nat.le_of_ble_eq_true rfl, Nat.le_of_ble_eq_true rfl⟩ sh58 rfl rfl (Nat.le_of_ble_eq_true rfl) rfl K (fun u4 K => ?_)
      refine mG_iload_n C dX8_empty_53 rfl rfl ?_
      refine mG_if_ne (tgt := 67) C dX8_empty_54 rfl (fun h => ?_) (fun h => ?_)
      · have K := K.1 h
        refine mG_aload_n C dX8_empty_67 rfl rfl ?_
        refine mG_getR C dX8_empty_68 fl_290 sh0 rfl ?_
        refine mG_getI C dX8_empty_71 fl_264 sh58 rfl ?_
        exact mG_iret C F dX8_empty_74 rfl rfl K
      · have K := K.2 h
        refine mG_aload_n C dX8_empty_57 rfl rfl ?_
        refine mG_getR C dX8_empty_58 fl_290 sh0 rfl ?_
        refine mG_getI C dX8_empty_61 fl_262 sh58 rfl ?_
        refine mG_goto (tgt := 74) C dX8_empty_64 rfl ?_
        exact mG_iret C F dX8_empty_74 rfl rfl K
    · have K := K.2 h
      refine mG_bipush C dX8_empty_21 bpm3 ?_
      exact mG_iret C F dX8_empty_23 rfl rfl K
  · have K := K.2 h
    refine mG_bipush C dX8_empty_11 bpm2 ?_
    exact mG_iret C F dX8_empty_13 rfl rfl K

set_option maxRecDepth 20000 in
set_option maxHeartbeats 4000000 in
theorem vX8_erase_0 {X : mX} {E : mEnv} {Qm : Option Value → mW → Prop} (C : mCtx X E MX8_erase) (F : mFin X E MX8_erase Qm) {w : mW} 
    (K : Qm (some (.int (w.1 22 1))) (mPI w 22 1 (0 : Int32))) :
    mG X E MX8_erase 0 [.ref 0, .retAddr 0] [] w := by
  refine mG_aload_n C dX8_erase_0 rfl rfl ?_
  refine mG_getR C dX8_erase_1 fl_286 sh0 rfl ?_
  refine mG_getI C dX8_erase_4 fl_84 sh22 rfl ?_
  refine mG_istore_n (lv' := [.ref 0, .int (w.1 22 1)]) C dX8_erase_7 rfl (by decide) rfl ?_
  refine mG_aload_n C dX8_erase_8 rfl rfl ?_
  refine mG_getR C dX8_erase_9 fl_286 sh0 rfl ?_
  refine mG_iconst C dX8_erase_12 ic0 ?_
  refine mG_putI C dX8_erase_13 fp_84 sh22 rfl ?_
  refine mG_iload_n C dX8_erase_16 rfl rfl ?_
  exact mG_iret C F dX8_erase_17 rfl rfl K

set_option maxRecDepth 20000 in
set_option maxHeartbeats 4000000 in
theorem vX8_fact_0 {X : mX} {E : mEnv} {Qm : Option Value → mW → Prop} (C : mCtx X E MX8_fact) (F : mFin X E MX8_fact Qm) {w : mW}  (p0 : Int32) (p1 : Int32)
    (K : mMi E MX1_hasFact [.ref 1, .int p0] w (fun v1 u1 =>
    ((¬ v1 = 0 →
    ((p1 < 0 →
    (Qm (some (.int (-3 : Int32))) u1)) ∧ (¬ p1 < 0 →
    ((p1 ≤ (2 : Int32) →
    ((¬ p1 = (2 : Int32) →
    (vp_in p0 6 ∧
    (vp_in p1 2 ∧
    (Qm (some (.int (u1.1 (3 + p0.toNatClampNeg) p1.toNatClampNeg))) u1)))) ∧ (p1 = (2 : Int32) →
    (Qm (some (.int (((u1.1 39 0) >>> (p0 &&& 31)) &&& (1 : Int32)))) u1)))) ∧ (¬ p1 ≤ (2 : Int32) →
    (Qm (some (.int (-3 : Int32))) u1)))))) ∧ (v1 = 0 →
    (Qm (some (.int (-2 : Int32))) u1))))) :
    mG X E MX8_fact 0 [.ref 0, .int p0, .int p1] [] w := by
  refine mG_aload_n C dX8_fact_0 rfl rfl ?_
  refine mG_getR C dX8_fact_1 fl_285 sh0 rfl ?_
  refine mG_iload_n C dX8_fact_4 rfl rfl ?_
  refine mG_Vi (Z := MX1_hasFact) (as := [.int p0]) (rest := []) C dX8_fact_5 lk_466 zX1_hasFact ⟨Nat.le_of_ble_eq_true rfl, Nat.le_of_ble_eq_true rfl⟩ sh1 rfl rfl (Nat.le_of_ble_eq_true rfl) rfl K (fun v1 u1 K => ?_)
  refine mG_if_ne (tgt := 14) C dX8_fact_8 rfl (fun h => ?_) (fun h => ?_)
  · have K := K.1 h
    refine mG_iload_n C dX8_fact_14 rfl rfl ?_
    refine mG_if_lt (tgt := 23) C dX8_fact_15 rfl (fun h => ?_) (fun h => ?_)
    · have K := K.1 h
      refine mG_bipush C dX8_fact_23 bpm3 ?_
      exact mG_iret C F dX8_fact_25 rfl rfl K
    · have K := K.2 h
      refine mG_iload_n C dX8_fact_18 rfl rfl ?_
      refine mG_iconst C dX8_fact_19 ic2 ?_
      refine mG_icmp_le (tgt := 26) C dX8_fact_20 rfl (fun h => ?_) (fun h => ?_)
      · have K := K.1 h
        refine mG_iload_n C dX8_fact_26 rfl rfl ?_
        refine mG_iconst C dX8_fact_27 ic2 ?_
        refine mG_icmp_ne (tgt := 45) C dX8_fact_28 rfl (fun h => ?_) (fun h => ?_)
        · have K := K.1 h
          refine mG_aload_n C dX8_fact_45 rfl rfl ?_
          refine mG_getR C dX8_fact_46 fl_285 sh0 rfl ?_
          refine mG_getR C dX8_fact_49 fl_52 sh1 rfl ?_
          refine mG_iload_n C dX8_fact_52 rfl rfl ?_
          obtain ⟨h1, K⟩ := K
          refine mG_aald (b := 3) C dX8_fact_53 sh2 h1 rs3 ?_
          refine mG_iload_n C dX8_fact_54 rfl rfl ?_
          obtain ⟨h2, K⟩ := K
          refine mG_iald C dX8_fact_55 (shr3 h1) h2 ?_
          exact mG_iret C F dX8_fact_56 rfl rfl K
        · have K := K.2 h
          refine mG_aload_n C dX8_fact_31 rfl rfl ?_
          refine mG_getR C dX8_fact_32 fl_287 sh0 rfl ?_
          refine mG_getI C dX8_fact_35 fl_123 sh39 rfl ?_
          refine mG_iload_n C dX8_fact_38 rfl rfl ?_
          refine mG_ishr C dX8_fact_39 ?_
          refine mG_iconst C dX8_fact_40 ic1 ?_
          refine mG_iand C dX8_fact_41 ?_
          refine mG_goto (tgt := 56) C dX8_fact_42 rfl ?_
          exact mG_iret C F dX8_fact_56 rfl rfl K
      · have K := K.2 h
        refine mG_bipush C dX8_fact_23 bpm3 ?_
        exact mG_iret C F dX8_fact_25 rfl rfl K
  · have K := K.2 h
    refine mG_bipush C dX8_fact_11 bpm2 ?_
    exact mG_iret C F dX8_fact_13 rfl rfl K

set_option maxRecDepth 20000 in
set_option maxHeartbeats 4000000 in
theorem vX8_fault_0 {X : mX} {E : mEnv} {Qm : Option Value → mW → Prop} (C : mCtx X E MX8_fault) (F : mFin X E MX8_fault Qm) {w : mW} 
    (K : mMi E MX5_firstFault [.ref 22, .ref 1] w (fun v1 u1 =>
    (Qm (some (.int v1)) u1))) :
    mG X E MX8_fault 0 [.ref 0] [] w := by
  refine mG_aload_n C dX8_fault_0 rfl rfl ?_
  refine mG_getR C dX8_fault_1 fl_286 sh0 rfl ?_
  refine mG_aload_n C dX8_fault_4 rfl rfl ?_
  refine mG_getR C dX8_fault_5 fl_285 sh0 rfl ?_
  refine mG_Vi (Z := MX5_firstFault) (as := [.ref 1]) (rest := []) C dX8_fault_8 lk_320 zX5_firstFault ⟨Nat.le_of_ble_eq_true rfl, Nat.le_of_ble_eq_true rfl⟩ sh22 rfl rfl (Nat.le_of_ble_eq_true rfl) rfl K (fun v1 u1 K => ?_)
  exact mG_iret C F dX8_fault_11 rfl rfl K

set_option maxRecDepth 20000 in
set_option maxHeartbeats 4000000 in
theorem vX8_isBit_0 {X : mX} {E : mEnv} {Qm : Option Value → mW → Prop} (C : mCtx X E MX8_isBit) (F : mFin X E MX8_isBit Qm) {w : mW}  (p0 : Int32)
    (K : (p0 = 0 →
    (Qm (some (.int (1 : Int32))) w)) ∧ (¬ p0 = 0 →
    ((¬ p0 = (1 : Int32) →
    (Qm (some (.int (0 : Int32))) w)) ∧ (p0 = (1 : Int32) →
    (Qm (some (.int (1 : Int32))) w))))) :
    mG X E MX8_isBit 0 [.int p0] [] w := by
  refine mG_iload_n C dX8_isBit_0 rfl rfl ?_
  refine mG_if_eq (tgt := 9) C dX8_isBit_1 rfl (fun h => ?_) (fun h => ?_)
  · have K := K.1 h
    refine mG_iconst C dX8_isBit_9 ic1 ?_
    refine mG_goto (tgt := 14) C dX8_isBit_10 rfl ?_
    exact mG_iret C F dX8_isBit_14 rfl (by decide) K
  · have K := K.2 h
    refine mG_iload_n C dX8_isBit_4 rfl rfl ?_
    refine mG_iconst C dX8_isBit_5 ic1 ?_
    refine mG_icmp_ne (tgt := 13) C dX8_isBit_6 rfl (fun h => ?_) (fun h => ?_)
    · have K := K.1 h
      refine mG_iconst C dX8_isBit_13 ic0 ?_
      exact mG_iret C F dX8_isBit_14 rfl (by decide) K
    · have K := K.2 h
      refine mG_iconst C dX8_isBit_9 ic1 ?_
      refine mG_goto (tgt := 14) C dX8_isBit_10 rfl ?_
      exact mG_iret C F dX8_isBit_14 rfl (by decide) K

set_option maxRecDepth 20000 in
set_option maxHeartbeats 4000000 in
theorem vX8_isUnder_0 {X : mX} {E : mEnv} {Qm : Option Value → mW → Prop} (C : mCtx X E MX8_isUnder) (F : mFin X E MX8_isUnder Qm) {w : mW} {t n : Nat} {f : Nat → Int32} (hz : ∀ (A : Nat → Prop) (U : State) (H : Heap), mRO E A U H → va_T .int (E.1 t) n (fun j => .int (f j)) A U H) (p1 : Int32) (p2 : Int32)
    (K : mG X E MX8_isUnder 5 [.ref t, .retAddr 0, .int p2, .int p1, .int (0 : Int32)] [] w) :
    mG X E MX8_isUnder 0 [.ref t, .int p1, .int p2, .retAddr 0, .retAddr 0] [] w := by
  refine mG_iload_n C dX8_isUnder_0 rfl rfl ?_
  refine mG_istore_n (lv' := [.ref t, .int p1, .int p2, .int p1, .retAddr 0]) C dX8_isUnder_1 rfl (by decide) rfl ?_
  refine mG_iconst C dX8_isUnder_2 ic0 ?_
  refine mG_istore (lv' := [.ref t, .int p1, .int p2, .int p1, .int (0 : Int32)]) C dX8_isUnder_3 (by decide) rfl ?_
  exact mG_holes [1] rfl K

set_option maxRecDepth 20000 in
set_option maxHeartbeats 4000000 in
theorem vX8_isUnder_5 {X : mX} {E : mEnv} {Qm : Option Value → mW → Prop} (C : mCtx X E MX8_isUnder) (F : mFin X E MX8_isUnder Qm) {w : mW} {t n : Nat} {f : Nat → Int32} (hz : ∀ (A : Nat → Prop) (U : State) (H : Heap), mRO E A U H → va_T .int (E.1 t) n (fun j => .int (f j)) A U H) (x2 : Int32) (x3 : Int32) (x4 : Int32)
    (K : ((Int32.ofNat n) ≤ x4 →
    (Qm (some (.int (0 : Int32))) w)) ∧ (¬ (Int32.ofNat n) ≤ x4 →
    ((x3 < 0 →
    (Qm (some (.int (0 : Int32))) w)) ∧ (¬ x3 < 0 →
    (((Int32.ofNat n) ≤ x3 →
    (Qm (some (.int (0 : Int32))) w)) ∧ (¬ (Int32.ofNat n) ≤ x3 →
    ((¬ x3 = x2 →
    (vp_in x3 n ∧
    (mG X E MX8_isUnder 5 [.ref t, .retAddr 0, .int x2, .int ((f) x3.toNatClampNeg), .int (x4 + (1 : Int32))] [] w))) ∧ (x3 = x2 →
    (Qm (some (.int (1 : Int32))) w))))))))) :
    mG X E MX8_isUnder 5 [.ref t, .retAddr 0, .int x2, .int x3, .int x4] [] w := by
  refine mG_iload C dX8_isUnder_5 rfl ?_
  refine mG_aload_n C dX8_isUnder_7 rfl rfl ?_
  refine mG_tlen C dX8_isUnder_8 hz rfl ?_
  refine mG_icmp_ge (tgt := 39) C dX8_isUnder_9 rfl (fun h => ?_) (fun h => ?_)
  · have K := K.1 h
    refine mG_iconst C dX8_isUnder_39 ic0 ?_
    exact mG_iret C F dX8_isUnder_40 rfl (by decide) K
  · have K := K.2 h
    refine mG_iload_n C dX8_isUnder_12 rfl rfl ?_
    refine mG_if_lt (tgt := 39) C dX8_isUnder_13 rfl (fun h => ?_) (fun h => ?_)
    · have K := K.1 h
      refine mG_iconst C dX8_isUnder_39 ic0 ?_
      exact mG_iret C F dX8_isUnder_40 rfl (by decide) K
    · have K := K.2 h
      refine mG_iload_n C dX8_isUnder_16 rfl rfl ?_
      refine mG_aload_n C dX8_isUnder_17 rfl rfl ?_
      refine mG_tlen C dX8_isUnder_18 hz rfl ?_
      refine mG_icmp_ge (tgt := 39) C dX8_isUnder_19 rfl (fun h => ?_) (fun h => ?_)
      · have K := K.1 h
        refine mG_iconst C dX8_isUnder_39 ic0 ?_
        exact mG_iret C F dX8_isUnder_40 rfl (by decide) K
      · have K := K.2 h
        refine mG_iload_n C dX8_isUnder_22 rfl rfl ?_
        refine mG_iload_n C dX8_isUnder_23 rfl rfl ?_
        refine mG_icmp_ne (tgt := 29) C dX8_isUnder_24 rfl (fun h => ?_) (fun h => ?_)
        · have K := K.1 h
          refine mG_aload_n C dX8_isUnder_29 rfl rfl ?_
          refine mG_iload_n C dX8_isUnder_30 rfl rfl ?_
          obtain ⟨h1, K⟩ := K
          refine mG_tald C dX8_isUnder_31 hz h1 ?_
          refine mG_istore_n (lv' := [.ref t, .retAddr 0, .int x2, .int ((f) x3.toNatClampNeg), .int x4]) C dX8_isUnder_32 rfl (by decide) rfl ?_
          refine mG_iincc (lv' := [.ref t, .retAddr 0, .int x2, .int ((f) x3.toNatClampNeg), .int (x4 + (1 : Int32))]) C dX8_isUnder_33 rfl ic1 (by decide) rfl ?_
          refine mG_goto (tgt := 5) C dX8_isUnder_36 rfl ?_
          exact K
        · have K := K.2 h
          refine mG_iconst C dX8_isUnder_27 ic1 ?_
          exact mG_iret C F dX8_isUnder_28 rfl (by decide) K

set_option maxRecDepth 20000 in
set_option maxHeartbeats 4000000 in
theorem vX8_keep_0 {X : mX} {E : mEnv} {Qm : Option Value → mW → Prop} (C : mCtx X E MX8_keep) (F : mFin X E MX8_keep Qm) {w : mW}  (p0 : Int32)
    (K : mMi E MX8_isBit [.int p0] w (fun v1 u1 =>
    ((¬ v1 = 0 →
    (mMv E MX2_put [.ref 39, .int ((8 : Int32) + p0)] u1 (fun u2 =>
    (Qm (some (.int (u2.1 39 1))) (mPI u2 39 4 ((u2.1 39 4) ||| ((1 : Int32) <<< (p0 &&& 31)))))))) ∧ (v1 = 0 →
    (Qm (some (.int (-2 : Int32))) u1))))) :
    mG X E MX8_keep 0 [.ref 0, .int p0] [] w := by
  refine mG_iload_n C dX8_keep_0 rfl rfl ?_
  refine mG_Si (Z := MX8_isBit) (as := [.int p0]) (rest := []) C dX8_keep_1 lk_527 zX8_isBit ⟨Nat.le_of_ble_eq_true rfl, Nat.le_of_ble_eq_true rfl⟩ rfl (Nat.le_of_ble_eq_true rfl) rfl K (fun v1 u1 K => ?_)
  refine mG_if_ne (tgt := 10) C dX8_keep_4 rfl (fun h => ?_) (fun h => ?_)
  · have K := K.1 h
    refine mG_aload_n C dX8_keep_10 rfl rfl ?_
    refine mG_getR C dX8_keep_11 fl_287 sh0 rfl ?_
    refine mG_bipush C dX8_keep_14 bp8 ?_
    refine mG_iload_n C dX8_keep_16 rfl rfl ?_
    refine mG_iadd C dX8_keep_17 ?_
    refine mG_Vv (Z := MX2_put) (as := [.int ((8 : Int32) + p0)]) (rest := []) C dX8_keep_18 lk_654 zX2_put ⟨Nat.le_of_ble_eq_true rfl, Nat.le_of_ble_eq_true rfl⟩ sh39 rfl rfl (Nat.le_of_ble_eq_true rfl) rfl K (fun u2 K => ?_)
    refine mG_aload_n C dX8_keep_21 rfl rfl ?_
    refine mG_getR C dX8_keep_22 fl_287 sh0 rfl ?_
    refine mG_dup C dX8_keep_25 rfl ?_
    refine mG_getI C dX8_keep_26 fl_131 sh39 rfl ?_
    refine mG_iconst C dX8_keep_29 ic1 ?_
    refine mG_iload_n C dX8_keep_30 rfl rfl ?_
    refine mG_ishl C dX8_keep_31 ?_
    refine mG_ior C dX8_keep_32 ?_
    refine mG_putI C dX8_keep_33 fp_131 sh39 rfl ?_
    refine mG_aload_n C dX8_keep_36 rfl rfl ?_
    refine mG_getR C dX8_keep_37 fl_287 sh0 rfl ?_
    refine mG_getIv C dX8_keep_40 fl_125 sh39 rfl (by first | rfl | simp [mPI, mPL]) ?_
    exact mG_iret C F dX8_keep_43 rfl rfl K
  · have K := K.2 h
    refine mG_bipush C dX8_keep_7 bpm2 ?_
    exact mG_iret C F dX8_keep_9 rfl rfl K

set_option maxRecDepth 20000 in
set_option maxHeartbeats 4000000 in
theorem vX8_night_0 {X : mX} {E : mEnv} {Qm : Option Value → mW → Prop} (C : mCtx X E MX8_night) (F : mFin X E MX8_night Qm) {w : mW} 
    (K : ((w.1 39 1) < (999 : Int32) →
    (mMv E MX2_remember [.ref 39] w (fun u1 =>
    (mMi E MX1_doers [.ref 1, .long (u1.2 39 3)] u1 (fun v1 u2 =>
    (mMi E MX1_dawn [.ref 1, .int (u1.1 39 0), .int v1] u2 (fun v2 u3 =>
    (mMi E MX1_sumOf [.ref 1, .int v2] (mPI (mPI u3 39 0 v2) 39 1 ((u3.1 39 1) + (1 : Int32))) (fun v3 u4 =>
    (Qm (some (.int (v3 + (9999 : Int32)))) u4)))))))))) ∧ (¬ (w.1 39 1) < (999 : Int32) →
    (Qm (some (.int (-5 : Int32))) w))) :
    mG X E MX8_night 0 [.ref 0] [] w := by
  refine mG_aload_n C dX8_night_0 rfl rfl ?_
  refine mG_getR C dX8_night_1 fl_287 sh0 rfl ?_
  refine mG_getI C dX8_night_4 fl_125 sh39 rfl ?_
  refine mG_sipush C dX8_night_7 sp999 ?_
  refine mG_icmp_lt (tgt := 16) C dX8_night_10 rfl (fun h => ?_) (fun h => ?_)
  · have K := K.1 h
    refine mG_aload_n C dX8_night_16 rfl rfl ?_
    refine mG_getR C dX8_night_17 fl_287 sh0 rfl ?_
    refine mG_Vv (Z := MX2_remember) (as := []) (rest := []) C dX8_night_20 lk_620 zX2_remember ⟨Nat.le_of_ble_eq_true rfl, Nat.le_of_ble_eq_true rfl⟩ sh39 rfl rfl (Nat.le_of_ble_eq_true rfl) rfl K (fun u1 K => ?_)
    refine mG_aload_n C dX8_night_23 rfl rfl ?_
    refine mG_getR C dX8_night_24 fl_287 sh0 rfl ?_
    refine mG_aload_n C dX8_night_27 rfl rfl ?_
    refine mG_getR C dX8_night_28 fl_285 sh0 rfl ?_
    refine mG_aload_n C dX8_night_31 rfl rfl ?_
    refine mG_getR C dX8_night_32 fl_287 sh0 rfl ?_
    refine mG_getI C dX8_night_35 fl_123 sh39 rfl ?_
    refine mG_aload_n C dX8_night_38 rfl rfl ?_
    refine mG_getR C dX8_night_39 fl_285 sh0 rfl ?_
    refine mG_aload_n C dX8_night_42 rfl rfl ?_
    refine mG_getR C dX8_night_43 fl_287 sh0 rfl ?_
    refine mG_getL C dX8_night_46 fl_129 sh39 rfl ?_
    refine mG_Vi (Z := MX1_doers) (as := [.long (u1.2 39 3)]) (rest := [.int (u1.1 39 0), .ref 1, .ref 39]) C dX8_night_49 lk_635 zX1_doers ⟨Nat.le_of_ble_eq_true rfl, Nat.le_of_ble_eq_true rfl⟩ sh1 rfl rfl (Nat.le_of_ble_eq_true rfl) rfl K (fun v1 u2 K => ?_)
    refine mG_Vi (Z := MX1_dawn) (as := [.int (u1.1 39 0), .int v1]) (rest := [.ref 39]) C dX8_night_52 lk_636 zX1_dawn ⟨Nat.le_of_ble_eq_true rfl, Nat.le_of_ble_eq_true rfl⟩ sh1 rfl rfl (Nat.le_of_ble_eq_true rfl) rfl K (fun v2 u3 K => ?_)
    refine mG_putI C dX8_night_55 fp_123 sh39 rfl ?_
    refine mG_aload_n C dX8_night_58 rfl rfl ?_
    refine mG_getR C dX8_night_59 fl_287 sh0 rfl ?_
    refine mG_dup C dX8_night_62 rfl ?_
    refine mG_getIv C dX8_night_63 fl_125 sh39 rfl (by first | rfl | simp [mPI, mPL]) ?_
    refine mG_iconst C dX8_night_66 ic1 ?_
    refine mG_iadd C dX8_night_67 ?_
    refine mG_putI C dX8_night_68 fp_125 sh39 rfl ?_
    refine mG_aload_n C dX8_night_71 rfl rfl ?_
    refine mG_getR C dX8_night_72 fl_285 sh0 rfl ?_
    refine mG_aload_n C dX8_night_75 rfl rfl ?_
    refine mG_getR C dX8_night_76 fl_287 sh0 rfl ?_
    refine mG_getIv C dX8_night_79 fl_123 sh39 rfl (by first | rfl | simp [mPI, mPL]) ?_
    refine mG_Vi (Z := MX1_sumOf) (as := [.int v2]) (rest := []) C dX8_night_82 lk_637 zX1_sumOf ⟨Nat.le_of_ble_eq_true rfl, Nat.le_of_ble_eq_true rfl⟩ sh1 rfl rfl (Nat.le_of_ble_eq_true rfl) rfl K (fun v3 u4 K => ?_)
    refine mG_sipush C dX8_night_85 sp9999 ?_
    refine mG_iadd C dX8_night_88 ?_
    exact mG_iret C F dX8_night_89 rfl rfl K
  · have K := K.2 h
    refine mG_bipush C dX8_night_13 bpm5 ?_
    exact mG_iret C F dX8_night_15 rfl rfl K

set_option maxRecDepth 20000 in
set_option maxHeartbeats 4000000 in
theorem vX8_one_0 {X : mX} {E : mEnv} {Qm : Option Value → mW → Prop} (C : mCtx X E MX8_one) (F : mFin X E MX8_one Qm) {w : mW}  (p0 : Int32) (p1 : Int32)
    (K : mMi E MX1_hasOne [.ref 1, .int p0] w (fun v1 u1 =>
    ((¬ v1 = 0 →
    ((p1 < 0 →
    (Qm (some (.int (-3 : Int32))) u1)) ∧ (¬ p1 < 0 →
    ((p1 ≤ (5 : Int32) →
    (vp_in p0 5 ∧
    (vp_in p1 6 ∧
    (Qm (some (.int (u1.1 (10 + p0.toNatClampNeg) p1.toNatClampNeg))) u1)))) ∧ (¬ p1 ≤ (5 : Int32) →
    (Qm (some (.int (-3 : Int32))) u1)))))) ∧ (v1 = 0 →
    (Qm (some (.int (-2 : Int32))) u1))))) :
    mG X E MX8_one 0 [.ref 0, .int p0, .int p1] [] w := by
  refine mG_aload_n C dX8_one_0 rfl rfl ?_
  refine mG_getR C dX8_one_1 fl_285 sh0 rfl ?_
  refine mG_iload_n C dX8_one_4 rfl rfl ?_
  refine mG_Vi (Z := MX1_hasOne) (as := [.int p0]) (rest := []) C dX8_one_5 lk_474 zX1_hasOne ⟨Nat.le_of_ble_eq_true rfl, Nat.le_of_ble_eq_true rfl⟩ sh1 rfl rfl (Nat.le_of_ble_eq_true rfl) rfl K (fun v1 u1 K => ?_)
  refine mG_if_ne (tgt := 14) C dX8_one_8 rfl (fun h => ?_) (fun h => ?_)
  · have K := K.1 h
    refine mG_iload_n C dX8_one_14 rfl rfl ?_
    refine mG_if_lt (tgt := 23) C dX8_one_15 rfl (fun h => ?_) (fun h => ?_)
    · have K := K.1 h
      refine mG_bipush C dX8_one_23 bpm3 ?_
      refine mG_goto (tgt := 39) C dX8_one_25 rfl ?_
      exact mG_iret C F dX8_one_39 rfl rfl K
    · have K := K.2 h
      refine mG_iload_n C dX8_one_18 rfl rfl ?_
      refine mG_iconst C dX8_one_19 ic5 ?_
      refine mG_icmp_le (tgt := 28) C dX8_one_20 rfl (fun h => ?_) (fun h => ?_)
      · have K := K.1 h
        refine mG_aload_n C dX8_one_28 rfl rfl ?_
        refine mG_getR C dX8_one_29 fl_285 sh0 rfl ?_
        refine mG_getR C dX8_one_32 fl_54 sh1 rfl ?_
        refine mG_iload_n C dX8_one_35 rfl rfl ?_
        obtain ⟨h1, K⟩ := K
        refine mG_aald (b := 10) C dX8_one_36 sh9 h1 rs10 ?_
        refine mG_iload_n C dX8_one_37 rfl rfl ?_
        obtain ⟨h2, K⟩ := K
        refine mG_iald C dX8_one_38 (shr10 h1) h2 ?_
        exact mG_iret C F dX8_one_39 rfl rfl K
      · have K := K.2 h
        refine mG_bipush C dX8_one_23 bpm3 ?_
        refine mG_goto (tgt := 39) C dX8_one_25 rfl ?_
        exact mG_iret C F dX8_one_39 rfl rfl K
  · have K := K.2 h
    refine mG_bipush C dX8_one_11 bpm2 ?_
    exact mG_iret C F dX8_one_13 rfl rfl K

set_option maxRecDepth 20000 in
set_option maxHeartbeats 4000000 in
theorem vX8_plan_0 {X : mX} {E : mEnv} {Qm : Option Value → mW → Prop} (C : mCtx X E MX8_plan) (F : mFin X E MX8_plan Qm) {w : mW}  (p0 : Int32) (p1 : Int32)
    (K : (p0 < (1 : Int32) →
    (Qm (some (.int (-3 : Int32))) w)) ∧ (¬ p0 < (1 : Int32) →
    (((2 : Int32) < p0 →
    (Qm (some (.int (-3 : Int32))) w)) ∧ (¬ (2 : Int32) < p0 →
    ((p1 < 0 →
    (Qm (some (.int (-3 : Int32))) w)) ∧ (¬ p1 < 0 →
    ((p1 ≤ (2 : Int32) →
    ((¬ p0 = (2 : Int32) →
    (mMv E MX6_seekPlan [.ref 58, .int (w.1 39 0), .long (w.2 39 3), .int (0 : Int32)] w (fun u1 =>
    ((¬ p1 = 0 →
    ((¬ p1 = (1 : Int32) →
    (Qm (some (.int (u1.1 58 5))) u1)) ∧ (p1 = (1 : Int32) →
    (Qm (some (.int (u1.1 58 4))) u1)))) ∧ (p1 = 0 →
    (Qm (some (.int ((u1.1 58 3) + (9999 : Int32)))) u1)))))) ∧ (p0 = (2 : Int32) →
    (mMv E MX6_seekPlan [.ref 58, .int (w.1 39 0), .long (w.2 39 3), .int (1 : Int32)] w (fun u2 =>
    ((¬ p1 = 0 →
    ((¬ p1 = (1 : Int32) →
    (Qm (some (.int (u2.1 58 5))) u2)) ∧ (p1 = (1 : Int32) →
    (Qm (some (.int (u2.1 58 4))) u2)))) ∧ (p1 = 0 →
    (Qm (some (.int ((u2.1 58 3) + (9999 : Int32)))) u2)))))))) ∧ (¬ p1 ≤ (2 : Int32) →
    (Qm (some (.int (-3 : Int32))) w))))))))) :
    mG X E MX8_plan 0 [.ref 0, .int p0, .int p1] [] w := by
  refine mG_iload_n C dX8_plan_0 rfl rfl ?_
  refine mG_iconst C dX8_plan_1 ic1 ?_
  refine mG_icmp_lt (tgt := 19) C dX8_plan_2 rfl (fun h => ?_) (fun h => ?_)
  · have K := K.1 h
    refine mG_bipush C dX8_plan_19 bpm3 ?_
    exact mG_iret C F dX8_plan_21 rfl rfl K
  · have K := K.2 h
    refine mG_iload_n C dX8_plan_5 rfl rfl ?_
    refine mG_iconst C dX8_plan_6 ic2 ?_
    refine mG_icmp_gt (tgt := 19) C dX8_plan_7 rfl (fun h => ?_) (fun h => ?_)
    · have K := K.1 h
      refine mG_bipush C dX8_plan_19 bpm3 ?_
      exact mG_iret C F dX8_plan_21 rfl rfl K
    · have K := K.2 h
      refine mG_iload_n C dX8_plan_10 rfl rfl ?_
      refine mG_if_lt (tgt := 19) C dX8_plan_11 rfl (fun h => ?_) (fun h => ?_)
      · have K := K.1 h
        refine mG_bipush C dX8_plan_19 bpm3 ?_
        exact mG_iret C F dX8_plan_21 rfl rfl K
      · have K := K.2 h
        refine mG_iload_n C dX8_plan_14 rfl rfl ?_
        refine mG_iconst C dX8_plan_15 ic2 ?_
        refine mG_icmp_le (tgt := 22) C dX8_plan_16 rfl (fun h => ?_) (fun h => ?_)
        · have K := K.1 h
          refine mG_aload_n C dX8_plan_22 rfl rfl ?_
          refine mG_getR C dX8_plan_23 fl_290 sh0 rfl ?_
          refine mG_aload_n C dX8_plan_26 rfl rfl ?_
          refine mG_getR C dX8_plan_27 fl_287 sh0 rfl ?_
          refine mG_getI C dX8_plan_30 fl_123 sh39 rfl ?_
          refine mG_aload_n C dX8_plan_33 rfl rfl ?_
          refine mG_getR C dX8_plan_34 fl_287 sh0 rfl ?_
          refine mG_getL C dX8_plan_37 fl_129 sh39 rfl ?_
          refine mG_iload_n C dX8_plan_40 rfl rfl ?_
          refine mG_iconst C dX8_plan_41 ic2 ?_
          refine mG_icmp_ne (tgt := 49) C dX8_plan_42 rfl (fun h => ?_) (fun h => ?_)
          · have K := K.1 h
            refine mG_iconst C dX8_plan_49 ic0 ?_
            refine mG_Vv (Z := MX6_seekPlan) (as := [.int (w.1 39 0), .long (w.2 39 3), .int (0 : Int32)]) (rest := []) C dX8_plan_50 lk_780 zX6_seekPlan ⟨Nat.le_of_ble_eq_true rfl, Nat.le_of_ble_eq_true rfl⟩ sh58 rfl rfl (Nat.le_of_ble_eq_true rfl) rfl K (fun u1 K => ?_)
            refine mG_iload_n C dX8_plan_53 rfl rfl ?_
            refine mG_if_ne (tgt := 71) C dX8_plan_54 rfl (fun h => ?_) (fun h => ?_)
            · have K := K.1 h
              refine mG_iload_n C dX8_plan_71 rfl rfl ?_
              refine mG_iconst C dX8_plan_72 ic1 ?_
              refine mG_icmp_ne (tgt := 86) C dX8_plan_73 rfl (fun h => ?_) (fun h => ?_)
              · have K := K.1 h
                refine mG_aload_n C dX8_plan_86 rfl rfl ?_
                refine mG_getR C dX8_plan_87 fl_290 sh0 rfl ?_
                refine mG_getI C dX8_plan_90 fl_260 sh58 rfl ?_
                exact mG_iret C F dX8_plan_93 rfl rfl K
              · have K := K.2 h
                refine mG_aload_n C dX8_plan_76 rfl rfl ?_
                refine mG_getR C dX8_plan_77 fl_290 sh0 rfl ?_
                refine mG_getI C dX8_plan_80 fl_258 sh58 rfl ?_
                refine mG_goto (tgt := 93) C dX8_plan_83 rfl ?_
                exact mG_iret C F dX8_plan_93 rfl rfl K
            · have K := K.2 h
              refine mG_aload_n C dX8_plan_57 rfl rfl ?_
              refine mG_getR C dX8_plan_58 fl_290 sh0 rfl ?_
              refine mG_getI C dX8_plan_61 fl_256 sh58 rfl ?_
              refine mG_sipush C dX8_plan_64 sp9999 ?_
              refine mG_iadd C dX8_plan_67 ?_
              refine mG_goto (tgt := 93) C dX8_plan_68 rfl ?_
              exact mG_iret C F dX8_plan_93 rfl rfl K
          · have K := K.2 h
            refine mG_iconst C dX8_plan_45 ic1 ?_
            refine mG_goto (tgt := 50) C dX8_plan_46 rfl ?_
            refine mG_Vv (Z := MX6_seekPlan) (as := [.int (w.1 39 0), .long (w.2 39 3), .int (1 : Int32)]) (rest := []) C dX8_plan_50 lk_780 zX6_seekPlan ⟨Nat.le_of_ble_eq_true rfl, Nat.le_of_ble_eq_true rfl⟩ sh58 rfl rfl (Nat.le_of_ble_eq_true rfl) rfl K (fun u2 K => ?_)
            refine mG_iload_n C dX8_plan_53 rfl rfl ?_
            refine mG_if_ne (tgt := 71) C dX8_plan_54 rfl (fun h => ?_) (fun h => ?_)
            · have K := K.1 h
              refine mG_iload_n C dX8_plan_71 rfl rfl ?_
              refine mG_iconst C dX8_plan_72 ic1 ?_
              refine mG_icmp_ne (tgt := 86) C dX8_plan_73 rfl (fun h => ?_) (fun h => ?_)
              · have K := K.1 h
                refine mG_aload_n C dX8_plan_86 rfl rfl ?_
                refine mG_getR C dX8_plan_87 fl_290 sh0 rfl ?_
                refine mG_getI C dX8_plan_90 fl_260 sh58 rfl ?_
                exact mG_iret C F dX8_plan_93 rfl rfl K
              · have K := K.2 h
                refine mG_aload_n C dX8_plan_76 rfl rfl ?_
                refine mG_getR C dX8_plan_77 fl_290 sh0 rfl ?_
                refine mG_getI C dX8_plan_80 fl_258 sh58 rfl ?_
                refine mG_goto (tgt := 93) C dX8_plan_83 rfl ?_
                exact mG_iret C F dX8_plan_93 rfl rfl K
            · have K := K.2 h
              refine mG_aload_n C dX8_plan_57 rfl rfl ?_
              refine mG_getR C dX8_plan_58 fl_290 sh0 rfl ?_
              refine mG_getI C dX8_plan_61 fl_256 sh58 rfl ?_
              refine mG_sipush C dX8_plan_64 sp9999 ?_
              refine mG_iadd C dX8_plan_67 ?_
              refine mG_goto (tgt := 93) C dX8_plan_68 rfl ?_
              exact mG_iret C F dX8_plan_93 rfl rfl K
        · have K := K.2 h
          refine mG_bipush C dX8_plan_19 bpm3 ?_
          exact mG_iret C F dX8_plan_21 rfl rfl K

set_option maxRecDepth 20000 in
set_option maxHeartbeats 4000000 in
theorem vX8_refusalOf_0 {X : mX} {E : mEnv} {Qm : Option Value → mW → Prop} (C : mCtx X E MX8_refusalOf) (F : mFin X E MX8_refusalOf Qm) {w : mW}  (p0 : Int32) (p1 : Int32) (p2 : Int32) (p3 : Int32) (p4 : Int32)
    (K : mMi E MX7_isKind [.int p0] w (fun v1 u1 =>
    ((¬ v1 = 0 →
    (mMi E MX7_isPair [.int p0] u1 (fun v2 u2 =>
    (mMi E MX1_hasFact [.ref 1, .int p1] u2 (fun v3 u3 =>
    ((v3 = 0 →
    (Qm (some (.int (-2 : Int32))) u3)) ∧ (¬ v3 = 0 →
    ((v2 = 0 →
    (mMi E MX8_isBit [.int p2] u3 (fun v4 u4 =>
    ((v4 = 0 →
    (Qm (some (.int (-3 : Int32))) u4)) ∧ (¬ v4 = 0 →
    ((v2 = 0 →
    (Qm (some (.int (0 : Int32))) u4)) ∧ (¬ v2 = 0 →
    (mMi E MX8_isBit [.int p4] u4 (fun v5 u5 =>
    ((v5 = 0 →
    (Qm (some (.int (-3 : Int32))) u5)) ∧ (¬ v5 = 0 →
    (Qm (some (.int (0 : Int32))) u5)))))))))))) ∧ (¬ v2 = 0 →
    (mMi E MX1_hasFact [.ref 1, .int p3] u3 (fun v6 u6 =>
    ((v6 = 0 →
    (Qm (some (.int (-2 : Int32))) u6)) ∧ (¬ v6 = 0 →
    ((¬ p3 = p1 →
    (mMi E MX8_isBit [.int p2] u6 (fun v7 u7 =>
    ((v7 = 0 →
    (Qm (some (.int (-3 : Int32))) u7)) ∧ (¬ v7 = 0 →
    ((v2 = 0 →
    (Qm (some (.int (0 : Int32))) u7)) ∧ (¬ v2 = 0 →
    (mMi E MX8_isBit [.int p4] u7 (fun v8 u8 =>
    ((v8 = 0 →
    (Qm (some (.int (-3 : Int32))) u8)) ∧ (¬ v8 = 0 →
    (Qm (some (.int (0 : Int32))) u8)))))))))))) ∧ (p3 = p1 →
    (Qm (some (.int (-2 : Int32))) u6)))))))))))))))) ∧ (v1 = 0 →
    (Qm (some (.int (-3 : Int32))) u1))))) :
    mG X E MX8_refusalOf 0 [.ref 0, .int p0, .int p1, .int p2, .int p3, .int p4, .retAddr 0] [] w := by
  refine mG_iload_n C dX8_refusalOf_0 rfl rfl ?_
  refine mG_Si (Z := MX7_isKind) (as := [.int p0]) (rest := []) C dX8_refusalOf_1 lk_524 zX7_isKind ⟨Nat.le_of_ble_eq_true rfl, Nat.le_of_ble_eq_true rfl⟩ rfl (Nat.le_of_ble_eq_true rfl) rfl K (fun v1 u1 K => ?_)
  refine mG_if_ne (tgt := 10) C dX8_refusalOf_4 rfl (fun h => ?_) (fun h => ?_)
  · have K := K.1 h
    refine mG_iload_n C dX8_refusalOf_10 rfl rfl ?_
    refine mG_Si (Z := MX7_isPair) (as := [.int p0]) (rest := []) C dX8_refusalOf_11 lk_513 zX7_isPair ⟨Nat.le_of_ble_eq_true rfl, Nat.le_of_ble_eq_true rfl⟩ rfl (Nat.le_of_ble_eq_true rfl) rfl K (fun v2 u2 K => ?_)
    refine mG_istore (lv' := [.ref 0, .int p0, .int p1, .int p2, .int p3, .int p4, .int v2]) C dX8_refusalOf_14 (by decide) rfl ?_
    refine mG_aload_n C dX8_refusalOf_16 rfl rfl ?_
    refine mG_getR C dX8_refusalOf_17 fl_285 sh0 rfl ?_
    refine mG_iload_n C dX8_refusalOf_20 rfl rfl ?_
    refine mG_Vi (Z := MX1_hasFact) (as := [.int p1]) (rest := []) C dX8_refusalOf_21 lk_466 zX1_hasFact ⟨Nat.le_of_ble_eq_true rfl, Nat.le_of_ble_eq_true rfl⟩ sh1 rfl rfl (Nat.le_of_ble_eq_true rfl) rfl K (fun v3 u3 K => ?_)
    refine mG_if_eq (tgt := 50) C dX8_refusalOf_24 rfl (fun h => ?_) (fun h => ?_)
    · have K := K.1 h
      refine mG_bipush C dX8_refusalOf_50 bpm2 ?_
      exact mG_iret C F dX8_refusalOf_52 rfl rfl K
    · have K := K.2 h
      refine mG_iload C dX8_refusalOf_27 rfl ?_
      refine mG_if_eq (tgt := 53) C dX8_refusalOf_29 rfl (fun h => ?_) (fun h => ?_)
      · have K := K.1 h
        refine mG_iload_n C dX8_refusalOf_53 rfl rfl ?_
        refine mG_Si (Z := MX8_isBit) (as := [.int p2]) (rest := []) C dX8_refusalOf_54 lk_527 zX8_isBit ⟨Nat.le_of_ble_eq_true rfl, Nat.le_of_ble_eq_true rfl⟩ rfl (Nat.le_of_ble_eq_true rfl) rfl K (fun v4 u4 K => ?_)
        refine mG_if_eq (tgt := 77) C dX8_refusalOf_57 rfl (fun h => ?_) (fun h => ?_)
        · have K := K.1 h
          refine mG_bipush C dX8_refusalOf_77 bpm3 ?_
          exact mG_iret C F dX8_refusalOf_79 rfl rfl K
        · have K := K.2 h
          refine mG_iload C dX8_refusalOf_60 rfl ?_
          refine mG_if_eq (tgt := 73) C dX8_refusalOf_62 rfl (fun h => ?_) (fun h => ?_)
          · have K := K.1 h
            refine mG_iconst C dX8_refusalOf_73 ic0 ?_
            refine mG_goto (tgt := 79) C dX8_refusalOf_74 rfl ?_
            exact mG_iret C F dX8_refusalOf_79 rfl rfl K
          · have K := K.2 h
            refine mG_iload C dX8_refusalOf_65 rfl ?_
            refine mG_Si (Z := MX8_isBit) (as := [.int p4]) (rest := []) C dX8_refusalOf_67 lk_527 zX8_isBit ⟨Nat.le_of_ble_eq_true rfl, Nat.le_of_ble_eq_true rfl⟩ rfl (Nat.le_of_ble_eq_true rfl) rfl K (fun v5 u5 K => ?_)
            refine mG_if_eq (tgt := 77) C dX8_refusalOf_70 rfl (fun h => ?_) (fun h => ?_)
            · have K := K.1 h
              refine mG_bipush C dX8_refusalOf_77 bpm3 ?_
              exact mG_iret C F dX8_refusalOf_79 rfl rfl K
            · have K := K.2 h
              refine mG_iconst C dX8_refusalOf_73 ic0 ?_
              refine mG_goto (tgt := 79) C dX8_refusalOf_74 rfl ?_
              exact mG_iret C F dX8_refusalOf_79 rfl rfl K
      · have K := K.2 h
        refine mG_aload_n C dX8_refusalOf_32 rfl rfl ?_
        refine mG_getR C dX8_refusalOf_33 fl_285 sh0 rfl ?_
        refine mG_iload C dX8_refusalOf_36 rfl ?_
        refine mG_Vi (Z := MX1_hasFact) (as := [.int p3]) (rest := []) C dX8_refusalOf_38 lk_466 zX1_hasFact ⟨Nat.le_of_ble_eq_true rfl, Nat.le_of_ble_eq_true rfl⟩ sh1 rfl rfl (Nat.le_of_ble_eq_true rfl) rfl K (fun v6 u6 K => ?_)
        refine mG_if_eq (tgt := 50) C dX8_refusalOf_41 rfl (fun h => ?_) (fun h => ?_)
        · have K := K.1 h
          refine mG_bipush C dX8_refusalOf_50 bpm2 ?_
          exact mG_iret C F dX8_refusalOf_52 rfl rfl K
        · have K := K.2 h
          refine mG_iload C dX8_refusalOf_44 rfl ?_
          refine mG_iload_n C dX8_refusalOf_46 rfl rfl ?_
          refine mG_icmp_ne (tgt := 53) C dX8_refusalOf_47 rfl (fun h => ?_) (fun h => ?_)
          · have K := K.1 h
            refine mG_iload_n C dX8_refusalOf_53 rfl rfl ?_
            refine mG_Si (Z := MX8_isBit) (as := [.int p2]) (rest := []) C dX8_refusalOf_54 lk_527 zX8_isBit ⟨Nat.le_of_ble_eq_true rfl, Nat.le_of_ble_eq_true rfl⟩ rfl (Nat.le_of_ble_eq_true rfl) rfl K (fun v7 u7 K => ?_)
            refine mG_if_eq (tgt := 77) C dX8_refusalOf_57 rfl (fun h => ?_) (fun h => ?_)
            · have K := K.1 h
              refine mG_bipush C dX8_refusalOf_77 bpm3 ?_
              exact mG_iret C F dX8_refusalOf_79 rfl rfl K
            · have K := K.2 h
              refine mG_iload C dX8_refusalOf_60 rfl ?_
              refine mG_if_eq (tgt := 73) C dX8_refusalOf_62 rfl (fun h => ?_) (fun h => ?_)
              · have K := K.1 h
                refine mG_iconst C dX8_refusalOf_73 ic0 ?_
                refine mG_goto (tgt := 79) C dX8_refusalOf_74 rfl ?_
                exact mG_iret C F dX8_refusalOf_79 rfl rfl K
              · have K := K.2 h
                refine mG_iload C dX8_refusalOf_65 rfl ?_
                refine mG_Si (Z := MX8_isBit) (as := [.int p4]) (rest := []) C dX8_refusalOf_67 lk_527 zX8_isBit ⟨Nat.le_of_ble_eq_true rfl, Nat.le_of_ble_eq_true rfl⟩ rfl (Nat.le_of_ble_eq_true rfl) rfl K (fun v8 u8 K => ?_)
                refine mG_if_eq (tgt := 77) C dX8_refusalOf_70 rfl (fun h => ?_) (fun h => ?_)
                · have K := K.1 h
                  refine mG_bipush C dX8_refusalOf_77 bpm3 ?_
                  exact mG_iret C F dX8_refusalOf_79 rfl rfl K
                · have K := K.2 h
                  refine mG_iconst C dX8_refusalOf_73 ic0 ?_
                  refine mG_goto (tgt := 79) C dX8_refusalOf_74 rfl ?_
                  exact mG_iret C F dX8_refusalOf_79 rfl rfl K
          · have K := K.2 h
            refine mG_bipush C dX8_refusalOf_50 bpm2 ?_
            exact mG_iret C F dX8_refusalOf_52 rfl rfl K
  · have K := K.2 h
    refine mG_bipush C dX8_refusalOf_7 bpm3 ?_
    exact mG_iret C F dX8_refusalOf_9 rfl rfl K

set_option maxRecDepth 20000 in
set_option maxHeartbeats 4000000 in
theorem vX8_rests_0 {X : mX} {E : mEnv} {Qm : Option Value → mW → Prop} (C : mCtx X E MX8_rests) (F : mFin X E MX8_rests Qm) {w : mW}  (p0 : Int32) (p1 : Int32) (p2 : Int32) (p3 : Int32) (p4 : Int32)
    (K : mMi E MX1_hasOne [.ref 1, .int p0] w (fun v1 u1 =>
    ((v1 = 0 →
    (Qm (some (.int (-2 : Int32))) u1)) ∧ (¬ v1 = 0 →
    (mMi E MX1_hasOne [.ref 1, .int p1] u1 (fun v2 u2 =>
    ((v2 = 0 →
    (Qm (some (.int (-2 : Int32))) u2)) ∧ (¬ v2 = 0 →
    ((p0 = p1 →
    (Qm (some (.int (-2 : Int32))) u2)) ∧ (¬ p0 = p1 →
    (mMi E MX1_hasFact [.ref 1, .int p2] u2 (fun v3 u3 =>
    ((¬ v3 = 0 →
    (mMi E MX8_isBit [.int p3] u3 (fun v4 u4 =>
    ((v4 = 0 →
    (Qm (some (.int (-3 : Int32))) u4)) ∧ (¬ v4 = 0 →
    (mMi E MX8_isBit [.int p4] u4 (fun v5 u5 =>
    ((¬ v5 = 0 →
    (mMv E MX3_look [.ref 46, .int (u5.1 39 0), .long (u5.2 39 3)] u5 (fun u6 =>
    (mMv E MX6_countRests [.ref 58, .long (u6.2 39 3), .int p0, .int p1, .int p2, .int p3] u6 (fun u7 =>
    ((¬ p4 = 0 →
    (Qm (some (.int (u7.1 58 7))) u7)) ∧ (p4 = 0 →
    (Qm (some (.int (u7.1 58 6))) u7)))))))) ∧ (v5 = 0 →
    (Qm (some (.int (-3 : Int32))) u5)))))))))) ∧ (v3 = 0 →
    (Qm (some (.int (-2 : Int32))) u3))))))))))))))) :
    mG X E MX8_rests 0 [.ref 0, .int p0, .int p1, .int p2, .int p3, .int p4] [] w := by
  refine mG_aload_n C dX8_rests_0 rfl rfl ?_
  refine mG_getR C dX8_rests_1 fl_285 sh0 rfl ?_
  refine mG_iload_n C dX8_rests_4 rfl rfl ?_
  refine mG_Vi (Z := MX1_hasOne) (as := [.int p0]) (rest := []) C dX8_rests_5 lk_474 zX1_hasOne ⟨Nat.le_of_ble_eq_true rfl, Nat.le_of_ble_eq_true rfl⟩ sh1 rfl rfl (Nat.le_of_ble_eq_true rfl) rfl K (fun v1 u1 K => ?_)
  refine mG_if_eq (tgt := 38) C dX8_rests_8 rfl (fun h => ?_) (fun h => ?_)
  · have K := K.1 h
    refine mG_bipush C dX8_rests_38 bpm2 ?_
    exact mG_iret C F dX8_rests_40 rfl rfl K
  · have K := K.2 h
    refine mG_aload_n C dX8_rests_11 rfl rfl ?_
    refine mG_getR C dX8_rests_12 fl_285 sh0 rfl ?_
    refine mG_iload_n C dX8_rests_15 rfl rfl ?_
    refine mG_Vi (Z := MX1_hasOne) (as := [.int p1]) (rest := []) C dX8_rests_16 lk_474 zX1_hasOne ⟨Nat.le_of_ble_eq_true rfl, Nat.le_of_ble_eq_true rfl⟩ sh1 rfl rfl (Nat.le_of_ble_eq_true rfl) rfl K (fun v2 u2 K => ?_)
    refine mG_if_eq (tgt := 38) C dX8_rests_19 rfl (fun h => ?_) (fun h => ?_)
    · have K := K.1 h
      refine mG_bipush C dX8_rests_38 bpm2 ?_
      exact mG_iret C F dX8_rests_40 rfl rfl K
    · have K := K.2 h
      refine mG_iload_n C dX8_rests_22 rfl rfl ?_
      refine mG_iload_n C dX8_rests_23 rfl rfl ?_
      refine mG_icmp_eq (tgt := 38) C dX8_rests_24 rfl (fun h => ?_) (fun h => ?_)
      · have K := K.1 h
        refine mG_bipush C dX8_rests_38 bpm2 ?_
        exact mG_iret C F dX8_rests_40 rfl rfl K
      · have K := K.2 h
        refine mG_aload_n C dX8_rests_27 rfl rfl ?_
        refine mG_getR C dX8_rests_28 fl_285 sh0 rfl ?_
        refine mG_iload_n C dX8_rests_31 rfl rfl ?_
        refine mG_Vi (Z := MX1_hasFact) (as := [.int p2]) (rest := []) C dX8_rests_32 lk_466 zX1_hasFact ⟨Nat.le_of_ble_eq_true rfl, Nat.le_of_ble_eq_true rfl⟩ sh1 rfl rfl (Nat.le_of_ble_eq_true rfl) rfl K (fun v3 u3 K => ?_)
        refine mG_if_ne (tgt := 41) C dX8_rests_35 rfl (fun h => ?_) (fun h => ?_)
        · have K := K.1 h
          refine mG_iload C dX8_rests_41 rfl ?_
          refine mG_Si (Z := MX8_isBit) (as := [.int p3]) (rest := []) C dX8_rests_43 lk_527 zX8_isBit ⟨Nat.le_of_ble_eq_true rfl, Nat.le_of_ble_eq_true rfl⟩ rfl (Nat.le_of_ble_eq_true rfl) rfl K (fun v4 u4 K => ?_)
          refine mG_if_eq (tgt := 57) C dX8_rests_46 rfl (fun h => ?_) (fun h => ?_)
          · have K := K.1 h
            refine mG_bipush C dX8_rests_57 bpm3 ?_
            exact mG_iret C F dX8_rests_59 rfl rfl K
          · have K := K.2 h
            refine mG_iload C dX8_rests_49 rfl ?_
            refine mG_Si (Z := MX8_isBit) (as := [.int p4]) (rest := []) C dX8_rests_51 lk_527 zX8_isBit ⟨Nat.le_of_ble_eq_true rfl, Nat.le_of_ble_eq_true rfl⟩ rfl (Nat.le_of_ble_eq_true rfl) rfl K (fun v5 u5 K => ?_)
            refine mG_if_ne (tgt := 60) C dX8_rests_54 rfl (fun h => ?_) (fun h => ?_)
            · have K := K.1 h
              refine mG_aload_n C dX8_rests_60 rfl rfl ?_
              refine mG_getR C dX8_rests_61 fl_289 sh0 rfl ?_
              refine mG_aload_n C dX8_rests_64 rfl rfl ?_
              refine mG_getR C dX8_rests_65 fl_287 sh0 rfl ?_
              refine mG_getI C dX8_rests_68 fl_123 sh39 rfl ?_
              refine mG_aload_n C dX8_rests_71 rfl rfl ?_
              refine mG_getR C dX8_rests_72 fl_287 sh0 rfl ?_
              refine mG_getL C dX8_rests_75 fl_129 sh39 rfl ?_
              refine mG_Vv (Z := MX3_look) (as := [.int (u5.1 39 0), .long (u5.2 39 3)]) (rest := []) C dX8_rests_78 lk_530 zX3_look ⟨Nat.le_of_ble_eq_true rfl, Nat.le_of_ble_eq_true rfl⟩ sh46 rfl rfl (Nat.le_of_ble_eq_true rfl) rfl K (fun u6 K => ?_)
              refine mG_aload_n C dX8_rests_81 rfl rfl ?_
              refine mG_getR C dX8_rests_82 fl_290 sh0 rfl ?_
              refine mG_aload_n C dX8_rests_85 rfl rfl ?_
              refine mG_getR C dX8_rests_86 fl_287 sh0 rfl ?_
              refine mG_getL C dX8_rests_89 fl_129 sh39 rfl ?_
              refine mG_iload_n C dX8_rests_92 rfl rfl ?_
              refine mG_iload_n C dX8_rests_93 rfl rfl ?_
              refine mG_iload_n C dX8_rests_94 rfl rfl ?_
              refine mG_iload C dX8_rests_95 rfl ?_
              refine mG_Vv (Z := MX6_countRests) (as := [.long (u6.2 39 3), .int p0, .int p1, .int p2, .int p3]) (rest := []) C dX8_rests_97 lk_728 zX6_countRests ⟨Nat.le_of_ble_eq_true rfl, Nat.le_of_ble_eq_true rfl⟩ sh58 rfl rfl (Nat.le_of_ble_eq_true rfl) rfl K (fun u7 K => ?_)
              refine mG_iload C dX8_rests_100 rfl ?_
              refine mG_if_ne (tgt := 115) C dX8_rests_102 rfl (fun h => ?_) (fun h => ?_)
              · have K := K.1 h
                refine mG_aload_n C dX8_rests_115 rfl rfl ?_
                refine mG_getR C dX8_rests_116 fl_290 sh0 rfl ?_
                refine mG_getI C dX8_rests_119 fl_264 sh58 rfl ?_
                exact mG_iret C F dX8_rests_122 rfl rfl K
              · have K := K.2 h
                refine mG_aload_n C dX8_rests_105 rfl rfl ?_
                refine mG_getR C dX8_rests_106 fl_290 sh0 rfl ?_
                refine mG_getI C dX8_rests_109 fl_262 sh58 rfl ?_
                refine mG_goto (tgt := 122) C dX8_rests_112 rfl ?_
                exact mG_iret C F dX8_rests_122 rfl rfl K
            · have K := K.2 h
              refine mG_bipush C dX8_rests_57 bpm3 ?_
              exact mG_iret C F dX8_rests_59 rfl rfl K
        · have K := K.2 h
          refine mG_bipush C dX8_rests_38 bpm2 ?_
          exact mG_iret C F dX8_rests_40 rfl rfl K

set_option maxRecDepth 20000 in
set_option maxHeartbeats 4000000 in
theorem vX8_said_0 {X : mX} {E : mEnv} {Qm : Option Value → mW → Prop} (C : mCtx X E MX8_said) (F : mFin X E MX8_said Qm) {w : mW}  (p0 : Int32) (p1 : Int32) (p2 : Int32)
    (K : mMi E MX1_hasOne [.ref 1, .int p0] w (fun v1 u1 =>
    ((¬ v1 = 0 →
    (mMi E MX8_isBit [.int p1] u1 (fun v2 u2 =>
    ((v2 = 0 →
    (Qm (some (.int (-3 : Int32))) u2)) ∧ (¬ v2 = 0 →
    (mMi E MX8_isBit [.int p2] u2 (fun v3 u3 =>
    ((¬ v3 = 0 →
    (mMv E MX3_look [.ref 46, .int (u3.1 39 0), .long (u3.2 39 3)] u3 (fun u4 =>
    ((¬ p1 = (1 : Int32) →
    (mMv E MX6_countSaid [.ref 58, .int p0, .int (0 : Int32)] u4 (fun u5 =>
    ((¬ p2 = 0 →
    (Qm (some (.int (u5.1 58 7))) u5)) ∧ (p2 = 0 →
    (Qm (some (.int (u5.1 58 6))) u5)))))) ∧ (p1 = (1 : Int32) →
    (mMv E MX6_countSaid [.ref 58, .int p0, .int (1 : Int32)] u4 (fun u6 =>
    ((¬ p2 = 0 →
    (Qm (some (.int (u6.1 58 7))) u6)) ∧ (p2 = 0 →
    (Qm (some (.int (u6.1 58 6))) u6)))))))))) ∧ (v3 = 0 →
    (Qm (some (.int (-3 : Int32))) u3)))))))))) ∧ (v1 = 0 →
    (Qm (some (.int (-2 : Int32))) u1))))) :
    mG X E MX8_said 0 [.ref 0, .int p0, .int p1, .int p2] [] w := by
  refine mG_aload_n C dX8_said_0 rfl rfl ?_
  refine mG_getR C dX8_said_1 fl_285 sh0 rfl ?_
  refine mG_iload_n C dX8_said_4 rfl rfl ?_
  refine mG_Vi (Z := MX1_hasOne) (as := [.int p0]) (rest := []) C dX8_said_5 lk_474 zX1_hasOne ⟨Nat.le_of_ble_eq_true rfl, Nat.le_of_ble_eq_true rfl⟩ sh1 rfl rfl (Nat.le_of_ble_eq_true rfl) rfl K (fun v1 u1 K => ?_)
  refine mG_if_ne (tgt := 14) C dX8_said_8 rfl (fun h => ?_) (fun h => ?_)
  · have K := K.1 h
    refine mG_iload_n C dX8_said_14 rfl rfl ?_
    refine mG_Si (Z := MX8_isBit) (as := [.int p1]) (rest := []) C dX8_said_15 lk_527 zX8_isBit ⟨Nat.le_of_ble_eq_true rfl, Nat.le_of_ble_eq_true rfl⟩ rfl (Nat.le_of_ble_eq_true rfl) rfl K (fun v2 u2 K => ?_)
    refine mG_if_eq (tgt := 28) C dX8_said_18 rfl (fun h => ?_) (fun h => ?_)
    · have K := K.1 h
      refine mG_bipush C dX8_said_28 bpm3 ?_
      exact mG_iret C F dX8_said_30 rfl rfl K
    · have K := K.2 h
      refine mG_iload_n C dX8_said_21 rfl rfl ?_
      refine mG_Si (Z := MX8_isBit) (as := [.int p2]) (rest := []) C dX8_said_22 lk_527 zX8_isBit ⟨Nat.le_of_ble_eq_true rfl, Nat.le_of_ble_eq_true rfl⟩ rfl (Nat.le_of_ble_eq_true rfl) rfl K (fun v3 u3 K => ?_)
      refine mG_if_ne (tgt := 31) C dX8_said_25 rfl (fun h => ?_) (fun h => ?_)
      · have K := K.1 h
        refine mG_aload_n C dX8_said_31 rfl rfl ?_
        refine mG_getR C dX8_said_32 fl_289 sh0 rfl ?_
        refine mG_aload_n C dX8_said_35 rfl rfl ?_
        refine mG_getR C dX8_said_36 fl_287 sh0 rfl ?_
        refine mG_getI C dX8_said_39 fl_123 sh39 rfl ?_
        refine mG_aload_n C dX8_said_42 rfl rfl ?_
        refine mG_getR C dX8_said_43 fl_287 sh0 rfl ?_
        refine mG_getL C dX8_said_46 fl_129 sh39 rfl ?_
        refine mG_Vv (Z := MX3_look) (as := [.int (u3.1 39 0), .long (u3.2 39 3)]) (rest := []) C dX8_said_49 lk_530 zX3_look ⟨Nat.le_of_ble_eq_true rfl, Nat.le_of_ble_eq_true rfl⟩ sh46 rfl rfl (Nat.le_of_ble_eq_true rfl) rfl K (fun u4 K => ?_)
        refine mG_aload_n C dX8_said_52 rfl rfl ?_
        refine mG_getR C dX8_said_53 fl_290 sh0 rfl ?_
        refine mG_iload_n C dX8_said_56 rfl rfl ?_
        refine mG_iload_n C dX8_said_57 rfl rfl ?_
        refine mG_iconst C dX8_said_58 ic1 ?_
        refine mG_icmp_ne (tgt := 66) C dX8_said_59 rfl (fun h => ?_) (fun h => ?_)
        · have K := K.1 h
          refine mG_iconst C dX8_said_66 ic0 ?_
          refine mG_Vv (Z := MX6_countSaid) (as := [.int p0, .int (0 : Int32)]) (rest := []) C dX8_said_67 lk_716 zX6_countSaid ⟨Nat.le_of_ble_eq_true rfl, Nat.le_of_ble_eq_true rfl⟩ sh58 rfl rfl (Nat.le_of_ble_eq_true rfl) rfl K (fun u5 K => ?_)
          refine mG_iload_n C dX8_said_70 rfl rfl ?_
          refine mG_if_ne (tgt := 84) C dX8_said_71 rfl (fun h => ?_) (fun h => ?_)
          · have K := K.1 h
            refine mG_aload_n C dX8_said_84 rfl rfl ?_
            refine mG_getR C dX8_said_85 fl_290 sh0 rfl ?_
            refine mG_getI C dX8_said_88 fl_264 sh58 rfl ?_
            exact mG_iret C F dX8_said_91 rfl rfl K
          · have K := K.2 h
            refine mG_aload_n C dX8_said_74 rfl rfl ?_
            refine mG_getR C dX8_said_75 fl_290 sh0 rfl ?_
            refine mG_getI C dX8_said_78 fl_262 sh58 rfl ?_
            refine mG_goto (tgt := 91) C dX8_said_81 rfl ?_
            exact mG_iret C F dX8_said_91 rfl rfl K
        · have K := K.2 h
          refine mG_iconst C dX8_said_62 ic1 ?_
          refine mG_goto (tgt := 67) C dX8_said_63 rfl ?_
          refine mG_Vv (Z := MX6_countSaid) (as := [.int p0, .int (1 : Int32)]) (rest := []) C dX8_said_67 lk_716 zX6_countSaid ⟨Nat.le_of_ble_eq_true rfl, Nat.le_of_ble_eq_true rfl⟩ sh58 rfl rfl (Nat.le_of_ble_eq_true rfl) rfl K (fun u6 K => ?_)
          refine mG_iload_n C dX8_said_70 rfl rfl ?_
          refine mG_if_ne (tgt := 84) C dX8_said_71 rfl (fun h => ?_) (fun h => ?_)
          · have K := K.1 h
            refine mG_aload_n C dX8_said_84 rfl rfl ?_
            refine mG_getR C dX8_said_85 fl_290 sh0 rfl ?_
            refine mG_getI C dX8_said_88 fl_264 sh58 rfl ?_
            exact mG_iret C F dX8_said_91 rfl rfl K
          · have K := K.2 h
            refine mG_aload_n C dX8_said_74 rfl rfl ?_
            refine mG_getR C dX8_said_75 fl_290 sh0 rfl ?_
            refine mG_getI C dX8_said_78 fl_262 sh58 rfl ?_
            refine mG_goto (tgt := 91) C dX8_said_81 rfl ?_
            exact mG_iret C F dX8_said_91 rfl rfl K
      · have K := K.2 h
        refine mG_bipush C dX8_said_28 bpm3 ?_
        exact mG_iret C F dX8_said_30 rfl rfl K
  · have K := K.2 h
    refine mG_bipush C dX8_said_11 bpm2 ?_
    exact mG_iret C F dX8_said_13 rfl rfl K

set_option maxRecDepth 20000 in
set_option maxHeartbeats 4000000 in
theorem vX8_say_0 {X : mX} {E : mEnv} {Qm : Option Value → mW → Prop} (C : mCtx X E MX8_say) (F : mFin X E MX8_say Qm) {w : mW}  (p0 : Int32) (p1 : Int32) (p2 : Int32) (p3 : Int32) (p4 : Int32) (p5 : Int32)
    (K : (p0 < (1 : Int32) →
    (Qm (some (.int (-3 : Int32))) w)) ∧ (¬ p0 < (1 : Int32) →
    (mMi E MX1_everyone [.ref 1] w (fun v1 u1 =>
    ((p0 ≤ v1 →
    (mMi E MX8_refusalOf [.ref 0, .int p1, .int p2, .int p3, .int p4, .int p5] u1 (fun v2 u2 =>
    ((v2 = 0 →
    (mMv E MX3_look [.ref 46, .int (u2.1 39 0), .long (u2.2 39 3)] u2 (fun u3 =>
    (mMv E MX7_put [.ref 47, .int p1, .int p2, .int p3, .int p4, .int p5] u3 (fun u4 =>
    (mMv E MX3_listen [.ref 46] u4 (fun u5 =>
    (mMi E MX3_isSoSaidTo [.ref 46, .int p0] u5 (fun v3 u6 =>
    ((¬ v3 = 0 →
    (mMl E MX3_mindsIfSaidTo [.ref 46, .int p0] u6 (fun v4 u7 =>
    (mMi E MX4_whoDiffer [.long (u7.2 39 3), .long v4] u7 (fun v5 u8 =>
    (mMv E MX2_remember [.ref 39] u8 (fun u9 =>
    (Qm (some (.int v5)) (mPL u9 39 3 v4))))))))) ∧ (v3 = 0 →
    (Qm (some (.int (-4 : Int32))) u6)))))))))))) ∧ (¬ v2 = 0 →
    (Qm (some (.int v2)) u2)))))) ∧ (¬ p0 ≤ v1 →
    (Qm (some (.int (-3 : Int32))) u1))))))) :
    mG X E MX8_say 0 [.ref 0, .int p0, .int p1, .int p2, .int p3, .int p4, .int p5, .retAddr 0, .retAddr 0, .retAddr 0, .retAddr 0] [] w := by
  refine mG_iload_n C dX8_say_0 rfl rfl ?_
  refine mG_iconst C dX8_say_1 ic1 ?_
  refine mG_icmp_lt (tgt := 16) C dX8_say_2 rfl (fun h => ?_) (fun h => ?_)
  · have K := K.1 h
    refine mG_bipush C dX8_say_16 bpm3 ?_
    exact mG_iret C F dX8_say_18 rfl rfl K
  · have K := K.2 h
    refine mG_iload_n C dX8_say_5 rfl rfl ?_
    refine mG_aload_n C dX8_say_6 rfl rfl ?_
    refine mG_getR C dX8_say_7 fl_285 sh0 rfl ?_
    refine mG_Vi (Z := MX1_everyone) (as := []) (rest := [.int p0]) C dX8_say_10 lk_583 zX1_everyone ⟨Nat.le_of_ble_eq_true rfl, Nat.le_of_ble_eq_true rfl⟩ sh1 rfl rfl (Nat.le_of_ble_eq_true rfl) rfl K (fun v1 u1 K => ?_)
    refine mG_icmp_le (tgt := 19) C dX8_say_13 rfl (fun h => ?_) (fun h => ?_)
    · have K := K.1 h
      refine mG_aload_n C dX8_say_19 rfl rfl ?_
      refine mG_iload_n C dX8_say_20 rfl rfl ?_
      refine mG_iload_n C dX8_say_21 rfl rfl ?_
      refine mG_iload C dX8_say_22 rfl ?_
      refine mG_iload C dX8_say_24 rfl ?_
      refine mG_iload C dX8_say_26 rfl ?_
      refine mG_Vi (Z := MX8_refusalOf) (as := [.int p1, .int p2, .int p3, .int p4, .int p5]) (rest := []) C dX8_say_28 lk_520 zX8_refusalOf ⟨Nat.le_of_ble_eq_true rfl, Nat.le_of_ble_eq_true rfl⟩ sh0 rfl rfl (Nat.le_of_ble_eq_true rfl) rfl K (fun v2 u2 K => ?_)
      refine mG_istore (lv' := [.ref 0, .int p0, .int p1, .int p2, .int p3, .int p4, .int p5, .int v2, .retAddr 0, .retAddr 0, .retAddr 0]) C dX8_say_31 (by decide) rfl ?_
      refine mG_iload C dX8_say_33 rfl ?_
      refine mG_if_eq (tgt := 41) C dX8_say_35 rfl (fun h => ?_) (fun h => ?_)
      · have K := K.1 h
        refine mG_aload_n C dX8_say_41 rfl rfl ?_
        refine mG_getR C dX8_say_42 fl_289 sh0 rfl ?_
        refine mG_aload_n C dX8_say_45 rfl rfl ?_
        refine mG_getR C dX8_say_46 fl_287 sh0 rfl ?_
        refine mG_getI C dX8_say_49 fl_123 sh39 rfl ?_
        refine mG_aload_n C dX8_say_52 rfl rfl ?_
        refine mG_getR C dX8_say_53 fl_287 sh0 rfl ?_
        refine mG_getL C dX8_say_56 fl_129 sh39 rfl ?_
        refine mG_Vv (Z := MX3_look) (as := [.int (u2.1 39 0), .long (u2.2 39 3)]) (rest := []) C dX8_say_59 lk_530 zX3_look ⟨Nat.le_of_ble_eq_true rfl, Nat.le_of_ble_eq_true rfl⟩ sh46 rfl rfl (Nat.le_of_ble_eq_true rfl) rfl K (fun u3 K => ?_)
        refine mG_aload_n C dX8_say_62 rfl rfl ?_
        refine mG_getR C dX8_say_63 fl_289 sh0 rfl ?_
        refine mG_getR C dX8_say_66 fl_213 sh46 rfl ?_
        refine mG_iload_n C dX8_say_69 rfl rfl ?_
        refine mG_iload_n C dX8_say_70 rfl rfl ?_
        refine mG_iload C dX8_say_71 rfl ?_
        refine mG_iload C dX8_say_73 rfl ?_
        refine mG_iload C dX8_say_75 rfl ?_
        refine mG_Vv (Z := MX7_put) (as := [.int p1, .int p2, .int p3, .int p4, .int p5]) (rest := []) C dX8_say_77 lk_555 zX7_put ⟨Nat.le_of_ble_eq_true rfl, Nat.le_of_ble_eq_true rfl⟩ sh47 rfl rfl (Nat.le_of_ble_eq_true rfl) rfl K (fun u4 K => ?_)
        refine mG_aload_n C dX8_say_80 rfl rfl ?_
        refine mG_getR C dX8_say_81 fl_289 sh0 rfl ?_
        refine mG_Vv (Z := MX3_listen) (as := []) (rest := []) C dX8_say_84 lk_560 zX3_listen ⟨Nat.le_of_ble_eq_true rfl, Nat.le_of_ble_eq_true rfl⟩ sh46 rfl rfl (Nat.le_of_ble_eq_true rfl) rfl K (fun u5 K => ?_)
        refine mG_aload_n C dX8_say_87 rfl rfl ?_
        refine mG_getR C dX8_say_88 fl_289 sh0 rfl ?_
        refine mG_iload_n C dX8_say_91 rfl rfl ?_
        refine mG_Vi (Z := MX3_isSoSaidTo) (as := [.int p0]) (rest := []) C dX8_say_92 lk_587 zX3_isSoSaidTo ⟨Nat.le_of_ble_eq_true rfl, Nat.le_of_ble_eq_true rfl⟩ sh46 rfl rfl (Nat.le_of_ble_eq_true rfl) rfl K (fun v3 u6 K => ?_)
        refine mG_if_ne (tgt := 101) C dX8_say_95 rfl (fun h => ?_) (fun h => ?_)
        · have K := K.1 h
          refine mG_aload_n C dX8_say_101 rfl rfl ?_
          refine mG_getR C dX8_say_102 fl_289 sh0 rfl ?_
          refine mG_iload_n C dX8_say_105 rfl rfl ?_
          refine mG_Vl (Z := MX3_mindsIfSaidTo) (as := [.int p0]) (rest := []) C dX8_say_106 lk_607 zX3_mindsIfSaidTo ⟨Nat.le_of_ble_eq_true rfl, Nat.le_of_ble_eq_true rfl⟩ sh46 rfl rfl (Nat.le_of_ble_eq_true rfl) rfl K (fun v4 u7 K => ?_)
          refine mG_lstore (lv' := [.ref 0, .int p0, .int p1, .int p2, .int p3, .int p4, .int p5, .int v2, .long v4, .retAddr 0, .retAddr 0]) C dX8_say_109 (by decide) rfl ?_
          refine mG_aload_n C dX8_say_111 rfl rfl ?_
          refine mG_getR C dX8_say_112 fl_287 sh0 rfl ?_
          refine mG_getL C dX8_say_115 fl_129 sh39 rfl ?_
          refine mG_lload C dX8_say_118 rfl ?_
          refine mG_Si (Z := MX4_whoDiffer) (as := [.long (u7.2 39 3), .long v4]) (rest := []) C dX8_say_120 lk_616 zX4_whoDiffer ⟨Nat.le_of_ble_eq_true rfl, Nat.le_of_ble_eq_true rfl⟩ rfl (Nat.le_of_ble_eq_true rfl) rfl K (fun v5 u8 K => ?_)
          refine mG_istore (lv' := [.ref 0, .int p0, .int p1, .int p2, .int p3, .int p4, .int p5, .int v2, .long v4, .retAddr 0, .int v5]) C dX8_say_123 (by decide) rfl ?_
          refine mG_aload_n C dX8_say_125 rfl rfl ?_
          refine mG_getR C dX8_say_126 fl_287 sh0 rfl ?_
          refine mG_Vv (Z := MX2_remember) (as := []) (rest := []) C dX8_say_129 lk_620 zX2_remember ⟨Nat.le_of_ble_eq_true rfl, Nat.le_of_ble_eq_true rfl⟩ sh39 rfl rfl (Nat.le_of_ble_eq_true rfl) rfl K (fun u9 K => ?_)
          refine mG_aload_n C dX8_say_132 rfl rfl ?_
          refine mG_getR C dX8_say_133 fl_287 sh0 rfl ?_
          refine mG_lload C dX8_say_136 rfl ?_
          refine mG_putL C dX8_say_138 fp_129 sh39 rfl ?_
          refine mG_iload C dX8_say_141 rfl ?_
          exact mG_iret C F dX8_say_143 rfl rfl K
        · have K := K.2 h
          refine mG_bipush C dX8_say_98 bpm4 ?_
          exact mG_iret C F dX8_say_100 rfl rfl K
      · have K := K.2 h
        refine mG_iload C dX8_say_38 rfl ?_
        exact mG_iret C F dX8_say_40 rfl rfl K
    · have K := K.2 h
      refine mG_bipush C dX8_say_16 bpm3 ?_
      exact mG_iret C F dX8_say_18 rfl rfl K

set_option maxRecDepth 20000 in
set_option maxHeartbeats 4000000 in
theorem vX8_sayingAs_0 {X : mX} {E : mEnv} {Qm : Option Value → mW → Prop} (C : mCtx X E MX8_sayingAs) (F : mFin X E MX8_sayingAs Qm) {w : mW}  (p0 : Int32) (p1 : Int32)
    (K : (p0 < 0 →
    (Qm (some (.int (-3 : Int32))) w)) ∧ (¬ p0 < 0 →
    (((5 : Int32) ≤ p0 →
    (Qm (some (.int (-3 : Int32))) w)) ∧ (¬ (5 : Int32) ≤ p0 →
    ((p1 < 0 →
    (Qm (some (.int (-3 : Int32))) w)) ∧ (¬ p1 < 0 →
    ((p1 < (7 : Int32) →
    (vp_in p0 5 ∧
    (mMi E MX8_isUnder [.ref 141, .int ((fun j => ([1, 4, 5, 6, 2] : List Int32).getD j 0) p0.toNatClampNeg), .int p1] w (fun v1 u1 =>
    ((¬ v1 = 0 →
    (mMi E MX7_isPair [.int p0] u1 (fun v2 u2 =>
    ((v2 = 0 →
    (Qm (some (.int (1 : Int32))) u2)) ∧ (¬ v2 = 0 →
    (Qm (some (.int (2 : Int32))) u2)))))) ∧ (v1 = 0 →
    (Qm (some (.int (-4 : Int32))) u1))))))) ∧ (¬ p1 < (7 : Int32) →
    (Qm (some (.int (-3 : Int32))) w))))))))) :
    mG X E MX8_sayingAs 0 [.ref 0, .int p0, .int p1] [] w := by
  refine mG_iload_n C dX8_sayingAs_0 rfl rfl ?_
  refine mG_if_lt (tgt := 24) C dX8_sayingAs_1 rfl (fun h => ?_) (fun h => ?_)
  · have K := K.1 h
    refine mG_bipush C dX8_sayingAs_24 bpm3 ?_
    exact mG_iret C F dX8_sayingAs_26 rfl rfl K
  · have K := K.2 h
    refine mG_iload_n C dX8_sayingAs_4 rfl rfl ?_
    refine mG_gets (v := .ref 142) C dX8_sayingAs_5 gs_509 ro142 ?_
    refine mG_tlen C dX8_sayingAs_8 rt142 rfl ?_
    refine mG_icmp_ge (tgt := 24) C dX8_sayingAs_9 rfl (fun h => ?_) (fun h => ?_)
    · have K := K.1 h
      refine mG_bipush C dX8_sayingAs_24 bpm3 ?_
      exact mG_iret C F dX8_sayingAs_26 rfl rfl K
    · have K := K.2 h
      refine mG_iload_n C dX8_sayingAs_12 rfl rfl ?_
      refine mG_if_lt (tgt := 24) C dX8_sayingAs_13 rfl (fun h => ?_) (fun h => ?_)
      · have K := K.1 h
        refine mG_bipush C dX8_sayingAs_24 bpm3 ?_
        exact mG_iret C F dX8_sayingAs_26 rfl rfl K
      · have K := K.2 h
        refine mG_iload_n C dX8_sayingAs_16 rfl rfl ?_
        refine mG_gets (v := .ref 141) C dX8_sayingAs_17 gs_511 ro141 ?_
        refine mG_tlen C dX8_sayingAs_20 rt141 rfl ?_
        refine mG_icmp_lt (tgt := 27) C dX8_sayingAs_21 rfl (fun h => ?_) (fun h => ?_)
        · have K := K.1 h
          refine mG_gets (v := .ref 141) C dX8_sayingAs_27 gs_511 ro141 ?_
          refine mG_gets (v := .ref 142) C dX8_sayingAs_30 gs_509 ro142 ?_
          refine mG_iload_n C dX8_sayingAs_33 rfl rfl ?_
          obtain ⟨h1, K⟩ := K
          refine mG_tald C dX8_sayingAs_34 rt142 h1 ?_
          refine mG_iload_n C dX8_sayingAs_35 rfl rfl ?_
          refine mG_Si (Z := MX8_isUnder) (as := [.ref 141, .int ((fun j => ([1, 4, 5, 6, 2] : List Int32).getD j 0) p0.toNatClampNeg), .int p1]) (rest := []) C dX8_sayingAs_36 lk_498 zX8_isUnder ⟨Nat.le_of_ble_eq_true rfl, Nat.le_of_ble_eq_true rfl⟩ rfl (Nat.le_of_ble_eq_true rfl) rfl K (fun v1 u1 K => ?_)
          refine mG_if_ne (tgt := 45) C dX8_sayingAs_39 rfl (fun h => ?_) (fun h => ?_)
          · have K := K.1 h
            refine mG_iload_n C dX8_sayingAs_45 rfl rfl ?_
            refine mG_Si (Z := MX7_isPair) (as := [.int p0]) (rest := []) C dX8_sayingAs_46 lk_513 zX7_isPair ⟨Nat.le_of_ble_eq_true rfl, Nat.le_of_ble_eq_true rfl⟩ rfl (Nat.le_of_ble_eq_true rfl) rfl K (fun v2 u2 K => ?_)
            refine mG_if_eq (tgt := 56) C dX8_sayingAs_49 rfl (fun h => ?_) (fun h => ?_)
            · have K := K.1 h
              refine mG_iconst C dX8_sayingAs_56 ic1 ?_
              exact mG_iret C F dX8_sayingAs_57 rfl rfl K
            · have K := K.2 h
              refine mG_iconst C dX8_sayingAs_52 ic2 ?_
              refine mG_goto (tgt := 57) C dX8_sayingAs_53 rfl ?_
              exact mG_iret C F dX8_sayingAs_57 rfl rfl K
          · have K := K.2 h
            refine mG_bipush C dX8_sayingAs_42 bpm4 ?_
            exact mG_iret C F dX8_sayingAs_44 rfl rfl K
        · have K := K.2 h
          refine mG_bipush C dX8_sayingAs_24 bpm3 ?_
          exact mG_iret C F dX8_sayingAs_26 rfl rfl K

set_option maxRecDepth 20000 in
set_option maxHeartbeats 4000000 in
theorem vX8_sieges_0 {X : mX} {E : mEnv} {Qm : Option Value → mW → Prop} (C : mCtx X E MX8_sieges) (F : mFin X E MX8_sieges Qm) {w : mW}  (p0 : Int32) (p1 : Int32) (p2 : Int32)
    (K : (p0 < 0 →
    (Qm (some (.int (-3 : Int32))) w)) ∧ (¬ p0 < 0 →
    (((9999 : Int32) < p0 →
    (Qm (some (.int (-3 : Int32))) w)) ∧ (¬ (9999 : Int32) < p0 →
    ((p1 < 0 →
    (Qm (some (.int (-3 : Int32))) w)) ∧ (¬ p1 < 0 →
    (((9 : Int32) < p1 →
    (Qm (some (.int (-3 : Int32))) w)) ∧ (¬ (9 : Int32) < p1 →
    ((p2 < 0 →
    (Qm (some (.int (-3 : Int32))) w)) ∧ (¬ p2 < 0 →
    ((p2 ≤ (2 : Int32) →
    ((¬ (w.1 1 0) = 0 →
    (mG X E MX8_sieges 52 [.ref 0, .int p0, .int p1, .int p2, .int (0 : Int32), .int (0 : Int32), .retAddr 0, .retAddr 0, .retAddr 0] [] w)) ∧ ((w.1 1 0) = 0 →
    (Qm (some (.int (-4 : Int32))) w)))) ∧ (¬ p2 ≤ (2 : Int32) →
    (Qm (some (.int (-3 : Int32))) w))))))))))))) :
    mG X E MX8_sieges 0 [.ref 0, .int p0, .int p1, .int p2, .retAddr 0, .retAddr 0, .retAddr 0, .retAddr 0, .retAddr 0] [] w := by
  refine mG_iload_n C dX8_sieges_0 rfl rfl ?_
  refine mG_if_lt (tgt := 30) C dX8_sieges_1 rfl (fun h => ?_) (fun h => ?_)
  · have K := K.1 h
    refine mG_bipush C dX8_sieges_30 bpm3 ?_
    exact mG_iret C F dX8_sieges_32 rfl rfl K
  · have K := K.2 h
    refine mG_iload_n C dX8_sieges_4 rfl rfl ?_
    refine mG_sipush C dX8_sieges_5 sp9999 ?_
    refine mG_icmp_gt (tgt := 30) C dX8_sieges_8 rfl (fun h => ?_) (fun h => ?_)
    · have K := K.1 h
      refine mG_bipush C dX8_sieges_30 bpm3 ?_
      exact mG_iret C F dX8_sieges_32 rfl rfl K
    · have K := K.2 h
      refine mG_iload_n C dX8_sieges_11 rfl rfl ?_
      refine mG_if_lt (tgt := 30) C dX8_sieges_12 rfl (fun h => ?_) (fun h => ?_)
      · have K := K.1 h
        refine mG_bipush C dX8_sieges_30 bpm3 ?_
        exact mG_iret C F dX8_sieges_32 rfl rfl K
      · have K := K.2 h
        refine mG_iload_n C dX8_sieges_15 rfl rfl ?_
        refine mG_bipush C dX8_sieges_16 bp9 ?_
        refine mG_icmp_gt (tgt := 30) C dX8_sieges_18 rfl (fun h => ?_) (fun h => ?_)
        · have K := K.1 h
          refine mG_bipush C dX8_sieges_30 bpm3 ?_
          exact mG_iret C F dX8_sieges_32 rfl rfl K
        · have K := K.2 h
          refine mG_iload_n C dX8_sieges_21 rfl rfl ?_
          refine mG_if_lt (tgt := 30) C dX8_sieges_22 rfl (fun h => ?_) (fun h => ?_)
          · have K := K.1 h
            refine mG_bipush C dX8_sieges_30 bpm3 ?_
            exact mG_iret C F dX8_sieges_32 rfl rfl K
          · have K := K.2 h
            refine mG_iload_n C dX8_sieges_25 rfl rfl ?_
            refine mG_iconst C dX8_sieges_26 ic2 ?_
            refine mG_icmp_le (tgt := 33) C dX8_sieges_27 rfl (fun h => ?_) (fun h => ?_)
            · have K := K.1 h
              refine mG_aload_n C dX8_sieges_33 rfl rfl ?_
              refine mG_getR C dX8_sieges_34 fl_285 sh0 rfl ?_
              refine mG_getI C dX8_sieges_37 fl_38 sh1 rfl ?_
              refine mG_if_ne (tgt := 46) C dX8_sieges_40 rfl (fun h => ?_) (fun h => ?_)
              · have K := K.1 h
                refine mG_iconst C dX8_sieges_46 ic0 ?_
                refine mG_istore (lv' := [.ref 0, .int p0, .int p1, .int p2, .int (0 : Int32), .retAddr 0, .retAddr 0, .retAddr 0, .retAddr 0]) C dX8_sieges_47 (by decide) rfl ?_
                refine mG_iconst C dX8_sieges_49 ic0 ?_
                refine mG_istore (lv' := [.ref 0, .int p0, .int p1, .int p2, .int (0 : Int32), .int (0 : Int32), .retAddr 0, .retAddr 0, .retAddr 0]) C dX8_sieges_50 (by decide) rfl ?_
                exact K
              · have K := K.2 h
                refine mG_bipush C dX8_sieges_43 bpm4 ?_
                exact mG_iret C F dX8_sieges_45 rfl rfl K
            · have K := K.2 h
              refine mG_bipush C dX8_sieges_30 bpm3 ?_
              exact mG_iret C F dX8_sieges_32 rfl rfl K

set_option maxRecDepth 20000 in
set_option maxHeartbeats 4000000 in
theorem vX8_sieges_52 {X : mX} {E : mEnv} {Qm : Option Value → mW → Prop} (C : mCtx X E MX8_sieges) (F : mFin X E MX8_sieges Qm) {w : mW}  (x1 : Int32) (x2 : Int32) (x3 : Int32) (x4 : Int32) (x5 : Int32)
    (K : (x2 ≤ x5 →
    (Qm (some (.int x4)) w)) ∧ (¬ x2 ≤ x5 →
    (mMi E MX6_sumOfSiege [.ref 58, .int (((((((7919 : Int64) * ((x1).toInt64)) + ((6151 : Int64) * ((x5).toInt64))) + (1 : Int64)) * ((((7919 : Int64) * ((x1).toInt64)) + ((6151 : Int64) * ((x5).toInt64))) + (1 : Int64))) - (((((7919 : Int64) * ((x1).toInt64)) + ((6151 : Int64) * ((x5).toInt64))) + (1 : Int64)) * ((((7919 : Int64) * ((x1).toInt64)) + ((6151 : Int64) * ((x5).toInt64))) + (1 : Int64))) / (65521 : Int64) * (65521 : Int64)).toInt32), .int x3, .int (w.1 39 0), .long (w.2 39 3)] w (fun v1 u1 =>
    ((v1 < 0 →
    (mG X E MX8_sieges 52 [.ref 0, .int x1, .int x2, .int x3, .int x4, .int (x5 + (1 : Int32)), .retAddr 0, .retAddr 0, .retAddr 0] [] u1)) ∧ (¬ v1 < 0 →
    (mG X E MX8_sieges 52 [.ref 0, .int x1, .int x2, .int x3, .int (x4 + (1 : Int32)), .int (x5 + (1 : Int32)), .retAddr 0, .retAddr 0, .retAddr 0] [] u1))))))) :
    mG X E MX8_sieges 52 [.ref 0, .int x1, .int x2, .int x3, .int x4, .int x5, .retAddr 0, .retAddr 0, .retAddr 0] [] w := by
  refine mG_iload C dX8_sieges_52 rfl ?_
  refine mG_iload_n C dX8_sieges_54 rfl rfl ?_
  refine mG_icmp_ge (tgt := 124) C dX8_sieges_55 rfl (fun h => ?_) (fun h => ?_)
  · have K := K.1 h
    refine mG_iload C dX8_sieges_124 rfl ?_
    exact mG_iret C F dX8_sieges_126 rfl rfl K
  · have K := K.2 h
    refine mG_ldc2 C dX8_sieges_58 kl_799 ?_
    refine mG_iload_n C dX8_sieges_61 rfl rfl ?_
    refine mG_i2l C dX8_sieges_62 ?_
    refine mG_lmul C dX8_sieges_63 ?_
    refine mG_ldc2 C dX8_sieges_64 kl_800 ?_
    refine mG_iload C dX8_sieges_67 rfl ?_
    refine mG_i2l C dX8_sieges_69 ?_
    refine mG_lmul C dX8_sieges_70 ?_
    refine mG_ladd C dX8_sieges_71 ?_
    refine mG_lconst (v := 1) C dX8_sieges_72 (by decide) ?_
    refine mG_ladd C dX8_sieges_73 ?_
    refine mG_lstore (lv' := [.ref 0, .int x1, .int x2, .int x3, .int x4, .int x5, .long ((((7919 : Int64) * ((x1).toInt64)) + ((6151 : Int64) * ((x5).toInt64))) + (1 : Int64)), .retAddr 0, .retAddr 0]) C dX8_sieges_74 (by decide) rfl ?_
    refine mG_lload C dX8_sieges_76 rfl ?_
    refine mG_lload C dX8_sieges_78 rfl ?_
    refine mG_lmul C dX8_sieges_80 ?_
    refine mG_ldc2 C dX8_sieges_81 kl_801 ?_
    refine mG_lrem C dX8_sieges_84 (by decide) ?_
    refine mG_l2i C dX8_sieges_85 ?_
    refine mG_istore (lv' := [.ref 0, .int x1, .int x2, .int x3, .int x4, .int x5, .long ((((7919 : Int64) * ((x1).toInt64)) + ((6151 : Int64) * ((x5).toInt64))) + (1 : Int64)), .retAddr 0, .int (((((((7919 : Int64) * ((x1).toInt64)) + ((6151 : Int64) * ((x5).toInt64))) + (1 : Int64)) * ((((7919 : Int64) * ((x1).toInt64)) + ((6151 : Int64) * ((x5).toInt64))) + (1 : Int64))) - (((((7919 : Int64) * ((x1).toInt64)) + ((6151 : Int64) * ((x5).toInt64))) + (1 : Int64)) * ((((7919 : Int64) * ((x1).toInt64)) + ((6151 : Int64) * ((x5).toInt64))) + (1 : Int64))) / (65521 : Int64) * (65521 : Int64)).toInt32)]) C dX8_sieges_86 (by decide) rfl ?_
    refine mG_aload_n C dX8_sieges_88 rfl rfl ?_
    refine mG_getR C dX8_sieges_89 fl_290 sh0 rfl ?_
    refine mG_iload C dX8_sieges_92 rfl ?_
    refine mG_iload_n C dX8_sieges_94 rfl rfl ?_
    refine mG_aload_n C dX8_sieges_95 rfl rfl ?_
    refine mG_getR C dX8_sieges_96 fl_287 sh0 rfl ?_
    refine mG_getI C dX8_sieges_99 fl_123 sh39 rfl ?_
    refine mG_aload_n C dX8_sieges_102 rfl rfl ?_
    refine mG_getR C dX8_sieges_103 fl_287 sh0 rfl ?_
    refine mG_getL C dX8_sieges_106 fl_129 sh39 rfl ?_
    refine mG_Vi (Z := MX6_sumOfSiege) (as := [.int (((((((7919 : Int64) * ((x1).toInt64)) + ((6151 : Int64) * ((x5).toInt64))) + (1 : Int64)) * ((((7919 : Int64) * ((x1).toInt64)) + ((6151 : Int64) * ((x5).toInt64))) + (1 : Int64))) - (((((7919 : Int64) * ((x1).toInt64)) + ((6151 : Int64) * ((x5).toInt64))) + (1 : Int64)) * ((((7919 : Int64) * ((x1).toInt64)) + ((6151 : Int64) * ((x5).toInt64))) + (1 : Int64))) / (65521 : Int64) * (65521 : Int64)).toInt32), .int x3, .int (w.1 39 0), .long (w.2 39 3)]) (rest := []) C dX8_sieges_109 lk_802 zX6_sumOfSiege ⟨Nat.le_of_ble_eq_true rfl, Nat.le_of_ble_eq_true rfl⟩ sh58 rfl rfl (Nat.le_of_ble_eq_true rfl) rfl K (fun v1 u1 K => ?_)
    refine mG_if_lt (tgt := 118) C dX8_sieges_112 rfl (fun h => ?_) (fun h => ?_)
    · have K := K.1 h
      refine mG_iincc (lv' := [.ref 0, .int x1, .int x2, .int x3, .int x4, .int (x5 + (1 : Int32)), .long ((((7919 : Int64) * ((x1).toInt64)) + ((6151 : Int64) * ((x5).toInt64))) + (1 : Int64)), .retAddr 0, .int (((((((7919 : Int64) * ((x1).toInt64)) + ((6151 : Int64) * ((x5).toInt64))) + (1 : Int64)) * ((((7919 : Int64) * ((x1).toInt64)) + ((6151 : Int64) * ((x5).toInt64))) + (1 : Int64))) - (((((7919 : Int64) * ((x1).toInt64)) + ((6151 : Int64) * ((x5).toInt64))) + (1 : Int64)) * ((((7919 : Int64) * ((x1).toInt64)) + ((6151 : Int64) * ((x5).toInt64))) + (1 : Int64))) / (65521 : Int64) * (65521 : Int64)).toInt32)]) C dX8_sieges_118 rfl ic1 (by decide) rfl ?_
      refine mG_goto (tgt := 52) C dX8_sieges_121 rfl ?_
      exact mG_holes [6, 8] rfl K
    · have K := K.2 h
      refine mG_iincc (lv' := [.ref 0, .int x1, .int x2, .int x3, .int (x4 + (1 : Int32)), .int x5, .long ((((7919 : Int64) * ((x1).toInt64)) + ((6151 : Int64) * ((x5).toInt64))) + (1 : Int64)), .retAddr 0, .int (((((((7919 : Int64) * ((x1).toInt64)) + ((6151 : Int64) * ((x5).toInt64))) + (1 : Int64)) * ((((7919 : Int64) * ((x1).toInt64)) + ((6151 : Int64) * ((x5).toInt64))) + (1 : Int64))) - (((((7919 : Int64) * ((x1).toInt64)) + ((6151 : Int64) * ((x5).toInt64))) + (1 : Int64)) * ((((7919 : Int64) * ((x1).toInt64)) + ((6151 : Int64) * ((x5).toInt64))) + (1 : Int64))) / (65521 : Int64) * (65521 : Int64)).toInt32)]) C dX8_sieges_115 rfl ic1 (by decide) rfl ?_
      refine mG_iincc (lv' := [.ref 0, .int x1, .int x2, .int x3, .int (x4 + (1 : Int32)), .int (x5 + (1 : Int32)), .long ((((7919 : Int64) * ((x1).toInt64)) + ((6151 : Int64) * ((x5).toInt64))) + (1 : Int64)), .retAddr 0, .int (((((((7919 : Int64) * ((x1).toInt64)) + ((6151 : Int64) * ((x5).toInt64))) + (1 : Int64)) * ((((7919 : Int64) * ((x1).toInt64)) + ((6151 : Int64) * ((x5).toInt64))) + (1 : Int64))) - (((((7919 : Int64) * ((x1).toInt64)) + ((6151 : Int64) * ((x5).toInt64))) + (1 : Int64)) * ((((7919 : Int64) * ((x1).toInt64)) + ((6151 : Int64) * ((x5).toInt64))) + (1 : Int64))) / (65521 : Int64) * (65521 : Int64)).toInt32)]) C dX8_sieges_118 rfl ic1 (by decide) rfl ?_
      refine mG_goto (tgt := 52) C dX8_sieges_121 rfl ?_
      exact mG_holes [6, 8] rfl K

set_option maxRecDepth 20000 in
set_option maxHeartbeats 4000000 in
theorem vX8_so_0 {X : mX} {E : mEnv} {Qm : Option Value → mW → Prop} (C : mCtx X E MX8_so) (F : mFin X E MX8_so Qm) {w : mW}  (p0 : Int32) (p1 : Int32) (p2 : Int32) (p3 : Int32) (p4 : Int32)
    (K : mMi E MX8_refusalOf [.ref 0, .int p0, .int p1, .int p2, .int p3, .int p4] w (fun v1 u1 =>
    ((v1 = 0 →
    (mMv E MX3_look [.ref 46, .int (u1.1 39 0), .long (u1.2 39 3)] u1 (fun u2 =>
    (mMv E MX7_put [.ref 47, .int p0, .int p1, .int p2, .int p3, .int p4] u2 (fun u3 =>
    (mMv E MX3_listen [.ref 46] u3 (fun u4 =>
    (mMi E MX1_everyone [.ref 1] u4 (fun v2 u5 =>
    (mMi E MX3_isSoSaidTo [.ref 46, .int v2] u5 (fun v3 u6 =>
    ((v3 = 0 →
    (Qm (some (.int (0 : Int32))) u6)) ∧ (¬ v3 = 0 →
    (Qm (some (.int (1 : Int32))) u6)))))))))))))) ∧ (¬ v1 = 0 →
    (Qm (some (.int v1)) u1))))) :
    mG X E MX8_so 0 [.ref 0, .int p0, .int p1, .int p2, .int p3, .int p4, .retAddr 0] [] w := by
  refine mG_aload_n C dX8_so_0 rfl rfl ?_
  refine mG_iload_n C dX8_so_1 rfl rfl ?_
  refine mG_iload_n C dX8_so_2 rfl rfl ?_
  refine mG_iload_n C dX8_so_3 rfl rfl ?_
  refine mG_iload C dX8_so_4 rfl ?_
  refine mG_iload C dX8_so_6 rfl ?_
  refine mG_Vi (Z := MX8_refusalOf) (as := [.int p0, .int p1, .int p2, .int p3, .int p4]) (rest := []) C dX8_so_8 lk_520 zX8_refusalOf ⟨Nat.le_of_ble_eq_true rfl, Nat.le_of_ble_eq_true rfl⟩ sh0 rfl rfl (Nat.le_of_ble_eq_true rfl) rfl K (fun v1 u1 K => ?_)
  refine mG_istore (lv' := [.ref 0, .int p0, .int p1, .int p2, .int p3, .int p4, .int v1]) C dX8_so_11 (by decide) rfl ?_
  refine mG_iload C dX8_so_13 rfl ?_
  refine mG_if_eq (tgt := 21) C dX8_so_15 rfl (fun h => ?_) (fun h => ?_)
  · have K := K.1 h
    refine mG_aload_n C dX8_so_21 rfl rfl ?_
    refine mG_getR C dX8_so_22 fl_289 sh0 rfl ?_
    refine mG_aload_n C dX8_so_25 rfl rfl ?_
    refine mG_getR C dX8_so_26 fl_287 sh0 rfl ?_
    refine mG_getI C dX8_so_29 fl_123 sh39 rfl ?_
    refine mG_aload_n C dX8_so_32 rfl rfl ?_
    refine mG_getR C dX8_so_33 fl_287 sh0 rfl ?_
    refine mG_getL C dX8_so_36 fl_129 sh39 rfl ?_
    refine mG_Vv (Z := MX3_look) (as := [.int (u1.1 39 0), .long (u1.2 39 3)]) (rest := []) C dX8_so_39 lk_530 zX3_look ⟨Nat.le_of_ble_eq_true rfl, Nat.le_of_ble_eq_true rfl⟩ sh46 rfl rfl (Nat.le_of_ble_eq_true rfl) rfl K (fun u2 K => ?_)
    refine mG_aload_n C dX8_so_42 rfl rfl ?_
    refine mG_getR C dX8_so_43 fl_289 sh0 rfl ?_
    refine mG_getR C dX8_so_46 fl_213 sh46 rfl ?_
    refine mG_iload_n C dX8_so_49 rfl rfl ?_
    refine mG_iload_n C dX8_so_50 rfl rfl ?_
    refine mG_iload_n C dX8_so_51 rfl rfl ?_
    refine mG_iload C dX8_so_52 rfl ?_
    refine mG_iload C dX8_so_54 rfl ?_
    refine mG_Vv (Z := MX7_put) (as := [.int p0, .int p1, .int p2, .int p3, .int p4]) (rest := []) C dX8_so_56 lk_555 zX7_put ⟨Nat.le_of_ble_eq_true rfl, Nat.le_of_ble_eq_true rfl⟩ sh47 rfl rfl (Nat.le_of_ble_eq_true rfl) rfl K (fun u3 K => ?_)
    refine mG_aload_n C dX8_so_59 rfl rfl ?_
    refine mG_getR C dX8_so_60 fl_289 sh0 rfl ?_
    refine mG_Vv (Z := MX3_listen) (as := []) (rest := []) C dX8_so_63 lk_560 zX3_listen ⟨Nat.le_of_ble_eq_true rfl, Nat.le_of_ble_eq_true rfl⟩ sh46 rfl rfl (Nat.le_of_ble_eq_true rfl) rfl K (fun u4 K => ?_)
    refine mG_aload_n C dX8_so_66 rfl rfl ?_
    refine mG_getR C dX8_so_67 fl_289 sh0 rfl ?_
    refine mG_aload_n C dX8_so_70 rfl rfl ?_
    refine mG_getR C dX8_so_71 fl_285 sh0 rfl ?_
    refine mG_Vi (Z := MX1_everyone) (as := []) (rest := [.ref 46]) C dX8_so_74 lk_583 zX1_everyone ⟨Nat.le_of_ble_eq_true rfl, Nat.le_of_ble_eq_true rfl⟩ sh1 rfl rfl (Nat.le_of_ble_eq_true rfl) rfl K (fun v2 u5 K => ?_)
    refine mG_Vi (Z := MX3_isSoSaidTo) (as := [.int v2]) (rest := []) C dX8_so_77 lk_587 zX3_isSoSaidTo ⟨Nat.le_of_ble_eq_true rfl, Nat.le_of_ble_eq_true rfl⟩ sh46 rfl rfl (Nat.le_of_ble_eq_true rfl) rfl K (fun v3 u6 K => ?_)
    refine mG_if_eq (tgt := 87) C dX8_so_80 rfl (fun h => ?_) (fun h => ?_)
    · have K := K.1 h
      refine mG_iconst C dX8_so_87 ic0 ?_
      exact mG_iret C F dX8_so_88 rfl rfl K
    · have K := K.2 h
      refine mG_iconst C dX8_so_83 ic1 ?_
      refine mG_goto (tgt := 88) C dX8_so_84 rfl ?_
      exact mG_iret C F dX8_so_88 rfl rfl K
  · have K := K.2 h
    refine mG_iload C dX8_so_18 rfl ?_
    exact mG_iret C F dX8_so_20 rfl rfl K

set_option maxRecDepth 20000 in
set_option maxHeartbeats 4000000 in
theorem vX8_sure_0 {X : mX} {E : mEnv} {Qm : Option Value → mW → Prop} (C : mCtx X E MX8_sure) (F : mFin X E MX8_sure Qm) {w : mW}  (p0 : Int32)
    (K : mMi E MX8_isBit [.int p0] w (fun v1 u1 =>
    ((¬ v1 = 0 →
    (mMv E MX3_look [.ref 46, .int (u1.1 39 0), .long (u1.2 39 3)] u1 (fun u2 =>
    (mMl E MX6_outcomes [.ref 58] u2 (fun v2 u3 =>
    (mMv E MX0_choose [.ref 43, .long v2] u3 (fun u4 =>
    ((¬ p0 = 0 →
    (Qm (some (.int (u4.1 43 3))) u4)) ∧ (p0 = 0 →
    (Qm (some (.int (u4.1 43 4))) u4)))))))))) ∧ (v1 = 0 →
    (Qm (some (.int (-3 : Int32))) u1))))) :
    mG X E MX8_sure 0 [.ref 0, .int p0] [] w := by
  refine mG_iload_n C dX8_sure_0 rfl rfl ?_
  refine mG_Si (Z := MX8_isBit) (as := [.int p0]) (rest := []) C dX8_sure_1 lk_527 zX8_isBit ⟨Nat.le_of_ble_eq_true rfl, Nat.le_of_ble_eq_true rfl⟩ rfl (Nat.le_of_ble_eq_true rfl) rfl K (fun v1 u1 K => ?_)
  refine mG_if_ne (tgt := 10) C dX8_sure_4 rfl (fun h => ?_) (fun h => ?_)
  · have K := K.1 h
    refine mG_aload_n C dX8_sure_10 rfl rfl ?_
    refine mG_getR C dX8_sure_11 fl_289 sh0 rfl ?_
    refine mG_aload_n C dX8_sure_14 rfl rfl ?_
    refine mG_getR C dX8_sure_15 fl_287 sh0 rfl ?_
    refine mG_getI C dX8_sure_18 fl_123 sh39 rfl ?_
    refine mG_aload_n C dX8_sure_21 rfl rfl ?_
    refine mG_getR C dX8_sure_22 fl_287 sh0 rfl ?_
    refine mG_getL C dX8_sure_25 fl_129 sh39 rfl ?_
    refine mG_Vv (Z := MX3_look) (as := [.int (u1.1 39 0), .long (u1.2 39 3)]) (rest := []) C dX8_sure_28 lk_530 zX3_look ⟨Nat.le_of_ble_eq_true rfl, Nat.le_of_ble_eq_true rfl⟩ sh46 rfl rfl (Nat.le_of_ble_eq_true rfl) rfl K (fun u2 K => ?_)
    refine mG_aload_n C dX8_sure_31 rfl rfl ?_
    refine mG_getR C dX8_sure_32 fl_288 sh0 rfl ?_
    refine mG_aload_n C dX8_sure_35 rfl rfl ?_
    refine mG_getR C dX8_sure_36 fl_290 sh0 rfl ?_
    refine mG_Vl (Z := MX6_outcomes) (as := []) (rest := [.ref 43]) C dX8_sure_39 lk_758 zX6_outcomes ⟨Nat.le_of_ble_eq_true rfl, Nat.le_of_ble_eq_true rfl⟩ sh58 rfl rfl (Nat.le_of_ble_eq_true rfl) rfl K (fun v2 u3 K => ?_)
    refine mG_Vv (Z := MX0_choose) (as := [.long v2]) (rest := []) C dX8_sure_42 lk_763 zX0_choose ⟨Nat.le_of_ble_eq_true rfl, Nat.le_of_ble_eq_true rfl⟩ sh43 rfl rfl (Nat.le_of_ble_eq_true rfl) rfl K (fun u4 K => ?_)
    refine mG_iload_n C dX8_sure_45 rfl rfl ?_
    refine mG_if_ne (tgt := 59) C dX8_sure_46 rfl (fun h => ?_) (fun h => ?_)
    · have K := K.1 h
      refine mG_aload_n C dX8_sure_59 rfl rfl ?_
      refine mG_getR C dX8_sure_60 fl_288 sh0 rfl ?_
      refine mG_getI C dX8_sure_63 fl_167 sh43 rfl ?_
      exact mG_iret C F dX8_sure_66 rfl rfl K
    · have K := K.2 h
      refine mG_aload_n C dX8_sure_49 rfl rfl ?_
      refine mG_getR C dX8_sure_50 fl_288 sh0 rfl ?_
      refine mG_getI C dX8_sure_53 fl_169 sh43 rfl ?_
      refine mG_goto (tgt := 66) C dX8_sure_56 rfl ?_
      exact mG_iret C F dX8_sure_66 rfl rfl K
  · have K := K.2 h
    refine mG_bipush C dX8_sure_7 bpm3 ?_
    exact mG_iret C F dX8_sure_9 rfl rfl K

set_option maxRecDepth 20000 in
set_option maxHeartbeats 4000000 in
theorem vX8_undo_0 {X : mX} {E : mEnv} {Qm : Option Value → mW → Prop} (C : mCtx X E MX8_undo) (F : mFin X E MX8_undo Qm) {w : mW} 
    (K : mMi E MX2_stepBack [.ref 39] w (fun v1 u1 =>
    ((v1 = 0 →
    (Qm (some (.int (-4 : Int32))) u1)) ∧ (¬ v1 = 0 →
    (Qm (some (.int (u1.1 39 2))) u1))))) :
    mG X E MX8_undo 0 [.ref 0] [] w := by
  refine mG_aload_n C dX8_undo_0 rfl rfl ?_
  refine mG_getR C dX8_undo_1 fl_287 sh0 rfl ?_
  refine mG_Vi (Z := MX2_stepBack) (as := []) (rest := []) C dX8_undo_4 lk_642 zX2_stepBack ⟨Nat.le_of_ble_eq_true rfl, Nat.le_of_ble_eq_true rfl⟩ sh39 rfl rfl (Nat.le_of_ble_eq_true rfl) rfl K (fun v1 u1 K => ?_)
  refine mG_if_eq (tgt := 20) C dX8_undo_7 rfl (fun h => ?_) (fun h => ?_)
  · have K := K.1 h
    refine mG_bipush C dX8_undo_20 bpm4 ?_
    exact mG_iret C F dX8_undo_22 rfl rfl K
  · have K := K.2 h
    refine mG_aload_n C dX8_undo_10 rfl rfl ?_
    refine mG_getR C dX8_undo_11 fl_287 sh0 rfl ?_
    refine mG_getI C dX8_undo_14 fl_127 sh39 rfl ?_
    refine mG_goto (tgt := 22) C dX8_undo_17 rfl ?_
    exact mG_iret C F dX8_undo_22 rfl rfl K

set_option maxRecDepth 20000 in
set_option maxHeartbeats 4000000 in
theorem vX8_write_0 {X : mX} {E : mEnv} {Qm : Option Value → mW → Prop} (C : mCtx X E MX8_write) (F : mFin X E MX8_write Qm) {w : mW}  (p0 : Int32)
    (K : (p0 < 0 →
    (Qm (some (.int (-3 : Int32))) w)) ∧ (¬ p0 < 0 →
    ((p0 ≤ (255 : Int32) →
    (mMi E MX5_append [.ref 22, .int p0] w (fun v1 u1 =>
    ((v1 = 0 →
    (Qm (some (.int (-5 : Int32))) u1)) ∧ (¬ v1 = 0 →
    (Qm (some (.int (u1.1 22 1))) u1)))))) ∧ (¬ p0 ≤ (255 : Int32) →
    (Qm (some (.int (-3 : Int32))) w))))) :
    mG X E MX8_write 0 [.ref 0, .int p0] [] w := by
  refine mG_iload_n C dX8_write_0 rfl rfl ?_
  refine mG_if_lt (tgt := 11) C dX8_write_1 rfl (fun h => ?_) (fun h => ?_)
  · have K := K.1 h
    refine mG_bipush C dX8_write_11 bpm3 ?_
    exact mG_iret C F dX8_write_13 rfl rfl K
  · have K := K.2 h
    refine mG_iload_n C dX8_write_4 rfl rfl ?_
    refine mG_sipush C dX8_write_5 sp255 ?_
    refine mG_icmp_le (tgt := 14) C dX8_write_8 rfl (fun h => ?_) (fun h => ?_)
    · have K := K.1 h
      refine mG_aload_n C dX8_write_14 rfl rfl ?_
      refine mG_getR C dX8_write_15 fl_286 sh0 rfl ?_
      refine mG_iload_n C dX8_write_18 rfl rfl ?_
      refine mG_Vi (Z := MX5_append) (as := [.int p0]) (rest := []) C dX8_write_19 lk_308 zX5_append ⟨Nat.le_of_ble_eq_true rfl, Nat.le_of_ble_eq_true rfl⟩ sh22 rfl rfl (Nat.le_of_ble_eq_true rfl) rfl K (fun v1 u1 K => ?_)
      refine mG_if_eq (tgt := 35) C dX8_write_22 rfl (fun h => ?_) (fun h => ?_)
      · have K := K.1 h
        refine mG_bipush C dX8_write_35 bpm5 ?_
        exact mG_iret C F dX8_write_37 rfl rfl K
      · have K := K.2 h
        refine mG_aload_n C dX8_write_25 rfl rfl ?_
        refine mG_getR C dX8_write_26 fl_286 sh0 rfl ?_
        refine mG_getI C dX8_write_29 fl_84 sh22 rfl ?_
        refine mG_goto (tgt := 37) C dX8_write_32 rfl ?_
        exact mG_iret C F dX8_write_37 rfl rfl K
    · have K := K.2 h
      refine mG_bipush C dX8_write_11 bpm3 ?_
      exact mG_iret C F dX8_write_13 rfl rfl K
