/-! ===== CONDITIONS OF THE WALK, method by method, from cut to cut ===== -/
set_option maxRecDepth 20000 in
set_option maxHeartbeats 4000000 in
theorem vX3_comeTo_0 {X : mX} {E : mEnv} {Qm : Option Value → mW → Prop} (C : mCtx X E MX3_comeTo) (F : mFin X E MX3_comeTo Qm) {w : mW} {b : Nat} (hb : b = 46 ∨ b = 52) (p0 : Int32)
    (K : mMi E MX7_comeTo [.ref (b + 1), .int p0, .int (w.1 1 0)] w (fun v1 u1 =>
    ((¬ v1 = 0 →
    (((u1.1 (b + 1) 0) = (4 : Int32) →
    (Qm (some (.int (1 : Int32))) u1)) ∧ (¬ (u1.1 (b + 1) 0) = (4 : Int32) →
    (mMi E MX7_stands [.ref (b + 1), .int (u1.1 b 2)] u1 (fun v2 u2 =>
    ((v2 = 0 →
    (Qm (some (.int (0 : Int32))) u2)) ∧ (¬ v2 = 0 →
    (Qm (some (.int (1 : Int32))) u2)))))))) ∧ (v1 = 0 →
    (Qm (some (.int (0 : Int32))) u1))))) :
    mG X E MX3_comeTo 0 [.ref b, .int p0] [] w := by
  refine mG_aload_n C dX3_comeTo_0 rfl rfl ?_
  refine mG_getR C dX3_comeTo_1 fl_211 (shF hb) rfl ?_
  refine mG_iload_n C dX3_comeTo_4 rfl rfl ?_
  refine mG_aload_n C dX3_comeTo_5 rfl rfl ?_
  refine mG_getR C dX3_comeTo_6 fl_210 (shF hb) rfl ?_
  refine mG_getI C dX3_comeTo_9 fl_35 sh1 rfl ?_
  refine mG_Vi (Z := MX7_comeTo) (as := [.int p0, .int (w.1 1 0)]) (rest := []) C dX3_comeTo_12 lk_681 zX7_comeTo ⟨Nat.le_of_ble_eq_true rfl, Nat.le_of_ble_eq_true rfl⟩ (shF1 hb) rfl rfl (Nat.le_of_ble_eq_true rfl) rfl K (fun v1 u1 K => ?_)
  refine mG_if_ne (tgt := 20) C dX3_comeTo_15 rfl (fun h => ?_) (fun h => ?_)
  · have K := K.1 h
    refine mG_aload_n C dX3_comeTo_20 rfl rfl ?_
    refine mG_getR C dX3_comeTo_21 fl_211 (shF hb) rfl ?_
    refine mG_getI C dX3_comeTo_24 fl_193 (shF1 hb) rfl ?_
    refine mG_iconst C dX3_comeTo_27 ic4 ?_
    refine mG_icmp_eq (tgt := 45) C dX3_comeTo_28 rfl (fun h => ?_) (fun h => ?_)
    · have K := K.1 h
      refine mG_iconst C dX3_comeTo_45 ic1 ?_
      refine mG_goto (tgt := 50) C dX3_comeTo_46 rfl ?_
      exact mG_iret C F dX3_comeTo_50 rfl (by decide) K
    · have K := K.2 h
      refine mG_aload_n C dX3_comeTo_31 rfl rfl ?_
      refine mG_getR C dX3_comeTo_32 fl_211 (shF hb) rfl ?_
      refine mG_aload_n C dX3_comeTo_35 rfl rfl ?_
      refine mG_getI C dX3_comeTo_36 fl_214 (shF hb) rfl ?_
      refine mG_Vi (Z := MX7_stands) (as := [.int (u1.1 b 2)]) (rest := []) C dX3_comeTo_39 lk_599 zX7_stands ⟨Nat.le_of_ble_eq_true rfl, Nat.le_of_ble_eq_true rfl⟩ (shF1 hb) rfl rfl (Nat.le_of_ble_eq_true rfl) rfl K (fun v2 u2 K => ?_)
      refine mG_if_eq (tgt := 49) C dX3_comeTo_42 rfl (fun h => ?_) (fun h => ?_)
      · have K := K.1 h
        refine mG_iconst C dX3_comeTo_49 ic0 ?_
        exact mG_iret C F dX3_comeTo_50 rfl (by decide) K
      · have K := K.2 h
        refine mG_iconst C dX3_comeTo_45 ic1 ?_
        refine mG_goto (tgt := 50) C dX3_comeTo_46 rfl ?_
        exact mG_iret C F dX3_comeTo_50 rfl (by decide) K
  · have K := K.2 h
    refine mG_iconst C dX3_comeTo_18 ic0 ?_
    exact mG_iret C F dX3_comeTo_19 rfl (by decide) K

set_option maxRecDepth 20000 in
set_option maxHeartbeats 4000000 in
theorem vX3_doersIfSaidTo_0 {X : mX} {E : mEnv} {Qm : Option Value → mW → Prop} (C : mCtx X E MX3_doersIfSaidTo) (F : mFin X E MX3_doersIfSaidTo Qm) {w : mW} {b : Nat} (hb : b = 46 ∨ b = 52) (p0 : Int32)
    (K : ((p0 &&& (w.1 1 4)) = 0 →
    (Qm (some (.int (((w.1 b 8) &&& p0) ||| ((w.1 b 10) &&& (p0 ^^^ (-1 : Int32)))))) w)) ∧ (¬ (p0 &&& (w.1 1 4)) = 0 →
    (Qm (some (.int (((w.1 b 8) &&& p0) ||| ((w.1 b 9) &&& (p0 ^^^ (-1 : Int32)))))) w))) :
    mG X E MX3_doersIfSaidTo 0 [.ref b, .int p0, .retAddr 0] [] w := by
  refine mG_iload_n C dX3_doersIfSaidTo_0 rfl rfl ?_
  refine mG_aload_n C dX3_doersIfSaidTo_1 rfl rfl ?_
  refine mG_getR C dX3_doersIfSaidTo_2 fl_210 (shF hb) rfl ?_
  refine mG_getI C dX3_doersIfSaidTo_5 fl_49 sh1 rfl ?_
  refine mG_iand C dX3_doersIfSaidTo_8 ?_
  refine mG_if_eq (tgt := 19) C dX3_doersIfSaidTo_9 rfl (fun h => ?_) (fun h => ?_)
  · have K := K.1 h
    refine mG_aload_n C dX3_doersIfSaidTo_19 rfl rfl ?_
    refine mG_getI C dX3_doersIfSaidTo_20 fl_222 (shF hb) rfl ?_
    refine mG_istore_n (lv' := [.ref b, .int p0, .int (w.1 b 10)]) C dX3_doersIfSaidTo_23 rfl (by decide) rfl ?_
    refine mG_aload_n C dX3_doersIfSaidTo_24 rfl rfl ?_
    refine mG_getI C dX3_doersIfSaidTo_25 fl_220 (shF hb) rfl ?_
    refine mG_iload_n C dX3_doersIfSaidTo_28 rfl rfl ?_
    refine mG_iand C dX3_doersIfSaidTo_29 ?_
    refine mG_iload_n C dX3_doersIfSaidTo_30 rfl rfl ?_
    refine mG_iload_n C dX3_doersIfSaidTo_31 rfl rfl ?_
    refine mG_iconst C dX3_doersIfSaidTo_32 icm1 ?_
    refine mG_ixor C dX3_doersIfSaidTo_33 ?_
    refine mG_iand C dX3_doersIfSaidTo_34 ?_
    refine mG_ior C dX3_doersIfSaidTo_35 ?_
    exact mG_iret C F dX3_doersIfSaidTo_36 rfl rfl K
  · have K := K.2 h
    refine mG_aload_n C dX3_doersIfSaidTo_12 rfl rfl ?_
    refine mG_getI C dX3_doersIfSaidTo_13 fl_221 (shF hb) rfl ?_
    refine mG_goto (tgt := 23) C dX3_doersIfSaidTo_16 rfl ?_
    refine mG_istore_n (lv' := [.ref b, .int p0, .int (w.1 b 9)]) C dX3_doersIfSaidTo_23 rfl (by decide) rfl ?_
    refine mG_aload_n C dX3_doersIfSaidTo_24 rfl rfl ?_
    refine mG_getI C dX3_doersIfSaidTo_25 fl_220 (shF hb) rfl ?_
    refine mG_iload_n C dX3_doersIfSaidTo_28 rfl rfl ?_
    refine mG_iand C dX3_doersIfSaidTo_29 ?_
    refine mG_iload_n C dX3_doersIfSaidTo_30 rfl rfl ?_
    refine mG_iload_n C dX3_doersIfSaidTo_31 rfl rfl ?_
    refine mG_iconst C dX3_doersIfSaidTo_32 icm1 ?_
    refine mG_ixor C dX3_doersIfSaidTo_33 ?_
    refine mG_iand C dX3_doersIfSaidTo_34 ?_
    refine mG_ior C dX3_doersIfSaidTo_35 ?_
    exact mG_iret C F dX3_doersIfSaidTo_36 rfl rfl K

set_option maxRecDepth 20000 in
set_option maxHeartbeats 4000000 in
theorem vX3_doesDeedIfTold_0 {X : mX} {E : mEnv} {Qm : Option Value → mW → Prop} (C : mCtx X E MX3_doesDeedIfTold) (F : mFin X E MX3_doesDeedIfTold Qm) {w : mW} {b : Nat} (hb : b = 46 ∨ b = 52) (p0 : Int32)
    (K : (¬ (((w.1 b 8) >>> (p0 &&& 31)) &&& (1 : Int32)) = (1 : Int32) →
    (Qm (some (.int (0 : Int32))) w)) ∧ ((((w.1 b 8) >>> (p0 &&& 31)) &&& (1 : Int32)) = (1 : Int32) →
    (Qm (some (.int (1 : Int32))) w))) :
    mG X E MX3_doesDeedIfTold 0 [.ref b, .int p0] [] w := by
  refine mG_aload_n C dX3_doesDeedIfTold_0 rfl rfl ?_
  refine mG_getI C dX3_doesDeedIfTold_1 fl_220 (shF hb) rfl ?_
  refine mG_iload_n C dX3_doesDeedIfTold_4 rfl rfl ?_
  refine mG_ishr C dX3_doesDeedIfTold_5 ?_
  refine mG_iconst C dX3_doesDeedIfTold_6 ic1 ?_
  refine mG_iand C dX3_doesDeedIfTold_7 ?_
  refine mG_iconst C dX3_doesDeedIfTold_8 ic1 ?_
  refine mG_icmp_ne (tgt := 16) C dX3_doesDeedIfTold_9 rfl (fun h => ?_) (fun h => ?_)
  · have K := K.1 h
    refine mG_iconst C dX3_doesDeedIfTold_16 ic0 ?_
    exact mG_iret C F dX3_doesDeedIfTold_17 rfl (by decide) K
  · have K := K.2 h
    refine mG_iconst C dX3_doesDeedIfTold_12 ic1 ?_
    refine mG_goto (tgt := 17) C dX3_doesDeedIfTold_13 rfl ?_
    exact mG_iret C F dX3_doesDeedIfTold_17 rfl (by decide) K

set_option maxRecDepth 20000 in
set_option maxHeartbeats 4000000 in
theorem vX3_isSoSaidTo_0 {X : mX} {E : mEnv} {Qm : Option Value → mW → Prop} (C : mCtx X E MX3_isSoSaidTo) (F : mFin X E MX3_isSoSaidTo Qm) {w : mW} {b : Nat} (hb : b = 46 ∨ b = 52) (p0 : Int32)
    (K : (¬ (w.1 (b + 1) 0) = (4 : Int32) →
    (mMi E MX7_stands [.ref (b + 1), .int (w.1 b 2)] w (fun v1 u1 =>
    (narrow .boolean (.int v1) = .int v1 ∧ Qm (some (.int v1)) u1)))) ∧ ((w.1 (b + 1) 0) = (4 : Int32) →
    (mMi E MX3_truthIfSaidTo [.ref b, .int p0] w (fun v2 u2 =>
    (mMi E MX7_stands [.ref (b + 1), .int v2] u2 (fun v3 u3 =>
    (narrow .boolean (.int v3) = .int v3 ∧ Qm (some (.int v3)) u3))))))) :
    mG X E MX3_isSoSaidTo 0 [.ref b, .int p0] [] w := by
  refine mG_aload_n C dX3_isSoSaidTo_0 rfl rfl ?_
  refine mG_getR C dX3_isSoSaidTo_1 fl_211 (shF hb) rfl ?_
  refine mG_aload_n C dX3_isSoSaidTo_4 rfl rfl ?_
  refine mG_getR C dX3_isSoSaidTo_5 fl_211 (shF hb) rfl ?_
  refine mG_getI C dX3_isSoSaidTo_8 fl_193 (shF1 hb) rfl ?_
  refine mG_iconst C dX3_isSoSaidTo_11 ic4 ?_
  refine mG_icmp_ne (tgt := 23) C dX3_isSoSaidTo_12 rfl (fun h => ?_) (fun h => ?_)
  · have K := K.1 h
    refine mG_aload_n C dX3_isSoSaidTo_23 rfl rfl ?_
    refine mG_getI C dX3_isSoSaidTo_24 fl_214 (shF hb) rfl ?_
    refine mG_Vi (Z := MX7_stands) (as := [.int (w.1 b 2)]) (rest := []) C dX3_isSoSaidTo_27 lk_599 zX7_stands ⟨Nat.le_of_ble_eq_true rfl, Nat.le_of_ble_eq_true rfl⟩ (shF1 hb) rfl rfl (Nat.le_of_ble_eq_true rfl) rfl K (fun v1 u1 K => ?_)
    exact mG_iret C F dX3_isSoSaidTo_30 rfl K.1 K.2
  · have K := K.2 h
    refine mG_aload_n C dX3_isSoSaidTo_15 rfl rfl ?_
    refine mG_iload_n C dX3_isSoSaidTo_16 rfl rfl ?_
    refine mG_Vi (Z := MX3_truthIfSaidTo) (as := [.int p0]) (rest := [.ref (b + 1)]) C dX3_isSoSaidTo_17 lk_591 zX3_truthIfSaidTo ⟨Nat.le_of_ble_eq_true rfl, Nat.le_of_ble_eq_true rfl⟩ (shF hb) rfl rfl (Nat.le_of_ble_eq_true rfl) rfl K (fun v2 u2 K => ?_)
    refine mG_goto (tgt := 27) C dX3_isSoSaidTo_20 rfl ?_
    refine mG_Vi (Z := MX7_stands) (as := [.int v2]) (rest := []) C dX3_isSoSaidTo_27 lk_599 zX7_stands ⟨Nat.le_of_ble_eq_true rfl, Nat.le_of_ble_eq_true rfl⟩ (shF1 hb) rfl rfl (Nat.le_of_ble_eq_true rfl) rfl K (fun v3 u3 K => ?_)
    exact mG_iret C F dX3_isSoSaidTo_30 rfl K.1 K.2

set_option maxRecDepth 20000 in
set_option maxHeartbeats 4000000 in
theorem vX3_listen_0 {X : mX} {E : mEnv} {Qm : Option Value → mW → Prop} (C : mCtx X E MX3_listen) (F : mFin X E MX3_listen Qm) {w : mW} {b : Nat} (hb : b = 46 ∨ b = 52)
    (K : mG X E MX3_listen 12 [.ref b, .int (0 : Int32), .retAddr 0] [] (mPI (mPI w b 8 (0 : Int32)) b 9 (0 : Int32))) :
    mG X E MX3_listen 0 [.ref b, .retAddr 0, .retAddr 0] [] w := by
  refine mG_aload_n C dX3_listen_0 rfl rfl ?_
  refine mG_iconst C dX3_listen_1 ic0 ?_
  refine mG_putI C dX3_listen_2 fp_220 (shF hb) rfl ?_
  refine mG_aload_n C dX3_listen_5 rfl rfl ?_
  refine mG_iconst C dX3_listen_6 ic0 ?_
  refine mG_putI C dX3_listen_7 fp_221 (shF hb) rfl ?_
  refine mG_iconst C dX3_listen_10 ic0 ?_
  refine mG_istore_n (lv' := [.ref b, .int (0 : Int32), .retAddr 0]) C dX3_listen_11 rfl (by decide) rfl ?_
  exact K

set_option maxRecDepth 20000 in
set_option maxHeartbeats 4000000 in
theorem vX3_listen_12 {X : mX} {E : mEnv} {Qm : Option Value → mW → Prop} (C : mCtx X E MX3_listen) (F : mFin X E MX3_listen Qm) {w : mW} {b : Nat} (hb : b = 46 ∨ b = 52) (x1 : Int32)
    (K : ((w.1 1 1) ≤ x1 →
    (Qm none w)) ∧ (¬ (w.1 1 1) ≤ x1 →
    (mMi E MX4_mindOf [.long (w.2 b 3), .int x1] w (fun v1 u1 =>
    (mMi E MX7_believed [.ref (b + 1), .int v1] u1 (fun v2 u2 =>
    (vp_in x1 5 ∧
    (∀ w1 : mW, w1 = (mPI u2 (b + 5) x1.toNatClampNeg v2) →
    (mMi E MX1_believesHer [.ref 1, .int x1] w1 (fun v3 u3 =>
    ((v3 = 0 →
    (mMi E MX7_doubted [.ref (b + 1), .int v1] u3 (fun v4 u4 =>
    (vp_in x1 5 ∧
    (∀ w2 : mW, w2 = (mPI u4 (b + 4) x1.toNatClampNeg v4) →
    (vp_in x1 5 ∧
    (mMi E MX1_doesDeed [.ref 1, .int x1, .int (w2.1 (b + 5) x1.toNatClampNeg)] w2 (fun v5 u5 =>
    ((v5 = 0 →
    (vp_in x1 5 ∧
    (mMi E MX1_doesDeed [.ref 1, .int x1, .int (u5.1 (b + 4) x1.toNatClampNeg)] u5 (fun v6 u6 =>
    ((v6 = 0 →
    (mG X E MX3_listen 12 [.ref b, .int (x1 + (1 : Int32)), .retAddr 0] [] u6)) ∧ (¬ v6 = 0 →
    (mG X E MX3_listen 12 [.ref b, .int (x1 + (1 : Int32)), .retAddr 0] [] (mPI u6 b 8 ((u6.1 b 8) ||| ((1 : Int32) <<< (x1 &&& 31))))))))))) ∧ (¬ v5 = 0 →
    (vp_in x1 5 ∧
    (mMi E MX1_doesDeed [.ref 1, .int x1, .int ((mPI u5 b 9 ((u5.1 b 9) ||| ((1 : Int32) <<< (x1 &&& 31)))).1 (b + 4) x1.toNatClampNeg)] (mPI u5 b 9 ((u5.1 b 9) ||| ((1 : Int32) <<< (x1 &&& 31)))) (fun v7 u7 =>
    ((v7 = 0 →
    (mG X E MX3_listen 12 [.ref b, .int (x1 + (1 : Int32)), .retAddr 0] [] u7)) ∧ (¬ v7 = 0 →
    (mG X E MX3_listen 12 [.ref b, .int (x1 + (1 : Int32)), .retAddr 0] [] (mPI u7 b 8 ((u7.1 b 8) ||| ((1 : Int32) <<< (x1 &&& 31)))))))))))))))))))) ∧ (¬ v3 = 0 →
    (vp_in x1 5 ∧
    (vp_in x1 5 ∧
    (∀ w3 : mW, w3 = (mPI u3 (b + 4) x1.toNatClampNeg (u3.1 (b + 5) x1.toNatClampNeg)) →
    (vp_in x1 5 ∧
    (mMi E MX1_doesDeed [.ref 1, .int x1, .int (w3.1 (b + 5) x1.toNatClampNeg)] w3 (fun v8 u8 =>
    ((v8 = 0 →
    (vp_in x1 5 ∧
    (mMi E MX1_doesDeed [.ref 1, .int x1, .int (u8.1 (b + 4) x1.toNatClampNeg)] u8 (fun v9 u9 =>
    ((v9 = 0 →
    (mG X E MX3_listen 12 [.ref b, .int (x1 + (1 : Int32)), .retAddr 0] [] u9)) ∧ (¬ v9 = 0 →
    (mG X E MX3_listen 12 [.ref b, .int (x1 + (1 : Int32)), .retAddr 0] [] (mPI u9 b 8 ((u9.1 b 8) ||| ((1 : Int32) <<< (x1 &&& 31))))))))))) ∧ (¬ v8 = 0 →
    (vp_in x1 5 ∧
    (mMi E MX1_doesDeed [.ref 1, .int x1, .int ((mPI u8 b 9 ((u8.1 b 9) ||| ((1 : Int32) <<< (x1 &&& 31)))).1 (b + 4) x1.toNatClampNeg)] (mPI u8 b 9 ((u8.1 b 9) ||| ((1 : Int32) <<< (x1 &&& 31)))) (fun v10 u10 =>
    ((v10 = 0 →
    (mG X E MX3_listen 12 [.ref b, .int (x1 + (1 : Int32)), .retAddr 0] [] u10)) ∧ (¬ v10 = 0 →
    (mG X E MX3_listen 12 [.ref b, .int (x1 + (1 : Int32)), .retAddr 0] [] (mPI u10 b 8 ((u10.1 b 8) ||| ((1 : Int32) <<< (x1 &&& 31)))))))))))))))))))))))))))))) :
    mG X E MX3_listen 12 [.ref b, .int x1, .retAddr 0] [] w := by
  refine mG_iload_n C dX3_listen_12 rfl rfl ?_
  refine mG_aload_n C dX3_listen_13 rfl rfl ?_
  refine mG_getR C dX3_listen_14 fl_210 (shF hb) rfl ?_
  refine mG_getI C dX3_listen_17 fl_39 sh1 rfl ?_
  refine mG_icmp_ge (tgt := 144) C dX3_listen_20 rfl (fun h => ?_) (fun h => ?_)
  · have K := K.1 h
    exact mG_vret C F dX3_listen_144 rfl K
  · have K := K.2 h
    refine mG_aload_n C dX3_listen_23 rfl rfl ?_
    refine mG_getL C dX3_listen_24 fl_215 (shF hb) rfl ?_
    refine mG_iload_n C dX3_listen_27 rfl rfl ?_
    refine mG_Si (Z := MX4_mindOf) (as := [.long (w.2 b 3), .int x1]) (rest := []) C dX3_listen_28 lk_564 zX4_mindOf ⟨Nat.le_of_ble_eq_true rfl, Nat.le_of_ble_eq_true rfl⟩ rfl (Nat.le_of_ble_eq_true rfl) rfl K (fun v1 u1 K => ?_)
    refine mG_istore_n (lv' := [.ref b, .int x1, .int v1]) C dX3_listen_31 rfl (by decide) rfl ?_
    refine mG_aload_n C dX3_listen_32 rfl rfl ?_
    refine mG_getR C dX3_listen_33 fl_219 (shF hb) rfl ?_
    refine mG_iload_n C dX3_listen_36 rfl rfl ?_
    refine mG_aload_n C dX3_listen_37 rfl rfl ?_
    refine mG_getR C dX3_listen_38 fl_211 (shF hb) rfl ?_
    refine mG_iload_n C dX3_listen_41 rfl rfl ?_
    refine mG_Vi (Z := MX7_believed) (as := [.int v1]) (rest := [.int x1, .ref (b + 5)]) C dX3_listen_42 lk_565 zX7_believed ⟨Nat.le_of_ble_eq_true rfl, Nat.le_of_ble_eq_true rfl⟩ (shF1 hb) rfl rfl (Nat.le_of_ble_eq_true rfl) rfl K (fun v2 u2 K => ?_)
    obtain ⟨h1, K⟩ := K
    refine mG_iast C dX3_listen_45 (shF5 hb) h1 ?_
    refine mG_nm (fun w1 ew1 => ?_)
    have K := K w1 ew1
    refine mG_aload_n C dX3_listen_46 rfl rfl ?_
    refine mG_getR C dX3_listen_47 fl_218 (shF hb) rfl ?_
    refine mG_iload_n C dX3_listen_50 rfl rfl ?_
    refine mG_aload_n C dX3_listen_51 rfl rfl ?_
    refine mG_getR C dX3_listen_52 fl_210 (shF hb) rfl ?_
    refine mG_iload_n C dX3_listen_55 rfl rfl ?_
    refine mG_Vi (Z := MX1_believesHer) (as := [.int x1]) (rest := [.int x1, .ref (b + 4)]) C dX3_listen_56 lk_577 zX1_believesHer ⟨Nat.le_of_ble_eq_true rfl, Nat.le_of_ble_eq_true rfl⟩ sh1 rfl rfl (Nat.le_of_ble_eq_true rfl) rfl K (fun v3 u3 K => ?_)
    refine mG_if_eq (tgt := 71) C dX3_listen_59 rfl (fun h => ?_) (fun h => ?_)
    · have K := K.1 h
      refine mG_aload_n C dX3_listen_71 rfl rfl ?_
      refine mG_getR C dX3_listen_72 fl_211 (shF hb) rfl ?_
      refine mG_iload_n C dX3_listen_75 rfl rfl ?_
      refine mG_Vi (Z := MX7_doubted) (as := [.int v1]) (rest := [.int x1, .ref (b + 4)]) C dX3_listen_76 lk_578 zX7_doubted ⟨Nat.le_of_ble_eq_true rfl, Nat.le_of_ble_eq_true rfl⟩ (shF1 hb) rfl rfl (Nat.le_of_ble_eq_true rfl) rfl K (fun v4 u4 K => ?_)
      obtain ⟨h2, K⟩ := K
      refine mG_iast C dX3_listen_79 (shF4 hb) h2 ?_
      refine mG_nm (fun w2 ew2 => ?_)
      have K := K w2 ew2
      refine mG_aload_n C dX3_listen_80 rfl rfl ?_
      refine mG_getR C dX3_listen_81 fl_210 (shF hb) rfl ?_
      refine mG_iload_n C dX3_listen_84 rfl rfl ?_
      refine mG_aload_n C dX3_listen_85 rfl rfl ?_
      refine mG_getR C dX3_listen_86 fl_219 (shF hb) rfl ?_
      refine mG_iload_n C dX3_listen_89 rfl rfl ?_
      obtain ⟨h3, K⟩ := K
      refine mG_iald C dX3_listen_90 (shF5 hb) h3 ?_
      refine mG_Vi (Z := MX1_doesDeed) (as := [.int x1, .int (w2.1 (b + 5) x1.toNatClampNeg)]) (rest := []) C dX3_listen_91 lk_582 zX1_doesDeed ⟨Nat.le_of_ble_eq_true rfl, Nat.le_of_ble_eq_true rfl⟩ sh1 rfl rfl (Nat.le_of_ble_eq_true rfl) rfl K (fun v5 u5 K => ?_)
      refine mG_if_eq (tgt := 109) C dX3_listen_94 rfl (fun h => ?_) (fun h => ?_)
      · have K := K.1 h
        refine mG_aload_n C dX3_listen_109 rfl rfl ?_
        refine mG_getR C dX3_listen_110 fl_210 (shF hb) rfl ?_
        refine mG_iload_n C dX3_listen_113 rfl rfl ?_
        refine mG_aload_n C dX3_listen_114 rfl rfl ?_
        refine mG_getR C dX3_listen_115 fl_218 (shF hb) rfl ?_
        refine mG_iload_n C dX3_listen_118 rfl rfl ?_
        obtain ⟨h4, K⟩ := K
        refine mG_iald C dX3_listen_119 (shF4 hb) h4 ?_
        refine mG_Vi (Z := MX1_doesDeed) (as := [.int x1, .int (u5.1 (b + 4) x1.toNatClampNeg)]) (rest := []) C dX3_listen_120 lk_582 zX1_doesDeed ⟨Nat.le_of_ble_eq_true rfl, Nat.le_of_ble_eq_true rfl⟩ sh1 rfl rfl (Nat.le_of_ble_eq_true rfl) rfl K (fun v6 u6 K => ?_)
        refine mG_if_eq (tgt := 138) C dX3_listen_123 rfl (fun h => ?_) (fun h => ?_)
        · have K := K.1 h
          refine mG_iincc (lv' := [.ref b, .int (x1 + (1 : Int32)), .int v1]) C dX3_listen_138 rfl ic1 (by decide) rfl ?_
          refine mG_goto (tgt := 12) C dX3_listen_141 rfl ?_
          exact mG_holes [2] rfl K
        · have K := K.2 h
          refine mG_aload_n C dX3_listen_126 rfl rfl ?_
          refine mG_dup C dX3_listen_127 rfl ?_
          refine mG_getI C dX3_listen_128 fl_220 (shF hb) rfl ?_
          refine mG_iconst C dX3_listen_131 ic1 ?_
          refine mG_iload_n C dX3_listen_132 rfl rfl ?_
          refine mG_ishl C dX3_listen_133 ?_
          refine mG_ior C dX3_listen_134 ?_
          refine mG_putI C dX3_listen_135 fp_220 (shF hb) rfl ?_
          refine mG_iincc (lv' := [.ref b, .int (x1 + (1 : Int32)), .int v1]) C dX3_listen_138 rfl ic1 (by decide) rfl ?_
          refine mG_goto (tgt := 12) C dX3_listen_141 rfl ?_
          exact mG_holes [2] rfl K
      · have K := K.2 h
        refine mG_aload_n C dX3_listen_97 rfl rfl ?_
        refine mG_dup C dX3_listen_98 rfl ?_
        refine mG_getI C dX3_listen_99 fl_221 (shF hb) rfl ?_
        refine mG_iconst C dX3_listen_102 ic1 ?_
        refine mG_iload_n C dX3_listen_103 rfl rfl ?_
        refine mG_ishl C dX3_listen_104 ?_
        refine mG_ior C dX3_listen_105 ?_
        refine mG_putI C dX3_listen_106 fp_221 (shF hb) rfl ?_
        refine mG_aload_n C dX3_listen_109 rfl rfl ?_
        refine mG_getR C dX3_listen_110 fl_210 (shF hb) rfl ?_
        refine mG_iload_n C dX3_listen_113 rfl rfl ?_
        refine mG_aload_n C dX3_listen_114 rfl rfl ?_
        refine mG_getR C dX3_listen_115 fl_218 (shF hb) rfl ?_
        refine mG_iload_n C dX3_listen_118 rfl rfl ?_
        obtain ⟨h5, K⟩ := K
        refine mG_iald C dX3_listen_119 (shF4 hb) h5 ?_
        refine mG_Vi (Z := MX1_doesDeed) (as := [.int x1, .int ((mPI u5 b 9 ((u5.1 b 9) ||| ((1 : Int32) <<< (x1 &&& 31)))).1 (b + 4) x1.toNatClampNeg)]) (rest := []) C dX3_listen_120 lk_582 zX1_doesDeed ⟨Nat.le_of_ble_eq_true rfl, Nat.le_of_ble_eq_true rfl⟩ sh1 rfl rfl (Nat.le_of_ble_eq_true rfl) rfl K (fun v7 u7 K => ?_)
        refine mG_if_eq (tgt := 138) C dX3_listen_123 rfl (fun h => ?_) (fun h => ?_)
        · have K := K.1 h
          refine mG_iincc (lv' := [.ref b, .int (x1 + (1 : Int32)), .int v1]) C dX3_listen_138 rfl ic1 (by decide) rfl ?_
          refine mG_goto (tgt := 12) C dX3_listen_141 rfl ?_
          exact mG_holes [2] rfl K
        · have K := K.2 h
          refine mG_aload_n C dX3_listen_126 rfl rfl ?_
          refine mG_dup C dX3_listen_127 rfl ?_
          refine mG_getI C dX3_listen_128 fl_220 (shF hb) rfl ?_
          refine mG_iconst C dX3_listen_131 ic1 ?_
          refine mG_iload_n C dX3_listen_132 rfl rfl ?_
          refine mG_ishl C dX3_listen_133 ?_
          refine mG_ior C dX3_listen_134 ?_
          refine mG_putI C dX3_listen_135 fp_220 (shF hb) rfl ?_
          refine mG_iincc (lv' := [.ref b, .int (x1 + (1 : Int32)), .int v1]) C dX3_listen_138 rfl ic1 (by decide) rfl ?_
          refine mG_goto (tgt := 12) C dX3_listen_141 rfl ?_
          exact mG_holes [2] rfl K
    · have K := K.2 h
      refine mG_aload_n C dX3_listen_62 rfl rfl ?_
      refine mG_getR C dX3_listen_63 fl_219 (shF hb) rfl ?_
      refine mG_iload_n C dX3_listen_66 rfl rfl ?_
      obtain ⟨h6, K⟩ := K
      refine mG_iald C dX3_listen_67 (shF5 hb) h6 ?_
      refine mG_goto (tgt := 79) C dX3_listen_68 rfl ?_
      obtain ⟨h7, K⟩ := K
      refine mG_iast C dX3_listen_79 (shF4 hb) h7 ?_
      refine mG_nm (fun w3 ew3 => ?_)
      have K := K w3 ew3
      refine mG_aload_n C dX3_listen_80 rfl rfl ?_
      refine mG_getR C dX3_listen_81 fl_210 (shF hb) rfl ?_
      refine mG_iload_n C dX3_listen_84 rfl rfl ?_
      refine mG_aload_n C dX3_listen_85 rfl rfl ?_
      refine mG_getR C dX3_listen_86 fl_219 (shF hb) rfl ?_
      refine mG_iload_n C dX3_listen_89 rfl rfl ?_
      obtain ⟨h8, K⟩ := K
      refine mG_iald C dX3_listen_90 (shF5 hb) h8 ?_
      refine mG_Vi (Z := MX1_doesDeed) (as := [.int x1, .int (w3.1 (b + 5) x1.toNatClampNeg)]) (rest := []) C dX3_listen_91 lk_582 zX1_doesDeed ⟨Nat.le_of_ble_eq_true rfl, Nat.le_of_ble_eq_true rfl⟩ sh1 rfl rfl (Nat.le_of_ble_eq_true rfl) rfl K (fun v8 u8 K => ?_)
      refine mG_if_eq (tgt := 109) C dX3_listen_94 rfl (fun h => ?_) (fun h => ?_)
      · have K := K.1 h
        refine mG_aload_n C dX3_listen_109 rfl rfl ?_
        refine mG_getR C dX3_listen_110 fl_210 (shF hb) rfl ?_
        refine mG_iload_n C dX3_listen_113 rfl rfl ?_
        refine mG_aload_n C dX3_listen_114 rfl rfl ?_
        refine mG_getR C dX3_listen_115 fl_218 (shF hb) rfl ?_
        refine mG_iload_n C dX3_listen_118 rfl rfl ?_
        obtain ⟨h9, K⟩ := K
        refine mG_iald C dX3_listen_119 (shF4 hb) h9 ?_
        refine mG_Vi (Z := MX1_doesDeed) (as := [.int x1, .int (u8.1 (b + 4) x1.toNatClampNeg)]) (rest := []) C dX3_listen_120 lk_582 zX1_doesDeed ⟨Nat.le_of_ble_eq_true rfl, Nat.le_of_ble_eq_true rfl⟩ sh1 rfl rfl (Nat.le_of_ble_eq_true rfl) rfl K (fun v9 u9 K => ?_)
        refine mG_if_eq (tgt := 138) C dX3_listen_123 rfl (fun h => ?_) (fun h => ?_)
        · have K := K.1 h
          refine mG_iincc (lv' := [.ref b, .int (x1 + (1 : Int32)), .int v1]) C dX3_listen_138 rfl ic1 (by decide) rfl ?_
          refine mG_goto (tgt := 12) C dX3_listen_141 rfl ?_
          exact mG_holes [2] rfl K
        · have K := K.2 h
          refine mG_aload_n C dX3_listen_126 rfl rfl ?_
          refine mG_dup C dX3_listen_127 rfl ?_
          refine mG_getI C dX3_listen_128 fl_220 (shF hb) rfl ?_
          refine mG_iconst C dX3_listen_131 ic1 ?_
          refine mG_iload_n C dX3_listen_132 rfl rfl ?_
          refine mG_ishl C dX3_listen_133 ?_
          refine mG_ior C dX3_listen_134 ?_
          refine mG_putI C dX3_listen_135 fp_220 (shF hb) rfl ?_
          refine mG_iincc (lv' := [.ref b, .int (x1 + (1 : Int32)), .int v1]) C dX3_listen_138 rfl ic1 (by decide) rfl ?_
          refine mG_goto (tgt := 12) C dX3_listen_141 rfl ?_
          exact mG_holes [2] rfl K
      · have K := K.2 h
        refine mG_aload_n C dX3_listen_97 rfl rfl ?_
        refine mG_dup C dX3_listen_98 rfl ?_
        refine mG_getI C dX3_listen_99 fl_221 (shF hb) rfl ?_
        refine mG_iconst C dX3_listen_102 ic1 ?_
        refine mG_iload_n C dX3_listen_103 rfl rfl ?_
        refine mG_ishl C dX3_listen_104 ?_
        refine mG_ior C dX3_listen_105 ?_
        refine mG_putI C dX3_listen_106 fp_221 (shF hb) rfl ?_
        refine mG_aload_n C dX3_listen_109 rfl rfl ?_
        refine mG_getR C dX3_listen_110 fl_210 (shF hb) rfl ?_
        refine mG_iload_n C dX3_listen_113 rfl rfl ?_
        refine mG_aload_n C dX3_listen_114 rfl rfl ?_
        refine mG_getR C dX3_listen_115 fl_218 (shF hb) rfl ?_
        refine mG_iload_n C dX3_listen_118 rfl rfl ?_
        obtain ⟨h10, K⟩ := K
        refine mG_iald C dX3_listen_119 (shF4 hb) h10 ?_
        refine mG_Vi (Z := MX1_doesDeed) (as := [.int x1, .int ((mPI u8 b 9 ((u8.1 b 9) ||| ((1 : Int32) <<< (x1 &&& 31)))).1 (b + 4) x1.toNatClampNeg)]) (rest := []) C dX3_listen_120 lk_582 zX1_doesDeed ⟨Nat.le_of_ble_eq_true rfl, Nat.le_of_ble_eq_true rfl⟩ sh1 rfl rfl (Nat.le_of_ble_eq_true rfl) rfl K (fun v10 u10 K => ?_)
        refine mG_if_eq (tgt := 138) C dX3_listen_123 rfl (fun h => ?_) (fun h => ?_)
        · have K := K.1 h
          refine mG_iincc (lv' := [.ref b, .int (x1 + (1 : Int32)), .int v1]) C dX3_listen_138 rfl ic1 (by decide) rfl ?_
          refine mG_goto (tgt := 12) C dX3_listen_141 rfl ?_
          exact mG_holes [2] rfl K
        · have K := K.2 h
          refine mG_aload_n C dX3_listen_126 rfl rfl ?_
          refine mG_dup C dX3_listen_127 rfl ?_
          refine mG_getI C dX3_listen_128 fl_220 (shF hb) rfl ?_
          refine mG_iconst C dX3_listen_131 ic1 ?_
          refine mG_iload_n C dX3_listen_132 rfl rfl ?_
          refine mG_ishl C dX3_listen_133 ?_
          refine mG_ior C dX3_listen_134 ?_
          refine mG_putI C dX3_listen_135 fp_220 (shF hb) rfl ?_
          refine mG_iincc (lv' := [.ref b, .int (x1 + (1 : Int32)), .int v1]) C dX3_listen_138 rfl ic1 (by decide) rfl ?_
          refine mG_goto (tgt := 12) C dX3_listen_141 rfl ?_
          exact mG_holes [2] rfl K

set_option maxRecDepth 20000 in
set_option maxHeartbeats 4000000 in
theorem vX3_look_0 {X : mX} {E : mEnv} {Qm : Option Value → mW → Prop} (C : mCtx X E MX3_look) (F : mFin X E MX3_look Qm) {w : mW} {b : Nat} (hb : b = 46 ∨ b = 52) (p0 : Int32) (p1 : Int64)
    (K : mMi E MX1_doers [.ref 1, .long p1] (mPL (mPI w b 2 p0) b 3 p1) (fun v1 u1 =>
    (mG X E MX3_look 36 [.ref b, .int p0, .retAddr 0, .retAddr 0, .int ((1 : Int32) <<< (((mPI u1 b 10 v1).1 1 1) &&& 31)), .int (0 : Int32)] [] (mPI u1 b 10 v1)))) :
    mG X E MX3_look 0 [.ref b, .int p0, .long p1, .retAddr 0, .retAddr 0, .retAddr 0] [] w := by
  refine mG_aload_n C dX3_look_0 rfl rfl ?_
  refine mG_iload_n C dX3_look_1 rfl rfl ?_
  refine mG_putI C dX3_look_2 fp_214 (shF hb) rfl ?_
  refine mG_aload_n C dX3_look_5 rfl rfl ?_
  refine mG_lload_n C dX3_look_6 rfl rfl ?_
  refine mG_putL C dX3_look_7 fp_215 (shF hb) rfl ?_
  refine mG_aload_n C dX3_look_10 rfl rfl ?_
  refine mG_aload_n C dX3_look_11 rfl rfl ?_
  refine mG_getR C dX3_look_12 fl_210 (shF hb) rfl ?_
  refine mG_lload_n C dX3_look_15 rfl rfl ?_
  refine mG_Vi (Z := MX1_doers) (as := [.long p1]) (rest := [.ref b]) C dX3_look_16 lk_534 zX1_doers ⟨Nat.le_of_ble_eq_true rfl, Nat.le_of_ble_eq_true rfl⟩ sh1 rfl rfl (Nat.le_of_ble_eq_true rfl) rfl K (fun v1 u1 K => ?_)
  refine mG_putI C dX3_look_19 fp_222 (shF hb) rfl ?_
  refine mG_iconst C dX3_look_22 ic1 ?_
  refine mG_aload_n C dX3_look_23 rfl rfl ?_
  refine mG_getR C dX3_look_24 fl_210 (shF hb) rfl ?_
  refine mG_getI C dX3_look_27 fl_39 sh1 rfl ?_
  refine mG_ishl C dX3_look_30 ?_
  refine mG_istore (lv' := [.ref b, .int p0, .long p1, .retAddr 0, .int ((1 : Int32) <<< (((mPI u1 b 10 v1).1 1 1) &&& 31)), .retAddr 0]) C dX3_look_31 (by decide) rfl ?_
  refine mG_iconst C dX3_look_33 ic0 ?_
  refine mG_istore (lv' := [.ref b, .int p0, .long p1, .retAddr 0, .int ((1 : Int32) <<< (((mPI u1 b 10 v1).1 1 1) &&& 31)), .int (0 : Int32)]) C dX3_look_34 (by decide) rfl ?_
  exact mG_holes [2] rfl K

set_option maxRecDepth 20000 in
set_option maxHeartbeats 4000000 in
theorem vX3_look_36 {X : mX} {E : mEnv} {Qm : Option Value → mW → Prop} (C : mCtx X E MX3_look) (F : mFin X E MX3_look Qm) {w : mW} {b : Nat} (hb : b = 46 ∨ b = 52) (x1 : Int32) (x4 : Int32) (x5 : Int32)
    (K : (x4 ≤ x5 →
    (Qm none w)) ∧ (¬ x4 ≤ x5 →
    (((32 : Int32) ≤ x5 →
    (Qm none w)) ∧ (¬ (32 : Int32) ≤ x5 →
    (mMi E MX1_dawn [.ref 1, .int x1, .int x5] w (fun v1 u1 =>
    (vp_in x5 32 ∧
    (∀ w1 : mW, w1 = (mPI u1 (b + 2) x5.toNatClampNeg v1) →
    (vp_in x5 32 ∧
    (mMi E MX1_sumOf [.ref 1, .int (w1.1 (b + 2) x5.toNatClampNeg)] w1 (fun v2 u2 =>
    (vp_in x5 32 ∧
    (∀ w2 : mW, w2 = (mPI u2 (b + 3) x5.toNatClampNeg v2) →
    (mG X E MX3_look 36 [.ref b, .int x1, .retAddr 0, .retAddr 0, .int x4, .int (x5 + (1 : Int32))] [] w2)))))))))))))) :
    mG X E MX3_look 36 [.ref b, .int x1, .retAddr 0, .retAddr 0, .int x4, .int x5] [] w := by
  refine mG_iload C dX3_look_36 rfl ?_
  refine mG_iload C dX3_look_38 rfl ?_
  refine mG_icmp_ge (tgt := 97) C dX3_look_40 rfl (fun h => ?_) (fun h => ?_)
  · have K := K.1 h
    exact mG_vret C F dX3_look_97 rfl K
  · have K := K.2 h
    refine mG_iload C dX3_look_43 rfl ?_
    refine mG_aload_n C dX3_look_45 rfl rfl ?_
    refine mG_getR C dX3_look_46 fl_216 (shF hb) rfl ?_
    refine mG_alen (v := 32) C dX3_look_49 (shF2 hb) (by decide) ?_
    refine mG_icmp_ge (tgt := 97) C dX3_look_50 rfl (fun h => ?_) (fun h => ?_)
    · have K := K.1 h
      exact mG_vret C F dX3_look_97 rfl K
    · have K := K.2 h
      refine mG_aload_n C dX3_look_53 rfl rfl ?_
      refine mG_getR C dX3_look_54 fl_216 (shF hb) rfl ?_
      refine mG_iload C dX3_look_57 rfl ?_
      refine mG_aload_n C dX3_look_59 rfl rfl ?_
      refine mG_getR C dX3_look_60 fl_210 (shF hb) rfl ?_
      refine mG_iload_n C dX3_look_63 rfl rfl ?_
      refine mG_iload C dX3_look_64 rfl ?_
      refine mG_Vi (Z := MX1_dawn) (as := [.int x1, .int x5]) (rest := [.int x5, .ref (b + 2)]) C dX3_look_66 lk_544 zX1_dawn ⟨Nat.le_of_ble_eq_true rfl, Nat.le_of_ble_eq_true rfl⟩ sh1 rfl rfl (Nat.le_of_ble_eq_true rfl) rfl K (fun v1 u1 K => ?_)
      obtain ⟨h1, K⟩ := K
      refine mG_iast C dX3_look_69 (shF2 hb) h1 ?_
      refine mG_nm (fun w1 ew1 => ?_)
      have K := K w1 ew1
      refine mG_aload_n C dX3_look_70 rfl rfl ?_
      refine mG_getR C dX3_look_71 fl_217 (shF hb) rfl ?_
      refine mG_iload C dX3_look_74 rfl ?_
      refine mG_aload_n C dX3_look_76 rfl rfl ?_
      refine mG_getR C dX3_look_77 fl_210 (shF hb) rfl ?_
      refine mG_aload_n C dX3_look_80 rfl rfl ?_
      refine mG_getR C dX3_look_81 fl_216 (shF hb) rfl ?_
      refine mG_iload C dX3_look_84 rfl ?_
      obtain ⟨h2, K⟩ := K
      refine mG_iald C dX3_look_86 (shF2 hb) h2 ?_
      refine mG_Vi (Z := MX1_sumOf) (as := [.int (w1.1 (b + 2) x5.toNatClampNeg)]) (rest := [.int x5, .ref (b + 3)]) C dX3_look_87 lk_551 zX1_sumOf ⟨Nat.le_of_ble_eq_true rfl, Nat.le_of_ble_eq_true rfl⟩ sh1 rfl rfl (Nat.le_of_ble_eq_true rfl) rfl K (fun v2 u2 K => ?_)
      obtain ⟨h3, K⟩ := K
      refine mG_iast C dX3_look_90 (shF3 hb) h3 ?_
      refine mG_nm (fun w2 ew2 => ?_)
      have K := K w2 ew2
      refine mG_iincc (lv' := [.ref b, .int x1, .retAddr 0, .retAddr 0, .int x4, .int (x5 + (1 : Int32))]) C dX3_look_91 rfl ic1 (by decide) rfl ?_
      refine mG_goto (tgt := 36) C dX3_look_94 rfl ?_
      exact K

set_option maxRecDepth 20000 in
set_option maxHeartbeats 4000000 in
theorem vX3_mindsIfSaidTo_0 {X : mX} {E : mEnv} {Qm : Option Value → mW → Prop} (C : mCtx X E MX3_mindsIfSaidTo) (F : mFin X E MX3_mindsIfSaidTo Qm) {w : mW} {b : Nat} (hb : b = 46 ∨ b = 52) (p0 : Int32)
    (K : ((p0 &&& (w.1 1 4)) = 0 →
    (mG X E MX3_mindsIfSaidTo 26 [.ref b, .int p0, .int (0 : Int32), .long (w.2 b 3), .retAddr 0, .int (0 : Int32)] [] w)) ∧ (¬ (p0 &&& (w.1 1 4)) = 0 →
    (mG X E MX3_mindsIfSaidTo 26 [.ref b, .int p0, .int (1 : Int32), .long (w.2 b 3), .retAddr 0, .int (0 : Int32)] [] w))) :
    mG X E MX3_mindsIfSaidTo 0 [.ref b, .int p0, .retAddr 0, .retAddr 0, .retAddr 0, .retAddr 0] [] w := by
  refine mG_iload_n C dX3_mindsIfSaidTo_0 rfl rfl ?_
  refine mG_aload_n C dX3_mindsIfSaidTo_1 rfl rfl ?_
  refine mG_getR C dX3_mindsIfSaidTo_2 fl_210 (shF hb) rfl ?_
  refine mG_getI C dX3_mindsIfSaidTo_5 fl_49 sh1 rfl ?_
  refine mG_iand C dX3_mindsIfSaidTo_8 ?_
  refine mG_if_eq (tgt := 16) C dX3_mindsIfSaidTo_9 rfl (fun h => ?_) (fun h => ?_)
  · have K := K.1 h
    refine mG_iconst C dX3_mindsIfSaidTo_16 ic0 ?_
    refine mG_istore_n (lv' := [.ref b, .int p0, .int (0 : Int32), .retAddr 0, .retAddr 0, .retAddr 0]) C dX3_mindsIfSaidTo_17 rfl (by decide) rfl ?_
    refine mG_aload_n C dX3_mindsIfSaidTo_18 rfl rfl ?_
    refine mG_getL C dX3_mindsIfSaidTo_19 fl_215 (shF hb) rfl ?_
    refine mG_lstore_n (lv' := [.ref b, .int p0, .int (0 : Int32), .long (w.2 b 3), .retAddr 0, .retAddr 0]) C dX3_mindsIfSaidTo_22 rfl (by decide) rfl ?_
    refine mG_iconst C dX3_mindsIfSaidTo_23 ic0 ?_
    refine mG_istore (lv' := [.ref b, .int p0, .int (0 : Int32), .long (w.2 b 3), .retAddr 0, .int (0 : Int32)]) C dX3_mindsIfSaidTo_24 (by decide) rfl ?_
    exact K
  · have K := K.2 h
    refine mG_iconst C dX3_mindsIfSaidTo_12 ic1 ?_
    refine mG_goto (tgt := 17) C dX3_mindsIfSaidTo_13 rfl ?_
    refine mG_istore_n (lv' := [.ref b, .int p0, .int (1 : Int32), .retAddr 0, .retAddr 0, .retAddr 0]) C dX3_mindsIfSaidTo_17 rfl (by decide) rfl ?_
    refine mG_aload_n C dX3_mindsIfSaidTo_18 rfl rfl ?_
    refine mG_getL C dX3_mindsIfSaidTo_19 fl_215 (shF hb) rfl ?_
    refine mG_lstore_n (lv' := [.ref b, .int p0, .int (1 : Int32), .long (w.2 b 3), .retAddr 0, .retAddr 0]) C dX3_mindsIfSaidTo_22 rfl (by decide) rfl ?_
    refine mG_iconst C dX3_mindsIfSaidTo_23 ic0 ?_
    refine mG_istore (lv' := [.ref b, .int p0, .int (1 : Int32), .long (w.2 b 3), .retAddr 0, .int (0 : Int32)]) C dX3_mindsIfSaidTo_24 (by decide) rfl ?_
    exact K

set_option maxRecDepth 20000 in
set_option maxHeartbeats 4000000 in
theorem vX3_mindsIfSaidTo_26 {X : mX} {E : mEnv} {Qm : Option Value → mW → Prop} (C : mCtx X E MX3_mindsIfSaidTo) (F : mFin X E MX3_mindsIfSaidTo Qm) {w : mW} {b : Nat} (hb : b = 46 ∨ b = 52) (x1 : Int32) (x2 : Int32) (x3 : Int64) (x5 : Int32)
    (K : ((w.1 1 1) ≤ x5 →
    (Qm (some (.long x3)) w)) ∧ (¬ (w.1 1 1) ≤ x5 →
    ((¬ ((x1 >>> (x5 &&& 31)) &&& (1 : Int32)) = (1 : Int32) →
    ((x2 = 0 →
    (mG X E MX3_mindsIfSaidTo 26 [.ref b, .int x1, .int x2, .long x3, .retAddr 0, .int (x5 + (1 : Int32))] [] w)) ∧ (¬ x2 = 0 →
    (vp_in x5 5 ∧
    (mMl E MX4_withMind [.long x3, .int x5, .int (w.1 (b + 5) x5.toNatClampNeg)] w (fun v1 u1 =>
    (mG X E MX3_mindsIfSaidTo 26 [.ref b, .int x1, .int x2, .long v1, .retAddr 0, .int (x5 + (1 : Int32))] [] u1))))))) ∧ (((x1 >>> (x5 &&& 31)) &&& (1 : Int32)) = (1 : Int32) →
    (vp_in x5 5 ∧
    (mMl E MX4_withMind [.long x3, .int x5, .int (w.1 (b + 4) x5.toNatClampNeg)] w (fun v2 u2 =>
    (mG X E MX3_mindsIfSaidTo 26 [.ref b, .int x1, .int x2, .long v2, .retAddr 0, .int (x5 + (1 : Int32))] [] u2)))))))) :
    mG X E MX3_mindsIfSaidTo 26 [.ref b, .int x1, .int x2, .long x3, .retAddr 0, .int x5] [] w := by
  refine mG_iload C dX3_mindsIfSaidTo_26 rfl ?_
  refine mG_aload_n C dX3_mindsIfSaidTo_28 rfl rfl ?_
  refine mG_getR C dX3_mindsIfSaidTo_29 fl_210 (shF hb) rfl ?_
  refine mG_getI C dX3_mindsIfSaidTo_32 fl_39 sh1 rfl ?_
  refine mG_icmp_ge (tgt := 89) C dX3_mindsIfSaidTo_35 rfl (fun h => ?_) (fun h => ?_)
  · have K := K.1 h
    refine mG_lload_n C dX3_mindsIfSaidTo_89 rfl rfl ?_
    exact mG_lret C F dX3_mindsIfSaidTo_90 rfl K
  · have K := K.2 h
    refine mG_iload_n C dX3_mindsIfSaidTo_38 rfl rfl ?_
    refine mG_iload C dX3_mindsIfSaidTo_39 rfl ?_
    refine mG_ishr C dX3_mindsIfSaidTo_41 ?_
    refine mG_iconst C dX3_mindsIfSaidTo_42 ic1 ?_
    refine mG_iand C dX3_mindsIfSaidTo_43 ?_
    refine mG_iconst C dX3_mindsIfSaidTo_44 ic1 ?_
    refine mG_icmp_ne (tgt := 65) C dX3_mindsIfSaidTo_45 rfl (fun h => ?_) (fun h => ?_)
    · have K := K.1 h
      refine mG_iload_n C dX3_mindsIfSaidTo_65 rfl rfl ?_
      refine mG_if_eq (tgt := 83) C dX3_mindsIfSaidTo_66 rfl (fun h => ?_) (fun h => ?_)
      · have K := K.1 h
        refine mG_iincc (lv' := [.ref b, .int x1, .int x2, .long x3, .retAddr 0, .int (x5 + (1 : Int32))]) C dX3_mindsIfSaidTo_83 rfl ic1 (by decide) rfl ?_
        refine mG_goto (tgt := 26) C dX3_mindsIfSaidTo_86 rfl ?_
        exact K
      · have K := K.2 h
        refine mG_lload_n C dX3_mindsIfSaidTo_69 rfl rfl ?_
        refine mG_iload C dX3_mindsIfSaidTo_70 rfl ?_
        refine mG_aload_n C dX3_mindsIfSaidTo_72 rfl rfl ?_
        refine mG_getR C dX3_mindsIfSaidTo_73 fl_219 (shF hb) rfl ?_
        refine mG_iload C dX3_mindsIfSaidTo_76 rfl ?_
        obtain ⟨h1, K⟩ := K
        refine mG_iald C dX3_mindsIfSaidTo_78 (shF5 hb) h1 ?_
        refine mG_Sl (Z := MX4_withMind) (as := [.long x3, .int x5, .int (w.1 (b + 5) x5.toNatClampNeg)]) (rest := []) C dX3_mindsIfSaidTo_79 lk_611 zX4_withMind ⟨Nat.le_of_ble_eq_true rfl, Nat.le_of_ble_eq_true rfl⟩ rfl (Nat.le_of_ble_eq_true rfl) rfl K (fun v1 u1 K => ?_)
        refine mG_lstore_n (lv' := [.ref b, .int x1, .int x2, .long v1, .retAddr 0, .int x5]) C dX3_mindsIfSaidTo_82 rfl (by decide) rfl ?_
        refine mG_iincc (lv' := [.ref b, .int x1, .int x2, .long v1, .retAddr 0, .int (x5 + (1 : Int32))]) C dX3_mindsIfSaidTo_83 rfl ic1 (by decide) rfl ?_
        refine mG_goto (tgt := 26) C dX3_mindsIfSaidTo_86 rfl ?_
        exact K
    · have K := K.2 h
      refine mG_lload_n C dX3_mindsIfSaidTo_48 rfl rfl ?_
      refine mG_iload C dX3_mindsIfSaidTo_49 rfl ?_
      refine mG_aload_n C dX3_mindsIfSaidTo_51 rfl rfl ?_
      refine mG_getR C dX3_mindsIfSaidTo_52 fl_218 (shF hb) rfl ?_
      refine mG_iload C dX3_mindsIfSaidTo_55 rfl ?_
      obtain ⟨h2, K⟩ := K
      refine mG_iald C dX3_mindsIfSaidTo_57 (shF4 hb) h2 ?_
      refine mG_Sl (Z := MX4_withMind) (as := [.long x3, .int x5, .int (w.1 (b + 4) x5.toNatClampNeg)]) (rest := []) C dX3_mindsIfSaidTo_58 lk_611 zX4_withMind ⟨Nat.le_of_ble_eq_true rfl, Nat.le_of_ble_eq_true rfl⟩ rfl (Nat.le_of_ble_eq_true rfl) rfl K (fun v2 u2 K => ?_)
      refine mG_lstore_n (lv' := [.ref b, .int x1, .int x2, .long v2, .retAddr 0, .int x5]) C dX3_mindsIfSaidTo_61 rfl (by decide) rfl ?_
      refine mG_goto (tgt := 83) C dX3_mindsIfSaidTo_62 rfl ?_
      refine mG_iincc (lv' := [.ref b, .int x1, .int x2, .long v2, .retAddr 0, .int (x5 + (1 : Int32))]) C dX3_mindsIfSaidTo_83 rfl ic1 (by decide) rfl ?_
      refine mG_goto (tgt := 26) C dX3_mindsIfSaidTo_86 rfl ?_
      exact K

set_option maxRecDepth 20000 in
set_option maxHeartbeats 4000000 in
theorem vX3_movesIfSaidTo_0 {X : mX} {E : mEnv} {Qm : Option Value → mW → Prop} (C : mCtx X E MX3_movesIfSaidTo) (F : mFin X E MX3_movesIfSaidTo Qm) {w : mW} {b : Nat} (hb : b = 46 ∨ b = 52) (p0 : Int32)
    (K : mMl E MX3_mindsIfSaidTo [.ref b, .int p0] w (fun v1 u1 =>
    (((lg_cmp v1 (u1.2 b 3)) = 0 →
    (Qm (some (.int (0 : Int32))) u1)) ∧ (¬ (lg_cmp v1 (u1.2 b 3)) = 0 →
    (Qm (some (.int (1 : Int32))) u1))))) :
    mG X E MX3_movesIfSaidTo 0 [.ref b, .int p0] [] w := by
  refine mG_aload_n C dX3_movesIfSaidTo_0 rfl rfl ?_
  refine mG_iload_n C dX3_movesIfSaidTo_1 rfl rfl ?_
  refine mG_Vl (Z := MX3_mindsIfSaidTo) (as := [.int p0]) (rest := []) C dX3_movesIfSaidTo_2 lk_707 zX3_mindsIfSaidTo ⟨Nat.le_of_ble_eq_true rfl, Nat.le_of_ble_eq_true rfl⟩ (shF hb) rfl rfl (Nat.le_of_ble_eq_true rfl) rfl K (fun v1 u1 K => ?_)
  refine mG_aload_n C dX3_movesIfSaidTo_5 rfl rfl ?_
  refine mG_getL C dX3_movesIfSaidTo_6 fl_215 (shF hb) rfl ?_
  refine mG_lcmp C dX3_movesIfSaidTo_9 ?_
  refine mG_if_eq (tgt := 17) C dX3_movesIfSaidTo_10 rfl (fun h => ?_) (fun h => ?_)
  · have K := K.1 h
    refine mG_iconst C dX3_movesIfSaidTo_17 ic0 ?_
    exact mG_iret C F dX3_movesIfSaidTo_18 rfl (by decide) K
  · have K := K.2 h
    refine mG_iconst C dX3_movesIfSaidTo_13 ic1 ?_
    refine mG_goto (tgt := 18) C dX3_movesIfSaidTo_14 rfl ?_
    exact mG_iret C F dX3_movesIfSaidTo_18 rfl (by decide) K

set_option maxRecDepth 20000 in
set_option maxHeartbeats 4000000 in
theorem vX3_sumIfHeld_0 {X : mX} {E : mEnv} {Qm : Option Value → mW → Prop} (C : mCtx X E MX3_sumIfHeld) (F : mFin X E MX3_sumIfHeld Qm) {w : mW} {b : Nat} (hb : b = 46 ∨ b = 52) (p0 : Int64)
    (K : mMi E MX1_doers [.ref 1, .long p0] w (fun v1 u1 =>
    (vp_in v1 32 ∧
    (Qm (some (.int (u1.1 (b + 3) v1.toNatClampNeg))) u1)))) :
    mG X E MX3_sumIfHeld 0 [.ref b, .long p0, .retAddr 0] [] w := by
  refine mG_aload_n C dX3_sumIfHeld_0 rfl rfl ?_
  refine mG_getR C dX3_sumIfHeld_1 fl_217 (shF hb) rfl ?_
  refine mG_aload_n C dX3_sumIfHeld_4 rfl rfl ?_
  refine mG_getR C dX3_sumIfHeld_5 fl_210 (shF hb) rfl ?_
  refine mG_lload_n C dX3_sumIfHeld_8 rfl rfl ?_
  refine mG_Vi (Z := MX1_doers) (as := [.long p0]) (rest := [.ref (b + 3)]) C dX3_sumIfHeld_9 lk_534 zX1_doers ⟨Nat.le_of_ble_eq_true rfl, Nat.le_of_ble_eq_true rfl⟩ sh1 rfl rfl (Nat.le_of_ble_eq_true rfl) rfl K (fun v1 u1 K => ?_)
  obtain ⟨h1, K⟩ := K
  refine mG_iald C dX3_sumIfHeld_12 (shF3 hb) h1 ?_
  exact mG_iret C F dX3_sumIfHeld_13 rfl rfl K

set_option maxRecDepth 20000 in
set_option maxHeartbeats 4000000 in
theorem vX3_sumIfSaidTo_0 {X : mX} {E : mEnv} {Qm : Option Value → mW → Prop} (C : mCtx X E MX3_sumIfSaidTo) (F : mFin X E MX3_sumIfSaidTo Qm) {w : mW} {b : Nat} (hb : b = 46 ∨ b = 52) (p0 : Int32)
    (K : mMi E MX3_doersIfSaidTo [.ref b, .int p0] w (fun v1 u1 =>
    (vp_in v1 32 ∧
    (Qm (some (.int (u1.1 (b + 3) v1.toNatClampNeg))) u1)))) :
    mG X E MX3_sumIfSaidTo 0 [.ref b, .int p0] [] w := by
  refine mG_aload_n C dX3_sumIfSaidTo_0 rfl rfl ?_
  refine mG_getR C dX3_sumIfSaidTo_1 fl_217 (shF hb) rfl ?_
  refine mG_aload_n C dX3_sumIfSaidTo_4 rfl rfl ?_
  refine mG_iload_n C dX3_sumIfSaidTo_5 rfl rfl ?_
  refine mG_Vi (Z := MX3_doersIfSaidTo) (as := [.int p0]) (rest := [.ref (b + 3)]) C dX3_sumIfSaidTo_6 lk_595 zX3_doersIfSaidTo ⟨Nat.le_of_ble_eq_true rfl, Nat.le_of_ble_eq_true rfl⟩ (shF hb) rfl rfl (Nat.le_of_ble_eq_true rfl) rfl K (fun v1 u1 K => ?_)
  obtain ⟨h1, K⟩ := K
  refine mG_iald C dX3_sumIfSaidTo_9 (shF3 hb) h1 ?_
  exact mG_iret C F dX3_sumIfSaidTo_10 rfl rfl K

set_option maxRecDepth 20000 in
set_option maxHeartbeats 4000000 in
theorem vX3_truthIfSaidTo_0 {X : mX} {E : mEnv} {Qm : Option Value → mW → Prop} (C : mCtx X E MX3_truthIfSaidTo) (F : mFin X E MX3_truthIfSaidTo Qm) {w : mW} {b : Nat} (hb : b = 46 ∨ b = 52) (p0 : Int32)
    (K : mMi E MX3_doersIfSaidTo [.ref b, .int p0] w (fun v1 u1 =>
    (vp_in v1 32 ∧
    (Qm (some (.int (u1.1 (b + 2) v1.toNatClampNeg))) u1)))) :
    mG X E MX3_truthIfSaidTo 0 [.ref b, .int p0] [] w := by
  refine mG_aload_n C dX3_truthIfSaidTo_0 rfl rfl ?_
  refine mG_getR C dX3_truthIfSaidTo_1 fl_216 (shF hb) rfl ?_
  refine mG_aload_n C dX3_truthIfSaidTo_4 rfl rfl ?_
  refine mG_iload_n C dX3_truthIfSaidTo_5 rfl rfl ?_
  refine mG_Vi (Z := MX3_doersIfSaidTo) (as := [.int p0]) (rest := [.ref (b + 2)]) C dX3_truthIfSaidTo_6 lk_595 zX3_doersIfSaidTo ⟨Nat.le_of_ble_eq_true rfl, Nat.le_of_ble_eq_true rfl⟩ (shF hb) rfl rfl (Nat.le_of_ble_eq_true rfl) rfl K (fun v1 u1 K => ?_)
  obtain ⟨h1, K⟩ := K
  refine mG_iald C dX3_truthIfSaidTo_9 (shF2 hb) h1 ?_
  exact mG_iret C F dX3_truthIfSaidTo_10 rfl rfl K

set_option maxRecDepth 20000 in
set_option maxHeartbeats 4000000 in
theorem vX7_believed_0 {X : mX} {E : mEnv} {Qm : Option Value → mW → Prop} (C : mCtx X E MX7_believed) (F : mFin X E MX7_believed Qm) {w : mW} {c : Nat} (hc : c = 47 ∨ c = 53) (p0 : Int32)
    (K : ((w.1 c 0) = (1 : Int32) →
    (mMi E MX4_hold [.int p0, .int (w.1 c 1), .int (w.1 c 2)] w (fun v1 u1 =>
    (mMi E MX4_hold [.int v1, .int (u1.1 c 3), .int (u1.1 c 4)] u1 (fun v2 u2 =>
    (Qm (some (.int v2)) u2)))))) ∧ (¬ (w.1 c 0) = (1 : Int32) →
    (((w.1 c 0) = (2 : Int32) →
    (mMi E MX7_oneAtLeast [.ref c, .int p0, .int (w.1 c 2), .int (w.1 c 4)] w (fun v3 u3 =>
    (Qm (some (.int v3)) u3)))) ∧ (¬ (w.1 c 0) = (2 : Int32) →
    (((w.1 c 0) = (3 : Int32) →
    (mMi E MX7_oneAtLeast [.ref c, .int p0, .int ((1 : Int32) - (w.1 c 2)), .int (w.1 c 4)] w (fun v4 u4 =>
    (Qm (some (.int v4)) u4)))) ∧ (¬ (w.1 c 0) = (3 : Int32) →
    (mMi E MX4_hold [.int p0, .int (w.1 c 1), .int (w.1 c 2)] w (fun v5 u5 =>
    (Qm (some (.int v5)) u5))))))))) :
    mG X E MX7_believed 0 [.ref c, .int p0] [] w := by
  refine mG_aload_n C dX7_believed_0 rfl rfl ?_
  refine mG_getI C dX7_believed_1 fl_194 (shS hc) rfl ?_
  by_cases g1 : (w.1 c 0) = (1 : Int32)
  · have K := K.1 g1
    refine mG_tableEq (off := 28) (tgt := 32) C dX7_believed_4 g1 (by decide) (by decide) rfl rfl ?_
    refine mG_iload_n C dX7_believed_32 rfl rfl ?_
    refine mG_aload_n C dX7_believed_33 rfl rfl ?_
    refine mG_getI C dX7_believed_34 fl_195 (shS hc) rfl ?_
    refine mG_aload_n C dX7_believed_37 rfl rfl ?_
    refine mG_getI C dX7_believed_38 fl_196 (shS hc) rfl ?_
    refine mG_Si (Z := MX4_hold) (as := [.int p0, .int (w.1 c 1), .int (w.1 c 2)]) (rest := []) C dX7_believed_41 lk_569 zX4_hold ⟨Nat.le_of_ble_eq_true rfl, Nat.le_of_ble_eq_true rfl⟩ rfl (Nat.le_of_ble_eq_true rfl) rfl K (fun v1 u1 K => ?_)
    refine mG_aload_n C dX7_believed_44 rfl rfl ?_
    refine mG_getI C dX7_believed_45 fl_197 (shS hc) rfl ?_
    refine mG_aload_n C dX7_believed_48 rfl rfl ?_
    refine mG_getI C dX7_believed_49 fl_198 (shS hc) rfl ?_
    refine mG_Si (Z := MX4_hold) (as := [.int v1, .int (u1.1 c 3), .int (u1.1 c 4)]) (rest := []) C dX7_believed_52 lk_569 zX4_hold ⟨Nat.le_of_ble_eq_true rfl, Nat.le_of_ble_eq_true rfl⟩ rfl (Nat.le_of_ble_eq_true rfl) rfl K (fun v2 u2 K => ?_)
    exact mG_iret C F dX7_believed_55 rfl rfl K
  · have K := K.2 g1
    by_cases g2 : (w.1 c 0) = (2 : Int32)
    · have K := K.1 g2
      refine mG_tableEq (off := 52) (tgt := 56) C dX7_believed_4 g2 (by decide) (by decide) rfl rfl ?_
      refine mG_aload_n C dX7_believed_56 rfl rfl ?_
      refine mG_iload_n C dX7_believed_57 rfl rfl ?_
      refine mG_aload_n C dX7_believed_58 rfl rfl ?_
      refine mG_getI C dX7_believed_59 fl_196 (shS hc) rfl ?_
      refine mG_aload_n C dX7_believed_62 rfl rfl ?_
      refine mG_getI C dX7_believed_63 fl_198 (shS hc) rfl ?_
      refine mG_Vi (Z := MX7_oneAtLeast) (as := [.int p0, .int (w.1 c 2), .int (w.1 c 4)]) (rest := []) C dX7_believed_66 lk_572 zX7_oneAtLeast ⟨Nat.le_of_ble_eq_true rfl, Nat.le_of_ble_eq_true rfl⟩ (shS hc) rfl rfl (Nat.le_of_ble_eq_true rfl) rfl K (fun v3 u3 K => ?_)
      exact mG_iret C F dX7_believed_69 rfl rfl K
    · have K := K.2 g2
      by_cases g3 : (w.1 c 0) = (3 : Int32)
      · have K := K.1 g3
        refine mG_tableEq (off := 66) (tgt := 70) C dX7_believed_4 g3 (by decide) (by decide) rfl rfl ?_
        refine mG_aload_n C dX7_believed_70 rfl rfl ?_
        refine mG_iload_n C dX7_believed_71 rfl rfl ?_
        refine mG_iconst C dX7_believed_72 ic1 ?_
        refine mG_aload_n C dX7_believed_73 rfl rfl ?_
        refine mG_getI C dX7_believed_74 fl_196 (shS hc) rfl ?_
        refine mG_isub C dX7_believed_77 ?_
        refine mG_aload_n C dX7_believed_78 rfl rfl ?_
        refine mG_getI C dX7_believed_79 fl_198 (shS hc) rfl ?_
        refine mG_Vi (Z := MX7_oneAtLeast) (as := [.int p0, .int ((1 : Int32) - (w.1 c 2)), .int (w.1 c 4)]) (rest := []) C dX7_believed_82 lk_572 zX7_oneAtLeast ⟨Nat.le_of_ble_eq_true rfl, Nat.le_of_ble_eq_true rfl⟩ (shS hc) rfl rfl (Nat.le_of_ble_eq_true rfl) rfl K (fun v4 u4 K => ?_)
        exact mG_iret C F dX7_believed_85 rfl rfl K
      · have K := K.2 g3
        have e1 := lv_neT g1 (show (1 : Int32).toInt = 1 by decide)
        have e2 := lv_neT g2 (show (2 : Int32).toInt = 2 by decide)
        have e3 := lv_neT g3 (show (3 : Int32).toInt = 3 by decide)
        refine mG_tableOut (tgt := 86) C dX7_believed_4 (by omega) rfl ?_
        refine mG_iload_n C dX7_believed_86 rfl rfl ?_
        refine mG_aload_n C dX7_believed_87 rfl rfl ?_
        refine mG_getI C dX7_believed_88 fl_195 (shS hc) rfl ?_
        refine mG_aload_n C dX7_believed_91 rfl rfl ?_
        refine mG_getI C dX7_believed_92 fl_196 (shS hc) rfl ?_
        refine mG_Si (Z := MX4_hold) (as := [.int p0, .int (w.1 c 1), .int (w.1 c 2)]) (rest := []) C dX7_believed_95 lk_569 zX4_hold ⟨Nat.le_of_ble_eq_true rfl, Nat.le_of_ble_eq_true rfl⟩ rfl (Nat.le_of_ble_eq_true rfl) rfl K (fun v5 u5 K => ?_)
        exact mG_iret C F dX7_believed_98 rfl rfl K

set_option maxRecDepth 20000 in
set_option maxHeartbeats 4000000 in
theorem vX7_comeTo_0 {X : mX} {E : mEnv} {Qm : Option Value → mW → Prop} (C : mCtx X E MX7_comeTo) (F : mFin X E MX7_comeTo Qm) {w : mW} {c : Nat} (hc : c = 47 ∨ c = 53) (p0 : Int32) (p1 : Int32)
    (K : ∀ w1 : mW, w1 = (mPI (mPI (mPI w c 0 (p0 / (144 : Int32))) c 1 ((p0 / (24 : Int32)) - (p0 / (24 : Int32)) / (6 : Int32) * (6 : Int32))) c 2 ((p0 / (12 : Int32)) - (p0 / (12 : Int32)) / (2 : Int32) * (2 : Int32))) →
    ((((mPI (mPI w1 c 3 ((p0 / (2 : Int32)) - (p0 / (2 : Int32)) / (6 : Int32) * (6 : Int32))) c 4 (p0 - p0 / (2 : Int32) * (2 : Int32))).1 c 1) < p1 →
    (mMi E MX7_isPair [.int ((mPI (mPI w1 c 3 ((p0 / (2 : Int32)) - (p0 / (2 : Int32)) / (6 : Int32) * (6 : Int32))) c 4 (p0 - p0 / (2 : Int32) * (2 : Int32))).1 c 0)] (mPI (mPI w1 c 3 ((p0 / (2 : Int32)) - (p0 / (2 : Int32)) / (6 : Int32) * (6 : Int32))) c 4 (p0 - p0 / (2 : Int32) * (2 : Int32))) (fun v1 u1 =>
    ((v1 = 0 →
    ((¬ (u1.1 c 3) = 0 →
    (Qm (some (.int (0 : Int32))) u1)) ∧ ((u1.1 c 3) = 0 →
    ((¬ (u1.1 c 4) = 0 →
    (Qm (some (.int (0 : Int32))) u1)) ∧ ((u1.1 c 4) = 0 →
    (Qm (some (.int (1 : Int32))) u1)))))) ∧ (¬ v1 = 0 →
    ((p1 ≤ (u1.1 c 3) →
    (Qm (some (.int (0 : Int32))) u1)) ∧ (¬ p1 ≤ (u1.1 c 3) →
    (((u1.1 c 3) = (u1.1 c 1) →
    (Qm (some (.int (0 : Int32))) u1)) ∧ (¬ (u1.1 c 3) = (u1.1 c 1) →
    (Qm (some (.int (1 : Int32))) u1)))))))))) ∧ (¬ ((mPI (mPI w1 c 3 ((p0 / (2 : Int32)) - (p0 / (2 : Int32)) / (6 : Int32) * (6 : Int32))) c 4 (p0 - p0 / (2 : Int32) * (2 : Int32))).1 c 1) < p1 →
    (Qm (some (.int (0 : Int32))) (mPI (mPI w1 c 3 ((p0 / (2 : Int32)) - (p0 / (2 : Int32)) / (6 : Int32) * (6 : Int32))) c 4 (p0 - p0 / (2 : Int32) * (2 : Int32))))))) :
    mG X E MX7_comeTo 0 [.ref c, .int p0, .int p1] [] w := by
  refine mG_aload_n C dX7_comeTo_0 rfl rfl ?_
  refine mG_iload_n C dX7_comeTo_1 rfl rfl ?_
  refine mG_sipush C dX7_comeTo_2 sp144 ?_
  refine mG_idiv C dX7_comeTo_5 (by decide) ?_
  refine mG_putI C dX7_comeTo_6 fp_194 (shS hc) rfl ?_
  refine mG_aload_n C dX7_comeTo_9 rfl rfl ?_
  refine mG_iload_n C dX7_comeTo_10 rfl rfl ?_
  refine mG_bipush C dX7_comeTo_11 bp24 ?_
  refine mG_idiv C dX7_comeTo_13 (by decide) ?_
  refine mG_bipush C dX7_comeTo_14 bp6 ?_
  refine mG_irem C dX7_comeTo_16 (by decide) ?_
  refine mG_putI C dX7_comeTo_17 fp_195 (shS hc) rfl ?_
  refine mG_aload_n C dX7_comeTo_20 rfl rfl ?_
  refine mG_iload_n C dX7_comeTo_21 rfl rfl ?_
  refine mG_bipush C dX7_comeTo_22 bp12 ?_
  refine mG_idiv C dX7_comeTo_24 (by decide) ?_
  refine mG_iconst C dX7_comeTo_25 ic2 ?_
  refine mG_irem C dX7_comeTo_26 (by decide) ?_
  refine mG_putI C dX7_comeTo_27 fp_196 (shS hc) rfl ?_
  refine mG_nm (fun w1 ew1 => ?_)
  have K := K w1 ew1
  refine mG_aload_n C dX7_comeTo_30 rfl rfl ?_
  refine mG_iload_n C dX7_comeTo_31 rfl rfl ?_
  refine mG_iconst C dX7_comeTo_32 ic2 ?_
  refine mG_idiv C dX7_comeTo_33 (by decide) ?_
  refine mG_bipush C dX7_comeTo_34 bp6 ?_
  refine mG_irem C dX7_comeTo_36 (by decide) ?_
  refine mG_putI C dX7_comeTo_37 fp_197 (shS hc) rfl ?_
  refine mG_aload_n C dX7_comeTo_40 rfl rfl ?_
  refine mG_iload_n C dX7_comeTo_41 rfl rfl ?_
  refine mG_iconst C dX7_comeTo_42 ic2 ?_
  refine mG_irem C dX7_comeTo_43 (by decide) ?_
  refine mG_putI C dX7_comeTo_44 fp_198 (shS hc) rfl ?_
  refine mG_aload_n C dX7_comeTo_47 rfl rfl ?_
  refine mG_getI C dX7_comeTo_48 fl_195 (shS hc) rfl ?_
  refine mG_iload_n C dX7_comeTo_51 rfl rfl ?_
  refine mG_icmp_lt (tgt := 57) C dX7_comeTo_52 rfl (fun h => ?_) (fun h => ?_)
  · have K := K.1 h
    refine mG_aload_n C dX7_comeTo_57 rfl rfl ?_
    refine mG_getI C dX7_comeTo_58 fl_194 (shS hc) rfl ?_
    refine mG_Si (Z := MX7_isPair) (as := [.int ((mPI (mPI w1 c 3 ((p0 / (2 : Int32)) - (p0 / (2 : Int32)) / (6 : Int32) * (6 : Int32))) c 4 (p0 - p0 / (2 : Int32) * (2 : Int32))).1 c 0)]) (rest := []) C dX7_comeTo_61 lk_559 zX7_isPair ⟨Nat.le_of_ble_eq_true rfl, Nat.le_of_ble_eq_true rfl⟩ rfl (Nat.le_of_ble_eq_true rfl) rfl K (fun v1 u1 K => ?_)
    refine mG_if_eq (tgt := 94) C dX7_comeTo_64 rfl (fun h => ?_) (fun h => ?_)
    · have K := K.1 h
      refine mG_aload_n C dX7_comeTo_94 rfl rfl ?_
      refine mG_getI C dX7_comeTo_95 fl_197 (shS hc) rfl ?_
      refine mG_if_ne (tgt := 112) C dX7_comeTo_98 rfl (fun h => ?_) (fun h => ?_)
      · have K := K.1 h
        refine mG_iconst C dX7_comeTo_112 ic0 ?_
        exact mG_iret C F dX7_comeTo_113 rfl (by decide) K
      · have K := K.2 h
        refine mG_aload_n C dX7_comeTo_101 rfl rfl ?_
        refine mG_getI C dX7_comeTo_102 fl_198 (shS hc) rfl ?_
        refine mG_if_ne (tgt := 112) C dX7_comeTo_105 rfl (fun h => ?_) (fun h => ?_)
        · have K := K.1 h
          refine mG_iconst C dX7_comeTo_112 ic0 ?_
          exact mG_iret C F dX7_comeTo_113 rfl (by decide) K
        · have K := K.2 h
          refine mG_iconst C dX7_comeTo_108 ic1 ?_
          refine mG_goto (tgt := 113) C dX7_comeTo_109 rfl ?_
          exact mG_iret C F dX7_comeTo_113 rfl (by decide) K
    · have K := K.2 h
      refine mG_aload_n C dX7_comeTo_67 rfl rfl ?_
      refine mG_getI C dX7_comeTo_68 fl_197 (shS hc) rfl ?_
      refine mG_iload_n C dX7_comeTo_71 rfl rfl ?_
      refine mG_icmp_ge (tgt := 90) C dX7_comeTo_72 rfl (fun h => ?_) (fun h => ?_)
      · have K := K.1 h
        refine mG_iconst C dX7_comeTo_90 ic0 ?_
        refine mG_goto (tgt := 113) C dX7_comeTo_91 rfl ?_
        exact mG_iret C F dX7_comeTo_113 rfl (by decide) K
      · have K := K.2 h
        refine mG_aload_n C dX7_comeTo_75 rfl rfl ?_
        refine mG_getI C dX7_comeTo_76 fl_197 (shS hc) rfl ?_
        refine mG_aload_n C dX7_comeTo_79 rfl rfl ?_
        refine mG_getI C dX7_comeTo_80 fl_195 (shS hc) rfl ?_
        refine mG_icmp_eq (tgt := 90) C dX7_comeTo_83 rfl (fun h => ?_) (fun h => ?_)
        · have K := K.1 h
          refine mG_iconst C dX7_comeTo_90 ic0 ?_
          refine mG_goto (tgt := 113) C dX7_comeTo_91 rfl ?_
          exact mG_iret C F dX7_comeTo_113 rfl (by decide) K
        · have K := K.2 h
          refine mG_iconst C dX7_comeTo_86 ic1 ?_
          refine mG_goto (tgt := 113) C dX7_comeTo_87 rfl ?_
          exact mG_iret C F dX7_comeTo_113 rfl (by decide) K
  · have K := K.2 h
    refine mG_iconst C dX7_comeTo_55 ic0 ?_
    exact mG_iret C F dX7_comeTo_56 rfl (by decide) K

set_option maxRecDepth 20000 in
set_option maxHeartbeats 4000000 in
theorem vX7_doubted_0 {X : mX} {E : mEnv} {Qm : Option Value → mW → Prop} (C : mCtx X E MX7_doubted) (F : mFin X E MX7_doubted Qm) {w : mW} {c : Nat} (hc : c = 47 ∨ c = 53) (p0 : Int32)
    (K : ((w.1 c 0) = (1 : Int32) →
    (mMi E MX7_oneAtLeast [.ref c, .int p0, .int ((1 : Int32) - (w.1 c 2)), .int ((1 : Int32) - (w.1 c 4))] w (fun v1 u1 =>
    (Qm (some (.int v1)) u1)))) ∧ (¬ (w.1 c 0) = (1 : Int32) →
    (((w.1 c 0) = (2 : Int32) →
    (mMi E MX4_hold [.int p0, .int (w.1 c 1), .int ((1 : Int32) - (w.1 c 2))] w (fun v2 u2 =>
    (mMi E MX4_hold [.int v2, .int (u2.1 c 3), .int ((1 : Int32) - (u2.1 c 4))] u2 (fun v3 u3 =>
    (Qm (some (.int v3)) u3)))))) ∧ (¬ (w.1 c 0) = (2 : Int32) →
    (((w.1 c 0) = (3 : Int32) →
    (mMi E MX4_hold [.int p0, .int (w.1 c 1), .int (w.1 c 2)] w (fun v4 u4 =>
    (mMi E MX4_hold [.int v4, .int (u4.1 c 3), .int ((1 : Int32) - (u4.1 c 4))] u4 (fun v5 u5 =>
    (Qm (some (.int v5)) u5)))))) ∧ (¬ (w.1 c 0) = (3 : Int32) →
    (mMi E MX4_hold [.int p0, .int (w.1 c 1), .int ((1 : Int32) - (w.1 c 2))] w (fun v6 u6 =>
    (Qm (some (.int v6)) u6))))))))) :
    mG X E MX7_doubted 0 [.ref c, .int p0] [] w := by
  refine mG_aload_n C dX7_doubted_0 rfl rfl ?_
  refine mG_getI C dX7_doubted_1 fl_194 (shS hc) rfl ?_
  by_cases g1 : (w.1 c 0) = (1 : Int32)
  · have K := K.1 g1
    refine mG_tableEq (off := 28) (tgt := 32) C dX7_doubted_4 g1 (by decide) (by decide) rfl rfl ?_
    refine mG_aload_n C dX7_doubted_32 rfl rfl ?_
    refine mG_iload_n C dX7_doubted_33 rfl rfl ?_
    refine mG_iconst C dX7_doubted_34 ic1 ?_
    refine mG_aload_n C dX7_doubted_35 rfl rfl ?_
    refine mG_getI C dX7_doubted_36 fl_196 (shS hc) rfl ?_
    refine mG_isub C dX7_doubted_39 ?_
    refine mG_iconst C dX7_doubted_40 ic1 ?_
    refine mG_aload_n C dX7_doubted_41 rfl rfl ?_
    refine mG_getI C dX7_doubted_42 fl_198 (shS hc) rfl ?_
    refine mG_isub C dX7_doubted_45 ?_
    refine mG_Vi (Z := MX7_oneAtLeast) (as := [.int p0, .int ((1 : Int32) - (w.1 c 2)), .int ((1 : Int32) - (w.1 c 4))]) (rest := []) C dX7_doubted_46 lk_572 zX7_oneAtLeast ⟨Nat.le_of_ble_eq_true rfl, Nat.le_of_ble_eq_true rfl⟩ (shS hc) rfl rfl (Nat.le_of_ble_eq_true rfl) rfl K (fun v1 u1 K => ?_)
    exact mG_iret C F dX7_doubted_49 rfl rfl K
  · have K := K.2 g1
    by_cases g2 : (w.1 c 0) = (2 : Int32)
    · have K := K.1 g2
      refine mG_tableEq (off := 46) (tgt := 50) C dX7_doubted_4 g2 (by decide) (by decide) rfl rfl ?_
      refine mG_iload_n C dX7_doubted_50 rfl rfl ?_
      refine mG_aload_n C dX7_doubted_51 rfl rfl ?_
      refine mG_getI C dX7_doubted_52 fl_195 (shS hc) rfl ?_
      refine mG_iconst C dX7_doubted_55 ic1 ?_
      refine mG_aload_n C dX7_doubted_56 rfl rfl ?_
      refine mG_getI C dX7_doubted_57 fl_196 (shS hc) rfl ?_
      refine mG_isub C dX7_doubted_60 ?_
      refine mG_Si (Z := MX4_hold) (as := [.int p0, .int (w.1 c 1), .int ((1 : Int32) - (w.1 c 2))]) (rest := []) C dX7_doubted_61 lk_569 zX4_hold ⟨Nat.le_of_ble_eq_true rfl, Nat.le_of_ble_eq_true rfl⟩ rfl (Nat.le_of_ble_eq_true rfl) rfl K (fun v2 u2 K => ?_)
      refine mG_aload_n C dX7_doubted_64 rfl rfl ?_
      refine mG_getI C dX7_doubted_65 fl_197 (shS hc) rfl ?_
      refine mG_iconst C dX7_doubted_68 ic1 ?_
      refine mG_aload_n C dX7_doubted_69 rfl rfl ?_
      refine mG_getI C dX7_doubted_70 fl_198 (shS hc) rfl ?_
      refine mG_isub C dX7_doubted_73 ?_
      refine mG_Si (Z := MX4_hold) (as := [.int v2, .int (u2.1 c 3), .int ((1 : Int32) - (u2.1 c 4))]) (rest := []) C dX7_doubted_74 lk_569 zX4_hold ⟨Nat.le_of_ble_eq_true rfl, Nat.le_of_ble_eq_true rfl⟩ rfl (Nat.le_of_ble_eq_true rfl) rfl K (fun v3 u3 K => ?_)
      exact mG_iret C F dX7_doubted_77 rfl rfl K
    · have K := K.2 g2
      by_cases g3 : (w.1 c 0) = (3 : Int32)
      · have K := K.1 g3
        refine mG_tableEq (off := 74) (tgt := 78) C dX7_doubted_4 g3 (by decide) (by decide) rfl rfl ?_
        refine mG_iload_n C dX7_doubted_78 rfl rfl ?_
        refine mG_aload_n C dX7_doubted_79 rfl rfl ?_
        refine mG_getI C dX7_doubted_80 fl_195 (shS hc) rfl ?_
        refine mG_aload_n C dX7_doubted_83 rfl rfl ?_
        refine mG_getI C dX7_doubted_84 fl_196 (shS hc) rfl ?_
        refine mG_Si (Z := MX4_hold) (as := [.int p0, .int (w.1 c 1), .int (w.1 c 2)]) (rest := []) C dX7_doubted_87 lk_569 zX4_hold ⟨Nat.le_of_ble_eq_true rfl, Nat.le_of_ble_eq_true rfl⟩ rfl (Nat.le_of_ble_eq_true rfl) rfl K (fun v4 u4 K => ?_)
        refine mG_aload_n C dX7_doubted_90 rfl rfl ?_
        refine mG_getI C dX7_doubted_91 fl_197 (shS hc) rfl ?_
        refine mG_iconst C dX7_doubted_94 ic1 ?_
        refine mG_aload_n C dX7_doubted_95 rfl rfl ?_
        refine mG_getI C dX7_doubted_96 fl_198 (shS hc) rfl ?_
        refine mG_isub C dX7_doubted_99 ?_
        refine mG_Si (Z := MX4_hold) (as := [.int v4, .int (u4.1 c 3), .int ((1 : Int32) - (u4.1 c 4))]) (rest := []) C dX7_doubted_100 lk_569 zX4_hold ⟨Nat.le_of_ble_eq_true rfl, Nat.le_of_ble_eq_true rfl⟩ rfl (Nat.le_of_ble_eq_true rfl) rfl K (fun v5 u5 K => ?_)
        exact mG_iret C F dX7_doubted_103 rfl rfl K
      · have K := K.2 g3
        have e1 := lv_neT g1 (show (1 : Int32).toInt = 1 by decide)
        have e2 := lv_neT g2 (show (2 : Int32).toInt = 2 by decide)
        have e3 := lv_neT g3 (show (3 : Int32).toInt = 3 by decide)
        refine mG_tableOut (tgt := 104) C dX7_doubted_4 (by omega) rfl ?_
        refine mG_iload_n C dX7_doubted_104 rfl rfl ?_
        refine mG_aload_n C dX7_doubted_105 rfl rfl ?_
        refine mG_getI C dX7_doubted_106 fl_195 (shS hc) rfl ?_
        refine mG_iconst C dX7_doubted_109 ic1 ?_
        refine mG_aload_n C dX7_doubted_110 rfl rfl ?_
        refine mG_getI C dX7_doubted_111 fl_196 (shS hc) rfl ?_
        refine mG_isub C dX7_doubted_114 ?_
        refine mG_Si (Z := MX4_hold) (as := [.int p0, .int (w.1 c 1), .int ((1 : Int32) - (w.1 c 2))]) (rest := []) C dX7_doubted_115 lk_569 zX4_hold ⟨Nat.le_of_ble_eq_true rfl, Nat.le_of_ble_eq_true rfl⟩ rfl (Nat.le_of_ble_eq_true rfl) rfl K (fun v6 u6 K => ?_)
        exact mG_iret C F dX7_doubted_118 rfl rfl K

set_option maxRecDepth 20000 in
set_option maxHeartbeats 4000000 in
theorem vX7_isKind_0 {X : mX} {E : mEnv} {Qm : Option Value → mW → Prop} (C : mCtx X E MX7_isKind) (F : mFin X E MX7_isKind Qm) {w : mW}  (p0 : Int32)
    (K : (p0 < 0 →
    (Qm (some (.int (0 : Int32))) w)) ∧ (¬ p0 < 0 →
    (((5 : Int32) ≤ p0 →
    (Qm (some (.int (0 : Int32))) w)) ∧ (¬ (5 : Int32) ≤ p0 →
    (Qm (some (.int (1 : Int32))) w))))) :
    mG X E MX7_isKind 0 [.int p0] [] w := by
  refine mG_iload_n C dX7_isKind_0 rfl rfl ?_
  refine mG_if_lt (tgt := 13) C dX7_isKind_1 rfl (fun h => ?_) (fun h => ?_)
  · have K := K.1 h
    refine mG_iconst C dX7_isKind_13 ic0 ?_
    exact mG_iret C F dX7_isKind_14 rfl (by decide) K
  · have K := K.2 h
    refine mG_iload_n C dX7_isKind_4 rfl rfl ?_
    refine mG_iconst C dX7_isKind_5 ic5 ?_
    refine mG_icmp_ge (tgt := 13) C dX7_isKind_6 rfl (fun h => ?_) (fun h => ?_)
    · have K := K.1 h
      refine mG_iconst C dX7_isKind_13 ic0 ?_
      exact mG_iret C F dX7_isKind_14 rfl (by decide) K
    · have K := K.2 h
      refine mG_iconst C dX7_isKind_9 ic1 ?_
      refine mG_goto (tgt := 14) C dX7_isKind_10 rfl ?_
      exact mG_iret C F dX7_isKind_14 rfl (by decide) K

set_option maxRecDepth 20000 in
set_option maxHeartbeats 4000000 in
theorem vX7_isPair_0 {X : mX} {E : mEnv} {Qm : Option Value → mW → Prop} (C : mCtx X E MX7_isPair) (F : mFin X E MX7_isPair Qm) {w : mW}  (p0 : Int32)
    (K : (p0 = (1 : Int32) →
    (Qm (some (.int (1 : Int32))) w)) ∧ (¬ p0 = (1 : Int32) →
    ((p0 = (2 : Int32) →
    (Qm (some (.int (1 : Int32))) w)) ∧ (¬ p0 = (2 : Int32) →
    ((¬ p0 = (3 : Int32) →
    (Qm (some (.int (0 : Int32))) w)) ∧ (p0 = (3 : Int32) →
    (Qm (some (.int (1 : Int32))) w))))))) :
    mG X E MX7_isPair 0 [.int p0] [] w := by
  refine mG_iload_n C dX7_isPair_0 rfl rfl ?_
  refine mG_iconst C dX7_isPair_1 ic1 ?_
  refine mG_icmp_eq (tgt := 15) C dX7_isPair_2 rfl (fun h => ?_) (fun h => ?_)
  · have K := K.1 h
    refine mG_iconst C dX7_isPair_15 ic1 ?_
    refine mG_goto (tgt := 20) C dX7_isPair_16 rfl ?_
    exact mG_iret C F dX7_isPair_20 rfl (by decide) K
  · have K := K.2 h
    refine mG_iload_n C dX7_isPair_5 rfl rfl ?_
    refine mG_iconst C dX7_isPair_6 ic2 ?_
    refine mG_icmp_eq (tgt := 15) C dX7_isPair_7 rfl (fun h => ?_) (fun h => ?_)
    · have K := K.1 h
      refine mG_iconst C dX7_isPair_15 ic1 ?_
      refine mG_goto (tgt := 20) C dX7_isPair_16 rfl ?_
      exact mG_iret C F dX7_isPair_20 rfl (by decide) K
    · have K := K.2 h
      refine mG_iload_n C dX7_isPair_10 rfl rfl ?_
      refine mG_iconst C dX7_isPair_11 ic3 ?_
      refine mG_icmp_ne (tgt := 19) C dX7_isPair_12 rfl (fun h => ?_) (fun h => ?_)
      · have K := K.1 h
        refine mG_iconst C dX7_isPair_19 ic0 ?_
        exact mG_iret C F dX7_isPair_20 rfl (by decide) K
      · have K := K.2 h
        refine mG_iconst C dX7_isPair_15 ic1 ?_
        refine mG_goto (tgt := 20) C dX7_isPair_16 rfl ?_
        exact mG_iret C F dX7_isPair_20 rfl (by decide) K

set_option maxRecDepth 20000 in
set_option maxHeartbeats 4000000 in
theorem vX7_number_0 {X : mX} {E : mEnv} {Qm : Option Value → mW → Prop} (C : mCtx X E MX7_number) (F : mFin X E MX7_number Qm) {w : mW} {c : Nat} (hc : c = 47 ∨ c = 53)
    (K : Qm (some (.int ((((((10000 : Int32) * (w.1 c 0)) + ((1000 : Int32) * (w.1 c 1))) + ((100 : Int32) * (w.1 c 2))) + ((10 : Int32) * (w.1 c 3))) + (w.1 c 4)))) w) :
    mG X E MX7_number 0 [.ref c] [] w := by
  refine mG_sipush C dX7_number_0 sp10000 ?_
  refine mG_aload_n C dX7_number_3 rfl rfl ?_
  refine mG_getI C dX7_number_4 fl_194 (shS hc) rfl ?_
  refine mG_imul C dX7_number_7 ?_
  refine mG_sipush C dX7_number_8 sp1000 ?_
  refine mG_aload_n C dX7_number_11 rfl rfl ?_
  refine mG_getI C dX7_number_12 fl_195 (shS hc) rfl ?_
  refine mG_imul C dX7_number_15 ?_
  refine mG_iadd C dX7_number_16 ?_
  refine mG_bipush C dX7_number_17 bp100 ?_
  refine mG_aload_n C dX7_number_19 rfl rfl ?_
  refine mG_getI C dX7_number_20 fl_196 (shS hc) rfl ?_
  refine mG_imul C dX7_number_23 ?_
  refine mG_iadd C dX7_number_24 ?_
  refine mG_bipush C dX7_number_25 bp10 ?_
  refine mG_aload_n C dX7_number_27 rfl rfl ?_
  refine mG_getI C dX7_number_28 fl_197 (shS hc) rfl ?_
  refine mG_imul C dX7_number_31 ?_
  refine mG_iadd C dX7_number_32 ?_
  refine mG_aload_n C dX7_number_33 rfl rfl ?_
  refine mG_getI C dX7_number_34 fl_198 (shS hc) rfl ?_
  refine mG_iadd C dX7_number_37 ?_
  exact mG_iret C F dX7_number_38 rfl rfl K

set_option maxRecDepth 20000 in
set_option maxHeartbeats 4000000 in
theorem vX7_oneAtLeast_0 {X : mX} {E : mEnv} {Qm : Option Value → mW → Prop} (C : mCtx X E MX7_oneAtLeast) (F : mFin X E MX7_oneAtLeast Qm) {w : mW} {c : Nat} (hc : c = 47 ∨ c = 53) (p0 : Int32) (p1 : Int32) (p2 : Int32)
    (K : mMi E MX4_holds [.int p0, .int (w.1 c 1), .int ((1 : Int32) - p1)] w (fun v1 u1 =>
    ((v1 = 0 →
    (mMi E MX4_holds [.int p0, .int (u1.1 c 3), .int ((1 : Int32) - p2)] u1 (fun v2 u2 =>
    ((v2 = 0 →
    (Qm (some (.int p0)) u2)) ∧ (¬ v2 = 0 →
    (mMi E MX4_hold [.int p0, .int (u2.1 c 1), .int p1] u2 (fun v3 u3 =>
    (Qm (some (.int v3)) u3)))))))) ∧ (¬ v1 = 0 →
    (mMi E MX4_hold [.int p0, .int (u1.1 c 3), .int p2] u1 (fun v4 u4 =>
    (Qm (some (.int v4)) u4))))))) :
    mG X E MX7_oneAtLeast 0 [.ref c, .int p0, .int p1, .int p2] [] w := by
  refine mG_iload_n C dX7_oneAtLeast_0 rfl rfl ?_
  refine mG_aload_n C dX7_oneAtLeast_1 rfl rfl ?_
  refine mG_getI C dX7_oneAtLeast_2 fl_195 (shS hc) rfl ?_
  refine mG_iconst C dX7_oneAtLeast_5 ic1 ?_
  refine mG_iload_n C dX7_oneAtLeast_6 rfl rfl ?_
  refine mG_isub C dX7_oneAtLeast_7 ?_
  refine mG_Si (Z := MX4_holds) (as := [.int p0, .int (w.1 c 1), .int ((1 : Int32) - p1)]) (rest := []) C dX7_oneAtLeast_8 lk_576 zX4_holds ⟨Nat.le_of_ble_eq_true rfl, Nat.le_of_ble_eq_true rfl⟩ rfl (Nat.le_of_ble_eq_true rfl) rfl K (fun v1 u1 K => ?_)
  refine mG_if_eq (tgt := 24) C dX7_oneAtLeast_11 rfl (fun h => ?_) (fun h => ?_)
  · have K := K.1 h
    refine mG_iload_n C dX7_oneAtLeast_24 rfl rfl ?_
    refine mG_aload_n C dX7_oneAtLeast_25 rfl rfl ?_
    refine mG_getI C dX7_oneAtLeast_26 fl_197 (shS hc) rfl ?_
    refine mG_iconst C dX7_oneAtLeast_29 ic1 ?_
    refine mG_iload_n C dX7_oneAtLeast_30 rfl rfl ?_
    refine mG_isub C dX7_oneAtLeast_31 ?_
    refine mG_Si (Z := MX4_holds) (as := [.int p0, .int (u1.1 c 3), .int ((1 : Int32) - p2)]) (rest := []) C dX7_oneAtLeast_32 lk_576 zX4_holds ⟨Nat.le_of_ble_eq_true rfl, Nat.le_of_ble_eq_true rfl⟩ rfl (Nat.le_of_ble_eq_true rfl) rfl K (fun v2 u2 K => ?_)
    refine mG_if_eq (tgt := 50) C dX7_oneAtLeast_35 rfl (fun h => ?_) (fun h => ?_)
    · have K := K.1 h
      refine mG_iload_n C dX7_oneAtLeast_50 rfl rfl ?_
      exact mG_iret C F dX7_oneAtLeast_51 rfl rfl K
    · have K := K.2 h
      refine mG_iload_n C dX7_oneAtLeast_38 rfl rfl ?_
      refine mG_aload_n C dX7_oneAtLeast_39 rfl rfl ?_
      refine mG_getI C dX7_oneAtLeast_40 fl_195 (shS hc) rfl ?_
      refine mG_iload_n C dX7_oneAtLeast_43 rfl rfl ?_
      refine mG_Si (Z := MX4_hold) (as := [.int p0, .int (u2.1 c 1), .int p1]) (rest := []) C dX7_oneAtLeast_44 lk_569 zX4_hold ⟨Nat.le_of_ble_eq_true rfl, Nat.le_of_ble_eq_true rfl⟩ rfl (Nat.le_of_ble_eq_true rfl) rfl K (fun v3 u3 K => ?_)
      refine mG_goto (tgt := 51) C dX7_oneAtLeast_47 rfl ?_
      exact mG_iret C F dX7_oneAtLeast_51 rfl rfl K
  · have K := K.2 h
    refine mG_iload_n C dX7_oneAtLeast_14 rfl rfl ?_
    refine mG_aload_n C dX7_oneAtLeast_15 rfl rfl ?_
    refine mG_getI C dX7_oneAtLeast_16 fl_197 (shS hc) rfl ?_
    refine mG_iload_n C dX7_oneAtLeast_19 rfl rfl ?_
    refine mG_Si (Z := MX4_hold) (as := [.int p0, .int (u1.1 c 3), .int p2]) (rest := []) C dX7_oneAtLeast_20 lk_569 zX4_hold ⟨Nat.le_of_ble_eq_true rfl, Nat.le_of_ble_eq_true rfl⟩ rfl (Nat.le_of_ble_eq_true rfl) rfl K (fun v4 u4 K => ?_)
    exact mG_iret C F dX7_oneAtLeast_23 rfl rfl K

set_option maxRecDepth 20000 in
set_option maxHeartbeats 4000000 in
theorem vX7_placeOfSingle_0 {X : mX} {E : mEnv} {Qm : Option Value → mW → Prop} (C : mCtx X E MX7_placeOfSingle) (F : mFin X E MX7_placeOfSingle Qm) {w : mW}  (p0 : Int32)
    (K : ((12 : Int32) ≤ p0 →
    (Qm (some (.int ((((144 : Int32) * (4 : Int32)) + ((24 : Int32) * ((p0 / (2 : Int32)) - (p0 / (2 : Int32)) / (6 : Int32) * (6 : Int32)))) + ((12 : Int32) * (p0 - p0 / (2 : Int32) * (2 : Int32)))))) w)) ∧ (¬ (12 : Int32) ≤ p0 →
    (Qm (some (.int ((((144 : Int32) * (0 : Int32)) + ((24 : Int32) * ((p0 / (2 : Int32)) - (p0 / (2 : Int32)) / (6 : Int32) * (6 : Int32)))) + ((12 : Int32) * (p0 - p0 / (2 : Int32) * (2 : Int32)))))) w))) :
    mG X E MX7_placeOfSingle 0 [.int p0, .retAddr 0] [] w := by
  refine mG_iload_n C dX7_placeOfSingle_0 rfl rfl ?_
  refine mG_bipush C dX7_placeOfSingle_1 bp12 ?_
  refine mG_icmp_ge (tgt := 10) C dX7_placeOfSingle_3 rfl (fun h => ?_) (fun h => ?_)
  · have K := K.1 h
    refine mG_iconst C dX7_placeOfSingle_10 ic4 ?_
    refine mG_istore_n (lv' := [.int p0, .int (4 : Int32)]) C dX7_placeOfSingle_11 rfl (by decide) rfl ?_
    refine mG_sipush C dX7_placeOfSingle_12 sp144 ?_
    refine mG_iload_n C dX7_placeOfSingle_15 rfl rfl ?_
    refine mG_imul C dX7_placeOfSingle_16 ?_
    refine mG_bipush C dX7_placeOfSingle_17 bp24 ?_
    refine mG_iload_n C dX7_placeOfSingle_19 rfl rfl ?_
    refine mG_iconst C dX7_placeOfSingle_20 ic2 ?_
    refine mG_idiv C dX7_placeOfSingle_21 (by decide) ?_
    refine mG_bipush C dX7_placeOfSingle_22 bp6 ?_
    refine mG_irem C dX7_placeOfSingle_24 (by decide) ?_
    refine mG_imul C dX7_placeOfSingle_25 ?_
    refine mG_iadd C dX7_placeOfSingle_26 ?_
    refine mG_bipush C dX7_placeOfSingle_27 bp12 ?_
    refine mG_iload_n C dX7_placeOfSingle_29 rfl rfl ?_
    refine mG_iconst C dX7_placeOfSingle_30 ic2 ?_
    refine mG_irem C dX7_placeOfSingle_31 (by decide) ?_
    refine mG_imul C dX7_placeOfSingle_32 ?_
    refine mG_iadd C dX7_placeOfSingle_33 ?_
    exact mG_iret C F dX7_placeOfSingle_34 rfl rfl K
  · have K := K.2 h
    refine mG_iconst C dX7_placeOfSingle_6 ic0 ?_
    refine mG_goto (tgt := 11) C dX7_placeOfSingle_7 rfl ?_
    refine mG_istore_n (lv' := [.int p0, .int (0 : Int32)]) C dX7_placeOfSingle_11 rfl (by decide) rfl ?_
    refine mG_sipush C dX7_placeOfSingle_12 sp144 ?_
    refine mG_iload_n C dX7_placeOfSingle_15 rfl rfl ?_
    refine mG_imul C dX7_placeOfSingle_16 ?_
    refine mG_bipush C dX7_placeOfSingle_17 bp24 ?_
    refine mG_iload_n C dX7_placeOfSingle_19 rfl rfl ?_
    refine mG_iconst C dX7_placeOfSingle_20 ic2 ?_
    refine mG_idiv C dX7_placeOfSingle_21 (by decide) ?_
    refine mG_bipush C dX7_placeOfSingle_22 bp6 ?_
    refine mG_irem C dX7_placeOfSingle_24 (by decide) ?_
    refine mG_imul C dX7_placeOfSingle_25 ?_
    refine mG_iadd C dX7_placeOfSingle_26 ?_
    refine mG_bipush C dX7_placeOfSingle_27 bp12 ?_
    refine mG_iload_n C dX7_placeOfSingle_29 rfl rfl ?_
    refine mG_iconst C dX7_placeOfSingle_30 ic2 ?_
    refine mG_irem C dX7_placeOfSingle_31 (by decide) ?_
    refine mG_imul C dX7_placeOfSingle_32 ?_
    refine mG_iadd C dX7_placeOfSingle_33 ?_
    exact mG_iret C F dX7_placeOfSingle_34 rfl rfl K

set_option maxRecDepth 20000 in
set_option maxHeartbeats 4000000 in
theorem vX7_put_0 {X : mX} {E : mEnv} {Qm : Option Value → mW → Prop} (C : mCtx X E MX7_put) (F : mFin X E MX7_put Qm) {w : mW} {c : Nat} (hc : c = 47 ∨ c = 53) (p0 : Int32) (p1 : Int32) (p2 : Int32) (p3 : Int32) (p4 : Int32)
    (K : mMi E MX7_isPair [.int p0] w (fun v1 u1 =>
    ((v1 = 0 →
    ((v1 = 0 →
    (Qm none (mPI (mPI (mPI (mPI (mPI u1 c 0 p0) c 1 p1) c 2 p2) c 3 (0 : Int32)) c 4 (0 : Int32)))) ∧ (¬ v1 = 0 →
    (Qm none (mPI (mPI (mPI (mPI (mPI u1 c 0 p0) c 1 p1) c 2 p2) c 3 (0 : Int32)) c 4 p4))))) ∧ (¬ v1 = 0 →
    ((v1 = 0 →
    (Qm none (mPI (mPI (mPI (mPI (mPI u1 c 0 p0) c 1 p1) c 2 p2) c 3 p3) c 4 (0 : Int32)))) ∧ (¬ v1 = 0 →
    (Qm none (mPI (mPI (mPI (mPI (mPI u1 c 0 p0) c 1 p1) c 2 p2) c 3 p3) c 4 p4)))))))) :
    mG X E MX7_put 0 [.ref c, .int p0, .int p1, .int p2, .int p3, .int p4, .retAddr 0] [] w := by
  refine mG_iload_n C dX7_put_0 rfl rfl ?_
  refine mG_Si (Z := MX7_isPair) (as := [.int p0]) (rest := []) C dX7_put_1 lk_559 zX7_isPair ⟨Nat.le_of_ble_eq_true rfl, Nat.le_of_ble_eq_true rfl⟩ rfl (Nat.le_of_ble_eq_true rfl) rfl K (fun v1 u1 K => ?_)
  refine mG_istore (lv' := [.ref c, .int p0, .int p1, .int p2, .int p3, .int p4, .int v1]) C dX7_put_4 (by decide) rfl ?_
  refine mG_aload_n C dX7_put_6 rfl rfl ?_
  refine mG_iload_n C dX7_put_7 rfl rfl ?_
  refine mG_putI C dX7_put_8 fp_194 (shS hc) rfl ?_
  refine mG_aload_n C dX7_put_11 rfl rfl ?_
  refine mG_iload_n C dX7_put_12 rfl rfl ?_
  refine mG_putI C dX7_put_13 fp_195 (shS hc) rfl ?_
  refine mG_aload_n C dX7_put_16 rfl rfl ?_
  refine mG_iload_n C dX7_put_17 rfl rfl ?_
  refine mG_putI C dX7_put_18 fp_196 (shS hc) rfl ?_
  refine mG_aload_n C dX7_put_21 rfl rfl ?_
  refine mG_iload C dX7_put_22 rfl ?_
  refine mG_if_eq (tgt := 32) C dX7_put_24 rfl (fun h => ?_) (fun h => ?_)
  · have K := K.1 h
    refine mG_iconst C dX7_put_32 ic0 ?_
    refine mG_putI C dX7_put_33 fp_197 (shS hc) rfl ?_
    refine mG_aload_n C dX7_put_36 rfl rfl ?_
    refine mG_iload C dX7_put_37 rfl ?_
    refine mG_if_eq (tgt := 47) C dX7_put_39 rfl (fun h => ?_) (fun h => ?_)
    · have K := K.1 h
      refine mG_iconst C dX7_put_47 ic0 ?_
      refine mG_putI C dX7_put_48 fp_198 (shS hc) rfl ?_
      exact mG_vret C F dX7_put_51 rfl K
    · have K := K.2 h
      refine mG_iload C dX7_put_42 rfl ?_
      refine mG_goto (tgt := 48) C dX7_put_44 rfl ?_
      refine mG_putI C dX7_put_48 fp_198 (shS hc) rfl ?_
      exact mG_vret C F dX7_put_51 rfl K
  · have K := K.2 h
    refine mG_iload C dX7_put_27 rfl ?_
    refine mG_goto (tgt := 33) C dX7_put_29 rfl ?_
    refine mG_putI C dX7_put_33 fp_197 (shS hc) rfl ?_
    refine mG_aload_n C dX7_put_36 rfl rfl ?_
    refine mG_iload C dX7_put_37 rfl ?_
    refine mG_if_eq (tgt := 47) C dX7_put_39 rfl (fun h => ?_) (fun h => ?_)
    · have K := K.1 h
      refine mG_iconst C dX7_put_47 ic0 ?_
      refine mG_putI C dX7_put_48 fp_198 (shS hc) rfl ?_
      exact mG_vret C F dX7_put_51 rfl K
    · have K := K.2 h
      refine mG_iload C dX7_put_42 rfl ?_
      refine mG_goto (tgt := 48) C dX7_put_44 rfl ?_
      refine mG_putI C dX7_put_48 fp_198 (shS hc) rfl ?_
      exact mG_vret C F dX7_put_51 rfl K

set_option maxRecDepth 20000 in
set_option maxHeartbeats 4000000 in
theorem vX7_stands_0 {X : mX} {E : mEnv} {Qm : Option Value → mW → Prop} (C : mCtx X E MX7_stands) (F : mFin X E MX7_stands Qm) {w : mW} {c : Nat} (hc : c = 47 ∨ c = 53) (p0 : Int32)
    (K : (¬ ((p0 >>> ((w.1 c 1) &&& 31)) &&& (1 : Int32)) = (w.1 c 2) →
    ((¬ ((p0 >>> ((w.1 c 3) &&& 31)) &&& (1 : Int32)) = (w.1 c 4) →
    (((w.1 c 0) = (1 : Int32) →
    (Qm (some (.int (0 : Int32))) w)) ∧ (¬ (w.1 c 0) = (1 : Int32) →
    (((w.1 c 0) = (2 : Int32) →
    (Qm (some (.int (0 : Int32))) w)) ∧ (¬ (w.1 c 0) = (2 : Int32) →
    (((w.1 c 0) = (3 : Int32) →
    (Qm (some (.int (1 : Int32))) w)) ∧ (¬ (w.1 c 0) = (3 : Int32) →
    (Qm (some (.int (0 : Int32))) w)))))))) ∧ (((p0 >>> ((w.1 c 3) &&& 31)) &&& (1 : Int32)) = (w.1 c 4) →
    (((w.1 c 0) = (1 : Int32) →
    (Qm (some (.int (0 : Int32))) w)) ∧ (¬ (w.1 c 0) = (1 : Int32) →
    (((w.1 c 0) = (2 : Int32) →
    (Qm (some (.int (1 : Int32))) w)) ∧ (¬ (w.1 c 0) = (2 : Int32) →
    (((w.1 c 0) = (3 : Int32) →
    (Qm (some (.int (1 : Int32))) w)) ∧ (¬ (w.1 c 0) = (3 : Int32) →
    (Qm (some (.int (0 : Int32))) w)))))))))) ∧ (((p0 >>> ((w.1 c 1) &&& 31)) &&& (1 : Int32)) = (w.1 c 2) →
    ((¬ ((p0 >>> ((w.1 c 3) &&& 31)) &&& (1 : Int32)) = (w.1 c 4) →
    (((w.1 c 0) = (1 : Int32) →
    (Qm (some (.int (0 : Int32))) w)) ∧ (¬ (w.1 c 0) = (1 : Int32) →
    (((w.1 c 0) = (2 : Int32) →
    (Qm (some (.int (1 : Int32))) w)) ∧ (¬ (w.1 c 0) = (2 : Int32) →
    (((w.1 c 0) = (3 : Int32) →
    (Qm (some (.int (0 : Int32))) w)) ∧ (¬ (w.1 c 0) = (3 : Int32) →
    (Qm (some (.int (1 : Int32))) w)))))))) ∧ (((p0 >>> ((w.1 c 3) &&& 31)) &&& (1 : Int32)) = (w.1 c 4) →
    (((w.1 c 0) = (1 : Int32) →
    (Qm (some (.int (1 : Int32))) w)) ∧ (¬ (w.1 c 0) = (1 : Int32) →
    (((w.1 c 0) = (2 : Int32) →
    (Qm (some (.int (1 : Int32))) w)) ∧ (¬ (w.1 c 0) = (2 : Int32) →
    (((w.1 c 0) = (3 : Int32) →
    (Qm (some (.int (1 : Int32))) w)) ∧ (¬ (w.1 c 0) = (3 : Int32) →
    (Qm (some (.int (1 : Int32))) w))))))))))) :
    mG X E MX7_stands 0 [.ref c, .int p0, .retAddr 0, .retAddr 0] [] w := by
  refine mG_iload_n C dX7_stands_0 rfl rfl ?_
  refine mG_aload_n C dX7_stands_1 rfl rfl ?_
  refine mG_getI C dX7_stands_2 fl_195 (shS hc) rfl ?_
  refine mG_ishr C dX7_stands_5 ?_
  refine mG_iconst C dX7_stands_6 ic1 ?_
  refine mG_iand C dX7_stands_7 ?_
  refine mG_aload_n C dX7_stands_8 rfl rfl ?_
  refine mG_getI C dX7_stands_9 fl_196 (shS hc) rfl ?_
  refine mG_icmp_ne (tgt := 19) C dX7_stands_12 rfl (fun h => ?_) (fun h => ?_)
  · have K := K.1 h
    refine mG_iconst C dX7_stands_19 ic0 ?_
    refine mG_istore_n (lv' := [.ref c, .int p0, .int (0 : Int32), .retAddr 0]) C dX7_stands_20 rfl (by decide) rfl ?_
    refine mG_iload_n C dX7_stands_21 rfl rfl ?_
    refine mG_aload_n C dX7_stands_22 rfl rfl ?_
    refine mG_getI C dX7_stands_23 fl_197 (shS hc) rfl ?_
    refine mG_ishr C dX7_stands_26 ?_
    refine mG_iconst C dX7_stands_27 ic1 ?_
    refine mG_iand C dX7_stands_28 ?_
    refine mG_aload_n C dX7_stands_29 rfl rfl ?_
    refine mG_getI C dX7_stands_30 fl_198 (shS hc) rfl ?_
    refine mG_icmp_ne (tgt := 40) C dX7_stands_33 rfl (fun h => ?_) (fun h => ?_)
    · have K := K.1 h
      refine mG_iconst C dX7_stands_40 ic0 ?_
      refine mG_istore_n (lv' := [.ref c, .int p0, .int (0 : Int32), .int (0 : Int32)]) C dX7_stands_41 rfl (by decide) rfl ?_
      refine mG_aload_n C dX7_stands_42 rfl rfl ?_
      refine mG_getI C dX7_stands_43 fl_194 (shS hc) rfl ?_
      by_cases g1 : (w.1 c 0) = (1 : Int32)
      · have K := K.1 g1
        refine mG_tableEq (off := 26) (tgt := 72) C dX7_stands_46 g1 (by decide) (by decide) rfl rfl ?_
        refine mG_iload_n C dX7_stands_72 rfl rfl ?_
        refine mG_if_eq (tgt := 84) C dX7_stands_73 rfl (fun _ => ?_) (fun h => absurd h (by decide))
        refine mG_iconst C dX7_stands_84 ic0 ?_
        exact mG_iret C F dX7_stands_85 rfl (by decide) K
      · have K := K.2 g1
        by_cases g2 : (w.1 c 0) = (2 : Int32)
        · have K := K.1 g2
          refine mG_tableEq (off := 40) (tgt := 86) C dX7_stands_46 g2 (by decide) (by decide) rfl rfl ?_
          refine mG_iload_n C dX7_stands_86 rfl rfl ?_
          refine mG_if_ne (tgt := 94) C dX7_stands_87 rfl (fun h => absurd h (by decide)) (fun _ => ?_)
          refine mG_iload_n C dX7_stands_90 rfl rfl ?_
          refine mG_if_eq (tgt := 98) C dX7_stands_91 rfl (fun _ => ?_) (fun h => absurd h (by decide))
          refine mG_iconst C dX7_stands_98 ic0 ?_
          exact mG_iret C F dX7_stands_99 rfl (by decide) K
        · have K := K.2 g2
          by_cases g3 : (w.1 c 0) = (3 : Int32)
          · have K := K.1 g3
            refine mG_tableEq (off := 54) (tgt := 100) C dX7_stands_46 g3 (by decide) (by decide) rfl rfl ?_
            refine mG_iload_n C dX7_stands_100 rfl rfl ?_
            refine mG_if_eq (tgt := 108) C dX7_stands_101 rfl (fun _ => ?_) (fun h => absurd h (by decide))
            refine mG_iconst C dX7_stands_108 ic1 ?_
            refine mG_goto (tgt := 113) C dX7_stands_109 rfl ?_
            exact mG_iret C F dX7_stands_113 rfl (by decide) K
          · have K := K.2 g3
            have e1 := lv_neT g1 (show (1 : Int32).toInt = 1 by decide)
            have e2 := lv_neT g2 (show (2 : Int32).toInt = 2 by decide)
            have e3 := lv_neT g3 (show (3 : Int32).toInt = 3 by decide)
            refine mG_tableOut (tgt := 114) C dX7_stands_46 (by omega) rfl ?_
            refine mG_iload_n C dX7_stands_114 rfl rfl ?_
            exact mG_iret C F dX7_stands_115 rfl (by decide) K
    · have K := K.2 h
      refine mG_iconst C dX7_stands_36 ic1 ?_
      refine mG_goto (tgt := 41) C dX7_stands_37 rfl ?_
      refine mG_istore_n (lv' := [.ref c, .int p0, .int (0 : Int32), .int (1 : Int32)]) C dX7_stands_41 rfl (by decide) rfl ?_
      refine mG_aload_n C dX7_stands_42 rfl rfl ?_
      refine mG_getI C dX7_stands_43 fl_194 (shS hc) rfl ?_
      by_cases g1 : (w.1 c 0) = (1 : Int32)
      · have K := K.1 g1
        refine mG_tableEq (off := 26) (tgt := 72) C dX7_stands_46 g1 (by decide) (by decide) rfl rfl ?_
        refine mG_iload_n C dX7_stands_72 rfl rfl ?_
        refine mG_if_eq (tgt := 84) C dX7_stands_73 rfl (fun _ => ?_) (fun h => absurd h (by decide))
        refine mG_iconst C dX7_stands_84 ic0 ?_
        exact mG_iret C F dX7_stands_85 rfl (by decide) K
      · have K := K.2 g1
        by_cases g2 : (w.1 c 0) = (2 : Int32)
        · have K := K.1 g2
          refine mG_tableEq (off := 40) (tgt := 86) C dX7_stands_46 g2 (by decide) (by decide) rfl rfl ?_
          refine mG_iload_n C dX7_stands_86 rfl rfl ?_
          refine mG_if_ne (tgt := 94) C dX7_stands_87 rfl (fun h => absurd h (by decide)) (fun _ => ?_)
          refine mG_iload_n C dX7_stands_90 rfl rfl ?_
          refine mG_if_eq (tgt := 98) C dX7_stands_91 rfl (fun h => absurd h (by decide)) (fun _ => ?_)
          refine mG_iconst C dX7_stands_94 ic1 ?_
          refine mG_goto (tgt := 99) C dX7_stands_95 rfl ?_
          exact mG_iret C F dX7_stands_99 rfl (by decide) K
        · have K := K.2 g2
          by_cases g3 : (w.1 c 0) = (3 : Int32)
          · have K := K.1 g3
            refine mG_tableEq (off := 54) (tgt := 100) C dX7_stands_46 g3 (by decide) (by decide) rfl rfl ?_
            refine mG_iload_n C dX7_stands_100 rfl rfl ?_
            refine mG_if_eq (tgt := 108) C dX7_stands_101 rfl (fun _ => ?_) (fun h => absurd h (by decide))
            refine mG_iconst C dX7_stands_108 ic1 ?_
            refine mG_goto (tgt := 113) C dX7_stands_109 rfl ?_
            exact mG_iret C F dX7_stands_113 rfl (by decide) K
          · have K := K.2 g3
            have e1 := lv_neT g1 (show (1 : Int32).toInt = 1 by decide)
            have e2 := lv_neT g2 (show (2 : Int32).toInt = 2 by decide)
            have e3 := lv_neT g3 (show (3 : Int32).toInt = 3 by decide)
            refine mG_tableOut (tgt := 114) C dX7_stands_46 (by omega) rfl ?_
            refine mG_iload_n C dX7_stands_114 rfl rfl ?_
            exact mG_iret C F dX7_stands_115 rfl (by decide) K
  · have K := K.2 h
    refine mG_iconst C dX7_stands_15 ic1 ?_
    refine mG_goto (tgt := 20) C dX7_stands_16 rfl ?_
    refine mG_istore_n (lv' := [.ref c, .int p0, .int (1 : Int32), .retAddr 0]) C dX7_stands_20 rfl (by decide) rfl ?_
    refine mG_iload_n C dX7_stands_21 rfl rfl ?_
    refine mG_aload_n C dX7_stands_22 rfl rfl ?_
    refine mG_getI C dX7_stands_23 fl_197 (shS hc) rfl ?_
    refine mG_ishr C dX7_stands_26 ?_
    refine mG_iconst C dX7_stands_27 ic1 ?_
    refine mG_iand C dX7_stands_28 ?_
    refine mG_aload_n C dX7_stands_29 rfl rfl ?_
    refine mG_getI C dX7_stands_30 fl_198 (shS hc) rfl ?_
    refine mG_icmp_ne (tgt := 40) C dX7_stands_33 rfl (fun h => ?_) (fun h => ?_)
    · have K := K.1 h
      refine mG_iconst C dX7_stands_40 ic0 ?_
      refine mG_istore_n (lv' := [.ref c, .int p0, .int (1 : Int32), .int (0 : Int32)]) C dX7_stands_41 rfl (by decide) rfl ?_
      refine mG_aload_n C dX7_stands_42 rfl rfl ?_
      refine mG_getI C dX7_stands_43 fl_194 (shS hc) rfl ?_
      by_cases g1 : (w.1 c 0) = (1 : Int32)
      · have K := K.1 g1
        refine mG_tableEq (off := 26) (tgt := 72) C dX7_stands_46 g1 (by decide) (by decide) rfl rfl ?_
        refine mG_iload_n C dX7_stands_72 rfl rfl ?_
        refine mG_if_eq (tgt := 84) C dX7_stands_73 rfl (fun h => absurd h (by decide)) (fun _ => ?_)
        refine mG_iload_n C dX7_stands_76 rfl rfl ?_
        refine mG_if_eq (tgt := 84) C dX7_stands_77 rfl (fun _ => ?_) (fun h => absurd h (by decide))
        refine mG_iconst C dX7_stands_84 ic0 ?_
        exact mG_iret C F dX7_stands_85 rfl (by decide) K
      · have K := K.2 g1
        by_cases g2 : (w.1 c 0) = (2 : Int32)
        · have K := K.1 g2
          refine mG_tableEq (off := 40) (tgt := 86) C dX7_stands_46 g2 (by decide) (by decide) rfl rfl ?_
          refine mG_iload_n C dX7_stands_86 rfl rfl ?_
          refine mG_if_ne (tgt := 94) C dX7_stands_87 rfl (fun _ => ?_) (fun h => absurd h (by decide))
          refine mG_iconst C dX7_stands_94 ic1 ?_
          refine mG_goto (tgt := 99) C dX7_stands_95 rfl ?_
          exact mG_iret C F dX7_stands_99 rfl (by decide) K
        · have K := K.2 g2
          by_cases g3 : (w.1 c 0) = (3 : Int32)
          · have K := K.1 g3
            refine mG_tableEq (off := 54) (tgt := 100) C dX7_stands_46 g3 (by decide) (by decide) rfl rfl ?_
            refine mG_iload_n C dX7_stands_100 rfl rfl ?_
            refine mG_if_eq (tgt := 108) C dX7_stands_101 rfl (fun h => absurd h (by decide)) (fun _ => ?_)
            refine mG_iload_n C dX7_stands_104 rfl rfl ?_
            refine mG_if_eq (tgt := 112) C dX7_stands_105 rfl (fun _ => ?_) (fun h => absurd h (by decide))
            refine mG_iconst C dX7_stands_112 ic0 ?_
            exact mG_iret C F dX7_stands_113 rfl (by decide) K
          · have K := K.2 g3
            have e1 := lv_neT g1 (show (1 : Int32).toInt = 1 by decide)
            have e2 := lv_neT g2 (show (2 : Int32).toInt = 2 by decide)
            have e3 := lv_neT g3 (show (3 : Int32).toInt = 3 by decide)
            refine mG_tableOut (tgt := 114) C dX7_stands_46 (by omega) rfl ?_
            refine mG_iload_n C dX7_stands_114 rfl rfl ?_
            exact mG_iret C F dX7_stands_115 rfl (by decide) K
    · have K := K.2 h
      refine mG_iconst C dX7_stands_36 ic1 ?_
      refine mG_goto (tgt := 41) C dX7_stands_37 rfl ?_
      refine mG_istore_n (lv' := [.ref c, .int p0, .int (1 : Int32), .int (1 : Int32)]) C dX7_stands_41 rfl (by decide) rfl ?_
      refine mG_aload_n C dX7_stands_42 rfl rfl ?_
      refine mG_getI C dX7_stands_43 fl_194 (shS hc) rfl ?_
      by_cases g1 : (w.1 c 0) = (1 : Int32)
      · have K := K.1 g1
        refine mG_tableEq (off := 26) (tgt := 72) C dX7_stands_46 g1 (by decide) (by decide) rfl rfl ?_
        refine mG_iload_n C dX7_stands_72 rfl rfl ?_
        refine mG_if_eq (tgt := 84) C dX7_stands_73 rfl (fun h => absurd h (by decide)) (fun _ => ?_)
        refine mG_iload_n C dX7_stands_76 rfl rfl ?_
        refine mG_if_eq (tgt := 84) C dX7_stands_77 rfl (fun h => absurd h (by decide)) (fun _ => ?_)
        refine mG_iconst C dX7_stands_80 ic1 ?_
        refine mG_goto (tgt := 85) C dX7_stands_81 rfl ?_
        exact mG_iret C F dX7_stands_85 rfl (by decide) K
      · have K := K.2 g1
        by_cases g2 : (w.1 c 0) = (2 : Int32)
        · have K := K.1 g2
          refine mG_tableEq (off := 40) (tgt := 86) C dX7_stands_46 g2 (by decide) (by decide) rfl rfl ?_
          refine mG_iload_n C dX7_stands_86 rfl rfl ?_
          refine mG_if_ne (tgt := 94) C dX7_stands_87 rfl (fun _ => ?_) (fun h => absurd h (by decide))
          refine mG_iconst C dX7_stands_94 ic1 ?_
          refine mG_goto (tgt := 99) C dX7_stands_95 rfl ?_
          exact mG_iret C F dX7_stands_99 rfl (by decide) K
        · have K := K.2 g2
          by_cases g3 : (w.1 c 0) = (3 : Int32)
          · have K := K.1 g3
            refine mG_tableEq (off := 54) (tgt := 100) C dX7_stands_46 g3 (by decide) (by decide) rfl rfl ?_
            refine mG_iload_n C dX7_stands_100 rfl rfl ?_
            refine mG_if_eq (tgt := 108) C dX7_stands_101 rfl (fun h => absurd h (by decide)) (fun _ => ?_)
            refine mG_iload_n C dX7_stands_104 rfl rfl ?_
            refine mG_if_eq (tgt := 112) C dX7_stands_105 rfl (fun h => absurd h (by decide)) (fun _ => ?_)
            refine mG_iconst C dX7_stands_108 ic1 ?_
            refine mG_goto (tgt := 113) C dX7_stands_109 rfl ?_
            exact mG_iret C F dX7_stands_113 rfl (by decide) K
          · have K := K.2 g3
            have e1 := lv_neT g1 (show (1 : Int32).toInt = 1 by decide)
            have e2 := lv_neT g2 (show (2 : Int32).toInt = 2 by decide)
            have e3 := lv_neT g3 (show (3 : Int32).toInt = 3 by decide)
            refine mG_tableOut (tgt := 114) C dX7_stands_46 (by omega) rfl ?_
            refine mG_iload_n C dX7_stands_114 rfl rfl ?_
            exact mG_iret C F dX7_stands_115 rfl (by decide) K
