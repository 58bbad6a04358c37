/-! ===== CONDITIONS OF THE WALK, method by method, from cut to cut ===== -/
set_option maxRecDepth 20000 in
set_option maxHeartbeats 4000000 in
theorem vX9_as_0 {X : mX} {E : mEnv} {Qm : Option Value → mW → Prop} (C : mCtx X E MX9_as) (F : mFin X E MX9_as Qm) {w : mW}  (p0 : Int32) (p1 : Int32)
    (K : mMi E MX9_isOne [.ref 60, .int p0] w (fun v1 u1 =>
    ((¬ v1 = 0 →
    (mMi E MX9_in [.int p1, .int (0 : Int32), .int (4 : Int32)] u1 (fun v2 u2 =>
    ((¬ v2 = 0 →
    (mMi E MX9_kindOf [.ref 60, .int p0] u2 (fun v3 u3 =>
    ((p1 = 0 →
    (mMi E MX9_trusts [.ref 60, .int p0] u3 (fun v4 u4 =>
    ((v4 = 0 →
    (Qm (some (.int (0 : Int32))) u4)) ∧ (¬ v4 = 0 →
    (Qm (some (.int (1 : Int32))) u4)))))) ∧ (¬ p1 = 0 →
    ((¬ p1 = (1 : Int32) →
    ((¬ p1 = (2 : Int32) →
    ((¬ v3 = (p1 - (1 : Int32)) →
    (Qm (some (.int (-4 : Int32))) u3)) ∧ (v3 = (p1 - (1 : Int32)) →
    (mMi E MX9_trusts [.ref 60, .int p0] u3 (fun v5 u5 =>
    ((v5 = 0 →
    (Qm (some (.int (0 : Int32))) u5)) ∧ (¬ v5 = 0 →
    (Qm (some (.int (1 : Int32))) u5)))))))) ∧ (p1 = (2 : Int32) →
    ((¬ v3 = (1 : Int32) →
    (Qm (some (.int (-4 : Int32))) u3)) ∧ (v3 = (1 : Int32) →
    (mMi E MX9_trusts [.ref 60, .int p0] u3 (fun v6 u6 =>
    ((v6 = 0 →
    (Qm (some (.int (0 : Int32))) u6)) ∧ (¬ v6 = 0 →
    (Qm (some (.int (1 : Int32))) u6)))))))))) ∧ (p1 = (1 : Int32) →
    ((v3 = (1 : Int32) →
    (Qm (some (.int (-4 : Int32))) u3)) ∧ (¬ v3 = (1 : Int32) →
    (mMi E MX9_trusts [.ref 60, .int p0] u3 (fun v7 u7 =>
    ((v7 = 0 →
    (Qm (some (.int (0 : Int32))) u7)) ∧ (¬ v7 = 0 →
    (Qm (some (.int (1 : Int32))) u7)))))))))))))) ∧ (v2 = 0 →
    (Qm (some (.int (-3 : Int32))) u2)))))) ∧ (v1 = 0 →
    (Qm (some (.int (-2 : Int32))) u1))))) :
    mG X E MX9_as 0 [.ref 60, .int p0, .int p1, .retAddr 0, .retAddr 0] [] w := by
  refine mG_aload_n C dX9_as_0 rfl rfl ?_
  refine mG_iload_n C dX9_as_1 rfl rfl ?_
  refine mG_Vi (Z := MX9_isOne) (as := [.int p0]) (rest := []) C dX9_as_2 lk_1030 zX9_isOne ⟨Nat.le_of_ble_eq_true rfl, Nat.le_of_ble_eq_true rfl⟩ sh60 rfl rfl (Nat.le_of_ble_eq_true rfl) rfl K (fun v1 u1 K => ?_)
  refine mG_if_ne (tgt := 11) C dX9_as_5 rfl (fun h => ?_) (fun h => ?_)
  · have K := K.1 h
    refine mG_iload_n C dX9_as_11 rfl rfl ?_
    refine mG_iconst C dX9_as_12 ic0 ?_
    refine mG_iconst C dX9_as_13 ic4 ?_
    refine mG_Si (Z := MX9_in) (as := [.int p1, .int (0 : Int32), .int (4 : Int32)]) (rest := []) C dX9_as_14 lk_956 zX9_in ⟨Nat.le_of_ble_eq_true rfl, Nat.le_of_ble_eq_true rfl⟩ rfl (Nat.le_of_ble_eq_true rfl) rfl K (fun v2 u2 K => ?_)
    refine mG_if_ne (tgt := 23) C dX9_as_17 rfl (fun h => ?_) (fun h => ?_)
    · have K := K.1 h
      refine mG_aload_n C dX9_as_23 rfl rfl ?_
      refine mG_iload_n C dX9_as_24 rfl rfl ?_
      refine mG_Vi (Z := MX9_kindOf) (as := [.int p0]) (rest := []) C dX9_as_25 lk_1046 zX9_kindOf ⟨Nat.le_of_ble_eq_true rfl, Nat.le_of_ble_eq_true rfl⟩ sh60 rfl rfl (Nat.le_of_ble_eq_true rfl) rfl K (fun v3 u3 K => ?_)
      refine mG_istore_n (lv' := [.ref 60, .int p0, .int p1, .int v3, .retAddr 0]) C dX9_as_28 rfl (by decide) rfl ?_
      refine mG_iload_n C dX9_as_29 rfl rfl ?_
      refine mG_if_eq (tgt := 66) C dX9_as_30 rfl (fun h => ?_) (fun h => ?_)
      · have K := K.1 h
        refine mG_iconst C dX9_as_66 ic1 ?_
        refine mG_goto (tgt := 71) C dX9_as_67 rfl ?_
        refine mG_istore (lv' := [.ref 60, .int p0, .int p1, .int v3, .int (1 : Int32)]) C dX9_as_71 (by decide) rfl ?_
        refine mG_iload C dX9_as_73 rfl ?_
        refine mG_if_eq (tgt := 94) C dX9_as_75 rfl (fun h => absurd h (by decide)) (fun _ => ?_)
        refine mG_aload_n C dX9_as_78 rfl rfl ?_
        refine mG_iload_n C dX9_as_79 rfl rfl ?_
        refine mG_Vi (Z := MX9_trusts) (as := [.int p0]) (rest := []) C dX9_as_80 lk_1050 zX9_trusts ⟨Nat.le_of_ble_eq_true rfl, Nat.le_of_ble_eq_true rfl⟩ sh60 rfl rfl (Nat.le_of_ble_eq_true rfl) rfl K (fun v4 u4 K => ?_)
        refine mG_if_eq (tgt := 90) C dX9_as_83 rfl (fun h => ?_) (fun h => ?_)
        · have K := K.1 h
          refine mG_iconst C dX9_as_90 ic0 ?_
          refine mG_goto (tgt := 96) C dX9_as_91 rfl ?_
          exact mG_iret C F dX9_as_96 rfl rfl K
        · have K := K.2 h
          refine mG_iconst C dX9_as_86 ic1 ?_
          refine mG_goto (tgt := 96) C dX9_as_87 rfl ?_
          exact mG_iret C F dX9_as_96 rfl rfl K
      · have K := K.2 h
        refine mG_iload_n C dX9_as_33 rfl rfl ?_
        refine mG_iconst C dX9_as_34 ic1 ?_
        refine mG_icmp_ne (tgt := 46) C dX9_as_35 rfl (fun h => ?_) (fun h => ?_)
        · have K := K.1 h
          refine mG_iload_n C dX9_as_46 rfl rfl ?_
          refine mG_iconst C dX9_as_47 ic2 ?_
          refine mG_icmp_ne (tgt := 59) C dX9_as_48 rfl (fun h => ?_) (fun h => ?_)
          · have K := K.1 h
            refine mG_iload_n C dX9_as_59 rfl rfl ?_
            refine mG_iload_n C dX9_as_60 rfl rfl ?_
            refine mG_iconst C dX9_as_61 ic1 ?_
            refine mG_isub C dX9_as_62 ?_
            refine mG_icmp_ne (tgt := 70) C dX9_as_63 rfl (fun h => ?_) (fun h => ?_)
            · have K := K.1 h
              refine mG_iconst C dX9_as_70 ic0 ?_
              refine mG_istore (lv' := [.ref 60, .int p0, .int p1, .int v3, .int (0 : Int32)]) C dX9_as_71 (by decide) rfl ?_
              refine mG_iload C dX9_as_73 rfl ?_
              refine mG_if_eq (tgt := 94) C dX9_as_75 rfl (fun _ => ?_) (fun h => absurd h (by decide))
              refine mG_bipush C dX9_as_94 bpm4 ?_
              exact mG_iret C F dX9_as_96 rfl rfl K
            · have K := K.2 h
              refine mG_iconst C dX9_as_66 ic1 ?_
              refine mG_goto (tgt := 71) C dX9_as_67 rfl ?_
              refine mG_istore (lv' := [.ref 60, .int p0, .int p1, .int v3, .int (1 : Int32)]) C dX9_as_71 (by decide) rfl ?_
              refine mG_iload C dX9_as_73 rfl ?_
              refine mG_if_eq (tgt := 94) C dX9_as_75 rfl (fun h => absurd h (by decide)) (fun _ => ?_)
              refine mG_aload_n C dX9_as_78 rfl rfl ?_
              refine mG_iload_n C dX9_as_79 rfl rfl ?_
              refine mG_Vi (Z := MX9_trusts) (as := [.int p0]) (rest := []) C dX9_as_80 lk_1050 zX9_trusts ⟨Nat.le_of_ble_eq_true rfl, Nat.le_of_ble_eq_true rfl⟩ sh60 rfl rfl (Nat.le_of_ble_eq_true rfl) rfl K (fun v5 u5 K => ?_)
              refine mG_if_eq (tgt := 90) C dX9_as_83 rfl (fun h => ?_) (fun h => ?_)
              · have K := K.1 h
                refine mG_iconst C dX9_as_90 ic0 ?_
                refine mG_goto (tgt := 96) C dX9_as_91 rfl ?_
                exact mG_iret C F dX9_as_96 rfl rfl K
              · have K := K.2 h
                refine mG_iconst C dX9_as_86 ic1 ?_
                refine mG_goto (tgt := 96) C dX9_as_87 rfl ?_
                exact mG_iret C F dX9_as_96 rfl rfl K
          · have K := K.2 h
            refine mG_iload_n C dX9_as_51 rfl rfl ?_
            refine mG_iconst C dX9_as_52 ic1 ?_
            refine mG_icmp_ne (tgt := 70) C dX9_as_53 rfl (fun h => ?_) (fun h => ?_)
            · have K := K.1 h
              refine mG_iconst C dX9_as_70 ic0 ?_
              refine mG_istore (lv' := [.ref 60, .int p0, .int p1, .int v3, .int (0 : Int32)]) C dX9_as_71 (by decide) rfl ?_
              refine mG_iload C dX9_as_73 rfl ?_
              refine mG_if_eq (tgt := 94) C dX9_as_75 rfl (fun _ => ?_) (fun h => absurd h (by decide))
              refine mG_bipush C dX9_as_94 bpm4 ?_
              exact mG_iret C F dX9_as_96 rfl rfl K
            · have K := K.2 h
              refine mG_goto (tgt := 66) C dX9_as_56 rfl ?_
              refine mG_iconst C dX9_as_66 ic1 ?_
              refine mG_goto (tgt := 71) C dX9_as_67 rfl ?_
              refine mG_istore (lv' := [.ref 60, .int p0, .int p1, .int v3, .int (1 : Int32)]) C dX9_as_71 (by decide) rfl ?_
              refine mG_iload C dX9_as_73 rfl ?_
              refine mG_if_eq (tgt := 94) C dX9_as_75 rfl (fun h => absurd h (by decide)) (fun _ => ?_)
              refine mG_aload_n C dX9_as_78 rfl rfl ?_
              refine mG_iload_n C dX9_as_79 rfl rfl ?_
              refine mG_Vi (Z := MX9_trusts) (as := [.int p0]) (rest := []) C dX9_as_80 lk_1050 zX9_trusts ⟨Nat.le_of_ble_eq_true rfl, Nat.le_of_ble_eq_true rfl⟩ sh60 rfl rfl (Nat.le_of_ble_eq_true rfl) rfl K (fun v6 u6 K => ?_)
              refine mG_if_eq (tgt := 90) C dX9_as_83 rfl (fun h => ?_) (fun h => ?_)
              · have K := K.1 h
                refine mG_iconst C dX9_as_90 ic0 ?_
                refine mG_goto (tgt := 96) C dX9_as_91 rfl ?_
                exact mG_iret C F dX9_as_96 rfl rfl K
              · have K := K.2 h
                refine mG_iconst C dX9_as_86 ic1 ?_
                refine mG_goto (tgt := 96) C dX9_as_87 rfl ?_
                exact mG_iret C F dX9_as_96 rfl rfl K
        · have K := K.2 h
          refine mG_iload_n C dX9_as_38 rfl rfl ?_
          refine mG_iconst C dX9_as_39 ic1 ?_
          refine mG_icmp_eq (tgt := 70) C dX9_as_40 rfl (fun h => ?_) (fun h => ?_)
          · have K := K.1 h
            refine mG_iconst C dX9_as_70 ic0 ?_
            refine mG_istore (lv' := [.ref 60, .int p0, .int p1, .int v3, .int (0 : Int32)]) C dX9_as_71 (by decide) rfl ?_
            refine mG_iload C dX9_as_73 rfl ?_
            refine mG_if_eq (tgt := 94) C dX9_as_75 rfl (fun _ => ?_) (fun h => absurd h (by decide))
            refine mG_bipush C dX9_as_94 bpm4 ?_
            exact mG_iret C F dX9_as_96 rfl rfl K
          · have K := K.2 h
            refine mG_goto (tgt := 66) C dX9_as_43 rfl ?_
            refine mG_iconst C dX9_as_66 ic1 ?_
            refine mG_goto (tgt := 71) C dX9_as_67 rfl ?_
            refine mG_istore (lv' := [.ref 60, .int p0, .int p1, .int v3, .int (1 : Int32)]) C dX9_as_71 (by decide) rfl ?_
            refine mG_iload C dX9_as_73 rfl ?_
            refine mG_if_eq (tgt := 94) C dX9_as_75 rfl (fun h => absurd h (by decide)) (fun _ => ?_)
            refine mG_aload_n C dX9_as_78 rfl rfl ?_
            refine mG_iload_n C dX9_as_79 rfl rfl ?_
            refine mG_Vi (Z := MX9_trusts) (as := [.int p0]) (rest := []) C dX9_as_80 lk_1050 zX9_trusts ⟨Nat.le_of_ble_eq_true rfl, Nat.le_of_ble_eq_true rfl⟩ sh60 rfl rfl (Nat.le_of_ble_eq_true rfl) rfl K (fun v7 u7 K => ?_)
            refine mG_if_eq (tgt := 90) C dX9_as_83 rfl (fun h => ?_) (fun h => ?_)
            · have K := K.1 h
              refine mG_iconst C dX9_as_90 ic0 ?_
              refine mG_goto (tgt := 96) C dX9_as_91 rfl ?_
              exact mG_iret C F dX9_as_96 rfl rfl K
            · have K := K.2 h
              refine mG_iconst C dX9_as_86 ic1 ?_
              refine mG_goto (tgt := 96) C dX9_as_87 rfl ?_
              exact mG_iret C F dX9_as_96 rfl rfl K
    · have K := K.2 h
      refine mG_bipush C dX9_as_20 bpm3 ?_
      exact mG_iret C F dX9_as_22 rfl rfl K
  · have K := K.2 h
    refine mG_bipush C dX9_as_8 bpm2 ?_
    exact mG_iret C F dX9_as_10 rfl rfl K

set_option maxRecDepth 20000 in
set_option maxHeartbeats 4000000 in
theorem vX9_askOf_0 {X : mX} {E : mEnv} {Qm : Option Value → mW → Prop} (C : mCtx X E MX9_askOf) (F : mFin X E MX9_askOf Qm) {w : mW}  (p0 : Int32) (p1 : Int32) (p2 : Int32)
    (K : mG X E MX9_askOf 9 [.ref 60, .int p0, .int p1, .int p2, .int (0 : Int32), .int (-1 : Int32), .int (0 : Int32), .retAddr 0, .retAddr 0] [] w) :
    mG X E MX9_askOf 0 [.ref 60, .int p0, .int p1, .int p2, .retAddr 0, .retAddr 0, .retAddr 0, .retAddr 0, .retAddr 0] [] w := by
  refine mG_iconst C dX9_askOf_0 ic0 ?_
  refine mG_istore (lv' := [.ref 60, .int p0, .int p1, .int p2, .int (0 : Int32), .retAddr 0, .retAddr 0, .retAddr 0, .retAddr 0]) C dX9_askOf_1 (by decide) rfl ?_
  refine mG_iconst C dX9_askOf_3 icm1 ?_
  refine mG_istore (lv' := [.ref 60, .int p0, .int p1, .int p2, .int (0 : Int32), .int (-1 : Int32), .retAddr 0, .retAddr 0, .retAddr 0]) C dX9_askOf_4 (by decide) rfl ?_
  refine mG_iconst C dX9_askOf_6 ic0 ?_
  refine mG_istore (lv' := [.ref 60, .int p0, .int p1, .int p2, .int (0 : Int32), .int (-1 : Int32), .int (0 : Int32), .retAddr 0, .retAddr 0]) C dX9_askOf_7 (by decide) rfl ?_
  exact K

set_option maxRecDepth 20000 in
set_option maxHeartbeats 4000000 in
theorem vX9_askOf_9 {X : mX} {E : mEnv} {Qm : Option Value → mW → Prop} (C : mCtx X E MX9_askOf) (F : mFin X E MX9_askOf Qm) {w : mW}  (x1 : Int32) (x2 : Int32) (x3 : Int32) (x4 : Int32) (x5 : Int32) (x6 : Int32)
    (K : ((46000 : Int32) ≤ x6 →
    ((¬ x3 = 0 →
    (Qm (some (.int x5)) w)) ∧ (x3 = 0 →
    (Qm (some (.int x4)) w)))) ∧ (¬ (46000 : Int32) ≤ x6 →
    (mMi E MX9_isSentence [.ref 60, .int x6] w (fun v1 u1 =>
    ((v1 = 0 →
    (mMi E MX9_nextNumber [.int x6] u1 (fun v2 u2 =>
    (mG X E MX9_askOf 9 [.ref 60, .int x1, .int x2, .int x3, .int x4, .int x5, .int v2, .retAddr 0, .retAddr 0] [] u2)))) ∧ (¬ v1 = 0 →
    (mMi E MX9_isSo [.ref 60, .ref 66, .int ((1 : Int32) <<< (x1 &&& 31))] u1 (fun v3 u3 =>
    ((v3 = 0 →
    (mMi E MX9_nextNumber [.int x6] u3 (fun v4 u4 =>
    (mG X E MX9_askOf 9 [.ref 60, .int x1, .int x2, .int x3, .int x4, .int x5, .int v4, .retAddr 0, .retAddr 0] [] u4)))) ∧ (¬ v3 = 0 →
    (mMv E MX9_copy [.ref 66, .int (0 : Int32), .ref 67, .int (0 : Int32)] u3 (fun u5 =>
    (mMv E MX9_hearAll [.ref 60, .ref 67, .int ((1 : Int32) <<< (x1 &&& 31))] u5 (fun u6 =>
    (vp_in (((6 : Int32) * x1) + (1 : Int32)) 30 ∧
    (vp_in (((2 : Int32) + ((6 : Int32) * x1)) + (u6.1 62 ((((6 : Int32) * x1) + (1 : Int32)).toNatClampNeg))) 32 ∧
    (vp_in (((6 : Int32) * x1) + (2 : Int32)) 30 ∧
    ((¬ (u6.1 67 ((((2 : Int32) + ((6 : Int32) * x1)) + (u6.1 62 ((((6 : Int32) * x1) + (1 : Int32)).toNatClampNeg))).toNatClampNeg)) = (u6.1 62 ((((6 : Int32) * x1) + (2 : Int32)).toNatClampNeg)) →
    ((¬ x2 = (2 : Int32) →
    ((¬ x2 = (1 : Int32) →
    ((¬ x4 = 0 →
    (mMi E MX9_nextNumber [.int x6] u6 (fun v5 u7 =>
    (mG X E MX9_askOf 9 [.ref 60, .int x1, .int x2, .int x3, .int (x4 + (1 : Int32)), .int x5, .int v5, .retAddr 0, .retAddr 0] [] u7)))) ∧ (x4 = 0 →
    (mMi E MX9_nextNumber [.int x6] u6 (fun v6 u8 =>
    (mG X E MX9_askOf 9 [.ref 60, .int x1, .int x2, .int x3, .int (x4 + (1 : Int32)), .int x6, .int v6, .retAddr 0, .retAddr 0] [] u8)))))) ∧ (x2 = (1 : Int32) →
    (mMi E MX9_nextNumber [.int x6] u6 (fun v7 u9 =>
    (mG X E MX9_askOf 9 [.ref 60, .int x1, .int x2, .int x3, .int (x4 + (0 : Int32)), .int x5, .int v7, .retAddr 0, .retAddr 0] [] u9)))))) ∧ (x2 = (2 : Int32) →
    (mMi E MX9_changed [.ref 60, .ref 67, .ref 66] u6 (fun v8 u10 =>
    ((¬ v8 = 0 →
    (mMi E MX9_nextNumber [.int x6] u10 (fun v9 u11 =>
    (mG X E MX9_askOf 9 [.ref 60, .int x1, .int x2, .int x3, .int (x4 + (0 : Int32)), .int x5, .int v9, .retAddr 0, .retAddr 0] [] u11)))) ∧ (v8 = 0 →
    ((¬ x4 = 0 →
    (mMi E MX9_nextNumber [.int x6] u10 (fun v10 u12 =>
    (mG X E MX9_askOf 9 [.ref 60, .int x1, .int x2, .int x3, .int (x4 + (1 : Int32)), .int x5, .int v10, .retAddr 0, .retAddr 0] [] u12)))) ∧ (x4 = 0 →
    (mMi E MX9_nextNumber [.int x6] u10 (fun v11 u13 =>
    (mG X E MX9_askOf 9 [.ref 60, .int x1, .int x2, .int x3, .int (x4 + (1 : Int32)), .int x6, .int v11, .retAddr 0, .retAddr 0] [] u13)))))))))))) ∧ ((u6.1 67 ((((2 : Int32) + ((6 : Int32) * x1)) + (u6.1 62 ((((6 : Int32) * x1) + (1 : Int32)).toNatClampNeg))).toNatClampNeg)) = (u6.1 62 ((((6 : Int32) * x1) + (2 : Int32)).toNatClampNeg)) →
    ((¬ x2 = (2 : Int32) →
    ((¬ x2 = (1 : Int32) →
    (mMi E MX9_nextNumber [.int x6] u6 (fun v12 u14 =>
    (mG X E MX9_askOf 9 [.ref 60, .int x1, .int x2, .int x3, .int (x4 + (0 : Int32)), .int x5, .int v12, .retAddr 0, .retAddr 0] [] u14)))) ∧ (x2 = (1 : Int32) →
    ((¬ x4 = 0 →
    (mMi E MX9_nextNumber [.int x6] u6 (fun v13 u15 =>
    (mG X E MX9_askOf 9 [.ref 60, .int x1, .int x2, .int x3, .int (x4 + (1 : Int32)), .int x5, .int v13, .retAddr 0, .retAddr 0] [] u15)))) ∧ (x4 = 0 →
    (mMi E MX9_nextNumber [.int x6] u6 (fun v14 u16 =>
    (mG X E MX9_askOf 9 [.ref 60, .int x1, .int x2, .int x3, .int (x4 + (1 : Int32)), .int x6, .int v14, .retAddr 0, .retAddr 0] [] u16)))))))) ∧ (x2 = (2 : Int32) →
    (mMi E MX9_changed [.ref 60, .ref 67, .ref 66] u6 (fun v15 u17 =>
    ((¬ v15 = 0 →
    (mMi E MX9_nextNumber [.int x6] u17 (fun v16 u18 =>
    (mG X E MX9_askOf 9 [.ref 60, .int x1, .int x2, .int x3, .int (x4 + (0 : Int32)), .int x5, .int v16, .retAddr 0, .retAddr 0] [] u18)))) ∧ (v15 = 0 →
    ((¬ x4 = 0 →
    (mMi E MX9_nextNumber [.int x6] u17 (fun v17 u19 =>
    (mG X E MX9_askOf 9 [.ref 60, .int x1, .int x2, .int x3, .int (x4 + (1 : Int32)), .int x5, .int v17, .retAddr 0, .retAddr 0] [] u19)))) ∧ (x4 = 0 →
    (mMi E MX9_nextNumber [.int x6] u17 (fun v18 u20 =>
    (mG X E MX9_askOf 9 [.ref 60, .int x1, .int x2, .int x3, .int (x4 + (1 : Int32)), .int x6, .int v18, .retAddr 0, .retAddr 0] [] u20)))))))))))))))))))))))))))))) :
    mG X E MX9_askOf 9 [.ref 60, .int x1, .int x2, .int x3, .int x4, .int x5, .int x6, .retAddr 0, .retAddr 0] [] w := by
  refine mG_iload C dX9_askOf_9 rfl ?_
  refine mG_ldcw C dX9_askOf_11 kc_1147_260 ?_
  refine mG_icmp_ge (tgt := 202) C dX9_askOf_14 rfl (fun h => ?_) (fun h => ?_)
  · have K := K.1 h
    refine mG_iload_n C dX9_askOf_202 rfl rfl ?_
    refine mG_if_ne (tgt := 211) C dX9_askOf_203 rfl (fun h => ?_) (fun h => ?_)
    · have K := K.1 h
      refine mG_iload C dX9_askOf_211 rfl ?_
      exact mG_iret C F dX9_askOf_213 rfl rfl K
    · have K := K.2 h
      refine mG_iload C dX9_askOf_206 rfl ?_
      refine mG_goto (tgt := 213) C dX9_askOf_208 rfl ?_
      exact mG_iret C F dX9_askOf_213 rfl rfl K
  · have K := K.2 h
    refine mG_aload_n C dX9_askOf_17 rfl rfl ?_
    refine mG_iload C dX9_askOf_18 rfl ?_
    refine mG_Vi (Z := MX9_isSentence) (as := [.int x6]) (rest := []) C dX9_askOf_20 lk_1148 zX9_isSentence ⟨Nat.le_of_ble_eq_true rfl, Nat.le_of_ble_eq_true rfl⟩ sh60 rfl rfl (Nat.le_of_ble_eq_true rfl) rfl K (fun v1 u1 K => ?_)
    refine mG_if_eq (tgt := 192) C dX9_askOf_23 rfl (fun h => ?_) (fun h => ?_)
    · have K := K.1 h
      refine mG_iload C dX9_askOf_192 rfl ?_
      refine mG_Si (Z := MX9_nextNumber) (as := [.int x6]) (rest := []) C dX9_askOf_194 lk_1152 zX9_nextNumber ⟨Nat.le_of_ble_eq_true rfl, Nat.le_of_ble_eq_true rfl⟩ rfl (Nat.le_of_ble_eq_true rfl) rfl K (fun v2 u2 K => ?_)
      refine mG_istore (lv' := [.ref 60, .int x1, .int x2, .int x3, .int x4, .int x5, .int v2, .retAddr 0, .retAddr 0]) C dX9_askOf_197 (by decide) rfl ?_
      refine mG_goto (tgt := 9) C dX9_askOf_199 rfl ?_
      exact K
    · have K := K.2 h
      refine mG_aload_n C dX9_askOf_26 rfl rfl ?_
      refine mG_aload_n C dX9_askOf_27 rfl rfl ?_
      refine mG_getR C dX9_askOf_28 fl_852 sh60 rfl ?_
      refine mG_iconst C dX9_askOf_31 ic1 ?_
      refine mG_iload_n C dX9_askOf_32 rfl rfl ?_
      refine mG_ishl C dX9_askOf_33 ?_
      refine mG_Vi (Z := MX9_isSo) (as := [.ref 66, .int ((1 : Int32) <<< (x1 &&& 31))]) (rest := []) C dX9_askOf_34 lk_1078 zX9_isSo ⟨Nat.le_of_ble_eq_true rfl, Nat.le_of_ble_eq_true rfl⟩ sh60 rfl rfl (Nat.le_of_ble_eq_true rfl) rfl K (fun v3 u3 K => ?_)
      refine mG_if_eq (tgt := 192) C dX9_askOf_37 rfl (fun h => ?_) (fun h => ?_)
      · have K := K.1 h
        refine mG_iload C dX9_askOf_192 rfl ?_
        refine mG_Si (Z := MX9_nextNumber) (as := [.int x6]) (rest := []) C dX9_askOf_194 lk_1152 zX9_nextNumber ⟨Nat.le_of_ble_eq_true rfl, Nat.le_of_ble_eq_true rfl⟩ rfl (Nat.le_of_ble_eq_true rfl) rfl K (fun v4 u4 K => ?_)
        refine mG_istore (lv' := [.ref 60, .int x1, .int x2, .int x3, .int x4, .int x5, .int v4, .retAddr 0, .retAddr 0]) C dX9_askOf_197 (by decide) rfl ?_
        refine mG_goto (tgt := 9) C dX9_askOf_199 rfl ?_
        exact K
      · have K := K.2 h
        refine mG_aload_n C dX9_askOf_40 rfl rfl ?_
        refine mG_getR C dX9_askOf_41 fl_852 sh60 rfl ?_
        refine mG_iconst C dX9_askOf_44 ic0 ?_
        refine mG_aload_n C dX9_askOf_45 rfl rfl ?_
        refine mG_getR C dX9_askOf_46 fl_853 sh60 rfl ?_
        refine mG_iconst C dX9_askOf_49 ic0 ?_
        refine mG_Sv (Z := MX9_copy) (as := [.ref 66, .int (0 : Int32), .ref 67, .int (0 : Int32)]) (rest := []) C dX9_askOf_50 lk_1082 zX9_copy ⟨Nat.le_of_ble_eq_true rfl, Nat.le_of_ble_eq_true rfl⟩ rfl (Nat.le_of_ble_eq_true rfl) rfl K (fun u5 K => ?_)
        refine mG_aload_n C dX9_askOf_53 rfl rfl ?_
        refine mG_aload_n C dX9_askOf_54 rfl rfl ?_
        refine mG_getR C dX9_askOf_55 fl_853 sh60 rfl ?_
        refine mG_iconst C dX9_askOf_58 ic1 ?_
        refine mG_iload_n C dX9_askOf_59 rfl rfl ?_
        refine mG_ishl C dX9_askOf_60 ?_
        refine mG_Vv (Z := MX9_hearAll) (as := [.ref 67, .int ((1 : Int32) <<< (x1 &&& 31))]) (rest := []) C dX9_askOf_61 lk_1085 zX9_hearAll ⟨Nat.le_of_ble_eq_true rfl, Nat.le_of_ble_eq_true rfl⟩ sh60 rfl rfl (Nat.le_of_ble_eq_true rfl) rfl K (fun u6 K => ?_)
        refine mG_aload_n C dX9_askOf_64 rfl rfl ?_
        refine mG_getR C dX9_askOf_65 fl_853 sh60 rfl ?_
        refine mG_iconst C dX9_askOf_68 ic2 ?_
        refine mG_bipush C dX9_askOf_69 bp6 ?_
        refine mG_iload_n C dX9_askOf_71 rfl rfl ?_
        refine mG_imul C dX9_askOf_72 ?_
        refine mG_iadd C dX9_askOf_73 ?_
        refine mG_aload_n C dX9_askOf_74 rfl rfl ?_
        refine mG_getR C dX9_askOf_75 fl_836 sh60 rfl ?_
        refine mG_bipush C dX9_askOf_78 bp6 ?_
        refine mG_iload_n C dX9_askOf_80 rfl rfl ?_
        refine mG_imul C dX9_askOf_81 ?_
        refine mG_iconst C dX9_askOf_82 ic1 ?_
        refine mG_iadd C dX9_askOf_83 ?_
        obtain ⟨h1, K⟩ := K
        refine mG_iald C dX9_askOf_84 sh62 h1 ?_
        refine mG_iadd C dX9_askOf_85 ?_
        obtain ⟨h2, K⟩ := K
        refine mG_iald C dX9_askOf_86 sh67 h2 ?_
        refine mG_aload_n C dX9_askOf_87 rfl rfl ?_
        refine mG_getR C dX9_askOf_88 fl_836 sh60 rfl ?_
        refine mG_bipush C dX9_askOf_91 bp6 ?_
        refine mG_iload_n C dX9_askOf_93 rfl rfl ?_
        refine mG_imul C dX9_askOf_94 ?_
        refine mG_iconst C dX9_askOf_95 ic2 ?_
        refine mG_iadd C dX9_askOf_96 ?_
        obtain ⟨h3, K⟩ := K
        refine mG_iald C dX9_askOf_97 sh62 h3 ?_
        refine mG_icmp_ne (tgt := 105) C dX9_askOf_98 rfl (fun h => ?_) (fun h => ?_)
        · have K := K.1 h
          refine mG_iconst C dX9_askOf_105 ic0 ?_
          refine mG_istore (lv' := [.ref 60, .int x1, .int x2, .int x3, .int x4, .int x5, .int x6, .int (0 : Int32), .retAddr 0]) C dX9_askOf_106 (by decide) rfl ?_
          refine mG_iload_n C dX9_askOf_108 rfl rfl ?_
          refine mG_iconst C dX9_askOf_109 ic2 ?_
          refine mG_icmp_ne (tgt := 136) C dX9_askOf_110 rfl (fun h => ?_) (fun h => ?_)
          · have K := K.1 h
            refine mG_iload C dX9_askOf_136 rfl ?_
            refine mG_iload_n C dX9_askOf_138 rfl rfl ?_
            refine mG_iconst C dX9_askOf_139 ic1 ?_
            refine mG_icmp_ne (tgt := 147) C dX9_askOf_140 rfl (fun h => ?_) (fun h => ?_)
            · have K := K.1 h
              refine mG_iconst C dX9_askOf_147 ic0 ?_
              refine mG_icmp_ne (tgt := 155) C dX9_askOf_148 rfl (fun h => absurd h (by decide)) (fun _ => ?_)
              refine mG_iconst C dX9_askOf_151 ic1 ?_
              refine mG_goto (tgt := 156) C dX9_askOf_152 rfl ?_
              refine mG_istore (lv' := [.ref 60, .int x1, .int x2, .int x3, .int x4, .int x5, .int x6, .int (0 : Int32), .int (1 : Int32)]) C dX9_askOf_156 (by decide) rfl ?_
              refine mG_iload C dX9_askOf_158 rfl ?_
              refine mG_if_eq (tgt := 173) C dX9_askOf_160 rfl (fun h => absurd h (by decide)) (fun _ => ?_)
              refine mG_iload C dX9_askOf_163 rfl ?_
              refine mG_if_ne (tgt := 173) C dX9_askOf_165 rfl (fun h => ?_) (fun h => ?_)
              · have K := K.1 h
                refine mG_iload C dX9_askOf_173 rfl ?_
                refine mG_istore (lv' := [.ref 60, .int x1, .int x2, .int x3, .int x4, .int x5, .int x6, .int (0 : Int32), .int (1 : Int32)]) C dX9_askOf_175 (by decide) rfl ?_
                refine mG_iload C dX9_askOf_177 rfl ?_
                refine mG_iload C dX9_askOf_179 rfl ?_
                refine mG_if_eq (tgt := 188) C dX9_askOf_181 rfl (fun h => absurd h (by decide)) (fun _ => ?_)
                refine mG_iconst C dX9_askOf_184 ic1 ?_
                refine mG_goto (tgt := 189) C dX9_askOf_185 rfl ?_
                refine mG_iadd C dX9_askOf_189 ?_
                refine mG_istore (lv' := [.ref 60, .int x1, .int x2, .int x3, .int (x4 + (1 : Int32)), .int x5, .int x6, .int (0 : Int32), .int (1 : Int32)]) C dX9_askOf_190 (by decide) rfl ?_
                refine mG_iload C dX9_askOf_192 rfl ?_
                refine mG_Si (Z := MX9_nextNumber) (as := [.int x6]) (rest := []) C dX9_askOf_194 lk_1152 zX9_nextNumber ⟨Nat.le_of_ble_eq_true rfl, Nat.le_of_ble_eq_true rfl⟩ rfl (Nat.le_of_ble_eq_true rfl) rfl K (fun v5 u7 K => ?_)
                refine mG_istore (lv' := [.ref 60, .int x1, .int x2, .int x3, .int (x4 + (1 : Int32)), .int x5, .int v5, .int (0 : Int32), .int (1 : Int32)]) C dX9_askOf_197 (by decide) rfl ?_
                refine mG_goto (tgt := 9) C dX9_askOf_199 rfl ?_
                exact mG_holes [7, 8] rfl K
              · have K := K.2 h
                refine mG_iload C dX9_askOf_168 rfl ?_
                refine mG_goto (tgt := 175) C dX9_askOf_170 rfl ?_
                refine mG_istore (lv' := [.ref 60, .int x1, .int x2, .int x3, .int x4, .int x6, .int x6, .int (0 : Int32), .int (1 : Int32)]) C dX9_askOf_175 (by decide) rfl ?_
                refine mG_iload C dX9_askOf_177 rfl ?_
                refine mG_iload C dX9_askOf_179 rfl ?_
                refine mG_if_eq (tgt := 188) C dX9_askOf_181 rfl (fun h => absurd h (by decide)) (fun _ => ?_)
                refine mG_iconst C dX9_askOf_184 ic1 ?_
                refine mG_goto (tgt := 189) C dX9_askOf_185 rfl ?_
                refine mG_iadd C dX9_askOf_189 ?_
                refine mG_istore (lv' := [.ref 60, .int x1, .int x2, .int x3, .int (x4 + (1 : Int32)), .int x6, .int x6, .int (0 : Int32), .int (1 : Int32)]) C dX9_askOf_190 (by decide) rfl ?_
                refine mG_iload C dX9_askOf_192 rfl ?_
                refine mG_Si (Z := MX9_nextNumber) (as := [.int x6]) (rest := []) C dX9_askOf_194 lk_1152 zX9_nextNumber ⟨Nat.le_of_ble_eq_true rfl, Nat.le_of_ble_eq_true rfl⟩ rfl (Nat.le_of_ble_eq_true rfl) rfl K (fun v6 u8 K => ?_)
                refine mG_istore (lv' := [.ref 60, .int x1, .int x2, .int x3, .int (x4 + (1 : Int32)), .int x6, .int v6, .int (0 : Int32), .int (1 : Int32)]) C dX9_askOf_197 (by decide) rfl ?_
                refine mG_goto (tgt := 9) C dX9_askOf_199 rfl ?_
                exact mG_holes [7, 8] rfl K
            · have K := K.2 h
              refine mG_iconst C dX9_askOf_143 ic1 ?_
              refine mG_goto (tgt := 148) C dX9_askOf_144 rfl ?_
              refine mG_icmp_ne (tgt := 155) C dX9_askOf_148 rfl (fun _ => ?_) (fun h => absurd h (by decide))
              refine mG_iconst C dX9_askOf_155 ic0 ?_
              refine mG_istore (lv' := [.ref 60, .int x1, .int x2, .int x3, .int x4, .int x5, .int x6, .int (0 : Int32), .int (0 : Int32)]) C dX9_askOf_156 (by decide) rfl ?_
              refine mG_iload C dX9_askOf_158 rfl ?_
              refine mG_if_eq (tgt := 173) C dX9_askOf_160 rfl (fun _ => ?_) (fun h => absurd h (by decide))
              refine mG_iload C dX9_askOf_173 rfl ?_
              refine mG_istore (lv' := [.ref 60, .int x1, .int x2, .int x3, .int x4, .int x5, .int x6, .int (0 : Int32), .int (0 : Int32)]) C dX9_askOf_175 (by decide) rfl ?_
              refine mG_iload C dX9_askOf_177 rfl ?_
              refine mG_iload C dX9_askOf_179 rfl ?_
              refine mG_if_eq (tgt := 188) C dX9_askOf_181 rfl (fun _ => ?_) (fun h => absurd h (by decide))
              refine mG_iconst C dX9_askOf_188 ic0 ?_
              refine mG_iadd C dX9_askOf_189 ?_
              refine mG_istore (lv' := [.ref 60, .int x1, .int x2, .int x3, .int (x4 + (0 : Int32)), .int x5, .int x6, .int (0 : Int32), .int (0 : Int32)]) C dX9_askOf_190 (by decide) rfl ?_
              refine mG_iload C dX9_askOf_192 rfl ?_
              refine mG_Si (Z := MX9_nextNumber) (as := [.int x6]) (rest := []) C dX9_askOf_194 lk_1152 zX9_nextNumber ⟨Nat.le_of_ble_eq_true rfl, Nat.le_of_ble_eq_true rfl⟩ rfl (Nat.le_of_ble_eq_true rfl) rfl K (fun v7 u9 K => ?_)
              refine mG_istore (lv' := [.ref 60, .int x1, .int x2, .int x3, .int (x4 + (0 : Int32)), .int x5, .int v7, .int (0 : Int32), .int (0 : Int32)]) C dX9_askOf_197 (by decide) rfl ?_
              refine mG_goto (tgt := 9) C dX9_askOf_199 rfl ?_
              exact mG_holes [7, 8] rfl K
          · have K := K.2 h
            refine mG_aload_n C dX9_askOf_113 rfl rfl ?_
            refine mG_aload_n C dX9_askOf_114 rfl rfl ?_
            refine mG_getR C dX9_askOf_115 fl_853 sh60 rfl ?_
            refine mG_aload_n C dX9_askOf_118 rfl rfl ?_
            refine mG_getR C dX9_askOf_119 fl_852 sh60 rfl ?_
            refine mG_Vi (Z := MX9_changed) (as := [.ref 67, .ref 66]) (rest := []) C dX9_askOf_122 lk_1111 zX9_changed ⟨Nat.le_of_ble_eq_true rfl, Nat.le_of_ble_eq_true rfl⟩ sh60 rfl rfl (Nat.le_of_ble_eq_true rfl) rfl K (fun v8 u10 K => ?_)
            refine mG_if_ne (tgt := 132) C dX9_askOf_125 rfl (fun h => ?_) (fun h => ?_)
            · have K := K.1 h
              refine mG_iconst C dX9_askOf_132 ic0 ?_
              refine mG_goto (tgt := 156) C dX9_askOf_133 rfl ?_
              refine mG_istore (lv' := [.ref 60, .int x1, .int x2, .int x3, .int x4, .int x5, .int x6, .int (0 : Int32), .int (0 : Int32)]) C dX9_askOf_156 (by decide) rfl ?_
              refine mG_iload C dX9_askOf_158 rfl ?_
              refine mG_if_eq (tgt := 173) C dX9_askOf_160 rfl (fun _ => ?_) (fun h => absurd h (by decide))
              refine mG_iload C dX9_askOf_173 rfl ?_
              refine mG_istore (lv' := [.ref 60, .int x1, .int x2, .int x3, .int x4, .int x5, .int x6, .int (0 : Int32), .int (0 : Int32)]) C dX9_askOf_175 (by decide) rfl ?_
              refine mG_iload C dX9_askOf_177 rfl ?_
              refine mG_iload C dX9_askOf_179 rfl ?_
              refine mG_if_eq (tgt := 188) C dX9_askOf_181 rfl (fun _ => ?_) (fun h => absurd h (by decide))
              refine mG_iconst C dX9_askOf_188 ic0 ?_
              refine mG_iadd C dX9_askOf_189 ?_
              refine mG_istore (lv' := [.ref 60, .int x1, .int x2, .int x3, .int (x4 + (0 : Int32)), .int x5, .int x6, .int (0 : Int32), .int (0 : Int32)]) C dX9_askOf_190 (by decide) rfl ?_
              refine mG_iload C dX9_askOf_192 rfl ?_
              refine mG_Si (Z := MX9_nextNumber) (as := [.int x6]) (rest := []) C dX9_askOf_194 lk_1152 zX9_nextNumber ⟨Nat.le_of_ble_eq_true rfl, Nat.le_of_ble_eq_true rfl⟩ rfl (Nat.le_of_ble_eq_true rfl) rfl K (fun v9 u11 K => ?_)
              refine mG_istore (lv' := [.ref 60, .int x1, .int x2, .int x3, .int (x4 + (0 : Int32)), .int x5, .int v9, .int (0 : Int32), .int (0 : Int32)]) C dX9_askOf_197 (by decide) rfl ?_
              refine mG_goto (tgt := 9) C dX9_askOf_199 rfl ?_
              exact mG_holes [7, 8] rfl K
            · have K := K.2 h
              refine mG_iconst C dX9_askOf_128 ic1 ?_
              refine mG_goto (tgt := 156) C dX9_askOf_129 rfl ?_
              refine mG_istore (lv' := [.ref 60, .int x1, .int x2, .int x3, .int x4, .int x5, .int x6, .int (0 : Int32), .int (1 : Int32)]) C dX9_askOf_156 (by decide) rfl ?_
              refine mG_iload C dX9_askOf_158 rfl ?_
              refine mG_if_eq (tgt := 173) C dX9_askOf_160 rfl (fun h => absurd h (by decide)) (fun _ => ?_)
              refine mG_iload C dX9_askOf_163 rfl ?_
              refine mG_if_ne (tgt := 173) C dX9_askOf_165 rfl (fun h => ?_) (fun h => ?_)
              · have K := K.1 h
                refine mG_iload C dX9_askOf_173 rfl ?_
                refine mG_istore (lv' := [.ref 60, .int x1, .int x2, .int x3, .int x4, .int x5, .int x6, .int (0 : Int32), .int (1 : Int32)]) C dX9_askOf_175 (by decide) rfl ?_
                refine mG_iload C dX9_askOf_177 rfl ?_
                refine mG_iload C dX9_askOf_179 rfl ?_
                refine mG_if_eq (tgt := 188) C dX9_askOf_181 rfl (fun h => absurd h (by decide)) (fun _ => ?_)
                refine mG_iconst C dX9_askOf_184 ic1 ?_
                refine mG_goto (tgt := 189) C dX9_askOf_185 rfl ?_
                refine mG_iadd C dX9_askOf_189 ?_
                refine mG_istore (lv' := [.ref 60, .int x1, .int x2, .int x3, .int (x4 + (1 : Int32)), .int x5, .int x6, .int (0 : Int32), .int (1 : Int32)]) C dX9_askOf_190 (by decide) rfl ?_
                refine mG_iload C dX9_askOf_192 rfl ?_
                refine mG_Si (Z := MX9_nextNumber) (as := [.int x6]) (rest := []) C dX9_askOf_194 lk_1152 zX9_nextNumber ⟨Nat.le_of_ble_eq_true rfl, Nat.le_of_ble_eq_true rfl⟩ rfl (Nat.le_of_ble_eq_true rfl) rfl K (fun v10 u12 K => ?_)
                refine mG_istore (lv' := [.ref 60, .int x1, .int x2, .int x3, .int (x4 + (1 : Int32)), .int x5, .int v10, .int (0 : Int32), .int (1 : Int32)]) C dX9_askOf_197 (by decide) rfl ?_
                refine mG_goto (tgt := 9) C dX9_askOf_199 rfl ?_
                exact mG_holes [7, 8] rfl K
              · have K := K.2 h
                refine mG_iload C dX9_askOf_168 rfl ?_
                refine mG_goto (tgt := 175) C dX9_askOf_170 rfl ?_
                refine mG_istore (lv' := [.ref 60, .int x1, .int x2, .int x3, .int x4, .int x6, .int x6, .int (0 : Int32), .int (1 : Int32)]) C dX9_askOf_175 (by decide) rfl ?_
                refine mG_iload C dX9_askOf_177 rfl ?_
                refine mG_iload C dX9_askOf_179 rfl ?_
                refine mG_if_eq (tgt := 188) C dX9_askOf_181 rfl (fun h => absurd h (by decide)) (fun _ => ?_)
                refine mG_iconst C dX9_askOf_184 ic1 ?_
                refine mG_goto (tgt := 189) C dX9_askOf_185 rfl ?_
                refine mG_iadd C dX9_askOf_189 ?_
                refine mG_istore (lv' := [.ref 60, .int x1, .int x2, .int x3, .int (x4 + (1 : Int32)), .int x6, .int x6, .int (0 : Int32), .int (1 : Int32)]) C dX9_askOf_190 (by decide) rfl ?_
                refine mG_iload C dX9_askOf_192 rfl ?_
                refine mG_Si (Z := MX9_nextNumber) (as := [.int x6]) (rest := []) C dX9_askOf_194 lk_1152 zX9_nextNumber ⟨Nat.le_of_ble_eq_true rfl, Nat.le_of_ble_eq_true rfl⟩ rfl (Nat.le_of_ble_eq_true rfl) rfl K (fun v11 u13 K => ?_)
                refine mG_istore (lv' := [.ref 60, .int x1, .int x2, .int x3, .int (x4 + (1 : Int32)), .int x6, .int v11, .int (0 : Int32), .int (1 : Int32)]) C dX9_askOf_197 (by decide) rfl ?_
                refine mG_goto (tgt := 9) C dX9_askOf_199 rfl ?_
                exact mG_holes [7, 8] rfl K
        · have K := K.2 h
          refine mG_iconst C dX9_askOf_101 ic1 ?_
          refine mG_goto (tgt := 106) C dX9_askOf_102 rfl ?_
          refine mG_istore (lv' := [.ref 60, .int x1, .int x2, .int x3, .int x4, .int x5, .int x6, .int (1 : Int32), .retAddr 0]) C dX9_askOf_106 (by decide) rfl ?_
          refine mG_iload_n C dX9_askOf_108 rfl rfl ?_
          refine mG_iconst C dX9_askOf_109 ic2 ?_
          refine mG_icmp_ne (tgt := 136) C dX9_askOf_110 rfl (fun h => ?_) (fun h => ?_)
          · have K := K.1 h
            refine mG_iload C dX9_askOf_136 rfl ?_
            refine mG_iload_n C dX9_askOf_138 rfl rfl ?_
            refine mG_iconst C dX9_askOf_139 ic1 ?_
            refine mG_icmp_ne (tgt := 147) C dX9_askOf_140 rfl (fun h => ?_) (fun h => ?_)
            · have K := K.1 h
              refine mG_iconst C dX9_askOf_147 ic0 ?_
              refine mG_icmp_ne (tgt := 155) C dX9_askOf_148 rfl (fun _ => ?_) (fun h => absurd h (by decide))
              refine mG_iconst C dX9_askOf_155 ic0 ?_
              refine mG_istore (lv' := [.ref 60, .int x1, .int x2, .int x3, .int x4, .int x5, .int x6, .int (1 : Int32), .int (0 : Int32)]) C dX9_askOf_156 (by decide) rfl ?_
              refine mG_iload C dX9_askOf_158 rfl ?_
              refine mG_if_eq (tgt := 173) C dX9_askOf_160 rfl (fun _ => ?_) (fun h => absurd h (by decide))
              refine mG_iload C dX9_askOf_173 rfl ?_
              refine mG_istore (lv' := [.ref 60, .int x1, .int x2, .int x3, .int x4, .int x5, .int x6, .int (1 : Int32), .int (0 : Int32)]) C dX9_askOf_175 (by decide) rfl ?_
              refine mG_iload C dX9_askOf_177 rfl ?_
              refine mG_iload C dX9_askOf_179 rfl ?_
              refine mG_if_eq (tgt := 188) C dX9_askOf_181 rfl (fun _ => ?_) (fun h => absurd h (by decide))
              refine mG_iconst C dX9_askOf_188 ic0 ?_
              refine mG_iadd C dX9_askOf_189 ?_
              refine mG_istore (lv' := [.ref 60, .int x1, .int x2, .int x3, .int (x4 + (0 : Int32)), .int x5, .int x6, .int (1 : Int32), .int (0 : Int32)]) C dX9_askOf_190 (by decide) rfl ?_
              refine mG_iload C dX9_askOf_192 rfl ?_
              refine mG_Si (Z := MX9_nextNumber) (as := [.int x6]) (rest := []) C dX9_askOf_194 lk_1152 zX9_nextNumber ⟨Nat.le_of_ble_eq_true rfl, Nat.le_of_ble_eq_true rfl⟩ rfl (Nat.le_of_ble_eq_true rfl) rfl K (fun v12 u14 K => ?_)
              refine mG_istore (lv' := [.ref 60, .int x1, .int x2, .int x3, .int (x4 + (0 : Int32)), .int x5, .int v12, .int (1 : Int32), .int (0 : Int32)]) C dX9_askOf_197 (by decide) rfl ?_
              refine mG_goto (tgt := 9) C dX9_askOf_199 rfl ?_
              exact mG_holes [7, 8] rfl K
            · have K := K.2 h
              refine mG_iconst C dX9_askOf_143 ic1 ?_
              refine mG_goto (tgt := 148) C dX9_askOf_144 rfl ?_
              refine mG_icmp_ne (tgt := 155) C dX9_askOf_148 rfl (fun h => absurd h (by decide)) (fun _ => ?_)
              refine mG_iconst C dX9_askOf_151 ic1 ?_
              refine mG_goto (tgt := 156) C dX9_askOf_152 rfl ?_
              refine mG_istore (lv' := [.ref 60, .int x1, .int x2, .int x3, .int x4, .int x5, .int x6, .int (1 : Int32), .int (1 : Int32)]) C dX9_askOf_156 (by decide) rfl ?_
              refine mG_iload C dX9_askOf_158 rfl ?_
              refine mG_if_eq (tgt := 173) C dX9_askOf_160 rfl (fun h => absurd h (by decide)) (fun _ => ?_)
              refine mG_iload C dX9_askOf_163 rfl ?_
              refine mG_if_ne (tgt := 173) C dX9_askOf_165 rfl (fun h => ?_) (fun h => ?_)
              · have K := K.1 h
                refine mG_iload C dX9_askOf_173 rfl ?_
                refine mG_istore (lv' := [.ref 60, .int x1, .int x2, .int x3, .int x4, .int x5, .int x6, .int (1 : Int32), .int (1 : Int32)]) C dX9_askOf_175 (by decide) rfl ?_
                refine mG_iload C dX9_askOf_177 rfl ?_
                refine mG_iload C dX9_askOf_179 rfl ?_
                refine mG_if_eq (tgt := 188) C dX9_askOf_181 rfl (fun h => absurd h (by decide)) (fun _ => ?_)
                refine mG_iconst C dX9_askOf_184 ic1 ?_
                refine mG_goto (tgt := 189) C dX9_askOf_185 rfl ?_
                refine mG_iadd C dX9_askOf_189 ?_
                refine mG_istore (lv' := [.ref 60, .int x1, .int x2, .int x3, .int (x4 + (1 : Int32)), .int x5, .int x6, .int (1 : Int32), .int (1 : Int32)]) C dX9_askOf_190 (by decide) rfl ?_
                refine mG_iload C dX9_askOf_192 rfl ?_
                refine mG_Si (Z := MX9_nextNumber) (as := [.int x6]) (rest := []) C dX9_askOf_194 lk_1152 zX9_nextNumber ⟨Nat.le_of_ble_eq_true rfl, Nat.le_of_ble_eq_true rfl⟩ rfl (Nat.le_of_ble_eq_true rfl) rfl K (fun v13 u15 K => ?_)
                refine mG_istore (lv' := [.ref 60, .int x1, .int x2, .int x3, .int (x4 + (1 : Int32)), .int x5, .int v13, .int (1 : Int32), .int (1 : Int32)]) C dX9_askOf_197 (by decide) rfl ?_
                refine mG_goto (tgt := 9) C dX9_askOf_199 rfl ?_
                exact mG_holes [7, 8] rfl K
              · have K := K.2 h
                refine mG_iload C dX9_askOf_168 rfl ?_
                refine mG_goto (tgt := 175) C dX9_askOf_170 rfl ?_
                refine mG_istore (lv' := [.ref 60, .int x1, .int x2, .int x3, .int x4, .int x6, .int x6, .int (1 : Int32), .int (1 : Int32)]) C dX9_askOf_175 (by decide) rfl ?_
                refine mG_iload C dX9_askOf_177 rfl ?_
                refine mG_iload C dX9_askOf_179 rfl ?_
                refine mG_if_eq (tgt := 188) C dX9_askOf_181 rfl (fun h => absurd h (by decide)) (fun _ => ?_)
                refine mG_iconst C dX9_askOf_184 ic1 ?_
                refine mG_goto (tgt := 189) C dX9_askOf_185 rfl ?_
                refine mG_iadd C dX9_askOf_189 ?_
                refine mG_istore (lv' := [.ref 60, .int x1, .int x2, .int x3, .int (x4 + (1 : Int32)), .int x6, .int x6, .int (1 : Int32), .int (1 : Int32)]) C dX9_askOf_190 (by decide) rfl ?_
                refine mG_iload C dX9_askOf_192 rfl ?_
                refine mG_Si (Z := MX9_nextNumber) (as := [.int x6]) (rest := []) C dX9_askOf_194 lk_1152 zX9_nextNumber ⟨Nat.le_of_ble_eq_true rfl, Nat.le_of_ble_eq_true rfl⟩ rfl (Nat.le_of_ble_eq_true rfl) rfl K (fun v14 u16 K => ?_)
                refine mG_istore (lv' := [.ref 60, .int x1, .int x2, .int x3, .int (x4 + (1 : Int32)), .int x6, .int v14, .int (1 : Int32), .int (1 : Int32)]) C dX9_askOf_197 (by decide) rfl ?_
                refine mG_goto (tgt := 9) C dX9_askOf_199 rfl ?_
                exact mG_holes [7, 8] rfl K
          · have K := K.2 h
            refine mG_aload_n C dX9_askOf_113 rfl rfl ?_
            refine mG_aload_n C dX9_askOf_114 rfl rfl ?_
            refine mG_getR C dX9_askOf_115 fl_853 sh60 rfl ?_
            refine mG_aload_n C dX9_askOf_118 rfl rfl ?_
            refine mG_getR C dX9_askOf_119 fl_852 sh60 rfl ?_
            refine mG_Vi (Z := MX9_changed) (as := [.ref 67, .ref 66]) (rest := []) C dX9_askOf_122 lk_1111 zX9_changed ⟨Nat.le_of_ble_eq_true rfl, Nat.le_of_ble_eq_true rfl⟩ sh60 rfl rfl (Nat.le_of_ble_eq_true rfl) rfl K (fun v15 u17 K => ?_)
            refine mG_if_ne (tgt := 132) C dX9_askOf_125 rfl (fun h => ?_) (fun h => ?_)
            · have K := K.1 h
              refine mG_iconst C dX9_askOf_132 ic0 ?_
              refine mG_goto (tgt := 156) C dX9_askOf_133 rfl ?_
              refine mG_istore (lv' := [.ref 60, .int x1, .int x2, .int x3, .int x4, .int x5, .int x6, .int (1 : Int32), .int (0 : Int32)]) C dX9_askOf_156 (by decide) rfl ?_
              refine mG_iload C dX9_askOf_158 rfl ?_
              refine mG_if_eq (tgt := 173) C dX9_askOf_160 rfl (fun _ => ?_) (fun h => absurd h (by decide))
              refine mG_iload C dX9_askOf_173 rfl ?_
              refine mG_istore (lv' := [.ref 60, .int x1, .int x2, .int x3, .int x4, .int x5, .int x6, .int (1 : Int32), .int (0 : Int32)]) C dX9_askOf_175 (by decide) rfl ?_
              refine mG_iload C dX9_askOf_177 rfl ?_
              refine mG_iload C dX9_askOf_179 rfl ?_
              refine mG_if_eq (tgt := 188) C dX9_askOf_181 rfl (fun _ => ?_) (fun h => absurd h (by decide))
              refine mG_iconst C dX9_askOf_188 ic0 ?_
              refine mG_iadd C dX9_askOf_189 ?_
              refine mG_istore (lv' := [.ref 60, .int x1, .int x2, .int x3, .int (x4 + (0 : Int32)), .int x5, .int x6, .int (1 : Int32), .int (0 : Int32)]) C dX9_askOf_190 (by decide) rfl ?_
              refine mG_iload C dX9_askOf_192 rfl ?_
              refine mG_Si (Z := MX9_nextNumber) (as := [.int x6]) (rest := []) C dX9_askOf_194 lk_1152 zX9_nextNumber ⟨Nat.le_of_ble_eq_true rfl, Nat.le_of_ble_eq_true rfl⟩ rfl (Nat.le_of_ble_eq_true rfl) rfl K (fun v16 u18 K => ?_)
              refine mG_istore (lv' := [.ref 60, .int x1, .int x2, .int x3, .int (x4 + (0 : Int32)), .int x5, .int v16, .int (1 : Int32), .int (0 : Int32)]) C dX9_askOf_197 (by decide) rfl ?_
              refine mG_goto (tgt := 9) C dX9_askOf_199 rfl ?_
              exact mG_holes [7, 8] rfl K
            · have K := K.2 h
              refine mG_iconst C dX9_askOf_128 ic1 ?_
              refine mG_goto (tgt := 156) C dX9_askOf_129 rfl ?_
              refine mG_istore (lv' := [.ref 60, .int x1, .int x2, .int x3, .int x4, .int x5, .int x6, .int (1 : Int32), .int (1 : Int32)]) C dX9_askOf_156 (by decide) rfl ?_
              refine mG_iload C dX9_askOf_158 rfl ?_
              refine mG_if_eq (tgt := 173) C dX9_askOf_160 rfl (fun h => absurd h (by decide)) (fun _ => ?_)
              refine mG_iload C dX9_askOf_163 rfl ?_
              refine mG_if_ne (tgt := 173) C dX9_askOf_165 rfl (fun h => ?_) (fun h => ?_)
              · have K := K.1 h
                refine mG_iload C dX9_askOf_173 rfl ?_
                refine mG_istore (lv' := [.ref 60, .int x1, .int x2, .int x3, .int x4, .int x5, .int x6, .int (1 : Int32), .int (1 : Int32)]) C dX9_askOf_175 (by decide) rfl ?_
                refine mG_iload C dX9_askOf_177 rfl ?_
                refine mG_iload C dX9_askOf_179 rfl ?_
                refine mG_if_eq (tgt := 188) C dX9_askOf_181 rfl (fun h => absurd h (by decide)) (fun _ => ?_)
                refine mG_iconst C dX9_askOf_184 ic1 ?_
                refine mG_goto (tgt := 189) C dX9_askOf_185 rfl ?_
                refine mG_iadd C dX9_askOf_189 ?_
                refine mG_istore (lv' := [.ref 60, .int x1, .int x2, .int x3, .int (x4 + (1 : Int32)), .int x5, .int x6, .int (1 : Int32), .int (1 : Int32)]) C dX9_askOf_190 (by decide) rfl ?_
                refine mG_iload C dX9_askOf_192 rfl ?_
                refine mG_Si (Z := MX9_nextNumber) (as := [.int x6]) (rest := []) C dX9_askOf_194 lk_1152 zX9_nextNumber ⟨Nat.le_of_ble_eq_true rfl, Nat.le_of_ble_eq_true rfl⟩ rfl (Nat.le_of_ble_eq_true rfl) rfl K (fun v17 u19 K => ?_)
                refine mG_istore (lv' := [.ref 60, .int x1, .int x2, .int x3, .int (x4 + (1 : Int32)), .int x5, .int v17, .int (1 : Int32), .int (1 : Int32)]) C dX9_askOf_197 (by decide) rfl ?_
                refine mG_goto (tgt := 9) C dX9_askOf_199 rfl ?_
                exact mG_holes [7, 8] rfl K
              · have K := K.2 h
                refine mG_iload C dX9_askOf_168 rfl ?_
                refine mG_goto (tgt := 175) C dX9_askOf_170 rfl ?_
                refine mG_istore (lv' := [.ref 60, .int x1, .int x2, .int x3, .int x4, .int x6, .int x6, .int (1 : Int32), .int (1 : Int32)]) C dX9_askOf_175 (by decide) rfl ?_
                refine mG_iload C dX9_askOf_177 rfl ?_
                refine mG_iload C dX9_askOf_179 rfl ?_
                refine mG_if_eq (tgt := 188) C dX9_askOf_181 rfl (fun h => absurd h (by decide)) (fun _ => ?_)
                refine mG_iconst C dX9_askOf_184 ic1 ?_
                refine mG_goto (tgt := 189) C dX9_askOf_185 rfl ?_
                refine mG_iadd C dX9_askOf_189 ?_
                refine mG_istore (lv' := [.ref 60, .int x1, .int x2, .int x3, .int (x4 + (1 : Int32)), .int x6, .int x6, .int (1 : Int32), .int (1 : Int32)]) C dX9_askOf_190 (by decide) rfl ?_
                refine mG_iload C dX9_askOf_192 rfl ?_
                refine mG_Si (Z := MX9_nextNumber) (as := [.int x6]) (rest := []) C dX9_askOf_194 lk_1152 zX9_nextNumber ⟨Nat.le_of_ble_eq_true rfl, Nat.le_of_ble_eq_true rfl⟩ rfl (Nat.le_of_ble_eq_true rfl) rfl K (fun v18 u20 K => ?_)
                refine mG_istore (lv' := [.ref 60, .int x1, .int x2, .int x3, .int (x4 + (1 : Int32)), .int x6, .int v18, .int (1 : Int32), .int (1 : Int32)]) C dX9_askOf_197 (by decide) rfl ?_
                refine mG_goto (tgt := 9) C dX9_askOf_199 rfl ?_
                exact mG_holes [7, 8] rfl K

set_option maxRecDepth 20000 in
set_option maxHeartbeats 4000000 in
theorem vX9_back_0 {X : mX} {E : mEnv} {Qm : Option Value → mW → Prop} (C : mCtx X E MX9_back) (F : mFin X E MX9_back Qm) {w : mW}  (p0 : Int32)
    (K : mMi E MX9_in [.int p0, .int (0 : Int32), .int (1 : Int32)] w (fun v1 u1 =>
    ((¬ v1 = 0 →
    (vp_in p0 2 ∧
    ((¬ (u1.1 71 p0.toNatClampNeg) = 0 →
    (mMv E MX9_copy [.ref 70, .int ((32 : Int32) * p0), .ref 66, .int (0 : Int32)] u1 (fun u2 =>
    (Qm (some (.int (u2.1 66 1))) (mPI u2 60 26 (0 : Int32)))))) ∧ ((u1.1 71 p0.toNatClampNeg) = 0 →
    (Qm (some (.int (-4 : Int32))) u1))))) ∧ (v1 = 0 →
    (Qm (some (.int (-2 : Int32))) u1))))) :
    mG X E MX9_back 0 [.ref 60, .int p0] [] w := by
  refine mG_iload_n C dX9_back_0 rfl rfl ?_
  refine mG_iconst C dX9_back_1 ic0 ?_
  refine mG_iconst C dX9_back_2 ic1 ?_
  refine mG_Si (Z := MX9_in) (as := [.int p0, .int (0 : Int32), .int (1 : Int32)]) (rest := []) C dX9_back_3 lk_956 zX9_in ⟨Nat.le_of_ble_eq_true rfl, Nat.le_of_ble_eq_true rfl⟩ rfl (Nat.le_of_ble_eq_true rfl) rfl K (fun v1 u1 K => ?_)
  refine mG_if_ne (tgt := 12) C dX9_back_6 rfl (fun h => ?_) (fun h => ?_)
  · have K := K.1 h
    refine mG_aload_n C dX9_back_12 rfl rfl ?_
    refine mG_getR C dX9_back_13 fl_857 sh60 rfl ?_
    refine mG_iload_n C dX9_back_16 rfl rfl ?_
    obtain ⟨h1, K⟩ := K
    refine mG_zald C dX9_back_17 sh71 h1 ?_
    refine mG_if_ne (tgt := 24) C dX9_back_18 rfl (fun h => ?_) (fun h => ?_)
    · have K := K.1 h
      refine mG_aload_n C dX9_back_24 rfl rfl ?_
      refine mG_getR C dX9_back_25 fl_856 sh60 rfl ?_
      refine mG_bipush C dX9_back_28 bp32 ?_
      refine mG_iload_n C dX9_back_30 rfl rfl ?_
      refine mG_imul C dX9_back_31 ?_
      refine mG_aload_n C dX9_back_32 rfl rfl ?_
      refine mG_getR C dX9_back_33 fl_852 sh60 rfl ?_
      refine mG_iconst C dX9_back_36 ic0 ?_
      refine mG_Sv (Z := MX9_copy) (as := [.ref 70, .int ((32 : Int32) * p0), .ref 66, .int (0 : Int32)]) (rest := []) C dX9_back_37 lk_1082 zX9_copy ⟨Nat.le_of_ble_eq_true rfl, Nat.le_of_ble_eq_true rfl⟩ rfl (Nat.le_of_ble_eq_true rfl) rfl K (fun u2 K => ?_)
      refine mG_aload_n C dX9_back_40 rfl rfl ?_
      refine mG_iconst C dX9_back_41 ic0 ?_
      refine mG_putI C dX9_back_42 fp_859 sh60 rfl ?_
      refine mG_aload_n C dX9_back_45 rfl rfl ?_
      refine mG_getR C dX9_back_46 fl_852 sh60 rfl ?_
      refine mG_iconst C dX9_back_49 ic1 ?_
      refine mG_ialdv C dX9_back_50 sh66 (by unfold vp_in; decide) (by first | rfl | simp [mPI, mPL]) ?_
      exact mG_iret C F dX9_back_51 rfl rfl K
    · have K := K.2 h
      refine mG_bipush C dX9_back_21 bpm4 ?_
      exact mG_iret C F dX9_back_23 rfl rfl K
  · have K := K.2 h
    refine mG_bipush C dX9_back_9 bpm2 ?_
    exact mG_iret C F dX9_back_11 rfl rfl K

set_option maxRecDepth 20000 in
set_option maxHeartbeats 4000000 in
theorem vX9_barred_0 {X : mX} {E : mEnv} {Qm : Option Value → mW → Prop} (C : mCtx X E MX9_barred) (F : mFin X E MX9_barred Qm) {w : mW}  (p0 : Int32) (p1 : Int32) (p2 : Int32) (p3 : Int32) (p4 : Int32)
    (K : mMi E MX9_in [.int p0, .int (0 : Int32), .int (4 : Int32)] w (fun v1 u1 =>
    ((¬ v1 = 0 →
    ((p0 = 0 →
    (mMi E MX9_isFact [.ref 60, .int p1] u1 (fun v2 u2 =>
    ((v2 = 0 →
    (Qm (some (.int (-2 : Int32))) u2)) ∧ (¬ v2 = 0 →
    (mMi E MX9_in [.int p2, .int (0 : Int32), .int (1 : Int32)] u2 (fun v3 u3 =>
    ((v3 = 0 →
    (Qm (some (.int (-3 : Int32))) u3)) ∧ (¬ v3 = 0 →
    (Qm (some (.int (0 : Int32))) u3)))))))))) ∧ (¬ p0 = 0 →
    ((¬ p0 = (4 : Int32) →
    (mMi E MX9_isFact [.ref 60, .int p1] u1 (fun v4 u4 =>
    ((v4 = 0 →
    (Qm (some (.int (-2 : Int32))) u4)) ∧ (¬ v4 = 0 →
    (mMi E MX9_isFact [.ref 60, .int p3] u4 (fun v5 u5 =>
    ((v5 = 0 →
    (Qm (some (.int (-2 : Int32))) u5)) ∧ (¬ v5 = 0 →
    ((¬ p3 = p1 →
    (mMi E MX9_in [.int p2, .int (0 : Int32), .int (1 : Int32)] u5 (fun v6 u6 =>
    ((v6 = 0 →
    (Qm (some (.int (-3 : Int32))) u6)) ∧ (¬ v6 = 0 →
    (mMi E MX9_in [.int p4, .int (0 : Int32), .int (1 : Int32)] u6 (fun v7 u7 =>
    ((¬ v7 = 0 →
    (Qm (some (.int (0 : Int32))) u7)) ∧ (v7 = 0 →
    (Qm (some (.int (-3 : Int32))) u7)))))))))) ∧ (p3 = p1 →
    (Qm (some (.int (-2 : Int32))) u5)))))))))))) ∧ (p0 = (4 : Int32) →
    (mMi E MX9_isFact [.ref 60, .int p1] u1 (fun v8 u8 =>
    ((v8 = 0 →
    (Qm (some (.int (-2 : Int32))) u8)) ∧ (¬ v8 = 0 →
    (mMi E MX9_in [.int p2, .int (0 : Int32), .int (1 : Int32)] u8 (fun v9 u9 =>
    ((v9 = 0 →
    (Qm (some (.int (-3 : Int32))) u9)) ∧ (¬ v9 = 0 →
    (Qm (some (.int (0 : Int32))) u9)))))))))))))) ∧ (v1 = 0 →
    (Qm (some (.int (-3 : Int32))) u1))))) :
    mG X E MX9_barred 0 [.ref 60, .int p0, .int p1, .int p2, .int p3, .int p4, .retAddr 0] [] w := by
  refine mG_iload_n C dX9_barred_0 rfl rfl ?_
  refine mG_iconst C dX9_barred_1 ic0 ?_
  refine mG_iconst C dX9_barred_2 ic4 ?_
  refine mG_Si (Z := MX9_in) (as := [.int p0, .int (0 : Int32), .int (4 : Int32)]) (rest := []) C dX9_barred_3 lk_956 zX9_in ⟨Nat.le_of_ble_eq_true rfl, Nat.le_of_ble_eq_true rfl⟩ rfl (Nat.le_of_ble_eq_true rfl) rfl K (fun v1 u1 K => ?_)
  refine mG_if_ne (tgt := 12) C dX9_barred_6 rfl (fun h => ?_) (fun h => ?_)
  · have K := K.1 h
    refine mG_iload_n C dX9_barred_12 rfl rfl ?_
    refine mG_if_eq (tgt := 21) C dX9_barred_13 rfl (fun h => ?_) (fun h => ?_)
    · have K := K.1 h
      refine mG_iconst C dX9_barred_21 ic1 ?_
      refine mG_goto (tgt := 26) C dX9_barred_22 rfl ?_
      refine mG_istore (lv' := [.ref 60, .int p0, .int p1, .int p2, .int p3, .int p4, .int (1 : Int32)]) C dX9_barred_26 (by decide) rfl ?_
      refine mG_aload_n C dX9_barred_28 rfl rfl ?_
      refine mG_iload_n C dX9_barred_29 rfl rfl ?_
      refine mG_Vi (Z := MX9_isFact) (as := [.int p1]) (rest := []) C dX9_barred_30 lk_1022 zX9_isFact ⟨Nat.le_of_ble_eq_true rfl, Nat.le_of_ble_eq_true rfl⟩ sh60 rfl rfl (Nat.le_of_ble_eq_true rfl) rfl K (fun v2 u2 K => ?_)
      refine mG_if_eq (tgt := 56) C dX9_barred_33 rfl (fun h => ?_) (fun h => ?_)
      · have K := K.1 h
        refine mG_bipush C dX9_barred_56 bpm2 ?_
        exact mG_iret C F dX9_barred_58 rfl rfl K
      · have K := K.2 h
        refine mG_iload C dX9_barred_36 rfl ?_
        refine mG_if_ne (tgt := 59) C dX9_barred_38 rfl (fun _ => ?_) (fun h => absurd h (by decide))
        refine mG_iload_n C dX9_barred_59 rfl rfl ?_
        refine mG_iconst C dX9_barred_60 ic0 ?_
        refine mG_iconst C dX9_barred_61 ic1 ?_
        refine mG_Si (Z := MX9_in) (as := [.int p2, .int (0 : Int32), .int (1 : Int32)]) (rest := []) C dX9_barred_62 lk_956 zX9_in ⟨Nat.le_of_ble_eq_true rfl, Nat.le_of_ble_eq_true rfl⟩ rfl (Nat.le_of_ble_eq_true rfl) rfl K (fun v3 u3 K => ?_)
        refine mG_if_eq (tgt := 83) C dX9_barred_65 rfl (fun h => ?_) (fun h => ?_)
        · have K := K.1 h
          refine mG_bipush C dX9_barred_83 bpm3 ?_
          refine mG_goto (tgt := 89) C dX9_barred_85 rfl ?_
          exact mG_iret C F dX9_barred_89 rfl rfl K
        · have K := K.2 h
          refine mG_iload C dX9_barred_68 rfl ?_
          refine mG_if_ne (tgt := 88) C dX9_barred_70 rfl (fun _ => ?_) (fun h => absurd h (by decide))
          refine mG_iconst C dX9_barred_88 ic0 ?_
          exact mG_iret C F dX9_barred_89 rfl rfl K
    · have K := K.2 h
      refine mG_iload_n C dX9_barred_16 rfl rfl ?_
      refine mG_iconst C dX9_barred_17 ic4 ?_
      refine mG_icmp_ne (tgt := 25) C dX9_barred_18 rfl (fun h => ?_) (fun h => ?_)
      · have K := K.1 h
        refine mG_iconst C dX9_barred_25 ic0 ?_
        refine mG_istore (lv' := [.ref 60, .int p0, .int p1, .int p2, .int p3, .int p4, .int (0 : Int32)]) C dX9_barred_26 (by decide) rfl ?_
        refine mG_aload_n C dX9_barred_28 rfl rfl ?_
        refine mG_iload_n C dX9_barred_29 rfl rfl ?_
        refine mG_Vi (Z := MX9_isFact) (as := [.int p1]) (rest := []) C dX9_barred_30 lk_1022 zX9_isFact ⟨Nat.le_of_ble_eq_true rfl, Nat.le_of_ble_eq_true rfl⟩ sh60 rfl rfl (Nat.le_of_ble_eq_true rfl) rfl K (fun v4 u4 K => ?_)
        refine mG_if_eq (tgt := 56) C dX9_barred_33 rfl (fun h => ?_) (fun h => ?_)
        · have K := K.1 h
          refine mG_bipush C dX9_barred_56 bpm2 ?_
          exact mG_iret C F dX9_barred_58 rfl rfl K
        · have K := K.2 h
          refine mG_iload C dX9_barred_36 rfl ?_
          refine mG_if_ne (tgt := 59) C dX9_barred_38 rfl (fun h => absurd h (by decide)) (fun _ => ?_)
          refine mG_aload_n C dX9_barred_41 rfl rfl ?_
          refine mG_iload C dX9_barred_42 rfl ?_
          refine mG_Vi (Z := MX9_isFact) (as := [.int p3]) (rest := []) C dX9_barred_44 lk_1022 zX9_isFact ⟨Nat.le_of_ble_eq_true rfl, Nat.le_of_ble_eq_true rfl⟩ sh60 rfl rfl (Nat.le_of_ble_eq_true rfl) rfl K (fun v5 u5 K => ?_)
          refine mG_if_eq (tgt := 56) C dX9_barred_47 rfl (fun h => ?_) (fun h => ?_)
          · have K := K.1 h
            refine mG_bipush C dX9_barred_56 bpm2 ?_
            exact mG_iret C F dX9_barred_58 rfl rfl K
          · have K := K.2 h
            refine mG_iload C dX9_barred_50 rfl ?_
            refine mG_iload_n C dX9_barred_52 rfl rfl ?_
            refine mG_icmp_ne (tgt := 59) C dX9_barred_53 rfl (fun h => ?_) (fun h => ?_)
            · have K := K.1 h
              refine mG_iload_n C dX9_barred_59 rfl rfl ?_
              refine mG_iconst C dX9_barred_60 ic0 ?_
              refine mG_iconst C dX9_barred_61 ic1 ?_
              refine mG_Si (Z := MX9_in) (as := [.int p2, .int (0 : Int32), .int (1 : Int32)]) (rest := []) C dX9_barred_62 lk_956 zX9_in ⟨Nat.le_of_ble_eq_true rfl, Nat.le_of_ble_eq_true rfl⟩ rfl (Nat.le_of_ble_eq_true rfl) rfl K (fun v6 u6 K => ?_)
              refine mG_if_eq (tgt := 83) C dX9_barred_65 rfl (fun h => ?_) (fun h => ?_)
              · have K := K.1 h
                refine mG_bipush C dX9_barred_83 bpm3 ?_
                refine mG_goto (tgt := 89) C dX9_barred_85 rfl ?_
                exact mG_iret C F dX9_barred_89 rfl rfl K
              · have K := K.2 h
                refine mG_iload C dX9_barred_68 rfl ?_
                refine mG_if_ne (tgt := 88) C dX9_barred_70 rfl (fun h => absurd h (by decide)) (fun _ => ?_)
                refine mG_iload C dX9_barred_73 rfl ?_
                refine mG_iconst C dX9_barred_75 ic0 ?_
                refine mG_iconst C dX9_barred_76 ic1 ?_
                refine mG_Si (Z := MX9_in) (as := [.int p4, .int (0 : Int32), .int (1 : Int32)]) (rest := []) C dX9_barred_77 lk_956 zX9_in ⟨Nat.le_of_ble_eq_true rfl, Nat.le_of_ble_eq_true rfl⟩ rfl (Nat.le_of_ble_eq_true rfl) rfl K (fun v7 u7 K => ?_)
                refine mG_if_ne (tgt := 88) C dX9_barred_80 rfl (fun h => ?_) (fun h => ?_)
                · have K := K.1 h
                  refine mG_iconst C dX9_barred_88 ic0 ?_
                  exact mG_iret C F dX9_barred_89 rfl rfl K
                · have K := K.2 h
                  refine mG_bipush C dX9_barred_83 bpm3 ?_
                  refine mG_goto (tgt := 89) C dX9_barred_85 rfl ?_
                  exact mG_iret C F dX9_barred_89 rfl rfl K
            · have K := K.2 h
              refine mG_bipush C dX9_barred_56 bpm2 ?_
              exact mG_iret C F dX9_barred_58 rfl rfl K
      · have K := K.2 h
        refine mG_iconst C dX9_barred_21 ic1 ?_
        refine mG_goto (tgt := 26) C dX9_barred_22 rfl ?_
        refine mG_istore (lv' := [.ref 60, .int p0, .int p1, .int p2, .int p3, .int p4, .int (1 : Int32)]) C dX9_barred_26 (by decide) rfl ?_
        refine mG_aload_n C dX9_barred_28 rfl rfl ?_
        refine mG_iload_n C dX9_barred_29 rfl rfl ?_
        refine mG_Vi (Z := MX9_isFact) (as := [.int p1]) (rest := []) C dX9_barred_30 lk_1022 zX9_isFact ⟨Nat.le_of_ble_eq_true rfl, Nat.le_of_ble_eq_true rfl⟩ sh60 rfl rfl (Nat.le_of_ble_eq_true rfl) rfl K (fun v8 u8 K => ?_)
        refine mG_if_eq (tgt := 56) C dX9_barred_33 rfl (fun h => ?_) (fun h => ?_)
        · have K := K.1 h
          refine mG_bipush C dX9_barred_56 bpm2 ?_
          exact mG_iret C F dX9_barred_58 rfl rfl K
        · have K := K.2 h
          refine mG_iload C dX9_barred_36 rfl ?_
          refine mG_if_ne (tgt := 59) C dX9_barred_38 rfl (fun _ => ?_) (fun h => absurd h (by decide))
          refine mG_iload_n C dX9_barred_59 rfl rfl ?_
          refine mG_iconst C dX9_barred_60 ic0 ?_
          refine mG_iconst C dX9_barred_61 ic1 ?_
          refine mG_Si (Z := MX9_in) (as := [.int p2, .int (0 : Int32), .int (1 : Int32)]) (rest := []) C dX9_barred_62 lk_956 zX9_in ⟨Nat.le_of_ble_eq_true rfl, Nat.le_of_ble_eq_true rfl⟩ rfl (Nat.le_of_ble_eq_true rfl) rfl K (fun v9 u9 K => ?_)
          refine mG_if_eq (tgt := 83) C dX9_barred_65 rfl (fun h => ?_) (fun h => ?_)
          · have K := K.1 h
            refine mG_bipush C dX9_barred_83 bpm3 ?_
            refine mG_goto (tgt := 89) C dX9_barred_85 rfl ?_
            exact mG_iret C F dX9_barred_89 rfl rfl K
          · have K := K.2 h
            refine mG_iload C dX9_barred_68 rfl ?_
            refine mG_if_ne (tgt := 88) C dX9_barred_70 rfl (fun _ => ?_) (fun h => absurd h (by decide))
            refine mG_iconst C dX9_barred_88 ic0 ?_
            exact mG_iret C F dX9_barred_89 rfl rfl K
  · have K := K.2 h
    refine mG_bipush C dX9_barred_9 bpm3 ?_
    exact mG_iret C F dX9_barred_11 rfl rfl K

set_option maxRecDepth 20000 in
set_option maxHeartbeats 4000000 in
theorem vX9_become_0 {X : mX} {E : mEnv} {Qm : Option Value → mW → Prop} (C : mCtx X E MX9_become) (F : mFin X E MX9_become Qm) {w : mW} {a0 : Nat} (ha0 : mSh[a0]? = some (.inl (0, 32, []))) (p1 : Int32) (p2 : Int32)
    (K : ∀ w1 : mW, w1 = (mPI w a0 0 (((w.1 a0 0) &&& (((1 : Int32) <<< (p1 &&& 31)) ^^^ (-1 : Int32))) ||| (p2 <<< (p1 &&& 31)))) →
    (Qm none w1)) :
    mG X E MX9_become 0 [.ref a0, .int p1, .int p2] [] w := by
  refine mG_aload_n C dX9_become_0 rfl rfl ?_
  refine mG_iconst C dX9_become_1 ic0 ?_
  refine mG_aload_n C dX9_become_2 rfl rfl ?_
  refine mG_iconst C dX9_become_3 ic0 ?_
  refine mG_ialdv C dX9_become_4 ha0 (by unfold vp_in; decide) (by first | rfl | simp [mPI, mPL]) ?_
  refine mG_iconst C dX9_become_5 ic1 ?_
  refine mG_iload_n C dX9_become_6 rfl rfl ?_
  refine mG_ishl C dX9_become_7 ?_
  refine mG_iconst C dX9_become_8 icm1 ?_
  refine mG_ixor C dX9_become_9 ?_
  refine mG_iand C dX9_become_10 ?_
  refine mG_iload_n C dX9_become_11 rfl rfl ?_
  refine mG_iload_n C dX9_become_12 rfl rfl ?_
  refine mG_ishl C dX9_become_13 ?_
  refine mG_ior C dX9_become_14 ?_
  refine mG_iastv C dX9_become_15 ha0 (by unfold vp_in; decide) (k := 0) rfl ?_
  refine mG_nm (fun w1 ew1 => ?_)
  have K := K w1 ew1
  exact mG_vret C F dX9_become_16 rfl K

set_option maxRecDepth 20000 in
set_option maxHeartbeats 4000000 in
theorem vX9_begin_0 {X : mX} {E : mEnv} {Qm : Option Value → mW → Prop} (C : mCtx X E MX9_begin) (F : mFin X E MX9_begin Qm) {w : mW} 
    (K : mG X E MX9_begin 16 [.ref 60, .int (0 : Int32)] [] (mPI (mPI w 66 0 (0 : Int32)) 66 1 (0 : Int32))) :
    mG X E MX9_begin 0 [.ref 60, .retAddr 0] [] w := by
  refine mG_aload_n C dX9_begin_0 rfl rfl ?_
  refine mG_getR C dX9_begin_1 fl_852 sh60 rfl ?_
  refine mG_iconst C dX9_begin_4 ic0 ?_
  refine mG_iconst C dX9_begin_5 ic0 ?_
  refine mG_iastv C dX9_begin_6 sh66 (by unfold vp_in; decide) (k := 0) rfl ?_
  refine mG_aload_n C dX9_begin_7 rfl rfl ?_
  refine mG_getR C dX9_begin_8 fl_852 sh60 rfl ?_
  refine mG_iconst C dX9_begin_11 ic1 ?_
  refine mG_iconst C dX9_begin_12 ic0 ?_
  refine mG_iastv C dX9_begin_13 sh66 (by unfold vp_in; decide) (k := 1) rfl ?_
  refine mG_iconst C dX9_begin_14 ic0 ?_
  refine mG_istore_n (lv' := [.ref 60, .int (0 : Int32)]) C dX9_begin_15 rfl (by decide) rfl ?_
  exact K

set_option maxRecDepth 20000 in
set_option maxHeartbeats 4000000 in
theorem vX9_begin_16 {X : mX} {E : mEnv} {Qm : Option Value → mW → Prop} (C : mCtx X E MX9_begin) (F : mFin X E MX9_begin Qm) {w : mW}  (x1 : Int32)
    (K : ((w.1 60 0) ≤ x1 →
    (mG X E MX9_begin 57 [.ref 60, .int (2 : Int32)] [] w)) ∧ (¬ (w.1 60 0) ≤ x1 →
    (vp_in (((3 : Int32) * x1) + (2 : Int32)) 18 ∧
    (mG X E MX9_begin 16 [.ref 60, .int (x1 + (1 : Int32))] [] (mPI w 66 0 ((w.1 66 0) ||| ((w.1 61 ((((3 : Int32) * x1) + (2 : Int32)).toNatClampNeg)) <<< (x1 &&& 31)))))))) :
    mG X E MX9_begin 16 [.ref 60, .int x1] [] w := by
  refine mG_iload_n C dX9_begin_16 rfl rfl ?_
  refine mG_aload_n C dX9_begin_17 rfl rfl ?_
  refine mG_getI C dX9_begin_18 fl_833 sh60 rfl ?_
  refine mG_icmp_ge (tgt := 55) C dX9_begin_21 rfl (fun h => ?_) (fun h => ?_)
  · have K := K.1 h
    refine mG_iconst C dX9_begin_55 ic2 ?_
    refine mG_istore_n (lv' := [.ref 60, .int (2 : Int32)]) C dX9_begin_56 rfl (by decide) rfl ?_
    exact K
  · have K := K.2 h
    refine mG_aload_n C dX9_begin_24 rfl rfl ?_
    refine mG_getR C dX9_begin_25 fl_852 sh60 rfl ?_
    refine mG_iconst C dX9_begin_28 ic0 ?_
    refine mG_aload_n C dX9_begin_29 rfl rfl ?_
    refine mG_getR C dX9_begin_30 fl_852 sh60 rfl ?_
    refine mG_iconst C dX9_begin_33 ic0 ?_
    refine mG_ialdv C dX9_begin_34 sh66 (by unfold vp_in; decide) (by first | rfl | simp [mPI, mPL]) ?_
    refine mG_aload_n C dX9_begin_35 rfl rfl ?_
    refine mG_getR C dX9_begin_36 fl_834 sh60 rfl ?_
    refine mG_iconst C dX9_begin_39 ic3 ?_
    refine mG_iload_n C dX9_begin_40 rfl rfl ?_
    refine mG_imul C dX9_begin_41 ?_
    refine mG_iconst C dX9_begin_42 ic2 ?_
    refine mG_iadd C dX9_begin_43 ?_
    obtain ⟨h1, K⟩ := K
    refine mG_iald C dX9_begin_44 sh61 h1 ?_
    refine mG_iload_n C dX9_begin_45 rfl rfl ?_
    refine mG_ishl C dX9_begin_46 ?_
    refine mG_ior C dX9_begin_47 ?_
    refine mG_iastv C dX9_begin_48 sh66 (by unfold vp_in; decide) (k := 0) rfl ?_
    refine mG_iincc (lv' := [.ref 60, .int (x1 + (1 : Int32))]) C dX9_begin_49 rfl ic1 (by decide) rfl ?_
    refine mG_goto (tgt := 16) C dX9_begin_52 rfl ?_
    exact K

set_option maxRecDepth 20000 in
set_option maxHeartbeats 4000000 in
theorem vX9_begin_57 {X : mX} {E : mEnv} {Qm : Option Value → mW → Prop} (C : mCtx X E MX9_begin) (F : mFin X E MX9_begin Qm) {w : mW}  (x1 : Int32)
    (K : ((32 : Int32) ≤ x1 →
    (Qm none (mPI (mPI (mPI (mPI w 71 0 (0 : Int32)) 71 1 (0 : Int32)) 60 26 (0 : Int32)) 60 28 (0 : Int32)))) ∧ (¬ (32 : Int32) ≤ x1 →
    (vp_in x1 32 ∧
    (∀ w1 : mW, w1 = (mPI w 66 x1.toNatClampNeg (-1 : Int32)) →
    (mG X E MX9_begin 57 [.ref 60, .int (x1 + (1 : Int32))] [] w1))))) :
    mG X E MX9_begin 57 [.ref 60, .int x1] [] w := by
  refine mG_iload_n C dX9_begin_57 rfl rfl ?_
  refine mG_bipush C dX9_begin_58 bp32 ?_
  refine mG_icmp_ge (tgt := 76) C dX9_begin_60 rfl (fun h => ?_) (fun h => ?_)
  · have K := K.1 h
    refine mG_aload_n C dX9_begin_76 rfl rfl ?_
    refine mG_getR C dX9_begin_77 fl_857 sh60 rfl ?_
    refine mG_iconst C dX9_begin_80 ic0 ?_
    refine mG_iconst C dX9_begin_81 ic0 ?_
    refine mG_zastv (y := (0 : Int32)) C dX9_begin_82 sh71 (by unfold vp_in; decide) (by decide) (k := 0) rfl ?_
    refine mG_aload_n C dX9_begin_83 rfl rfl ?_
    refine mG_getR C dX9_begin_84 fl_857 sh60 rfl ?_
    refine mG_iconst C dX9_begin_87 ic1 ?_
    refine mG_iconst C dX9_begin_88 ic0 ?_
    refine mG_zastv (y := (0 : Int32)) C dX9_begin_89 sh71 (by unfold vp_in; decide) (by decide) (k := 1) rfl ?_
    refine mG_aload_n C dX9_begin_90 rfl rfl ?_
    refine mG_iconst C dX9_begin_91 ic0 ?_
    refine mG_putI C dX9_begin_92 fp_859 sh60 rfl ?_
    refine mG_aload_n C dX9_begin_95 rfl rfl ?_
    refine mG_iconst C dX9_begin_96 ic0 ?_
    refine mG_putI C dX9_begin_97 fp_861 sh60 rfl ?_
    exact mG_vret C F dX9_begin_100 rfl K
  · have K := K.2 h
    refine mG_aload_n C dX9_begin_63 rfl rfl ?_
    refine mG_getR C dX9_begin_64 fl_852 sh60 rfl ?_
    refine mG_iload_n C dX9_begin_67 rfl rfl ?_
    refine mG_iconst C dX9_begin_68 icm1 ?_
    obtain ⟨h1, K⟩ := K
    refine mG_iast C dX9_begin_69 sh66 h1 ?_
    refine mG_nm (fun w1 ew1 => ?_)
    have K := K w1 ew1
    refine mG_iincc (lv' := [.ref 60, .int (x1 + (1 : Int32))]) C dX9_begin_70 rfl ic1 (by decide) rfl ?_
    refine mG_goto (tgt := 57) C dX9_begin_73 rfl ?_
    exact K

set_option maxRecDepth 20000 in
set_option maxHeartbeats 4000000 in
theorem vX9_belief_0 {X : mX} {E : mEnv} {Qm : Option Value → mW → Prop} (C : mCtx X E MX9_belief) (F : mFin X E MX9_belief Qm) {w : mW}  (p0 : Int32) (p1 : Int32)
    (K : mMi E MX9_isOne [.ref 60, .int p0] w (fun v1 u1 =>
    ((v1 = 0 →
    (Qm (some (.int (-2 : Int32))) u1)) ∧ (¬ v1 = 0 →
    (mMi E MX9_isFact [.ref 60, .int p1] u1 (fun v2 u2 =>
    ((v2 = 0 →
    (Qm (some (.int (-2 : Int32))) u2)) ∧ (¬ v2 = 0 →
    (vp_in (((2 : Int32) + ((6 : Int32) * p0)) + p1) 32 ∧
    (Qm (some (.int (u2.1 66 ((((2 : Int32) + ((6 : Int32) * p0)) + p1).toNatClampNeg)))) u2)))))))))) :
    mG X E MX9_belief 0 [.ref 60, .int p0, .int p1] [] w := by
  refine mG_aload_n C dX9_belief_0 rfl rfl ?_
  refine mG_iload_n C dX9_belief_1 rfl rfl ?_
  refine mG_Vi (Z := MX9_isOne) (as := [.int p0]) (rest := []) C dX9_belief_2 lk_1030 zX9_isOne ⟨Nat.le_of_ble_eq_true rfl, Nat.le_of_ble_eq_true rfl⟩ sh60 rfl rfl (Nat.le_of_ble_eq_true rfl) rfl K (fun v1 u1 K => ?_)
  refine mG_if_eq (tgt := 32) C dX9_belief_5 rfl (fun h => ?_) (fun h => ?_)
  · have K := K.1 h
    refine mG_bipush C dX9_belief_32 bpm2 ?_
    exact mG_iret C F dX9_belief_34 rfl rfl K
  · have K := K.2 h
    refine mG_aload_n C dX9_belief_8 rfl rfl ?_
    refine mG_iload_n C dX9_belief_9 rfl rfl ?_
    refine mG_Vi (Z := MX9_isFact) (as := [.int p1]) (rest := []) C dX9_belief_10 lk_1022 zX9_isFact ⟨Nat.le_of_ble_eq_true rfl, Nat.le_of_ble_eq_true rfl⟩ sh60 rfl rfl (Nat.le_of_ble_eq_true rfl) rfl K (fun v2 u2 K => ?_)
    refine mG_if_eq (tgt := 32) C dX9_belief_13 rfl (fun h => ?_) (fun h => ?_)
    · have K := K.1 h
      refine mG_bipush C dX9_belief_32 bpm2 ?_
      exact mG_iret C F dX9_belief_34 rfl rfl K
    · have K := K.2 h
      refine mG_aload_n C dX9_belief_16 rfl rfl ?_
      refine mG_getR C dX9_belief_17 fl_852 sh60 rfl ?_
      refine mG_iconst C dX9_belief_20 ic2 ?_
      refine mG_bipush C dX9_belief_21 bp6 ?_
      refine mG_iload_n C dX9_belief_23 rfl rfl ?_
      refine mG_imul C dX9_belief_24 ?_
      refine mG_iadd C dX9_belief_25 ?_
      refine mG_iload_n C dX9_belief_26 rfl rfl ?_
      refine mG_iadd C dX9_belief_27 ?_
      obtain ⟨h1, K⟩ := K
      refine mG_iald C dX9_belief_28 sh66 h1 ?_
      refine mG_goto (tgt := 34) C dX9_belief_29 rfl ?_
      exact mG_iret C F dX9_belief_34 rfl rfl K

set_option maxRecDepth 20000 in
set_option maxHeartbeats 4000000 in
theorem vX9_best_0 {X : mX} {E : mEnv} {Qm : Option Value → mW → Prop} (C : mCtx X E MX9_best) (F : mFin X E MX9_best Qm) {w : mW}  (p0 : Int32)
    (K : mMi E MX9_in [.int p0, .int (0 : Int32), .int (2 : Int32)] w (fun v1 u1 =>
    ((¬ v1 = 0 →
    (mMv E MX9_layBest [.ref 60, .ref 66] u1 (fun u2 =>
    ((¬ p0 = 0 →
    ((¬ p0 = (1 : Int32) →
    (Qm (some (.int (u2.1 60 36))) u2)) ∧ (p0 = (1 : Int32) →
    (Qm (some (.int (u2.1 60 35))) u2)))) ∧ (p0 = 0 →
    (Qm (some (.int ((u2.1 60 34) + (9999 : Int32)))) u2)))))) ∧ (v1 = 0 →
    (Qm (some (.int (-3 : Int32))) u1))))) :
    mG X E MX9_best 0 [.ref 60, .int p0] [] w := by
  refine mG_iload_n C dX9_best_0 rfl rfl ?_
  refine mG_iconst C dX9_best_1 ic0 ?_
  refine mG_iconst C dX9_best_2 ic2 ?_
  refine mG_Si (Z := MX9_in) (as := [.int p0, .int (0 : Int32), .int (2 : Int32)]) (rest := []) C dX9_best_3 lk_956 zX9_in ⟨Nat.le_of_ble_eq_true rfl, Nat.le_of_ble_eq_true rfl⟩ rfl (Nat.le_of_ble_eq_true rfl) rfl K (fun v1 u1 K => ?_)
  refine mG_if_ne (tgt := 12) C dX9_best_6 rfl (fun h => ?_) (fun h => ?_)
  · have K := K.1 h
    refine mG_aload_n C dX9_best_12 rfl rfl ?_
    refine mG_aload_n C dX9_best_13 rfl rfl ?_
    refine mG_getR C dX9_best_14 fl_852 sh60 rfl ?_
    refine mG_Vv (Z := MX9_layBest) (as := [.ref 66]) (rest := []) C dX9_best_17 lk_1143 zX9_layBest ⟨Nat.le_of_ble_eq_true rfl, Nat.le_of_ble_eq_true rfl⟩ sh60 rfl rfl (Nat.le_of_ble_eq_true rfl) rfl K (fun u2 K => ?_)
    refine mG_iload_n C dX9_best_20 rfl rfl ?_
    refine mG_if_ne (tgt := 35) C dX9_best_21 rfl (fun h => ?_) (fun h => ?_)
    · have K := K.1 h
      refine mG_iload_n C dX9_best_35 rfl rfl ?_
      refine mG_iconst C dX9_best_36 ic1 ?_
      refine mG_icmp_ne (tgt := 47) C dX9_best_37 rfl (fun h => ?_) (fun h => ?_)
      · have K := K.1 h
        refine mG_aload_n C dX9_best_47 rfl rfl ?_
        refine mG_getI C dX9_best_48 fl_869 sh60 rfl ?_
        exact mG_iret C F dX9_best_51 rfl rfl K
      · have K := K.2 h
        refine mG_aload_n C dX9_best_40 rfl rfl ?_
        refine mG_getI C dX9_best_41 fl_868 sh60 rfl ?_
        refine mG_goto (tgt := 51) C dX9_best_44 rfl ?_
        exact mG_iret C F dX9_best_51 rfl rfl K
    · have K := K.2 h
      refine mG_aload_n C dX9_best_24 rfl rfl ?_
      refine mG_getI C dX9_best_25 fl_867 sh60 rfl ?_
      refine mG_sipush C dX9_best_28 sp9999 ?_
      refine mG_iadd C dX9_best_31 ?_
      refine mG_goto (tgt := 51) C dX9_best_32 rfl ?_
      exact mG_iret C F dX9_best_51 rfl rfl K
  · have K := K.2 h
    refine mG_bipush C dX9_best_9 bpm3 ?_
    exact mG_iret C F dX9_best_11 rfl rfl K

set_option maxRecDepth 20000 in
set_option maxHeartbeats 4000000 in
theorem vX9_bet_0 {X : mX} {E : mEnv} {Qm : Option Value → mW → Prop} (C : mCtx X E MX9_bet) (F : mFin X E MX9_bet Qm) {w : mW}  (p0 : Int32) (p1 : Int32)
    (K : mMi E MX9_isFact [.ref 60, .int p0] w (fun v1 u1 =>
    ((¬ v1 = 0 →
    (mMi E MX9_in [.int p1, .int (0 : Int32), .int (99 : Int32)] u1 (fun v2 u2 =>
    ((¬ v2 = 0 →
    ((¬ (u2.1 60 28) = (5 : Int32) →
    (vp_in ((2 : Int32) * (u2.1 60 28)) 10 ∧
    (∀ w1 : mW, w1 = (mPI u2 73 ((2 : Int32) * (u2.1 60 28)).toNatClampNeg p0) →
    (vp_in (((2 : Int32) * (w1.1 60 28)) + (1 : Int32)) 10 ∧
    (∀ w2 : mW, w2 = (mPI w1 73 (((2 : Int32) * (w1.1 60 28)) + (1 : Int32)).toNatClampNeg p1) →
    (Qm (some (.int ((w2.1 60 28) + (1 : Int32)))) (mPI w2 60 28 ((w2.1 60 28) + (1 : Int32))))))))) ∧ ((u2.1 60 28) = (5 : Int32) →
    (Qm (some (.int (-5 : Int32))) u2)))) ∧ (v2 = 0 →
    (Qm (some (.int (-3 : Int32))) u2)))))) ∧ (v1 = 0 →
    (Qm (some (.int (-2 : Int32))) u1))))) :
    mG X E MX9_bet 0 [.ref 60, .int p0, .int p1] [] w := by
  refine mG_aload_n C dX9_bet_0 rfl rfl ?_
  refine mG_iload_n C dX9_bet_1 rfl rfl ?_
  refine mG_Vi (Z := MX9_isFact) (as := [.int p0]) (rest := []) C dX9_bet_2 lk_1022 zX9_isFact ⟨Nat.le_of_ble_eq_true rfl, Nat.le_of_ble_eq_true rfl⟩ sh60 rfl rfl (Nat.le_of_ble_eq_true rfl) rfl K (fun v1 u1 K => ?_)
  refine mG_if_ne (tgt := 11) C dX9_bet_5 rfl (fun h => ?_) (fun h => ?_)
  · have K := K.1 h
    refine mG_iload_n C dX9_bet_11 rfl rfl ?_
    refine mG_iconst C dX9_bet_12 ic0 ?_
    refine mG_bipush C dX9_bet_13 bp99 ?_
    refine mG_Si (Z := MX9_in) (as := [.int p1, .int (0 : Int32), .int (99 : Int32)]) (rest := []) C dX9_bet_15 lk_956 zX9_in ⟨Nat.le_of_ble_eq_true rfl, Nat.le_of_ble_eq_true rfl⟩ rfl (Nat.le_of_ble_eq_true rfl) rfl K (fun v2 u2 K => ?_)
    refine mG_if_ne (tgt := 24) C dX9_bet_18 rfl (fun h => ?_) (fun h => ?_)
    · have K := K.1 h
      refine mG_aload_n C dX9_bet_24 rfl rfl ?_
      refine mG_getI C dX9_bet_25 fl_861 sh60 rfl ?_
      refine mG_iconst C dX9_bet_28 ic5 ?_
      refine mG_icmp_ne (tgt := 35) C dX9_bet_29 rfl (fun h => ?_) (fun h => ?_)
      · have K := K.1 h
        refine mG_aload_n C dX9_bet_35 rfl rfl ?_
        refine mG_getR C dX9_bet_36 fl_860 sh60 rfl ?_
        refine mG_iconst C dX9_bet_39 ic2 ?_
        refine mG_aload_n C dX9_bet_40 rfl rfl ?_
        refine mG_getI C dX9_bet_41 fl_861 sh60 rfl ?_
        refine mG_imul C dX9_bet_44 ?_
        refine mG_iload_n C dX9_bet_45 rfl rfl ?_
        obtain ⟨h1, K⟩ := K
        refine mG_iast C dX9_bet_46 sh73 h1 ?_
        refine mG_nm (fun w1 ew1 => ?_)
        have K := K w1 ew1
        refine mG_aload_n C dX9_bet_47 rfl rfl ?_
        refine mG_getR C dX9_bet_48 fl_860 sh60 rfl ?_
        refine mG_iconst C dX9_bet_51 ic2 ?_
        refine mG_aload_n C dX9_bet_52 rfl rfl ?_
        refine mG_getI C dX9_bet_53 fl_861 sh60 rfl ?_
        refine mG_imul C dX9_bet_56 ?_
        refine mG_iconst C dX9_bet_57 ic1 ?_
        refine mG_iadd C dX9_bet_58 ?_
        refine mG_iload_n C dX9_bet_59 rfl rfl ?_
        obtain ⟨h2, K⟩ := K
        refine mG_iast C dX9_bet_60 sh73 h2 ?_
        refine mG_nm (fun w2 ew2 => ?_)
        have K := K w2 ew2
        refine mG_aload_n C dX9_bet_61 rfl rfl ?_
        refine mG_dup C dX9_bet_62 rfl ?_
        refine mG_getI C dX9_bet_63 fl_861 sh60 rfl ?_
        refine mG_iconst C dX9_bet_66 ic1 ?_
        refine mG_iadd C dX9_bet_67 ?_
        refine mG_putI C dX9_bet_68 fp_861 sh60 rfl ?_
        refine mG_aload_n C dX9_bet_71 rfl rfl ?_
        refine mG_getIv C dX9_bet_72 fl_861 sh60 rfl (by first | rfl | simp [mPI, mPL]) ?_
        exact mG_iret C F dX9_bet_75 rfl rfl K
      · have K := K.2 h
        refine mG_bipush C dX9_bet_32 bpm5 ?_
        exact mG_iret C F dX9_bet_34 rfl rfl K
    · have K := K.2 h
      refine mG_bipush C dX9_bet_21 bpm3 ?_
      exact mG_iret C F dX9_bet_23 rfl rfl K
  · have K := K.2 h
    refine mG_bipush C dX9_bet_8 bpm2 ?_
    exact mG_iret C F dX9_bet_10 rfl rfl K

set_option maxRecDepth 20000 in
set_option maxHeartbeats 4000000 in
theorem vX9_call_0 {X : mX} {E : mEnv} {Qm : Option Value → mW → Prop} (C : mCtx X E MX9_call) (F : mFin X E MX9_call Qm) {w : mW} 
    (K : Qm (some (.int (w.1 60 28))) (mPI w 60 28 (0 : Int32))) :
    mG X E MX9_call 0 [.ref 60, .retAddr 0] [] w := by
  refine mG_aload_n C dX9_call_0 rfl rfl ?_
  refine mG_getI C dX9_call_1 fl_861 sh60 rfl ?_
  refine mG_istore_n (lv' := [.ref 60, .int (w.1 60 28)]) C dX9_call_4 rfl (by decide) rfl ?_
  refine mG_aload_n C dX9_call_5 rfl rfl ?_
  refine mG_iconst C dX9_call_6 ic0 ?_
  refine mG_putI C dX9_call_7 fp_861 sh60 rfl ?_
  refine mG_iload_n C dX9_call_10 rfl rfl ?_
  exact mG_iret C F dX9_call_11 rfl rfl K

set_option maxRecDepth 20000 in
set_option maxHeartbeats 4000000 in
theorem vX9_cause_0 {X : mX} {E : mEnv} {Qm : Option Value → mW → Prop} (C : mCtx X E MX9_cause) (F : mFin X E MX9_cause Qm) {w : mW}  (p0 : Int32) (p1 : Int32)
    (K : mMi E MX9_in [.int p0, .int (0 : Int32), .int ((w.1 60 4) - (1 : Int32))] w (fun v1 u1 =>
    ((¬ v1 = 0 →
    (mMi E MX9_in [.int p1, .int (0 : Int32), .int (3 : Int32)] u1 (fun v2 u2 =>
    ((v2 = 0 →
    (Qm (some (.int (-3 : Int32))) u2)) ∧ (¬ v2 = 0 →
    (vp_in (((4 : Int32) * p0) + p1) 24 ∧
    (Qm (some (.int (u2.1 63 ((((4 : Int32) * p0) + p1).toNatClampNeg)))) u2))))))) ∧ (v1 = 0 →
    (Qm (some (.int (-2 : Int32))) u1))))) :
    mG X E MX9_cause 0 [.ref 60, .int p0, .int p1] [] w := by
  refine mG_iload_n C dX9_cause_0 rfl rfl ?_
  refine mG_iconst C dX9_cause_1 ic0 ?_
  refine mG_aload_n C dX9_cause_2 rfl rfl ?_
  refine mG_getI C dX9_cause_3 fl_837 sh60 rfl ?_
  refine mG_iconst C dX9_cause_6 ic1 ?_
  refine mG_isub C dX9_cause_7 ?_
  refine mG_Si (Z := MX9_in) (as := [.int p0, .int (0 : Int32), .int ((w.1 60 4) - (1 : Int32))]) (rest := []) C dX9_cause_8 lk_956 zX9_in ⟨Nat.le_of_ble_eq_true rfl, Nat.le_of_ble_eq_true rfl⟩ rfl (Nat.le_of_ble_eq_true rfl) rfl K (fun v1 u1 K => ?_)
  refine mG_if_ne (tgt := 17) C dX9_cause_11 rfl (fun h => ?_) (fun h => ?_)
  · have K := K.1 h
    refine mG_iload_n C dX9_cause_17 rfl rfl ?_
    refine mG_iconst C dX9_cause_18 ic0 ?_
    refine mG_iconst C dX9_cause_19 ic3 ?_
    refine mG_Si (Z := MX9_in) (as := [.int p1, .int (0 : Int32), .int (3 : Int32)]) (rest := []) C dX9_cause_20 lk_956 zX9_in ⟨Nat.le_of_ble_eq_true rfl, Nat.le_of_ble_eq_true rfl⟩ rfl (Nat.le_of_ble_eq_true rfl) rfl K (fun v2 u2 K => ?_)
    refine mG_if_eq (tgt := 39) C dX9_cause_23 rfl (fun h => ?_) (fun h => ?_)
    · have K := K.1 h
      refine mG_bipush C dX9_cause_39 bpm3 ?_
      exact mG_iret C F dX9_cause_41 rfl rfl K
    · have K := K.2 h
      refine mG_aload_n C dX9_cause_26 rfl rfl ?_
      refine mG_getR C dX9_cause_27 fl_838 sh60 rfl ?_
      refine mG_iconst C dX9_cause_30 ic4 ?_
      refine mG_iload_n C dX9_cause_31 rfl rfl ?_
      refine mG_imul C dX9_cause_32 ?_
      refine mG_iload_n C dX9_cause_33 rfl rfl ?_
      refine mG_iadd C dX9_cause_34 ?_
      obtain ⟨h1, K⟩ := K
      refine mG_iald C dX9_cause_35 sh63 h1 ?_
      refine mG_goto (tgt := 41) C dX9_cause_36 rfl ?_
      exact mG_iret C F dX9_cause_41 rfl rfl K
  · have K := K.2 h
    refine mG_bipush C dX9_cause_14 bpm2 ?_
    exact mG_iret C F dX9_cause_16 rfl rfl K

set_option maxRecDepth 20000 in
set_option maxHeartbeats 4000000 in
theorem vX9_changed_0 {X : mX} {E : mEnv} {Qm : Option Value → mW → Prop} (C : mCtx X E MX9_changed) (F : mFin X E MX9_changed Qm) {w : mW} {a0 : Nat} (ha0 : mSh[a0]? = some (.inl (0, 32, []))) {a1 : Nat} (ha1 : mSh[a1]? = some (.inl (0, 32, [])))
    (K : mG X E MX9_changed 5 [.ref 60, .ref a0, .ref a1, .int (0 : Int32), .int (0 : Int32), .retAddr 0] [] w) :
    mG X E MX9_changed 0 [.ref 60, .ref a0, .ref a1, .retAddr 0, .retAddr 0, .retAddr 0] [] w := by
  refine mG_iconst C dX9_changed_0 ic0 ?_
  refine mG_istore_n (lv' := [.ref 60, .ref a0, .ref a1, .int (0 : Int32), .retAddr 0, .retAddr 0]) C dX9_changed_1 rfl (by decide) rfl ?_
  refine mG_iconst C dX9_changed_2 ic0 ?_
  refine mG_istore (lv' := [.ref 60, .ref a0, .ref a1, .int (0 : Int32), .int (0 : Int32), .retAddr 0]) C dX9_changed_3 (by decide) rfl ?_
  exact K

set_option maxRecDepth 20000 in
set_option maxHeartbeats 4000000 in
theorem vX9_changed_5 {X : mX} {E : mEnv} {Qm : Option Value → mW → Prop} (C : mCtx X E MX9_changed) (F : mFin X E MX9_changed Qm) {w : mW} {a0 : Nat} (ha0 : mSh[a0]? = some (.inl (0, 32, []))) {a1 : Nat} (ha1 : mSh[a1]? = some (.inl (0, 32, []))) (x3 : Int32) (x4 : Int32)
    (K : ((w.1 60 2) ≤ x4 →
    (Qm (some (.int x3)) w)) ∧ (¬ (w.1 60 2) ≤ x4 →
    (mG X E MX9_changed 17 [.ref 60, .ref a0, .ref a1, .int x3, .int x4, .int (0 : Int32)] [] w))) :
    mG X E MX9_changed 5 [.ref 60, .ref a0, .ref a1, .int x3, .int x4, .retAddr 0] [] w := by
  refine mG_iload C dX9_changed_5 rfl ?_
  refine mG_aload_n C dX9_changed_7 rfl rfl ?_
  refine mG_getI C dX9_changed_8 fl_835 sh60 rfl ?_
  refine mG_icmp_ge (tgt := 76) C dX9_changed_11 rfl (fun h => ?_) (fun h => ?_)
  · have K := K.1 h
    refine mG_iload_n C dX9_changed_76 rfl rfl ?_
    exact mG_iret C F dX9_changed_77 rfl rfl K
  · have K := K.2 h
    refine mG_iconst C dX9_changed_14 ic0 ?_
    refine mG_istore (lv' := [.ref 60, .ref a0, .ref a1, .int x3, .int x4, .int (0 : Int32)]) C dX9_changed_15 (by decide) rfl ?_
    exact K

set_option maxRecDepth 20000 in
set_option maxHeartbeats 4000000 in
theorem vX9_changed_17 {X : mX} {E : mEnv} {Qm : Option Value → mW → Prop} (C : mCtx X E MX9_changed) (F : mFin X E MX9_changed Qm) {w : mW} {a0 : Nat} (ha0 : mSh[a0]? = some (.inl (0, 32, []))) {a1 : Nat} (ha1 : mSh[a1]? = some (.inl (0, 32, []))) (x3 : Int32) (x4 : Int32) (x5 : Int32)
    (K : ((w.1 60 0) ≤ x5 →
    (mG X E MX9_changed 5 [.ref 60, .ref a0, .ref a1, .int x3, .int (x4 + (1 : Int32)), .retAddr 0] [] w)) ∧ (¬ (w.1 60 0) ≤ x5 →
    (vp_in (((2 : Int32) + ((6 : Int32) * x4)) + x5) 32 ∧
    (vp_in (((2 : Int32) + ((6 : Int32) * x4)) + x5) 32 ∧
    (((w.1 a0 ((((2 : Int32) + ((6 : Int32) * x4)) + x5).toNatClampNeg)) = (w.1 a1 ((((2 : Int32) + ((6 : Int32) * x4)) + x5).toNatClampNeg)) →
    (mG X E MX9_changed 17 [.ref 60, .ref a0, .ref a1, .int (x3 ||| (0 : Int32)), .int x4, .int (x5 + (1 : Int32))] [] w)) ∧ (¬ (w.1 a0 ((((2 : Int32) + ((6 : Int32) * x4)) + x5).toNatClampNeg)) = (w.1 a1 ((((2 : Int32) + ((6 : Int32) * x4)) + x5).toNatClampNeg)) →
    (mG X E MX9_changed 17 [.ref 60, .ref a0, .ref a1, .int (x3 ||| ((1 : Int32) <<< (x4 &&& 31))), .int x4, .int (x5 + (1 : Int32))] [] w))))))) :
    mG X E MX9_changed 17 [.ref 60, .ref a0, .ref a1, .int x3, .int x4, .int x5] [] w := by
  refine mG_iload C dX9_changed_17 rfl ?_
  refine mG_aload_n C dX9_changed_19 rfl rfl ?_
  refine mG_getI C dX9_changed_20 fl_833 sh60 rfl ?_
  refine mG_icmp_ge (tgt := 70) C dX9_changed_23 rfl (fun h => ?_) (fun h => ?_)
  · have K := K.1 h
    refine mG_iincc (lv' := [.ref 60, .ref a0, .ref a1, .int x3, .int (x4 + (1 : Int32)), .int x5]) C dX9_changed_70 rfl ic1 (by decide) rfl ?_
    refine mG_goto (tgt := 5) C dX9_changed_73 rfl ?_
    exact mG_holes [5] rfl K
  · have K := K.2 h
    refine mG_iload_n C dX9_changed_26 rfl rfl ?_
    refine mG_aload_n C dX9_changed_27 rfl rfl ?_
    refine mG_iconst C dX9_changed_28 ic2 ?_
    refine mG_bipush C dX9_changed_29 bp6 ?_
    refine mG_iload C dX9_changed_31 rfl ?_
    refine mG_imul C dX9_changed_33 ?_
    refine mG_iadd C dX9_changed_34 ?_
    refine mG_iload C dX9_changed_35 rfl ?_
    refine mG_iadd C dX9_changed_37 ?_
    obtain ⟨h1, K⟩ := K
    refine mG_iald C dX9_changed_38 ha0 h1 ?_
    refine mG_aload_n C dX9_changed_39 rfl rfl ?_
    refine mG_iconst C dX9_changed_40 ic2 ?_
    refine mG_bipush C dX9_changed_41 bp6 ?_
    refine mG_iload C dX9_changed_43 rfl ?_
    refine mG_imul C dX9_changed_45 ?_
    refine mG_iadd C dX9_changed_46 ?_
    refine mG_iload C dX9_changed_47 rfl ?_
    refine mG_iadd C dX9_changed_49 ?_
    obtain ⟨h2, K⟩ := K
    refine mG_iald C dX9_changed_50 ha1 h2 ?_
    refine mG_icmp_eq (tgt := 61) C dX9_changed_51 rfl (fun h => ?_) (fun h => ?_)
    · have K := K.1 h
      refine mG_iconst C dX9_changed_61 ic0 ?_
      refine mG_ior C dX9_changed_62 ?_
      refine mG_istore_n (lv' := [.ref 60, .ref a0, .ref a1, .int (x3 ||| (0 : Int32)), .int x4, .int x5]) C dX9_changed_63 rfl (by decide) rfl ?_
      refine mG_iincc (lv' := [.ref 60, .ref a0, .ref a1, .int (x3 ||| (0 : Int32)), .int x4, .int (x5 + (1 : Int32))]) C dX9_changed_64 rfl ic1 (by decide) rfl ?_
      refine mG_goto (tgt := 17) C dX9_changed_67 rfl ?_
      exact K
    · have K := K.2 h
      refine mG_iconst C dX9_changed_54 ic1 ?_
      refine mG_iload C dX9_changed_55 rfl ?_
      refine mG_ishl C dX9_changed_57 ?_
      refine mG_goto (tgt := 62) C dX9_changed_58 rfl ?_
      refine mG_ior C dX9_changed_62 ?_
      refine mG_istore_n (lv' := [.ref 60, .ref a0, .ref a1, .int (x3 ||| ((1 : Int32) <<< (x4 &&& 31))), .int x4, .int x5]) C dX9_changed_63 rfl (by decide) rfl ?_
      refine mG_iincc (lv' := [.ref 60, .ref a0, .ref a1, .int (x3 ||| ((1 : Int32) <<< (x4 &&& 31))), .int x4, .int (x5 + (1 : Int32))]) C dX9_changed_64 rfl ic1 (by decide) rfl ?_
      refine mG_goto (tgt := 17) C dX9_changed_67 rfl ?_
      exact K

set_option maxRecDepth 20000 in
set_option maxHeartbeats 4000000 in
theorem vX9_city_0 {X : mX} {E : mEnv} {Qm : Option Value → mW → Prop} (C : mCtx X E MX9_city) (F : mFin X E MX9_city Qm) {w : mW} 
    (K : mMi E MX9_isRead [.ref 60] w (fun v1 u1 =>
    ((¬ v1 = 0 →
    (mG X E MX9_city 12 [.ref 60, .int (0 : Int32)] [] u1)) ∧ (v1 = 0 →
    (Qm (some (.int (-4 : Int32))) u1))))) :
    mG X E MX9_city 0 [.ref 60, .retAddr 0] [] w := by
  refine mG_aload_n C dX9_city_0 rfl rfl ?_
  refine mG_Vi (Z := MX9_isRead) (as := []) (rest := []) C dX9_city_1 lk_967 zX9_isRead ⟨Nat.le_of_ble_eq_true rfl, Nat.le_of_ble_eq_true rfl⟩ sh60 rfl rfl (Nat.le_of_ble_eq_true rfl) rfl K (fun v1 u1 K => ?_)
  refine mG_if_ne (tgt := 10) C dX9_city_4 rfl (fun h => ?_) (fun h => ?_)
  · have K := K.1 h
    refine mG_iconst C dX9_city_10 ic0 ?_
    refine mG_istore_n (lv' := [.ref 60, .int (0 : Int32)]) C dX9_city_11 rfl (by decide) rfl ?_
    exact K
  · have K := K.2 h
    refine mG_bipush C dX9_city_7 bpm4 ?_
    exact mG_iret C F dX9_city_9 rfl rfl K

set_option maxRecDepth 20000 in
set_option maxHeartbeats 4000000 in
theorem vX9_city_12 {X : mX} {E : mEnv} {Qm : Option Value → mW → Prop} (C : mCtx X E MX9_city) (F : mFin X E MX9_city Qm) {w : mW}  (x1 : Int32)
    (K : ((w.1 60 14) ≤ x1 →
    (mMv E MX9_begin [.ref 60] (mPI w 60 6 (0 : Int32)) (fun u1 =>
    (Qm (some (.int (u1.1 60 14))) u1)))) ∧ (¬ (w.1 60 14) ≤ x1 →
    (mMv E MX9_doLine [.ref 60, .int ((6 : Int32) * x1)] w (fun u2 =>
    (mG X E MX9_city 12 [.ref 60, .int (x1 + (1 : Int32))] [] u2))))) :
    mG X E MX9_city 12 [.ref 60, .int x1] [] w := by
  refine mG_iload_n C dX9_city_12 rfl rfl ?_
  refine mG_aload_n C dX9_city_13 rfl rfl ?_
  refine mG_getI C dX9_city_14 fl_847 sh60 rfl ?_
  refine mG_icmp_ge (tgt := 34) C dX9_city_17 rfl (fun h => ?_) (fun h => ?_)
  · have K := K.1 h
    refine mG_aload_n C dX9_city_34 rfl rfl ?_
    refine mG_iconst C dX9_city_35 ic0 ?_
    refine mG_putI C dX9_city_36 fp_839 sh60 rfl ?_
    refine mG_aload_n C dX9_city_39 rfl rfl ?_
    refine mG_Vv (Z := MX9_begin) (as := []) (rest := []) C dX9_city_40 lk_829 zX9_begin ⟨Nat.le_of_ble_eq_true rfl, Nat.le_of_ble_eq_true rfl⟩ sh60 rfl rfl (Nat.le_of_ble_eq_true rfl) rfl K (fun u1 K => ?_)
    refine mG_aload_n C dX9_city_43 rfl rfl ?_
    refine mG_getI C dX9_city_44 fl_847 sh60 rfl ?_
    exact mG_iret C F dX9_city_47 rfl rfl K
  · have K := K.2 h
    refine mG_aload_n C dX9_city_20 rfl rfl ?_
    refine mG_bipush C dX9_city_21 bp6 ?_
    refine mG_iload_n C dX9_city_23 rfl rfl ?_
    refine mG_imul C dX9_city_24 ?_
    refine mG_Vv (Z := MX9_doLine) (as := [.int ((6 : Int32) * x1)]) (rest := []) C dX9_city_25 lk_1014 zX9_doLine ⟨Nat.le_of_ble_eq_true rfl, Nat.le_of_ble_eq_true rfl⟩ sh60 rfl rfl (Nat.le_of_ble_eq_true rfl) rfl K (fun u2 K => ?_)
    refine mG_iincc (lv' := [.ref 60, .int (x1 + (1 : Int32))]) C dX9_city_28 rfl ic1 (by decide) rfl ?_
    refine mG_goto (tgt := 12) C dX9_city_31 rfl ?_
    exact K

set_option maxRecDepth 20000 in
set_option maxHeartbeats 4000000 in
theorem vX9_coming_0 {X : mX} {E : mEnv} {Qm : Option Value → mW → Prop} (C : mCtx X E MX9_coming) (F : mFin X E MX9_coming Qm) {w : mW}  (p0 : Int32) (p1 : Int32)
    (K : mMi E MX9_in [.int p0, .int (1 : Int32), .int (20 : Int32)] w (fun v1 u1 =>
    ((v1 = 0 →
    (Qm (some (.int (-3 : Int32))) u1)) ∧ (¬ v1 = 0 →
    (mMi E MX9_in [.int p1, .int (0 : Int32), .int (1 : Int32)] u1 (fun v2 u2 =>
    ((¬ v2 = 0 →
    (mMv E MX9_copy [.ref 66, .int (0 : Int32), .ref 67, .int (0 : Int32)] u2 (fun u3 =>
    (mG X E MX9_coming 37 [.ref 60, .int p0, .int p1, .int (0 : Int32)] [] u3)))) ∧ (v2 = 0 →
    (Qm (some (.int (-3 : Int32))) u2))))))))) :
    mG X E MX9_coming 0 [.ref 60, .int p0, .int p1, .retAddr 0] [] w := by
  refine mG_iload_n C dX9_coming_0 rfl rfl ?_
  refine mG_iconst C dX9_coming_1 ic1 ?_
  refine mG_bipush C dX9_coming_2 bp20 ?_
  refine mG_Si (Z := MX9_in) (as := [.int p0, .int (1 : Int32), .int (20 : Int32)]) (rest := []) C dX9_coming_4 lk_956 zX9_in ⟨Nat.le_of_ble_eq_true rfl, Nat.le_of_ble_eq_true rfl⟩ rfl (Nat.le_of_ble_eq_true rfl) rfl K (fun v1 u1 K => ?_)
  refine mG_if_eq (tgt := 19) C dX9_coming_7 rfl (fun h => ?_) (fun h => ?_)
  · have K := K.1 h
    refine mG_bipush C dX9_coming_19 bpm3 ?_
    exact mG_iret C F dX9_coming_21 rfl rfl K
  · have K := K.2 h
    refine mG_iload_n C dX9_coming_10 rfl rfl ?_
    refine mG_iconst C dX9_coming_11 ic0 ?_
    refine mG_iconst C dX9_coming_12 ic1 ?_
    refine mG_Si (Z := MX9_in) (as := [.int p1, .int (0 : Int32), .int (1 : Int32)]) (rest := []) C dX9_coming_13 lk_956 zX9_in ⟨Nat.le_of_ble_eq_true rfl, Nat.le_of_ble_eq_true rfl⟩ rfl (Nat.le_of_ble_eq_true rfl) rfl K (fun v2 u2 K => ?_)
    refine mG_if_ne (tgt := 22) C dX9_coming_16 rfl (fun h => ?_) (fun h => ?_)
    · have K := K.1 h
      refine mG_aload_n C dX9_coming_22 rfl rfl ?_
      refine mG_getR C dX9_coming_23 fl_852 sh60 rfl ?_
      refine mG_iconst C dX9_coming_26 ic0 ?_
      refine mG_aload_n C dX9_coming_27 rfl rfl ?_
      refine mG_getR C dX9_coming_28 fl_853 sh60 rfl ?_
      refine mG_iconst C dX9_coming_31 ic0 ?_
      refine mG_Sv (Z := MX9_copy) (as := [.ref 66, .int (0 : Int32), .ref 67, .int (0 : Int32)]) (rest := []) C dX9_coming_32 lk_1082 zX9_copy ⟨Nat.le_of_ble_eq_true rfl, Nat.le_of_ble_eq_true rfl⟩ rfl (Nat.le_of_ble_eq_true rfl) rfl K (fun u3 K => ?_)
      refine mG_iconst C dX9_coming_35 ic0 ?_
      refine mG_istore_n (lv' := [.ref 60, .int p0, .int p1, .int (0 : Int32)]) C dX9_coming_36 rfl (by decide) rfl ?_
      exact K
    · have K := K.2 h
      refine mG_bipush C dX9_coming_19 bpm3 ?_
      exact mG_iret C F dX9_coming_21 rfl rfl K

set_option maxRecDepth 20000 in
set_option maxHeartbeats 4000000 in
theorem vX9_coming_37 {X : mX} {E : mEnv} {Qm : Option Value → mW → Prop} (C : mCtx X E MX9_coming) (F : mFin X E MX9_coming Qm) {w : mW}  (x1 : Int32) (x2 : Int32) (x3 : Int32)
    (K : (x1 ≤ x3 →
    ((¬ x2 = 0 →
    (mMi E MX9_sumOf [.ref 60, .int (w.1 67 0)] w (fun v1 u1 =>
    (Qm (some (.int (v1 + (9999 : Int32)))) u1)))) ∧ (x2 = 0 →
    (Qm (some (.int (w.1 67 0))) w)))) ∧ (¬ x1 ≤ x3 →
    (mMv E MX9_pass [.ref 60, .ref 67] w (fun u2 =>
    (mG X E MX9_coming 37 [.ref 60, .int x1, .int x2, .int (x3 + (1 : Int32))] [] u2))))) :
    mG X E MX9_coming 37 [.ref 60, .int x1, .int x2, .int x3] [] w := by
  refine mG_iload_n C dX9_coming_37 rfl rfl ?_
  refine mG_iload_n C dX9_coming_38 rfl rfl ?_
  refine mG_icmp_ge (tgt := 56) C dX9_coming_39 rfl (fun h => ?_) (fun h => ?_)
  · have K := K.1 h
    refine mG_iload_n C dX9_coming_56 rfl rfl ?_
    refine mG_if_ne (tgt := 69) C dX9_coming_57 rfl (fun h => ?_) (fun h => ?_)
    · have K := K.1 h
      refine mG_aload_n C dX9_coming_69 rfl rfl ?_
      refine mG_aload_n C dX9_coming_70 rfl rfl ?_
      refine mG_getR C dX9_coming_71 fl_853 sh60 rfl ?_
      refine mG_iconst C dX9_coming_74 ic0 ?_
      refine mG_ialdv C dX9_coming_75 sh67 (by unfold vp_in; decide) (by first | rfl | simp [mPI, mPL]) ?_
      refine mG_Vi (Z := MX9_sumOf) (as := [.int (w.1 67 0)]) (rest := []) C dX9_coming_76 lk_1119 zX9_sumOf ⟨Nat.le_of_ble_eq_true rfl, Nat.le_of_ble_eq_true rfl⟩ sh60 rfl rfl (Nat.le_of_ble_eq_true rfl) rfl K (fun v1 u1 K => ?_)
      refine mG_sipush C dX9_coming_79 sp9999 ?_
      refine mG_iadd C dX9_coming_82 ?_
      exact mG_iret C F dX9_coming_83 rfl rfl K
    · have K := K.2 h
      refine mG_aload_n C dX9_coming_60 rfl rfl ?_
      refine mG_getR C dX9_coming_61 fl_853 sh60 rfl ?_
      refine mG_iconst C dX9_coming_64 ic0 ?_
      refine mG_ialdv C dX9_coming_65 sh67 (by unfold vp_in; decide) (by first | rfl | simp [mPI, mPL]) ?_
      refine mG_goto (tgt := 83) C dX9_coming_66 rfl ?_
      exact mG_iret C F dX9_coming_83 rfl rfl K
  · have K := K.2 h
    refine mG_aload_n C dX9_coming_42 rfl rfl ?_
    refine mG_aload_n C dX9_coming_43 rfl rfl ?_
    refine mG_getR C dX9_coming_44 fl_853 sh60 rfl ?_
    refine mG_Vv (Z := MX9_pass) (as := [.ref 67]) (rest := []) C dX9_coming_47 lk_1096 zX9_pass ⟨Nat.le_of_ble_eq_true rfl, Nat.le_of_ble_eq_true rfl⟩ sh60 rfl rfl (Nat.le_of_ble_eq_true rfl) rfl K (fun u2 K => ?_)
    refine mG_iincc (lv' := [.ref 60, .int x1, .int x2, .int (x3 + (1 : Int32))]) C dX9_coming_50 rfl ic1 (by decide) rfl ?_
    refine mG_goto (tgt := 37) C dX9_coming_53 rfl ?_
    exact K

set_option maxRecDepth 20000 in
set_option maxHeartbeats 4000000 in
theorem vX9_copy_0 {X : mX} {E : mEnv} {Qm : Option Value → mW → Prop} (C : mCtx X E MX9_copy) (F : mFin X E MX9_copy Qm) {w : mW} {a0 n0 : Nat} (ha0 : mSh[a0]? = some (.inl (0, n0, []))) {a2 n2 : Nat} (ha2 : mSh[a2]? = some (.inl (0, n2, []))) (p1 : Int32) (p3 : Int32)
    (K : mG X E MX9_copy 3 [.ref a0, .int p1, .ref a2, .int p3, .int (0 : Int32)] [] w) :
    mG X E MX9_copy 0 [.ref a0, .int p1, .ref a2, .int p3, .retAddr 0] [] w := by
  refine mG_iconst C dX9_copy_0 ic0 ?_
  refine mG_istore (lv' := [.ref a0, .int p1, .ref a2, .int p3, .int (0 : Int32)]) C dX9_copy_1 (by decide) rfl ?_
  exact K

set_option maxRecDepth 20000 in
set_option maxHeartbeats 4000000 in
theorem vX9_copy_3 {X : mX} {E : mEnv} {Qm : Option Value → mW → Prop} (C : mCtx X E MX9_copy) (F : mFin X E MX9_copy Qm) {w : mW} {a0 n0 : Nat} (ha0 : mSh[a0]? = some (.inl (0, n0, []))) {a2 n2 : Nat} (ha2 : mSh[a2]? = some (.inl (0, n2, []))) (x1 : Int32) (x3 : Int32) (x4 : Int32)
    (K : ((32 : Int32) ≤ x4 →
    (Qm none w)) ∧ (¬ (32 : Int32) ≤ x4 →
    (vp_in (x1 + x4) n0 ∧
    (vp_in (x3 + x4) n2 ∧
    (∀ w1 : mW, w1 = (mPI w a2 (x3 + x4).toNatClampNeg (w.1 a0 ((x1 + x4).toNatClampNeg))) →
    (mG X E MX9_copy 3 [.ref a0, .int x1, .ref a2, .int x3, .int (x4 + (1 : Int32))] [] w1)))))) :
    mG X E MX9_copy 3 [.ref a0, .int x1, .ref a2, .int x3, .int x4] [] w := by
  refine mG_iload C dX9_copy_3 rfl ?_
  refine mG_bipush C dX9_copy_5 bp32 ?_
  refine mG_icmp_ge (tgt := 28) C dX9_copy_7 rfl (fun h => ?_) (fun h => ?_)
  · have K := K.1 h
    exact mG_vret C F dX9_copy_28 rfl K
  · have K := K.2 h
    refine mG_aload_n C dX9_copy_10 rfl rfl ?_
    refine mG_iload_n C dX9_copy_11 rfl rfl ?_
    refine mG_iload C dX9_copy_12 rfl ?_
    refine mG_iadd C dX9_copy_14 ?_
    refine mG_aload_n C dX9_copy_15 rfl rfl ?_
    refine mG_iload_n C dX9_copy_16 rfl rfl ?_
    refine mG_iload C dX9_copy_17 rfl ?_
    refine mG_iadd C dX9_copy_19 ?_
    obtain ⟨h1, K⟩ := K
    refine mG_iald C dX9_copy_20 ha0 h1 ?_
    obtain ⟨h2, K⟩ := K
    refine mG_iast C dX9_copy_21 ha2 h2 ?_
    refine mG_nm (fun w1 ew1 => ?_)
    have K := K w1 ew1
    refine mG_iincc (lv' := [.ref a0, .int x1, .ref a2, .int x3, .int (x4 + (1 : Int32))]) C dX9_copy_22 rfl ic1 (by decide) rfl ?_
    refine mG_goto (tgt := 3) C dX9_copy_25 rfl ?_
    exact K

set_option maxRecDepth 20000 in
set_option maxHeartbeats 4000000 in
theorem vX9_count_0 {X : mX} {E : mEnv} {Qm : Option Value → mW → Prop} (C : mCtx X E MX9_count) (F : mFin X E MX9_count Qm) {w : mW}  (p0 : Int32)
    (K : mG X E MX9_count 4 [.ref 60, .int p0, .int (0 : Int32), .int (2 : Int32)] [] w) :
    mG X E MX9_count 0 [.ref 60, .int p0, .retAddr 0, .retAddr 0] [] w := by
  refine mG_iconst C dX9_count_0 ic0 ?_
  refine mG_istore_n (lv' := [.ref 60, .int p0, .int (0 : Int32), .retAddr 0]) C dX9_count_1 rfl (by decide) rfl ?_
  refine mG_iconst C dX9_count_2 ic2 ?_
  refine mG_istore_n (lv' := [.ref 60, .int p0, .int (0 : Int32), .int (2 : Int32)]) C dX9_count_3 rfl (by decide) rfl ?_
  exact K

set_option maxRecDepth 20000 in
set_option maxHeartbeats 4000000 in
theorem vX9_count_4 {X : mX} {E : mEnv} {Qm : Option Value → mW → Prop} (C : mCtx X E MX9_count) (F : mFin X E MX9_count Qm) {w : mW}  (x1 : Int32) (x2 : Int32) (x3 : Int32)
    (K : ((32 : Int32) ≤ x3 →
    ((x1 = (0 : Int32) →
    (Qm (some (.int (w.1 60 0))) w)) ∧ (¬ x1 = (0 : Int32) →
    ((x1 = (1 : Int32) →
    (Qm (some (.int (w.1 60 2))) w)) ∧ (¬ x1 = (1 : Int32) →
    ((x1 = (2 : Int32) →
    (Qm (some (.int (w.1 60 4))) w)) ∧ (¬ x1 = (2 : Int32) →
    ((x1 = (3 : Int32) →
    (Qm (some (.int (w.1 66 1))) w)) ∧ (¬ x1 = (3 : Int32) →
    ((x1 = (4 : Int32) →
    (mMi E MX9_sumOf [.ref 60, .int (w.1 66 0)] w (fun v1 u1 =>
    (Qm (some (.int (v1 + (9999 : Int32)))) u1)))) ∧ (¬ x1 = (4 : Int32) →
    ((x1 = (5 : Int32) →
    (Qm (some (.int (w.1 66 0))) w)) ∧ (¬ x1 = (5 : Int32) →
    ((x1 = (6 : Int32) →
    (Qm (some (.int x2)) w)) ∧ (¬ x1 = (6 : Int32) →
    ((x1 = (7 : Int32) →
    (Qm (some (.int (w.1 60 28))) w)) ∧ (¬ x1 = (7 : Int32) →
    ((x1 = (8 : Int32) →
    (Qm (some (.int (w.1 60 26))) w)) ∧ (¬ x1 = (8 : Int32) →
    ((x1 = (9 : Int32) →
    (Qm (some (.int (w.1 60 6))) w)) ∧ (¬ x1 = (9 : Int32) →
    (Qm (some (.int (-3 : Int32))) w)))))))))))))))))))))) ∧ (¬ (32 : Int32) ≤ x3 →
    (vp_in x3 32 ∧
    ((¬ (w.1 66 x3.toNatClampNeg) = (-1 : Int32) →
    (mG X E MX9_count 4 [.ref 60, .int x1, .int (x2 + (1 : Int32)), .int (x3 + (1 : Int32))] [] w)) ∧ ((w.1 66 x3.toNatClampNeg) = (-1 : Int32) →
    (mG X E MX9_count 4 [.ref 60, .int x1, .int (x2 + (0 : Int32)), .int (x3 + (1 : Int32))] [] w)))))) :
    mG X E MX9_count 4 [.ref 60, .int x1, .int x2, .int x3] [] w := by
  refine mG_iload_n C dX9_count_4 rfl rfl ?_
  refine mG_bipush C dX9_count_5 bp32 ?_
  refine mG_icmp_ge (tgt := 34) C dX9_count_7 rfl (fun h => ?_) (fun h => ?_)
  · have K := K.1 h
    refine mG_iload_n C dX9_count_34 rfl rfl ?_
    by_cases g0 : x1 = (0 : Int32)
    · have K := K.1 g0
      refine mG_tableEq (off := 53) (tgt := 88) C dX9_count_35 g0 (by decide) (by decide) rfl rfl ?_
      refine mG_aload_n C dX9_count_88 rfl rfl ?_
      refine mG_getI C dX9_count_89 fl_833 sh60 rfl ?_
      exact mG_iret C F dX9_count_92 rfl rfl K
    · have K := K.2 g0
      by_cases g1 : x1 = (1 : Int32)
      · have K := K.1 g1
        refine mG_tableEq (off := 58) (tgt := 93) C dX9_count_35 g1 (by decide) (by decide) rfl rfl ?_
        refine mG_aload_n C dX9_count_93 rfl rfl ?_
        refine mG_getI C dX9_count_94 fl_835 sh60 rfl ?_
        exact mG_iret C F dX9_count_97 rfl rfl K
      · have K := K.2 g1
        by_cases g2 : x1 = (2 : Int32)
        · have K := K.1 g2
          refine mG_tableEq (off := 63) (tgt := 98) C dX9_count_35 g2 (by decide) (by decide) rfl rfl ?_
          refine mG_aload_n C dX9_count_98 rfl rfl ?_
          refine mG_getI C dX9_count_99 fl_837 sh60 rfl ?_
          exact mG_iret C F dX9_count_102 rfl rfl K
        · have K := K.2 g2
          by_cases g3 : x1 = (3 : Int32)
          · have K := K.1 g3
            refine mG_tableEq (off := 68) (tgt := 103) C dX9_count_35 g3 (by decide) (by decide) rfl rfl ?_
            refine mG_aload_n C dX9_count_103 rfl rfl ?_
            refine mG_getR C dX9_count_104 fl_852 sh60 rfl ?_
            refine mG_iconst C dX9_count_107 ic1 ?_
            refine mG_ialdv C dX9_count_108 sh66 (by unfold vp_in; decide) (by first | rfl | simp [mPI, mPL]) ?_
            exact mG_iret C F dX9_count_109 rfl rfl K
          · have K := K.2 g3
            by_cases g4 : x1 = (4 : Int32)
            · have K := K.1 g4
              refine mG_tableEq (off := 75) (tgt := 110) C dX9_count_35 g4 (by decide) (by decide) rfl rfl ?_
              refine mG_aload_n C dX9_count_110 rfl rfl ?_
              refine mG_aload_n C dX9_count_111 rfl rfl ?_
              refine mG_getR C dX9_count_112 fl_852 sh60 rfl ?_
              refine mG_iconst C dX9_count_115 ic0 ?_
              refine mG_ialdv C dX9_count_116 sh66 (by unfold vp_in; decide) (by first | rfl | simp [mPI, mPL]) ?_
              refine mG_Vi (Z := MX9_sumOf) (as := [.int (w.1 66 0)]) (rest := []) C dX9_count_117 lk_1119 zX9_sumOf ⟨Nat.le_of_ble_eq_true rfl, Nat.le_of_ble_eq_true rfl⟩ sh60 rfl rfl (Nat.le_of_ble_eq_true rfl) rfl K (fun v1 u1 K => ?_)
              refine mG_sipush C dX9_count_120 sp9999 ?_
              refine mG_iadd C dX9_count_123 ?_
              exact mG_iret C F dX9_count_124 rfl rfl K
            · have K := K.2 g4
              by_cases g5 : x1 = (5 : Int32)
              · have K := K.1 g5
                refine mG_tableEq (off := 90) (tgt := 125) C dX9_count_35 g5 (by decide) (by decide) rfl rfl ?_
                refine mG_aload_n C dX9_count_125 rfl rfl ?_
                refine mG_getR C dX9_count_126 fl_852 sh60 rfl ?_
                refine mG_iconst C dX9_count_129 ic0 ?_
                refine mG_ialdv C dX9_count_130 sh66 (by unfold vp_in; decide) (by first | rfl | simp [mPI, mPL]) ?_
                exact mG_iret C F dX9_count_131 rfl rfl K
              · have K := K.2 g5
                by_cases g6 : x1 = (6 : Int32)
                · have K := K.1 g6
                  refine mG_tableEq (off := 97) (tgt := 132) C dX9_count_35 g6 (by decide) (by decide) rfl rfl ?_
                  refine mG_iload_n C dX9_count_132 rfl rfl ?_
                  exact mG_iret C F dX9_count_133 rfl rfl K
                · have K := K.2 g6
                  by_cases g7 : x1 = (7 : Int32)
                  · have K := K.1 g7
                    refine mG_tableEq (off := 99) (tgt := 134) C dX9_count_35 g7 (by decide) (by decide) rfl rfl ?_
                    refine mG_aload_n C dX9_count_134 rfl rfl ?_
                    refine mG_getI C dX9_count_135 fl_861 sh60 rfl ?_
                    exact mG_iret C F dX9_count_138 rfl rfl K
                  · have K := K.2 g7
                    by_cases g8 : x1 = (8 : Int32)
                    · have K := K.1 g8
                      refine mG_tableEq (off := 104) (tgt := 139) C dX9_count_35 g8 (by decide) (by decide) rfl rfl ?_
                      refine mG_aload_n C dX9_count_139 rfl rfl ?_
                      refine mG_getI C dX9_count_140 fl_859 sh60 rfl ?_
                      exact mG_iret C F dX9_count_143 rfl rfl K
                    · have K := K.2 g8
                      by_cases g9 : x1 = (9 : Int32)
                      · have K := K.1 g9
                        refine mG_tableEq (off := 109) (tgt := 144) C dX9_count_35 g9 (by decide) (by decide) rfl rfl ?_
                        refine mG_aload_n C dX9_count_144 rfl rfl ?_
                        refine mG_getI C dX9_count_145 fl_839 sh60 rfl ?_
                        exact mG_iret C F dX9_count_148 rfl rfl K
                      · have K := K.2 g9
                        have e0 := lv_neT g0 (show (0 : Int32).toInt = 0 by decide)
                        have e1 := lv_neT g1 (show (1 : Int32).toInt = 1 by decide)
                        have e2 := lv_neT g2 (show (2 : Int32).toInt = 2 by decide)
                        have e3 := lv_neT g3 (show (3 : Int32).toInt = 3 by decide)
                        have e4 := lv_neT g4 (show (4 : Int32).toInt = 4 by decide)
                        have e5 := lv_neT g5 (show (5 : Int32).toInt = 5 by decide)
                        have e6 := lv_neT g6 (show (6 : Int32).toInt = 6 by decide)
                        have e7 := lv_neT g7 (show (7 : Int32).toInt = 7 by decide)
                        have e8 := lv_neT g8 (show (8 : Int32).toInt = 8 by decide)
                        have e9 := lv_neT g9 (show (9 : Int32).toInt = 9 by decide)
                        refine mG_tableOut (tgt := 149) C dX9_count_35 (by omega) rfl ?_
                        refine mG_bipush C dX9_count_149 bpm3 ?_
                        exact mG_iret C F dX9_count_151 rfl rfl K
  · have K := K.2 h
    refine mG_iload_n C dX9_count_10 rfl rfl ?_
    refine mG_aload_n C dX9_count_11 rfl rfl ?_
    refine mG_getR C dX9_count_12 fl_852 sh60 rfl ?_
    refine mG_iload_n C dX9_count_15 rfl rfl ?_
    obtain ⟨h1, K⟩ := K
    refine mG_iald C dX9_count_16 sh66 h1 ?_
    refine mG_iconst C dX9_count_17 icm1 ?_
    refine mG_icmp_ne (tgt := 25) C dX9_count_18 rfl (fun h => ?_) (fun h => ?_)
    · have K := K.1 h
      refine mG_iconst C dX9_count_25 ic1 ?_
      refine mG_iadd C dX9_count_26 ?_
      refine mG_istore_n (lv' := [.ref 60, .int x1, .int (x2 + (1 : Int32)), .int x3]) C dX9_count_27 rfl (by decide) rfl ?_
      refine mG_iincc (lv' := [.ref 60, .int x1, .int (x2 + (1 : Int32)), .int (x3 + (1 : Int32))]) C dX9_count_28 rfl ic1 (by decide) rfl ?_
      refine mG_goto (tgt := 4) C dX9_count_31 rfl ?_
      exact K
    · have K := K.2 h
      refine mG_iconst C dX9_count_21 ic0 ?_
      refine mG_goto (tgt := 26) C dX9_count_22 rfl ?_
      refine mG_iadd C dX9_count_26 ?_
      refine mG_istore_n (lv' := [.ref 60, .int x1, .int (x2 + (0 : Int32)), .int x3]) C dX9_count_27 rfl (by decide) rfl ?_
      refine mG_iincc (lv' := [.ref 60, .int x1, .int (x2 + (0 : Int32)), .int (x3 + (1 : Int32))]) C dX9_count_28 rfl ic1 (by decide) rfl ?_
      refine mG_goto (tgt := 4) C dX9_count_31 rfl ?_
      exact K

set_option maxRecDepth 20000 in
set_option maxHeartbeats 4000000 in
theorem vX9_doLine_0 {X : mX} {E : mEnv} {Qm : Option Value → mW → Prop} (C : mCtx X E MX9_doLine) (F : mFin X E MX9_doLine Qm) {w : mW}  (p0 : Int32)
    (K : vp_in p0 84 ∧
    (((2 : Int32) ≤ (w.1 65 p0.toNatClampNeg) →
    (((6 : Int32) ≤ (w.1 65 p0.toNatClampNeg) →
    ((¬ (w.1 65 p0.toNatClampNeg) = (6 : Int32) →
    ((¬ (w.1 65 p0.toNatClampNeg) = (7 : Int32) →
    ((¬ (w.1 65 p0.toNatClampNeg) = (7 : Int32) →
    (Qm none (mPI (mPI (mPI w 60 4 (0 : Int32)) 60 0 (w.1 60 0)) 60 2 (w.1 60 2)))) ∧ ((w.1 65 p0.toNatClampNeg) = (7 : Int32) →
    (Qm none (mPI (mPI (mPI w 60 4 (0 : Int32)) 60 0 (w.1 60 0)) 60 2 (0 : Int32)))))) ∧ ((w.1 65 p0.toNatClampNeg) = (7 : Int32) →
    ((¬ (w.1 65 p0.toNatClampNeg) = (7 : Int32) →
    (Qm none (mPI (mPI (mPI w 60 4 (0 : Int32)) 60 0 (0 : Int32)) 60 2 (w.1 60 2)))) ∧ ((w.1 65 p0.toNatClampNeg) = (7 : Int32) →
    (Qm none (mPI (mPI (mPI w 60 4 (0 : Int32)) 60 0 (0 : Int32)) 60 2 (0 : Int32)))))))) ∧ ((w.1 65 p0.toNatClampNeg) = (6 : Int32) →
    (mG X E MX9_doLine 157 [.ref 60, .int p0, .retAddr 0, .int (0 : Int32)] [] w)))) ∧ (¬ (6 : Int32) ≤ (w.1 65 p0.toNatClampNeg) →
    (vp_in ((6 : Int32) * (w.1 60 2)) 30 ∧
    (∀ w1 : mW, w1 = (mPI w 62 ((6 : Int32) * (w.1 60 2)).toNatClampNeg ((w.1 65 p0.toNatClampNeg) - (2 : Int32))) →
    (mG X E MX9_doLine 102 [.ref 60, .int p0, .retAddr 0, .int (1 : Int32)] [] w1)))))) ∧ (¬ (2 : Int32) ≤ (w.1 65 p0.toNatClampNeg) →
    (vp_in ((3 : Int32) * (w.1 60 0)) 18 ∧
    (∀ w2 : mW, w2 = (mPI w 61 ((3 : Int32) * (w.1 60 0)).toNatClampNeg (w.1 65 p0.toNatClampNeg)) →
    (vp_in (p0 + (1 : Int32)) 84 ∧
    (vp_in (((3 : Int32) * (w2.1 60 0)) + (1 : Int32)) 18 ∧
    (∀ w3 : mW, w3 = (mPI w2 61 (((3 : Int32) * (w2.1 60 0)) + (1 : Int32)).toNatClampNeg (w2.1 65 ((p0 + (1 : Int32)).toNatClampNeg))) →
    (vp_in (p0 + (2 : Int32)) 84 ∧
    (vp_in (((3 : Int32) * (w3.1 60 0)) + (2 : Int32)) 18 ∧
    (∀ w4 : mW, w4 = (mPI w3 61 (((3 : Int32) * (w3.1 60 0)) + (2 : Int32)).toNatClampNeg (w3.1 65 ((p0 + (2 : Int32)).toNatClampNeg))) →
    (Qm none (mPI w4 60 0 ((w4.1 60 0) + (1 : Int32))))))))))))))) :
    mG X E MX9_doLine 0 [.ref 60, .int p0, .retAddr 0, .retAddr 0] [] w := by
  refine mG_aload_n C dX9_doLine_0 rfl rfl ?_
  refine mG_getR C dX9_doLine_1 fl_851 sh60 rfl ?_
  refine mG_iload_n C dX9_doLine_4 rfl rfl ?_
  obtain ⟨h1, K⟩ := K
  refine mG_iald C dX9_doLine_5 sh65 h1 ?_
  refine mG_istore_n (lv' := [.ref 60, .int p0, .int (w.1 65 p0.toNatClampNeg), .retAddr 0]) C dX9_doLine_6 rfl (by decide) rfl ?_
  refine mG_iload_n C dX9_doLine_7 rfl rfl ?_
  refine mG_iconst C dX9_doLine_8 ic2 ?_
  refine mG_icmp_ge (tgt := 79) C dX9_doLine_9 rfl (fun h => ?_) (fun h => ?_)
  · have K := K.1 h
    refine mG_iload_n C dX9_doLine_79 rfl rfl ?_
    refine mG_bipush C dX9_doLine_80 bp6 ?_
    refine mG_icmp_ge (tgt := 149) C dX9_doLine_82 rfl (fun h => ?_) (fun h => ?_)
    · have K := K.1 h
      refine mG_iload_n C dX9_doLine_149 rfl rfl ?_
      refine mG_bipush C dX9_doLine_150 bp6 ?_
      refine mG_icmp_ne (tgt := 204) C dX9_doLine_152 rfl (fun h => ?_) (fun h => ?_)
      · have K := K.1 h
        refine mG_aload_n C dX9_doLine_204 rfl rfl ?_
        refine mG_iconst C dX9_doLine_205 ic0 ?_
        refine mG_putI C dX9_doLine_206 fp_837 sh60 rfl ?_
        refine mG_aload_n C dX9_doLine_209 rfl rfl ?_
        refine mG_iload_n C dX9_doLine_210 rfl rfl ?_
        refine mG_bipush C dX9_doLine_211 bp7 ?_
        refine mG_icmp_ne (tgt := 220) C dX9_doLine_213 rfl (fun h => ?_) (fun h => ?_)
        · have K := K.1 h
          refine mG_aload_n C dX9_doLine_220 rfl rfl ?_
          refine mG_getIv C dX9_doLine_221 fl_833 sh60 rfl (by first | rfl | simp [mPI, mPL]) ?_
          refine mG_putI C dX9_doLine_224 fp_833 sh60 rfl ?_
          refine mG_aload_n C dX9_doLine_227 rfl rfl ?_
          refine mG_iload_n C dX9_doLine_228 rfl rfl ?_
          refine mG_bipush C dX9_doLine_229 bp7 ?_
          refine mG_icmp_ne (tgt := 238) C dX9_doLine_231 rfl (fun h => ?_) (fun h => ?_)
          · have K := K.1 h
            refine mG_aload_n C dX9_doLine_238 rfl rfl ?_
            refine mG_getIv C dX9_doLine_239 fl_835 sh60 rfl (by first | rfl | simp [mPI, mPL]) ?_
            refine mG_putI C dX9_doLine_242 fp_835 sh60 rfl ?_
            exact mG_vret C F dX9_doLine_245 rfl K
          · have K := K.2 h
            refine mG_iconst C dX9_doLine_234 ic0 ?_
            refine mG_goto (tgt := 242) C dX9_doLine_235 rfl ?_
            refine mG_putI C dX9_doLine_242 fp_835 sh60 rfl ?_
            exact mG_vret C F dX9_doLine_245 rfl K
        · have K := K.2 h
          refine mG_iconst C dX9_doLine_216 ic0 ?_
          refine mG_goto (tgt := 224) C dX9_doLine_217 rfl ?_
          refine mG_putI C dX9_doLine_224 fp_833 sh60 rfl ?_
          refine mG_aload_n C dX9_doLine_227 rfl rfl ?_
          refine mG_iload_n C dX9_doLine_228 rfl rfl ?_
          refine mG_bipush C dX9_doLine_229 bp7 ?_
          refine mG_icmp_ne (tgt := 238) C dX9_doLine_231 rfl (fun h => ?_) (fun h => ?_)
          · have K := K.1 h
            refine mG_aload_n C dX9_doLine_238 rfl rfl ?_
            refine mG_getIv C dX9_doLine_239 fl_835 sh60 rfl (by first | rfl | simp [mPI, mPL]) ?_
            refine mG_putI C dX9_doLine_242 fp_835 sh60 rfl ?_
            exact mG_vret C F dX9_doLine_245 rfl K
          · have K := K.2 h
            refine mG_iconst C dX9_doLine_234 ic0 ?_
            refine mG_goto (tgt := 242) C dX9_doLine_235 rfl ?_
            refine mG_putI C dX9_doLine_242 fp_835 sh60 rfl ?_
            exact mG_vret C F dX9_doLine_245 rfl K
      · have K := K.2 h
        refine mG_iconst C dX9_doLine_155 ic0 ?_
        refine mG_istore_n (lv' := [.ref 60, .int p0, .int (w.1 65 p0.toNatClampNeg), .int (0 : Int32)]) C dX9_doLine_156 rfl (by decide) rfl ?_
        exact mG_holes [2] rfl K
    · have K := K.2 h
      refine mG_aload_n C dX9_doLine_85 rfl rfl ?_
      refine mG_getR C dX9_doLine_86 fl_836 sh60 rfl ?_
      refine mG_bipush C dX9_doLine_89 bp6 ?_
      refine mG_aload_n C dX9_doLine_91 rfl rfl ?_
      refine mG_getI C dX9_doLine_92 fl_835 sh60 rfl ?_
      refine mG_imul C dX9_doLine_95 ?_
      refine mG_iload_n C dX9_doLine_96 rfl rfl ?_
      refine mG_iconst C dX9_doLine_97 ic2 ?_
      refine mG_isub C dX9_doLine_98 ?_
      obtain ⟨h2, K⟩ := K
      refine mG_iast C dX9_doLine_99 sh62 h2 ?_
      refine mG_nm (fun w1 ew1 => ?_)
      have K := K w1 ew1
      refine mG_iconst C dX9_doLine_100 ic1 ?_
      refine mG_istore_n (lv' := [.ref 60, .int p0, .int (w.1 65 p0.toNatClampNeg), .int (1 : Int32)]) C dX9_doLine_101 rfl (by decide) rfl ?_
      exact mG_holes [2] rfl K
  · have K := K.2 h
    refine mG_aload_n C dX9_doLine_12 rfl rfl ?_
    refine mG_getR C dX9_doLine_13 fl_834 sh60 rfl ?_
    refine mG_iconst C dX9_doLine_16 ic3 ?_
    refine mG_aload_n C dX9_doLine_17 rfl rfl ?_
    refine mG_getI C dX9_doLine_18 fl_833 sh60 rfl ?_
    refine mG_imul C dX9_doLine_21 ?_
    refine mG_iload_n C dX9_doLine_22 rfl rfl ?_
    obtain ⟨h3, K⟩ := K
    refine mG_iast C dX9_doLine_23 sh61 h3 ?_
    refine mG_nm (fun w2 ew2 => ?_)
    have K := K w2 ew2
    refine mG_aload_n C dX9_doLine_24 rfl rfl ?_
    refine mG_getR C dX9_doLine_25 fl_834 sh60 rfl ?_
    refine mG_iconst C dX9_doLine_28 ic3 ?_
    refine mG_aload_n C dX9_doLine_29 rfl rfl ?_
    refine mG_getI C dX9_doLine_30 fl_833 sh60 rfl ?_
    refine mG_imul C dX9_doLine_33 ?_
    refine mG_iconst C dX9_doLine_34 ic1 ?_
    refine mG_iadd C dX9_doLine_35 ?_
    refine mG_aload_n C dX9_doLine_36 rfl rfl ?_
    refine mG_getR C dX9_doLine_37 fl_851 sh60 rfl ?_
    refine mG_iload_n C dX9_doLine_40 rfl rfl ?_
    refine mG_iconst C dX9_doLine_41 ic1 ?_
    refine mG_iadd C dX9_doLine_42 ?_
    obtain ⟨h4, K⟩ := K
    refine mG_iald C dX9_doLine_43 sh65 h4 ?_
    obtain ⟨h5, K⟩ := K
    refine mG_iast C dX9_doLine_44 sh61 h5 ?_
    refine mG_nm (fun w3 ew3 => ?_)
    have K := K w3 ew3
    refine mG_aload_n C dX9_doLine_45 rfl rfl ?_
    refine mG_getR C dX9_doLine_46 fl_834 sh60 rfl ?_
    refine mG_iconst C dX9_doLine_49 ic3 ?_
    refine mG_aload_n C dX9_doLine_50 rfl rfl ?_
    refine mG_getI C dX9_doLine_51 fl_833 sh60 rfl ?_
    refine mG_imul C dX9_doLine_54 ?_
    refine mG_iconst C dX9_doLine_55 ic2 ?_
    refine mG_iadd C dX9_doLine_56 ?_
    refine mG_aload_n C dX9_doLine_57 rfl rfl ?_
    refine mG_getR C dX9_doLine_58 fl_851 sh60 rfl ?_
    refine mG_iload_n C dX9_doLine_61 rfl rfl ?_
    refine mG_iconst C dX9_doLine_62 ic2 ?_
    refine mG_iadd C dX9_doLine_63 ?_
    obtain ⟨h6, K⟩ := K
    refine mG_iald C dX9_doLine_64 sh65 h6 ?_
    obtain ⟨h7, K⟩ := K
    refine mG_iast C dX9_doLine_65 sh61 h7 ?_
    refine mG_nm (fun w4 ew4 => ?_)
    have K := K w4 ew4
    refine mG_aload_n C dX9_doLine_66 rfl rfl ?_
    refine mG_dup C dX9_doLine_67 rfl ?_
    refine mG_getI C dX9_doLine_68 fl_833 sh60 rfl ?_
    refine mG_iconst C dX9_doLine_71 ic1 ?_
    refine mG_iadd C dX9_doLine_72 ?_
    refine mG_putI C dX9_doLine_73 fp_833 sh60 rfl ?_
    refine mG_goto (tgt := 245) C dX9_doLine_76 rfl ?_
    exact mG_vret C F dX9_doLine_245 rfl K

set_option maxRecDepth 20000 in
set_option maxHeartbeats 4000000 in
theorem vX9_doLine_157 {X : mX} {E : mEnv} {Qm : Option Value → mW → Prop} (C : mCtx X E MX9_doLine) (F : mFin X E MX9_doLine Qm) {w : mW}  (x1 : Int32) (x3 : Int32)
    (K : ((4 : Int32) ≤ x3 →
    (Qm none (mPI w 60 4 ((w.1 60 4) + (1 : Int32))))) ∧ (¬ (4 : Int32) ≤ x3 →
    (vp_in ((x1 + (1 : Int32)) + x3) 84 ∧
    (vp_in (((4 : Int32) * (w.1 60 4)) + x3) 24 ∧
    (∀ w1 : mW, w1 = (mPI w 63 (((4 : Int32) * (w.1 60 4)) + x3).toNatClampNeg (w.1 65 (((x1 + (1 : Int32)) + x3).toNatClampNeg))) →
    (mG X E MX9_doLine 157 [.ref 60, .int x1, .retAddr 0, .int (x3 + (1 : Int32))] [] w1)))))) :
    mG X E MX9_doLine 157 [.ref 60, .int x1, .retAddr 0, .int x3] [] w := by
  refine mG_iload_n C dX9_doLine_157 rfl rfl ?_
  refine mG_iconst C dX9_doLine_158 ic4 ?_
  refine mG_icmp_ge (tgt := 191) C dX9_doLine_159 rfl (fun h => ?_) (fun h => ?_)
  · have K := K.1 h
    refine mG_aload_n C dX9_doLine_191 rfl rfl ?_
    refine mG_dup C dX9_doLine_192 rfl ?_
    refine mG_getI C dX9_doLine_193 fl_837 sh60 rfl ?_
    refine mG_iconst C dX9_doLine_196 ic1 ?_
    refine mG_iadd C dX9_doLine_197 ?_
    refine mG_putI C dX9_doLine_198 fp_837 sh60 rfl ?_
    refine mG_goto (tgt := 245) C dX9_doLine_201 rfl ?_
    exact mG_vret C F dX9_doLine_245 rfl K
  · have K := K.2 h
    refine mG_aload_n C dX9_doLine_162 rfl rfl ?_
    refine mG_getR C dX9_doLine_163 fl_838 sh60 rfl ?_
    refine mG_iconst C dX9_doLine_166 ic4 ?_
    refine mG_aload_n C dX9_doLine_167 rfl rfl ?_
    refine mG_getI C dX9_doLine_168 fl_837 sh60 rfl ?_
    refine mG_imul C dX9_doLine_171 ?_
    refine mG_iload_n C dX9_doLine_172 rfl rfl ?_
    refine mG_iadd C dX9_doLine_173 ?_
    refine mG_aload_n C dX9_doLine_174 rfl rfl ?_
    refine mG_getR C dX9_doLine_175 fl_851 sh60 rfl ?_
    refine mG_iload_n C dX9_doLine_178 rfl rfl ?_
    refine mG_iconst C dX9_doLine_179 ic1 ?_
    refine mG_iadd C dX9_doLine_180 ?_
    refine mG_iload_n C dX9_doLine_181 rfl rfl ?_
    refine mG_iadd C dX9_doLine_182 ?_
    obtain ⟨h1, K⟩ := K
    refine mG_iald C dX9_doLine_183 sh65 h1 ?_
    obtain ⟨h2, K⟩ := K
    refine mG_iast C dX9_doLine_184 sh63 h2 ?_
    refine mG_nm (fun w1 ew1 => ?_)
    have K := K w1 ew1
    refine mG_iincc (lv' := [.ref 60, .int x1, .retAddr 0, .int (x3 + (1 : Int32))]) C dX9_doLine_185 rfl ic1 (by decide) rfl ?_
    refine mG_goto (tgt := 157) C dX9_doLine_188 rfl ?_
    exact K

set_option maxRecDepth 20000 in
set_option maxHeartbeats 4000000 in
theorem vX9_doLine_102 {X : mX} {E : mEnv} {Qm : Option Value → mW → Prop} (C : mCtx X E MX9_doLine) (F : mFin X E MX9_doLine Qm) {w : mW}  (x1 : Int32) (x3 : Int32)
    (K : ((6 : Int32) ≤ x3 →
    (Qm none (mPI w 60 2 ((w.1 60 2) + (1 : Int32))))) ∧ (¬ (6 : Int32) ≤ x3 →
    (vp_in (x1 + x3) 84 ∧
    (vp_in (((6 : Int32) * (w.1 60 2)) + x3) 30 ∧
    (∀ w1 : mW, w1 = (mPI w 62 (((6 : Int32) * (w.1 60 2)) + x3).toNatClampNeg (w.1 65 ((x1 + x3).toNatClampNeg))) →
    (mG X E MX9_doLine 102 [.ref 60, .int x1, .retAddr 0, .int (x3 + (1 : Int32))] [] w1)))))) :
    mG X E MX9_doLine 102 [.ref 60, .int x1, .retAddr 0, .int x3] [] w := by
  refine mG_iload_n C dX9_doLine_102 rfl rfl ?_
  refine mG_bipush C dX9_doLine_103 bp6 ?_
  refine mG_icmp_ge (tgt := 136) C dX9_doLine_105 rfl (fun h => ?_) (fun h => ?_)
  · have K := K.1 h
    refine mG_aload_n C dX9_doLine_136 rfl rfl ?_
    refine mG_dup C dX9_doLine_137 rfl ?_
    refine mG_getI C dX9_doLine_138 fl_835 sh60 rfl ?_
    refine mG_iconst C dX9_doLine_141 ic1 ?_
    refine mG_iadd C dX9_doLine_142 ?_
    refine mG_putI C dX9_doLine_143 fp_835 sh60 rfl ?_
    refine mG_goto (tgt := 245) C dX9_doLine_146 rfl ?_
    exact mG_vret C F dX9_doLine_245 rfl K
  · have K := K.2 h
    refine mG_aload_n C dX9_doLine_108 rfl rfl ?_
    refine mG_getR C dX9_doLine_109 fl_836 sh60 rfl ?_
    refine mG_bipush C dX9_doLine_112 bp6 ?_
    refine mG_aload_n C dX9_doLine_114 rfl rfl ?_
    refine mG_getI C dX9_doLine_115 fl_835 sh60 rfl ?_
    refine mG_imul C dX9_doLine_118 ?_
    refine mG_iload_n C dX9_doLine_119 rfl rfl ?_
    refine mG_iadd C dX9_doLine_120 ?_
    refine mG_aload_n C dX9_doLine_121 rfl rfl ?_
    refine mG_getR C dX9_doLine_122 fl_851 sh60 rfl ?_
    refine mG_iload_n C dX9_doLine_125 rfl rfl ?_
    refine mG_iload_n C dX9_doLine_126 rfl rfl ?_
    refine mG_iadd C dX9_doLine_127 ?_
    obtain ⟨h1, K⟩ := K
    refine mG_iald C dX9_doLine_128 sh65 h1 ?_
    obtain ⟨h2, K⟩ := K
    refine mG_iast C dX9_doLine_129 sh62 h2 ?_
    refine mG_nm (fun w1 ew1 => ?_)
    have K := K w1 ew1
    refine mG_iincc (lv' := [.ref 60, .int x1, .retAddr 0, .int (x3 + (1 : Int32))]) C dX9_doLine_130 rfl ic1 (by decide) rfl ?_
    refine mG_goto (tgt := 102) C dX9_doLine_133 rfl ?_
    exact K

set_option maxRecDepth 20000 in
set_option maxHeartbeats 4000000 in
theorem vX9_empty_0 {X : mX} {E : mEnv} {Qm : Option Value → mW → Prop} (C : mCtx X E MX9_empty) (F : mFin X E MX9_empty Qm) {w : mW}  (p0 : Int32) (p1 : Int32)
    (K : mMi E MX9_isOne [.ref 60, .int p0] w (fun v1 u1 =>
    ((¬ v1 = 0 →
    (mMi E MX9_in [.int p1, .int (0 : Int32), .int (1 : Int32)] u1 (fun v2 u2 =>
    ((v2 = 0 →
    (Qm (some (.int (-3 : Int32))) u2)) ∧ (¬ v2 = 0 →
    (mMi E MX9_askOf [.ref 60, .int p0, .int (2 : Int32), .int p1] u2 (fun v3 u3 =>
    (Qm (some (.int v3)) u3)))))))) ∧ (v1 = 0 →
    (Qm (some (.int (-2 : Int32))) u1))))) :
    mG X E MX9_empty 0 [.ref 60, .int p0, .int p1] [] w := by
  refine mG_aload_n C dX9_empty_0 rfl rfl ?_
  refine mG_iload_n C dX9_empty_1 rfl rfl ?_
  refine mG_Vi (Z := MX9_isOne) (as := [.int p0]) (rest := []) C dX9_empty_2 lk_1030 zX9_isOne ⟨Nat.le_of_ble_eq_true rfl, Nat.le_of_ble_eq_true rfl⟩ sh60 rfl rfl (Nat.le_of_ble_eq_true rfl) rfl K (fun v1 u1 K => ?_)
  refine mG_if_ne (tgt := 11) C dX9_empty_5 rfl (fun h => ?_) (fun h => ?_)
  · have K := K.1 h
    refine mG_iload_n C dX9_empty_11 rfl rfl ?_
    refine mG_iconst C dX9_empty_12 ic0 ?_
    refine mG_iconst C dX9_empty_13 ic1 ?_
    refine mG_Si (Z := MX9_in) (as := [.int p1, .int (0 : Int32), .int (1 : Int32)]) (rest := []) C dX9_empty_14 lk_956 zX9_in ⟨Nat.le_of_ble_eq_true rfl, Nat.le_of_ble_eq_true rfl⟩ rfl (Nat.le_of_ble_eq_true rfl) rfl K (fun v2 u2 K => ?_)
    refine mG_if_eq (tgt := 30) C dX9_empty_17 rfl (fun h => ?_) (fun h => ?_)
    · have K := K.1 h
      refine mG_bipush C dX9_empty_30 bpm3 ?_
      exact mG_iret C F dX9_empty_32 rfl rfl K
    · have K := K.2 h
      refine mG_aload_n C dX9_empty_20 rfl rfl ?_
      refine mG_iload_n C dX9_empty_21 rfl rfl ?_
      refine mG_iconst C dX9_empty_22 ic2 ?_
      refine mG_iload_n C dX9_empty_23 rfl rfl ?_
      refine mG_Vi (Z := MX9_askOf) (as := [.int p0, .int (2 : Int32), .int p1]) (rest := []) C dX9_empty_24 lk_1159 zX9_askOf ⟨Nat.le_of_ble_eq_true rfl, Nat.le_of_ble_eq_true rfl⟩ sh60 rfl rfl (Nat.le_of_ble_eq_true rfl) rfl K (fun v3 u3 K => ?_)
      refine mG_goto (tgt := 32) C dX9_empty_27 rfl ?_
      exact mG_iret C F dX9_empty_32 rfl rfl K
  · have K := K.2 h
    refine mG_bipush C dX9_empty_8 bpm2 ?_
    exact mG_iret C F dX9_empty_10 rfl rfl K

set_option maxRecDepth 20000 in
set_option maxHeartbeats 4000000 in
theorem vX9_erase_0 {X : mX} {E : mEnv} {Qm : Option Value → mW → Prop} (C : mCtx X E MX9_erase) (F : mFin X E MX9_erase Qm) {w : mW} 
    (K : Qm (some (.int (w.1 60 6))) (mPI w 60 6 (0 : Int32))) :
    mG X E MX9_erase 0 [.ref 60, .retAddr 0] [] w := by
  refine mG_aload_n C dX9_erase_0 rfl rfl ?_
  refine mG_getI C dX9_erase_1 fl_839 sh60 rfl ?_
  refine mG_istore_n (lv' := [.ref 60, .int (w.1 60 6)]) C dX9_erase_4 rfl (by decide) rfl ?_
  refine mG_aload_n C dX9_erase_5 rfl rfl ?_
  refine mG_iconst C dX9_erase_6 ic0 ?_
  refine mG_putI C dX9_erase_7 fp_839 sh60 rfl ?_
  refine mG_iload_n C dX9_erase_10 rfl rfl ?_
  exact mG_iret C F dX9_erase_11 rfl rfl K

set_option maxRecDepth 20000 in
set_option maxHeartbeats 4000000 in
theorem vX9_everybody_0 {X : mX} {E : mEnv} {Qm : Option Value → mW → Prop} (C : mCtx X E MX9_everybody) (F : mFin X E MX9_everybody Qm) {w : mW} 
    (K : Qm (some (.int (((1 : Int32) <<< ((w.1 60 2) &&& 31)) - (1 : Int32)))) w) :
    mG X E MX9_everybody 0 [.ref 60] [] w := by
  refine mG_iconst C dX9_everybody_0 ic1 ?_
  refine mG_aload_n C dX9_everybody_1 rfl rfl ?_
  refine mG_getI C dX9_everybody_2 fl_835 sh60 rfl ?_
  refine mG_ishl C dX9_everybody_5 ?_
  refine mG_iconst C dX9_everybody_6 ic1 ?_
  refine mG_isub C dX9_everybody_7 ?_
  exact mG_iret C F dX9_everybody_8 rfl rfl K

set_option maxRecDepth 20000 in
set_option maxHeartbeats 4000000 in
theorem vX9_fact_0 {X : mX} {E : mEnv} {Qm : Option Value → mW → Prop} (C : mCtx X E MX9_fact) (F : mFin X E MX9_fact Qm) {w : mW}  (p0 : Int32) (p1 : Int32)
    (K : mMi E MX9_isFact [.ref 60, .int p0] w (fun v1 u1 =>
    ((¬ v1 = 0 →
    ((¬ p1 = (2 : Int32) →
    (mMi E MX9_in [.int p1, .int (0 : Int32), .int (1 : Int32)] u1 (fun v2 u2 =>
    ((v2 = 0 →
    (Qm (some (.int (-3 : Int32))) u2)) ∧ (¬ v2 = 0 →
    (vp_in (((3 : Int32) * p0) + p1) 18 ∧
    (Qm (some (.int (u2.1 61 ((((3 : Int32) * p0) + p1).toNatClampNeg)))) u2))))))) ∧ (p1 = (2 : Int32) →
    (Qm (some (.int (((u1.1 66 0) >>> (p0 &&& 31)) &&& (1 : Int32)))) u1)))) ∧ (v1 = 0 →
    (Qm (some (.int (-2 : Int32))) u1))))) :
    mG X E MX9_fact 0 [.ref 60, .int p0, .int p1] [] w := by
  refine mG_aload_n C dX9_fact_0 rfl rfl ?_
  refine mG_iload_n C dX9_fact_1 rfl rfl ?_
  refine mG_Vi (Z := MX9_isFact) (as := [.int p0]) (rest := []) C dX9_fact_2 lk_1022 zX9_isFact ⟨Nat.le_of_ble_eq_true rfl, Nat.le_of_ble_eq_true rfl⟩ sh60 rfl rfl (Nat.le_of_ble_eq_true rfl) rfl K (fun v1 u1 K => ?_)
  refine mG_if_ne (tgt := 11) C dX9_fact_5 rfl (fun h => ?_) (fun h => ?_)
  · have K := K.1 h
    refine mG_iload_n C dX9_fact_11 rfl rfl ?_
    refine mG_iconst C dX9_fact_12 ic2 ?_
    refine mG_icmp_ne (tgt := 29) C dX9_fact_13 rfl (fun h => ?_) (fun h => ?_)
    · have K := K.1 h
      refine mG_iload_n C dX9_fact_29 rfl rfl ?_
      refine mG_iconst C dX9_fact_30 ic0 ?_
      refine mG_iconst C dX9_fact_31 ic1 ?_
      refine mG_Si (Z := MX9_in) (as := [.int p1, .int (0 : Int32), .int (1 : Int32)]) (rest := []) C dX9_fact_32 lk_956 zX9_in ⟨Nat.le_of_ble_eq_true rfl, Nat.le_of_ble_eq_true rfl⟩ rfl (Nat.le_of_ble_eq_true rfl) rfl K (fun v2 u2 K => ?_)
      refine mG_if_eq (tgt := 51) C dX9_fact_35 rfl (fun h => ?_) (fun h => ?_)
      · have K := K.1 h
        refine mG_bipush C dX9_fact_51 bpm3 ?_
        exact mG_iret C F dX9_fact_53 rfl rfl K
      · have K := K.2 h
        refine mG_aload_n C dX9_fact_38 rfl rfl ?_
        refine mG_getR C dX9_fact_39 fl_834 sh60 rfl ?_
        refine mG_iconst C dX9_fact_42 ic3 ?_
        refine mG_iload_n C dX9_fact_43 rfl rfl ?_
        refine mG_imul C dX9_fact_44 ?_
        refine mG_iload_n C dX9_fact_45 rfl rfl ?_
        refine mG_iadd C dX9_fact_46 ?_
        obtain ⟨h1, K⟩ := K
        refine mG_iald C dX9_fact_47 sh61 h1 ?_
        refine mG_goto (tgt := 53) C dX9_fact_48 rfl ?_
        exact mG_iret C F dX9_fact_53 rfl rfl K
    · have K := K.2 h
      refine mG_aload_n C dX9_fact_16 rfl rfl ?_
      refine mG_getR C dX9_fact_17 fl_852 sh60 rfl ?_
      refine mG_iconst C dX9_fact_20 ic0 ?_
      refine mG_ialdv C dX9_fact_21 sh66 (by unfold vp_in; decide) (by first | rfl | simp [mPI, mPL]) ?_
      refine mG_iload_n C dX9_fact_22 rfl rfl ?_
      refine mG_ishr C dX9_fact_23 ?_
      refine mG_iconst C dX9_fact_24 ic1 ?_
      refine mG_iand C dX9_fact_25 ?_
      refine mG_goto (tgt := 53) C dX9_fact_26 rfl ?_
      exact mG_iret C F dX9_fact_53 rfl rfl K
  · have K := K.2 h
    refine mG_bipush C dX9_fact_8 bpm2 ?_
    exact mG_iret C F dX9_fact_10 rfl rfl K

set_option maxRecDepth 20000 in
set_option maxHeartbeats 4000000 in
theorem vX9_fails_0 {X : mX} {E : mEnv} {Qm : Option Value → mW → Prop} (C : mCtx X E MX9_fails) (F : mFin X E MX9_fails Qm) {w : mW} 
    (K : Qm (some (.int (0 : Int32))) (mPI w 60 13 (w.1 60 9))) :
    mG X E MX9_fails 0 [.ref 60] [] w := by
  refine mG_aload_n C dX9_fails_0 rfl rfl ?_
  refine mG_aload_n C dX9_fails_1 rfl rfl ?_
  refine mG_getI C dX9_fails_2 fl_842 sh60 rfl ?_
  refine mG_putI C dX9_fails_5 fp_846 sh60 rfl ?_
  refine mG_iconst C dX9_fails_8 ic0 ?_
  exact mG_iret C F dX9_fails_9 rfl (by decide) K

set_option maxRecDepth 20000 in
set_option maxHeartbeats 4000000 in
theorem vX9_fault_0 {X : mX} {E : mEnv} {Qm : Option Value → mW → Prop} (C : mCtx X E MX9_fault) (F : mFin X E MX9_fault Qm) {w : mW} 
    (K : mMi E MX9_isRead [.ref 60] w (fun v1 u1 =>
    ((v1 = 0 →
    (Qm (some (.int (u1.1 60 13))) u1)) ∧ (¬ v1 = 0 →
    (Qm (some (.int (-1 : Int32))) u1))))) :
    mG X E MX9_fault 0 [.ref 60] [] w := by
  refine mG_aload_n C dX9_fault_0 rfl rfl ?_
  refine mG_Vi (Z := MX9_isRead) (as := []) (rest := []) C dX9_fault_1 lk_967 zX9_isRead ⟨Nat.le_of_ble_eq_true rfl, Nat.le_of_ble_eq_true rfl⟩ sh60 rfl rfl (Nat.le_of_ble_eq_true rfl) rfl K (fun v1 u1 K => ?_)
  refine mG_if_eq (tgt := 11) C dX9_fault_4 rfl (fun h => ?_) (fun h => ?_)
  · have K := K.1 h
    refine mG_aload_n C dX9_fault_11 rfl rfl ?_
    refine mG_getI C dX9_fault_12 fl_846 sh60 rfl ?_
    exact mG_iret C F dX9_fault_15 rfl rfl K
  · have K := K.2 h
    refine mG_iconst C dX9_fault_7 icm1 ?_
    refine mG_goto (tgt := 15) C dX9_fault_8 rfl ?_
    exact mG_iret C F dX9_fault_15 rfl rfl K

set_option maxRecDepth 20000 in
set_option maxHeartbeats 4000000 in
theorem vX9_has_0 {X : mX} {E : mEnv} {Qm : Option Value → mW → Prop} (C : mCtx X E MX9_has) (F : mFin X E MX9_has Qm) {w : mW}  (p0 : Int32) (p1 : Int32)
    (K : (¬ ((p0 >>> (p1 &&& 31)) &&& (1 : Int32)) = (1 : Int32) →
    (Qm (some (.int (0 : Int32))) w)) ∧ (((p0 >>> (p1 &&& 31)) &&& (1 : Int32)) = (1 : Int32) →
    (Qm (some (.int (1 : Int32))) w))) :
    mG X E MX9_has 0 [.int p0, .int p1] [] w := by
  refine mG_iload_n C dX9_has_0 rfl rfl ?_
  refine mG_iload_n C dX9_has_1 rfl rfl ?_
  refine mG_ishr C dX9_has_2 ?_
  refine mG_iconst C dX9_has_3 ic1 ?_
  refine mG_iand C dX9_has_4 ?_
  refine mG_iconst C dX9_has_5 ic1 ?_
  refine mG_icmp_ne (tgt := 13) C dX9_has_6 rfl (fun h => ?_) (fun h => ?_)
  · have K := K.1 h
    refine mG_iconst C dX9_has_13 ic0 ?_
    exact mG_iret C F dX9_has_14 rfl (by decide) K
  · have K := K.2 h
    refine mG_iconst C dX9_has_9 ic1 ?_
    refine mG_goto (tgt := 14) C dX9_has_10 rfl ?_
    exact mG_iret C F dX9_has_14 rfl (by decide) K

set_option maxRecDepth 20000 in
set_option maxHeartbeats 4000000 in
theorem vX9_hearAll_0 {X : mX} {E : mEnv} {Qm : Option Value → mW → Prop} (C : mCtx X E MX9_hearAll) (F : mFin X E MX9_hearAll Qm) {w : mW} {a0 : Nat} (ha0 : mSh[a0]? = some (.inl (0, 32, []))) (p1 : Int32)
    (K : mG X E MX9_hearAll 5 [.ref 60, .ref a0, .int p1, .int (0 : Int32), .int (0 : Int32)] [] w) :
    mG X E MX9_hearAll 0 [.ref 60, .ref a0, .int p1, .retAddr 0, .retAddr 0] [] w := by
  refine mG_iconst C dX9_hearAll_0 ic0 ?_
  refine mG_istore_n (lv' := [.ref 60, .ref a0, .int p1, .int (0 : Int32), .retAddr 0]) C dX9_hearAll_1 rfl (by decide) rfl ?_
  refine mG_iconst C dX9_hearAll_2 ic0 ?_
  refine mG_istore (lv' := [.ref 60, .ref a0, .int p1, .int (0 : Int32), .int (0 : Int32)]) C dX9_hearAll_3 (by decide) rfl ?_
  exact K

set_option maxRecDepth 20000 in
set_option maxHeartbeats 4000000 in
theorem vX9_hearAll_5 {X : mX} {E : mEnv} {Qm : Option Value → mW → Prop} (C : mCtx X E MX9_hearAll) (F : mFin X E MX9_hearAll Qm) {w : mW} {a0 : Nat} (ha0 : mSh[a0]? = some (.inl (0, 32, []))) (x2 : Int32) (x3 : Int32) (x4 : Int32)
    (K : ((w.1 60 2) ≤ x4 →
    (mG X E MX9_hearAll 52 [.ref 60, .ref a0, .int x2, .int x3, .int (0 : Int32)] [] w)) ∧ (¬ (w.1 60 2) ≤ x4 →
    ((¬ x3 = 0 →
    (mG X E MX9_hearAll 5 [.ref 60, .ref a0, .int x2, .int (1 : Int32), .int (x4 + (1 : Int32))] [] w)) ∧ (x3 = 0 →
    (mMi E MX9_has [.int x2, .int x4] w (fun v1 u1 =>
    ((v1 = 0 →
    (mG X E MX9_hearAll 5 [.ref 60, .ref a0, .int x2, .int (0 : Int32), .int (x4 + (1 : Int32))] [] u1)) ∧ (¬ v1 = 0 →
    (mMi E MX9_kindOf [.ref 60, .int x4] u1 (fun v2 u2 =>
    ((¬ v2 = (3 : Int32) →
    (mG X E MX9_hearAll 5 [.ref 60, .ref a0, .int x2, .int (0 : Int32), .int (x4 + (1 : Int32))] [] u2)) ∧ (v2 = (3 : Int32) →
    (mG X E MX9_hearAll 5 [.ref 60, .ref a0, .int x2, .int (1 : Int32), .int (x4 + (1 : Int32))] [] u2))))))))))))) :
    mG X E MX9_hearAll 5 [.ref 60, .ref a0, .int x2, .int x3, .int x4] [] w := by
  refine mG_iload C dX9_hearAll_5 rfl ?_
  refine mG_aload_n C dX9_hearAll_7 rfl rfl ?_
  refine mG_getI C dX9_hearAll_8 fl_835 sh60 rfl ?_
  refine mG_icmp_ge (tgt := 49) C dX9_hearAll_11 rfl (fun h => ?_) (fun h => ?_)
  · have K := K.1 h
    refine mG_iconst C dX9_hearAll_49 ic0 ?_
    refine mG_istore (lv' := [.ref 60, .ref a0, .int x2, .int x3, .int (0 : Int32)]) C dX9_hearAll_50 (by decide) rfl ?_
    exact K
  · have K := K.2 h
    refine mG_iload_n C dX9_hearAll_14 rfl rfl ?_
    refine mG_if_ne (tgt := 37) C dX9_hearAll_15 rfl (fun h => ?_) (fun h => ?_)
    · have K := K.1 h
      refine mG_iconst C dX9_hearAll_37 ic1 ?_
      refine mG_goto (tgt := 42) C dX9_hearAll_38 rfl ?_
      refine mG_istore_n (lv' := [.ref 60, .ref a0, .int x2, .int (1 : Int32), .int x4]) C dX9_hearAll_42 rfl (by decide) rfl ?_
      refine mG_iincc (lv' := [.ref 60, .ref a0, .int x2, .int (1 : Int32), .int (x4 + (1 : Int32))]) C dX9_hearAll_43 rfl ic1 (by decide) rfl ?_
      refine mG_goto (tgt := 5) C dX9_hearAll_46 rfl ?_
      exact K
    · have K := K.2 h
      refine mG_iload_n C dX9_hearAll_18 rfl rfl ?_
      refine mG_iload C dX9_hearAll_19 rfl ?_
      refine mG_Si (Z := MX9_has) (as := [.int x2, .int x4]) (rest := []) C dX9_hearAll_21 lk_1089 zX9_has ⟨Nat.le_of_ble_eq_true rfl, Nat.le_of_ble_eq_true rfl⟩ rfl (Nat.le_of_ble_eq_true rfl) rfl K (fun v1 u1 K => ?_)
      refine mG_if_eq (tgt := 41) C dX9_hearAll_24 rfl (fun h => ?_) (fun h => ?_)
      · have K := K.1 h
        refine mG_iconst C dX9_hearAll_41 ic0 ?_
        refine mG_istore_n (lv' := [.ref 60, .ref a0, .int x2, .int (0 : Int32), .int x4]) C dX9_hearAll_42 rfl (by decide) rfl ?_
        refine mG_iincc (lv' := [.ref 60, .ref a0, .int x2, .int (0 : Int32), .int (x4 + (1 : Int32))]) C dX9_hearAll_43 rfl ic1 (by decide) rfl ?_
        refine mG_goto (tgt := 5) C dX9_hearAll_46 rfl ?_
        exact K
      · have K := K.2 h
        refine mG_aload_n C dX9_hearAll_27 rfl rfl ?_
        refine mG_iload C dX9_hearAll_28 rfl ?_
        refine mG_Vi (Z := MX9_kindOf) (as := [.int x4]) (rest := []) C dX9_hearAll_30 lk_1046 zX9_kindOf ⟨Nat.le_of_ble_eq_true rfl, Nat.le_of_ble_eq_true rfl⟩ sh60 rfl rfl (Nat.le_of_ble_eq_true rfl) rfl K (fun v2 u2 K => ?_)
        refine mG_iconst C dX9_hearAll_33 ic3 ?_
        refine mG_icmp_ne (tgt := 41) C dX9_hearAll_34 rfl (fun h => ?_) (fun h => ?_)
        · have K := K.1 h
          refine mG_iconst C dX9_hearAll_41 ic0 ?_
          refine mG_istore_n (lv' := [.ref 60, .ref a0, .int x2, .int (0 : Int32), .int x4]) C dX9_hearAll_42 rfl (by decide) rfl ?_
          refine mG_iincc (lv' := [.ref 60, .ref a0, .int x2, .int (0 : Int32), .int (x4 + (1 : Int32))]) C dX9_hearAll_43 rfl ic1 (by decide) rfl ?_
          refine mG_goto (tgt := 5) C dX9_hearAll_46 rfl ?_
          exact K
        · have K := K.2 h
          refine mG_iconst C dX9_hearAll_37 ic1 ?_
          refine mG_goto (tgt := 42) C dX9_hearAll_38 rfl ?_
          refine mG_istore_n (lv' := [.ref 60, .ref a0, .int x2, .int (1 : Int32), .int x4]) C dX9_hearAll_42 rfl (by decide) rfl ?_
          refine mG_iincc (lv' := [.ref 60, .ref a0, .int x2, .int (1 : Int32), .int (x4 + (1 : Int32))]) C dX9_hearAll_43 rfl ic1 (by decide) rfl ?_
          refine mG_goto (tgt := 5) C dX9_hearAll_46 rfl ?_
          exact K

set_option maxRecDepth 20000 in
set_option maxHeartbeats 4000000 in
theorem vX9_hearAll_52 {X : mX} {E : mEnv} {Qm : Option Value → mW → Prop} (C : mCtx X E MX9_hearAll) (F : mFin X E MX9_hearAll Qm) {w : mW} {a0 : Nat} (ha0 : mSh[a0]? = some (.inl (0, 32, []))) (x2 : Int32) (x3 : Int32) (x4 : Int32)
    (K : ((w.1 60 2) ≤ x4 →
    (Qm none w)) ∧ (¬ (w.1 60 2) ≤ x4 →
    ((¬ x3 = 0 →
    (mMi E MX9_has [.int x2, .int x4] w (fun v1 u1 =>
    ((v1 = 0 →
    (mMv E MX9_hears [.ref 60, .ref a0, .int x4, .int (1 : Int32)] u1 (fun u2 =>
    (mG X E MX9_hearAll 52 [.ref 60, .ref a0, .int x2, .int x3, .int (x4 + (1 : Int32))] [] u2)))) ∧ (¬ v1 = 0 →
    (mMi E MX9_trusts [.ref 60, .int x4] u1 (fun v2 u3 =>
    ((v2 = 0 →
    (mMv E MX9_hears [.ref 60, .ref a0, .int x4, .int (0 : Int32)] u3 (fun u4 =>
    (mG X E MX9_hearAll 52 [.ref 60, .ref a0, .int x2, .int x3, .int (x4 + (1 : Int32))] [] u4)))) ∧ (¬ v2 = 0 →
    (mMv E MX9_hears [.ref 60, .ref a0, .int x4, .int (1 : Int32)] u3 (fun u5 =>
    (mG X E MX9_hearAll 52 [.ref 60, .ref a0, .int x2, .int x3, .int (x4 + (1 : Int32))] [] u5)))))))))))) ∧ (x3 = 0 →
    (mMi E MX9_has [.int x2, .int x4] w (fun v3 u6 =>
    ((v3 = 0 →
    (mG X E MX9_hearAll 52 [.ref 60, .ref a0, .int x2, .int x3, .int (x4 + (1 : Int32))] [] u6)) ∧ (¬ v3 = 0 →
    (mMi E MX9_has [.int x2, .int x4] u6 (fun v4 u7 =>
    ((v4 = 0 →
    (mMv E MX9_hears [.ref 60, .ref a0, .int x4, .int (1 : Int32)] u7 (fun u8 =>
    (mG X E MX9_hearAll 52 [.ref 60, .ref a0, .int x2, .int x3, .int (x4 + (1 : Int32))] [] u8)))) ∧ (¬ v4 = 0 →
    (mMi E MX9_trusts [.ref 60, .int x4] u7 (fun v5 u9 =>
    ((v5 = 0 →
    (mMv E MX9_hears [.ref 60, .ref a0, .int x4, .int (0 : Int32)] u9 (fun u10 =>
    (mG X E MX9_hearAll 52 [.ref 60, .ref a0, .int x2, .int x3, .int (x4 + (1 : Int32))] [] u10)))) ∧ (¬ v5 = 0 →
    (mMv E MX9_hears [.ref 60, .ref a0, .int x4, .int (1 : Int32)] u9 (fun u11 =>
    (mG X E MX9_hearAll 52 [.ref 60, .ref a0, .int x2, .int x3, .int (x4 + (1 : Int32))] [] u11))))))))))))))))))) :
    mG X E MX9_hearAll 52 [.ref 60, .ref a0, .int x2, .int x3, .int x4] [] w := by
  refine mG_iload C dX9_hearAll_52 rfl ?_
  refine mG_aload_n C dX9_hearAll_54 rfl rfl ?_
  refine mG_getI C dX9_hearAll_55 fl_835 sh60 rfl ?_
  refine mG_icmp_ge (tgt := 110) C dX9_hearAll_58 rfl (fun h => ?_) (fun h => ?_)
  · have K := K.1 h
    exact mG_vret C F dX9_hearAll_110 rfl K
  · have K := K.2 h
    refine mG_iload_n C dX9_hearAll_61 rfl rfl ?_
    refine mG_if_ne (tgt := 74) C dX9_hearAll_62 rfl (fun h => ?_) (fun h => ?_)
    · have K := K.1 h
      refine mG_aload_n C dX9_hearAll_74 rfl rfl ?_
      refine mG_aload_n C dX9_hearAll_75 rfl rfl ?_
      refine mG_iload C dX9_hearAll_76 rfl ?_
      refine mG_iload_n C dX9_hearAll_78 rfl rfl ?_
      refine mG_iload C dX9_hearAll_79 rfl ?_
      refine mG_Si (Z := MX9_has) (as := [.int x2, .int x4]) (rest := [.int x4, .ref a0, .ref 60]) C dX9_hearAll_81 lk_1089 zX9_has ⟨Nat.le_of_ble_eq_true rfl, Nat.le_of_ble_eq_true rfl⟩ rfl (Nat.le_of_ble_eq_true rfl) rfl K (fun v1 u1 K => ?_)
      refine mG_if_eq (tgt := 96) C dX9_hearAll_84 rfl (fun h => ?_) (fun h => ?_)
      · have K := K.1 h
        refine mG_iconst C dX9_hearAll_96 ic1 ?_
        refine mG_goto (tgt := 101) C dX9_hearAll_97 rfl ?_
        refine mG_Vv (Z := MX9_hears) (as := [.ref a0, .int x4, .int (1 : Int32)]) (rest := []) C dX9_hearAll_101 lk_1092 zX9_hears ⟨Nat.le_of_ble_eq_true rfl, Nat.le_of_ble_eq_true rfl⟩ sh60 rfl rfl (Nat.le_of_ble_eq_true rfl) rfl K (fun u2 K => ?_)
        refine mG_iincc (lv' := [.ref 60, .ref a0, .int x2, .int x3, .int (x4 + (1 : Int32))]) C dX9_hearAll_104 rfl ic1 (by decide) rfl ?_
        refine mG_goto (tgt := 52) C dX9_hearAll_107 rfl ?_
        exact K
      · have K := K.2 h
        refine mG_aload_n C dX9_hearAll_87 rfl rfl ?_
        refine mG_iload C dX9_hearAll_88 rfl ?_
        refine mG_Vi (Z := MX9_trusts) (as := [.int x4]) (rest := [.int x4, .ref a0, .ref 60]) C dX9_hearAll_90 lk_1050 zX9_trusts ⟨Nat.le_of_ble_eq_true rfl, Nat.le_of_ble_eq_true rfl⟩ sh60 rfl rfl (Nat.le_of_ble_eq_true rfl) rfl K (fun v2 u3 K => ?_)
        refine mG_if_eq (tgt := 100) C dX9_hearAll_93 rfl (fun h => ?_) (fun h => ?_)
        · have K := K.1 h
          refine mG_iconst C dX9_hearAll_100 ic0 ?_
          refine mG_Vv (Z := MX9_hears) (as := [.ref a0, .int x4, .int (0 : Int32)]) (rest := []) C dX9_hearAll_101 lk_1092 zX9_hears ⟨Nat.le_of_ble_eq_true rfl, Nat.le_of_ble_eq_true rfl⟩ sh60 rfl rfl (Nat.le_of_ble_eq_true rfl) rfl K (fun u4 K => ?_)
          refine mG_iincc (lv' := [.ref 60, .ref a0, .int x2, .int x3, .int (x4 + (1 : Int32))]) C dX9_hearAll_104 rfl ic1 (by decide) rfl ?_
          refine mG_goto (tgt := 52) C dX9_hearAll_107 rfl ?_
          exact K
        · have K := K.2 h
          refine mG_iconst C dX9_hearAll_96 ic1 ?_
          refine mG_goto (tgt := 101) C dX9_hearAll_97 rfl ?_
          refine mG_Vv (Z := MX9_hears) (as := [.ref a0, .int x4, .int (1 : Int32)]) (rest := []) C dX9_hearAll_101 lk_1092 zX9_hears ⟨Nat.le_of_ble_eq_true rfl, Nat.le_of_ble_eq_true rfl⟩ sh60 rfl rfl (Nat.le_of_ble_eq_true rfl) rfl K (fun u5 K => ?_)
          refine mG_iincc (lv' := [.ref 60, .ref a0, .int x2, .int x3, .int (x4 + (1 : Int32))]) C dX9_hearAll_104 rfl ic1 (by decide) rfl ?_
          refine mG_goto (tgt := 52) C dX9_hearAll_107 rfl ?_
          exact K
    · have K := K.2 h
      refine mG_iload_n C dX9_hearAll_65 rfl rfl ?_
      refine mG_iload C dX9_hearAll_66 rfl ?_
      refine mG_Si (Z := MX9_has) (as := [.int x2, .int x4]) (rest := []) C dX9_hearAll_68 lk_1089 zX9_has ⟨Nat.le_of_ble_eq_true rfl, Nat.le_of_ble_eq_true rfl⟩ rfl (Nat.le_of_ble_eq_true rfl) rfl K (fun v3 u6 K => ?_)
      refine mG_if_eq (tgt := 104) C dX9_hearAll_71 rfl (fun h => ?_) (fun h => ?_)
      · have K := K.1 h
        refine mG_iincc (lv' := [.ref 60, .ref a0, .int x2, .int x3, .int (x4 + (1 : Int32))]) C dX9_hearAll_104 rfl ic1 (by decide) rfl ?_
        refine mG_goto (tgt := 52) C dX9_hearAll_107 rfl ?_
        exact K
      · have K := K.2 h
        refine mG_aload_n C dX9_hearAll_74 rfl rfl ?_
        refine mG_aload_n C dX9_hearAll_75 rfl rfl ?_
        refine mG_iload C dX9_hearAll_76 rfl ?_
        refine mG_iload_n C dX9_hearAll_78 rfl rfl ?_
        refine mG_iload C dX9_hearAll_79 rfl ?_
        refine mG_Si (Z := MX9_has) (as := [.int x2, .int x4]) (rest := [.int x4, .ref a0, .ref 60]) C dX9_hearAll_81 lk_1089 zX9_has ⟨Nat.le_of_ble_eq_true rfl, Nat.le_of_ble_eq_true rfl⟩ rfl (Nat.le_of_ble_eq_true rfl) rfl K (fun v4 u7 K => ?_)
        refine mG_if_eq (tgt := 96) C dX9_hearAll_84 rfl (fun h => ?_) (fun h => ?_)
        · have K := K.1 h
          refine mG_iconst C dX9_hearAll_96 ic1 ?_
          refine mG_goto (tgt := 101) C dX9_hearAll_97 rfl ?_
          refine mG_Vv (Z := MX9_hears) (as := [.ref a0, .int x4, .int (1 : Int32)]) (rest := []) C dX9_hearAll_101 lk_1092 zX9_hears ⟨Nat.le_of_ble_eq_true rfl, Nat.le_of_ble_eq_true rfl⟩ sh60 rfl rfl (Nat.le_of_ble_eq_true rfl) rfl K (fun u8 K => ?_)
          refine mG_iincc (lv' := [.ref 60, .ref a0, .int x2, .int x3, .int (x4 + (1 : Int32))]) C dX9_hearAll_104 rfl ic1 (by decide) rfl ?_
          refine mG_goto (tgt := 52) C dX9_hearAll_107 rfl ?_
          exact K
        · have K := K.2 h
          refine mG_aload_n C dX9_hearAll_87 rfl rfl ?_
          refine mG_iload C dX9_hearAll_88 rfl ?_
          refine mG_Vi (Z := MX9_trusts) (as := [.int x4]) (rest := [.int x4, .ref a0, .ref 60]) C dX9_hearAll_90 lk_1050 zX9_trusts ⟨Nat.le_of_ble_eq_true rfl, Nat.le_of_ble_eq_true rfl⟩ sh60 rfl rfl (Nat.le_of_ble_eq_true rfl) rfl K (fun v5 u9 K => ?_)
          refine mG_if_eq (tgt := 100) C dX9_hearAll_93 rfl (fun h => ?_) (fun h => ?_)
          · have K := K.1 h
            refine mG_iconst C dX9_hearAll_100 ic0 ?_
            refine mG_Vv (Z := MX9_hears) (as := [.ref a0, .int x4, .int (0 : Int32)]) (rest := []) C dX9_hearAll_101 lk_1092 zX9_hears ⟨Nat.le_of_ble_eq_true rfl, Nat.le_of_ble_eq_true rfl⟩ sh60 rfl rfl (Nat.le_of_ble_eq_true rfl) rfl K (fun u10 K => ?_)
            refine mG_iincc (lv' := [.ref 60, .ref a0, .int x2, .int x3, .int (x4 + (1 : Int32))]) C dX9_hearAll_104 rfl ic1 (by decide) rfl ?_
            refine mG_goto (tgt := 52) C dX9_hearAll_107 rfl ?_
            exact K
          · have K := K.2 h
            refine mG_iconst C dX9_hearAll_96 ic1 ?_
            refine mG_goto (tgt := 101) C dX9_hearAll_97 rfl ?_
            refine mG_Vv (Z := MX9_hears) (as := [.ref a0, .int x4, .int (1 : Int32)]) (rest := []) C dX9_hearAll_101 lk_1092 zX9_hears ⟨Nat.le_of_ble_eq_true rfl, Nat.le_of_ble_eq_true rfl⟩ sh60 rfl rfl (Nat.le_of_ble_eq_true rfl) rfl K (fun u11 K => ?_)
            refine mG_iincc (lv' := [.ref 60, .ref a0, .int x2, .int x3, .int (x4 + (1 : Int32))]) C dX9_hearAll_104 rfl ic1 (by decide) rfl ?_
            refine mG_goto (tgt := 52) C dX9_hearAll_107 rfl ?_
            exact K

set_option maxRecDepth 20000 in
set_option maxHeartbeats 4000000 in
theorem vX9_in_0 {X : mX} {E : mEnv} {Qm : Option Value → mW → Prop} (C : mCtx X E MX9_in) (F : mFin X E MX9_in Qm) {w : mW}  (p0 : Int32) (p1 : Int32) (p2 : Int32)
    (K : (p0 < p1 →
    (Qm (some (.int (0 : Int32))) w)) ∧ (¬ p0 < p1 →
    ((p2 < p0 →
    (Qm (some (.int (0 : Int32))) w)) ∧ (¬ p2 < p0 →
    (Qm (some (.int (1 : Int32))) w))))) :
    mG X E MX9_in 0 [.int p0, .int p1, .int p2] [] w := by
  refine mG_iload_n C dX9_in_0 rfl rfl ?_
  refine mG_iload_n C dX9_in_1 rfl rfl ?_
  refine mG_icmp_lt (tgt := 14) C dX9_in_2 rfl (fun h => ?_) (fun h => ?_)
  · have K := K.1 h
    refine mG_iconst C dX9_in_14 ic0 ?_
    exact mG_iret C F dX9_in_15 rfl (by decide) K
  · have K := K.2 h
    refine mG_iload_n C dX9_in_5 rfl rfl ?_
    refine mG_iload_n C dX9_in_6 rfl rfl ?_
    refine mG_icmp_gt (tgt := 14) C dX9_in_7 rfl (fun h => ?_) (fun h => ?_)
    · have K := K.1 h
      refine mG_iconst C dX9_in_14 ic0 ?_
      exact mG_iret C F dX9_in_15 rfl (by decide) K
    · have K := K.2 h
      refine mG_iconst C dX9_in_10 ic1 ?_
      refine mG_goto (tgt := 15) C dX9_in_11 rfl ?_
      exact mG_iret C F dX9_in_15 rfl (by decide) K

set_option maxRecDepth 20000 in
set_option maxHeartbeats 4000000 in
theorem vX9_isDeed_0 {X : mX} {E : mEnv} {Qm : Option Value → mW → Prop} (C : mCtx X E MX9_isDeed) (F : mFin X E MX9_isDeed Qm) {w : mW}  (p0 : Int32)
    (K : mMi E MX9_isNumber [.ref 60, .int (p0 + (1 : Int32)), .int ((w.1 60 15) - (1 : Int32))] w (fun v1 u1 =>
    ((v1 = 0 →
    (Qm (some (.int (0 : Int32))) u1)) ∧ (¬ v1 = 0 →
    (mMi E MX9_isNumber [.ref 60, .int (p0 + (2 : Int32)), .int (1 : Int32)] u1 (fun v2 u2 =>
    ((v2 = 0 →
    (Qm (some (.int (0 : Int32))) u2)) ∧ (¬ v2 = 0 →
    (mMi E MX9_isNumber [.ref 60, .int (p0 + (3 : Int32)), .int ((u2.1 60 15) - (1 : Int32))] u2 (fun v3 u3 =>
    ((v3 = 0 →
    (Qm (some (.int (0 : Int32))) u3)) ∧ (¬ v3 = 0 →
    (mMi E MX9_isNumber [.ref 60, .int (p0 + (4 : Int32)), .int (1 : Int32)] u3 (fun v4 u4 =>
    ((v4 = 0 →
    (Qm (some (.int (0 : Int32))) u4)) ∧ (¬ v4 = 0 →
    (Qm (some (.int (1 : Int32))) u4))))))))))))))))) :
    mG X E MX9_isDeed 0 [.ref 60, .int p0] [] w := by
  refine mG_aload_n C dX9_isDeed_0 rfl rfl ?_
  refine mG_iload_n C dX9_isDeed_1 rfl rfl ?_
  refine mG_iconst C dX9_isDeed_2 ic1 ?_
  refine mG_iadd C dX9_isDeed_3 ?_
  refine mG_aload_n C dX9_isDeed_4 rfl rfl ?_
  refine mG_getI C dX9_isDeed_5 fl_848 sh60 rfl ?_
  refine mG_iconst C dX9_isDeed_8 ic1 ?_
  refine mG_isub C dX9_isDeed_9 ?_
  refine mG_Vi (Z := MX9_isNumber) (as := [.int (p0 + (1 : Int32)), .int ((w.1 60 15) - (1 : Int32))]) (rest := []) C dX9_isDeed_10 lk_1002 zX9_isNumber ⟨Nat.le_of_ble_eq_true rfl, Nat.le_of_ble_eq_true rfl⟩ sh60 rfl rfl (Nat.le_of_ble_eq_true rfl) rfl K (fun v1 u1 K => ?_)
  refine mG_if_eq (tgt := 58) C dX9_isDeed_13 rfl (fun h => ?_) (fun h => ?_)
  · have K := K.1 h
    refine mG_iconst C dX9_isDeed_58 ic0 ?_
    exact mG_iret C F dX9_isDeed_59 rfl (by decide) K
  · have K := K.2 h
    refine mG_aload_n C dX9_isDeed_16 rfl rfl ?_
    refine mG_iload_n C dX9_isDeed_17 rfl rfl ?_
    refine mG_iconst C dX9_isDeed_18 ic2 ?_
    refine mG_iadd C dX9_isDeed_19 ?_
    refine mG_iconst C dX9_isDeed_20 ic1 ?_
    refine mG_Vi (Z := MX9_isNumber) (as := [.int (p0 + (2 : Int32)), .int (1 : Int32)]) (rest := []) C dX9_isDeed_21 lk_1002 zX9_isNumber ⟨Nat.le_of_ble_eq_true rfl, Nat.le_of_ble_eq_true rfl⟩ sh60 rfl rfl (Nat.le_of_ble_eq_true rfl) rfl K (fun v2 u2 K => ?_)
    refine mG_if_eq (tgt := 58) C dX9_isDeed_24 rfl (fun h => ?_) (fun h => ?_)
    · have K := K.1 h
      refine mG_iconst C dX9_isDeed_58 ic0 ?_
      exact mG_iret C F dX9_isDeed_59 rfl (by decide) K
    · have K := K.2 h
      refine mG_aload_n C dX9_isDeed_27 rfl rfl ?_
      refine mG_iload_n C dX9_isDeed_28 rfl rfl ?_
      refine mG_iconst C dX9_isDeed_29 ic3 ?_
      refine mG_iadd C dX9_isDeed_30 ?_
      refine mG_aload_n C dX9_isDeed_31 rfl rfl ?_
      refine mG_getI C dX9_isDeed_32 fl_848 sh60 rfl ?_
      refine mG_iconst C dX9_isDeed_35 ic1 ?_
      refine mG_isub C dX9_isDeed_36 ?_
      refine mG_Vi (Z := MX9_isNumber) (as := [.int (p0 + (3 : Int32)), .int ((u2.1 60 15) - (1 : Int32))]) (rest := []) C dX9_isDeed_37 lk_1002 zX9_isNumber ⟨Nat.le_of_ble_eq_true rfl, Nat.le_of_ble_eq_true rfl⟩ sh60 rfl rfl (Nat.le_of_ble_eq_true rfl) rfl K (fun v3 u3 K => ?_)
      refine mG_if_eq (tgt := 58) C dX9_isDeed_40 rfl (fun h => ?_) (fun h => ?_)
      · have K := K.1 h
        refine mG_iconst C dX9_isDeed_58 ic0 ?_
        exact mG_iret C F dX9_isDeed_59 rfl (by decide) K
      · have K := K.2 h
        refine mG_aload_n C dX9_isDeed_43 rfl rfl ?_
        refine mG_iload_n C dX9_isDeed_44 rfl rfl ?_
        refine mG_iconst C dX9_isDeed_45 ic4 ?_
        refine mG_iadd C dX9_isDeed_46 ?_
        refine mG_iconst C dX9_isDeed_47 ic1 ?_
        refine mG_Vi (Z := MX9_isNumber) (as := [.int (p0 + (4 : Int32)), .int (1 : Int32)]) (rest := []) C dX9_isDeed_48 lk_1002 zX9_isNumber ⟨Nat.le_of_ble_eq_true rfl, Nat.le_of_ble_eq_true rfl⟩ sh60 rfl rfl (Nat.le_of_ble_eq_true rfl) rfl K (fun v4 u4 K => ?_)
        refine mG_if_eq (tgt := 58) C dX9_isDeed_51 rfl (fun h => ?_) (fun h => ?_)
        · have K := K.1 h
          refine mG_iconst C dX9_isDeed_58 ic0 ?_
          exact mG_iret C F dX9_isDeed_59 rfl (by decide) K
        · have K := K.2 h
          refine mG_iconst C dX9_isDeed_54 ic1 ?_
          refine mG_goto (tgt := 59) C dX9_isDeed_55 rfl ?_
          exact mG_iret C F dX9_isDeed_59 rfl (by decide) K

set_option maxRecDepth 20000 in
set_option maxHeartbeats 4000000 in
theorem vX9_isFact_0 {X : mX} {E : mEnv} {Qm : Option Value → mW → Prop} (C : mCtx X E MX9_isFact) (F : mFin X E MX9_isFact Qm) {w : mW}  (p0 : Int32)
    (K : mMi E MX9_in [.int p0, .int (0 : Int32), .int ((w.1 60 0) - (1 : Int32))] w (fun v1 u1 =>
    (narrow .boolean (.int v1) = .int v1 ∧ Qm (some (.int v1)) u1))) :
    mG X E MX9_isFact 0 [.ref 60, .int p0] [] w := by
  refine mG_iload_n C dX9_isFact_0 rfl rfl ?_
  refine mG_iconst C dX9_isFact_1 ic0 ?_
  refine mG_aload_n C dX9_isFact_2 rfl rfl ?_
  refine mG_getI C dX9_isFact_3 fl_833 sh60 rfl ?_
  refine mG_iconst C dX9_isFact_6 ic1 ?_
  refine mG_isub C dX9_isFact_7 ?_
  refine mG_Si (Z := MX9_in) (as := [.int p0, .int (0 : Int32), .int ((w.1 60 0) - (1 : Int32))]) (rest := []) C dX9_isFact_8 lk_956 zX9_in ⟨Nat.le_of_ble_eq_true rfl, Nat.le_of_ble_eq_true rfl⟩ rfl (Nat.le_of_ble_eq_true rfl) rfl K (fun v1 u1 K => ?_)
  exact mG_iret C F dX9_isFact_11 rfl K.1 K.2

set_option maxRecDepth 20000 in
set_option maxHeartbeats 4000000 in
theorem vX9_isLine_0 {X : mX} {E : mEnv} {Qm : Option Value → mW → Prop} (C : mCtx X E MX9_isLine) (F : mFin X E MX9_isLine Qm) {w : mW}  (p0 : Int32)
    (K : mMv E MX9_nextToken [.ref 60] w (fun u1 =>
    (mMi E MX9_sortOf [.ref 60] u1 (fun v1 u2 =>
    (vp_in p0 84 ∧
    (∀ w1 : mW, w1 = (mPI u2 65 p0.toNatClampNeg v1) →
    ((¬ v1 = (-1 : Int32) →
    (((2 : Int32) ≤ v1 →
    (((6 : Int32) ≤ v1 →
    ((¬ v1 = (6 : Int32) →
    ((¬ v1 = (7 : Int32) →
    ((¬ v1 = (7 : Int32) →
    (Qm (some (.int (1 : Int32))) (mPI (mPI (mPI w1 60 15 (w1.1 60 15)) 60 16 (w1.1 60 16)) 60 17 (0 : Int32)))) ∧ (v1 = (7 : Int32) →
    (Qm (some (.int (1 : Int32))) (mPI (mPI (mPI w1 60 15 (w1.1 60 15)) 60 16 (0 : Int32)) 60 17 (0 : Int32)))))) ∧ (v1 = (7 : Int32) →
    ((¬ v1 = (7 : Int32) →
    (Qm (some (.int (1 : Int32))) (mPI (mPI (mPI w1 60 15 (0 : Int32)) 60 16 (w1.1 60 16)) 60 17 (0 : Int32)))) ∧ (v1 = (7 : Int32) →
    (Qm (some (.int (1 : Int32))) (mPI (mPI (mPI w1 60 15 (0 : Int32)) 60 16 (0 : Int32)) 60 17 (0 : Int32)))))))) ∧ (v1 = (6 : Int32) →
    ((((w1.1 60 17) + (1 : Int32)) ≤ (6 : Int32) →
    (mMi E MX9_isDeed [.ref 60, .int p0] (mPI w1 60 17 ((w1.1 60 17) + (1 : Int32))) (fun v2 u3 =>
    (narrow .boolean (.int v2) = .int v2 ∧ Qm (some (.int v2)) u3)))) ∧ (¬ ((w1.1 60 17) + (1 : Int32)) ≤ (6 : Int32) →
    (mMi E MX9_fails [.ref 60] (mPI w1 60 17 ((w1.1 60 17) + (1 : Int32))) (fun v3 u4 =>
    (narrow .boolean (.int v3) = .int v3 ∧ Qm (some (.int v3)) u4)))))))) ∧ (¬ (6 : Int32) ≤ v1 →
    (vp_in (p0 + (5 : Int32)) 84 ∧
    (∀ w2 : mW, w2 = (mPI (mPI w1 60 16 ((w1.1 60 16) + (1 : Int32))) 65 (p0 + (5 : Int32)).toNatClampNeg (0 : Int32)) →
    (((w2.1 60 16) ≤ (5 : Int32) →
    (mMi E MX9_isDeed [.ref 60, .int p0] w2 (fun v4 u5 =>
    ((v4 = 0 →
    (Qm (some (.int (0 : Int32))) u5)) ∧ (¬ v4 = 0 →
    ((¬ v1 = (4 : Int32) →
    (Qm (some (.int (1 : Int32))) u5)) ∧ (v1 = (4 : Int32) →
    (mMi E MX9_isNumber [.ref 60, .int (p0 + (5 : Int32)), .int (3 : Int32)] u5 (fun v5 u6 =>
    ((v5 = 0 →
    (Qm (some (.int (0 : Int32))) u6)) ∧ (¬ v5 = 0 →
    (Qm (some (.int (1 : Int32))) u6)))))))))))) ∧ (¬ (w2.1 60 16) ≤ (5 : Int32) →
    (mMi E MX9_fails [.ref 60] w2 (fun v6 u7 =>
    (narrow .boolean (.int v6) = .int v6 ∧ Qm (some (.int v6)) u7)))))))))) ∧ (¬ (2 : Int32) ≤ v1 →
    ((((w1.1 60 15) + (1 : Int32)) ≤ (6 : Int32) →
    (mMi E MX9_isNumber [.ref 60, .int (p0 + (1 : Int32)), .int (40 : Int32)] (mPI w1 60 15 ((w1.1 60 15) + (1 : Int32))) (fun v7 u8 =>
    ((v7 = 0 →
    (Qm (some (.int (0 : Int32))) u8)) ∧ (¬ v7 = 0 →
    (mMi E MX9_isNumber [.ref 60, .int (p0 + (2 : Int32)), .int (1 : Int32)] u8 (fun v8 u9 =>
    ((v8 = 0 →
    (Qm (some (.int (0 : Int32))) u9)) ∧ (¬ v8 = 0 →
    (Qm (some (.int (1 : Int32))) u9)))))))))) ∧ (¬ ((w1.1 60 15) + (1 : Int32)) ≤ (6 : Int32) →
    (mMi E MX9_fails [.ref 60] (mPI w1 60 15 ((w1.1 60 15) + (1 : Int32))) (fun v9 u10 =>
    (narrow .boolean (.int v9) = .int v9 ∧ Qm (some (.int v9)) u10)))))))) ∧ (v1 = (-1 : Int32) →
    (mMi E MX9_fails [.ref 60] w1 (fun v10 u11 =>
    (narrow .boolean (.int v10) = .int v10 ∧ Qm (some (.int v10)) u11))))))))))) :
    mG X E MX9_isLine 0 [.ref 60, .int p0, .retAddr 0] [] w := by
  refine mG_aload_n C dX9_isLine_0 rfl rfl ?_
  refine mG_Vv (Z := MX9_nextToken) (as := []) (rest := []) C dX9_isLine_1 lk_975 zX9_nextToken ⟨Nat.le_of_ble_eq_true rfl, Nat.le_of_ble_eq_true rfl⟩ sh60 rfl rfl (Nat.le_of_ble_eq_true rfl) rfl K (fun u1 K => ?_)
  refine mG_aload_n C dX9_isLine_4 rfl rfl ?_
  refine mG_Vi (Z := MX9_sortOf) (as := []) (rest := []) C dX9_isLine_5 lk_985 zX9_sortOf ⟨Nat.le_of_ble_eq_true rfl, Nat.le_of_ble_eq_true rfl⟩ sh60 rfl rfl (Nat.le_of_ble_eq_true rfl) rfl K (fun v1 u2 K => ?_)
  refine mG_istore_n (lv' := [.ref 60, .int p0, .int v1]) C dX9_isLine_8 rfl (by decide) rfl ?_
  refine mG_aload_n C dX9_isLine_9 rfl rfl ?_
  refine mG_getR C dX9_isLine_10 fl_851 sh60 rfl ?_
  refine mG_iload_n C dX9_isLine_13 rfl rfl ?_
  refine mG_iload_n C dX9_isLine_14 rfl rfl ?_
  obtain ⟨h1, K⟩ := K
  refine mG_iast C dX9_isLine_15 sh65 h1 ?_
  refine mG_nm (fun w1 ew1 => ?_)
  have K := K w1 ew1
  refine mG_iload_n C dX9_isLine_16 rfl rfl ?_
  refine mG_iconst C dX9_isLine_17 icm1 ?_
  refine mG_icmp_ne (tgt := 26) C dX9_isLine_18 rfl (fun h => ?_) (fun h => ?_)
  · have K := K.1 h
    refine mG_iload_n C dX9_isLine_26 rfl rfl ?_
    refine mG_iconst C dX9_isLine_27 ic2 ?_
    refine mG_icmp_ge (tgt := 86) C dX9_isLine_28 rfl (fun h => ?_) (fun h => ?_)
    · have K := K.1 h
      refine mG_iload_n C dX9_isLine_86 rfl rfl ?_
      refine mG_bipush C dX9_isLine_87 bp6 ?_
      refine mG_icmp_ge (tgt := 156) C dX9_isLine_89 rfl (fun h => ?_) (fun h => ?_)
      · have K := K.1 h
        refine mG_iload_n C dX9_isLine_156 rfl rfl ?_
        refine mG_bipush C dX9_isLine_157 bp6 ?_
        refine mG_icmp_ne (tgt := 194) C dX9_isLine_159 rfl (fun h => ?_) (fun h => ?_)
        · have K := K.1 h
          refine mG_aload_n C dX9_isLine_194 rfl rfl ?_
          refine mG_iload_n C dX9_isLine_195 rfl rfl ?_
          refine mG_bipush C dX9_isLine_196 bp7 ?_
          refine mG_icmp_ne (tgt := 205) C dX9_isLine_198 rfl (fun h => ?_) (fun h => ?_)
          · have K := K.1 h
            refine mG_aload_n C dX9_isLine_205 rfl rfl ?_
            refine mG_getI C dX9_isLine_206 fl_848 sh60 rfl ?_
            refine mG_putI C dX9_isLine_209 fp_848 sh60 rfl ?_
            refine mG_aload_n C dX9_isLine_212 rfl rfl ?_
            refine mG_iload_n C dX9_isLine_213 rfl rfl ?_
            refine mG_bipush C dX9_isLine_214 bp7 ?_
            refine mG_icmp_ne (tgt := 223) C dX9_isLine_216 rfl (fun h => ?_) (fun h => ?_)
            · have K := K.1 h
              refine mG_aload_n C dX9_isLine_223 rfl rfl ?_
              refine mG_getIv C dX9_isLine_224 fl_849 sh60 rfl (by first | rfl | simp [mPI, mPL]) ?_
              refine mG_putI C dX9_isLine_227 fp_849 sh60 rfl ?_
              refine mG_aload_n C dX9_isLine_230 rfl rfl ?_
              refine mG_iconst C dX9_isLine_231 ic0 ?_
              refine mG_putI C dX9_isLine_232 fp_850 sh60 rfl ?_
              refine mG_iconst C dX9_isLine_235 ic1 ?_
              exact mG_iret C F dX9_isLine_236 rfl (by decide) K
            · have K := K.2 h
              refine mG_iconst C dX9_isLine_219 ic0 ?_
              refine mG_goto (tgt := 227) C dX9_isLine_220 rfl ?_
              refine mG_putI C dX9_isLine_227 fp_849 sh60 rfl ?_
              refine mG_aload_n C dX9_isLine_230 rfl rfl ?_
              refine mG_iconst C dX9_isLine_231 ic0 ?_
              refine mG_putI C dX9_isLine_232 fp_850 sh60 rfl ?_
              refine mG_iconst C dX9_isLine_235 ic1 ?_
              exact mG_iret C F dX9_isLine_236 rfl (by decide) K
          · have K := K.2 h
            refine mG_iconst C dX9_isLine_201 ic0 ?_
            refine mG_goto (tgt := 209) C dX9_isLine_202 rfl ?_
            refine mG_putI C dX9_isLine_209 fp_848 sh60 rfl ?_
            refine mG_aload_n C dX9_isLine_212 rfl rfl ?_
            refine mG_iload_n C dX9_isLine_213 rfl rfl ?_
            refine mG_bipush C dX9_isLine_214 bp7 ?_
            refine mG_icmp_ne (tgt := 223) C dX9_isLine_216 rfl (fun h => ?_) (fun h => ?_)
            · have K := K.1 h
              refine mG_aload_n C dX9_isLine_223 rfl rfl ?_
              refine mG_getIv C dX9_isLine_224 fl_849 sh60 rfl (by first | rfl | simp [mPI, mPL]) ?_
              refine mG_putI C dX9_isLine_227 fp_849 sh60 rfl ?_
              refine mG_aload_n C dX9_isLine_230 rfl rfl ?_
              refine mG_iconst C dX9_isLine_231 ic0 ?_
              refine mG_putI C dX9_isLine_232 fp_850 sh60 rfl ?_
              refine mG_iconst C dX9_isLine_235 ic1 ?_
              exact mG_iret C F dX9_isLine_236 rfl (by decide) K
            · have K := K.2 h
              refine mG_iconst C dX9_isLine_219 ic0 ?_
              refine mG_goto (tgt := 227) C dX9_isLine_220 rfl ?_
              refine mG_putI C dX9_isLine_227 fp_849 sh60 rfl ?_
              refine mG_aload_n C dX9_isLine_230 rfl rfl ?_
              refine mG_iconst C dX9_isLine_231 ic0 ?_
              refine mG_putI C dX9_isLine_232 fp_850 sh60 rfl ?_
              refine mG_iconst C dX9_isLine_235 ic1 ?_
              exact mG_iret C F dX9_isLine_236 rfl (by decide) K
        · have K := K.2 h
          refine mG_aload_n C dX9_isLine_162 rfl rfl ?_
          refine mG_dup C dX9_isLine_163 rfl ?_
          refine mG_getI C dX9_isLine_164 fl_850 sh60 rfl ?_
          refine mG_iconst C dX9_isLine_167 ic1 ?_
          refine mG_iadd C dX9_isLine_168 ?_
          refine mG_putI C dX9_isLine_169 fp_850 sh60 rfl ?_
          refine mG_aload_n C dX9_isLine_172 rfl rfl ?_
          refine mG_getIv C dX9_isLine_173 fl_850 sh60 rfl (by first | rfl | simp [mPI, mPL]) ?_
          refine mG_bipush C dX9_isLine_176 bp6 ?_
          refine mG_icmp_le (tgt := 188) C dX9_isLine_178 rfl (fun h => ?_) (fun h => ?_)
          · have K := K.1 h
            refine mG_aload_n C dX9_isLine_188 rfl rfl ?_
            refine mG_iload_n C dX9_isLine_189 rfl rfl ?_
            refine mG_Vi (Z := MX9_isDeed) (as := [.int p0]) (rest := []) C dX9_isLine_190 lk_1006 zX9_isDeed ⟨Nat.le_of_ble_eq_true rfl, Nat.le_of_ble_eq_true rfl⟩ sh60 rfl rfl (Nat.le_of_ble_eq_true rfl) rfl K (fun v2 u3 K => ?_)
            exact mG_iret C F dX9_isLine_193 rfl K.1 K.2
          · have K := K.2 h
            refine mG_aload_n C dX9_isLine_181 rfl rfl ?_
            refine mG_Vi (Z := MX9_fails) (as := []) (rest := []) C dX9_isLine_182 lk_998 zX9_fails ⟨Nat.le_of_ble_eq_true rfl, Nat.le_of_ble_eq_true rfl⟩ sh60 rfl rfl (Nat.le_of_ble_eq_true rfl) rfl K (fun v3 u4 K => ?_)
            refine mG_goto (tgt := 193) C dX9_isLine_185 rfl ?_
            exact mG_iret C F dX9_isLine_193 rfl K.1 K.2
      · have K := K.2 h
        refine mG_aload_n C dX9_isLine_92 rfl rfl ?_
        refine mG_dup C dX9_isLine_93 rfl ?_
        refine mG_getI C dX9_isLine_94 fl_849 sh60 rfl ?_
        refine mG_iconst C dX9_isLine_97 ic1 ?_
        refine mG_iadd C dX9_isLine_98 ?_
        refine mG_putI C dX9_isLine_99 fp_849 sh60 rfl ?_
        refine mG_aload_n C dX9_isLine_102 rfl rfl ?_
        refine mG_getR C dX9_isLine_103 fl_851 sh60 rfl ?_
        refine mG_iload_n C dX9_isLine_106 rfl rfl ?_
        refine mG_iconst C dX9_isLine_107 ic5 ?_
        refine mG_iadd C dX9_isLine_108 ?_
        refine mG_iconst C dX9_isLine_109 ic0 ?_
        obtain ⟨h2, K⟩ := K
        refine mG_iast C dX9_isLine_110 sh65 h2 ?_
        refine mG_nm (fun w2 ew2 => ?_)
        have K := K w2 ew2
        refine mG_aload_n C dX9_isLine_111 rfl rfl ?_
        refine mG_getI C dX9_isLine_112 fl_849 sh60 rfl ?_
        refine mG_iconst C dX9_isLine_115 ic5 ?_
        refine mG_icmp_le (tgt := 126) C dX9_isLine_116 rfl (fun h => ?_) (fun h => ?_)
        · have K := K.1 h
          refine mG_aload_n C dX9_isLine_126 rfl rfl ?_
          refine mG_iload_n C dX9_isLine_127 rfl rfl ?_
          refine mG_Vi (Z := MX9_isDeed) (as := [.int p0]) (rest := []) C dX9_isLine_128 lk_1006 zX9_isDeed ⟨Nat.le_of_ble_eq_true rfl, Nat.le_of_ble_eq_true rfl⟩ sh60 rfl rfl (Nat.le_of_ble_eq_true rfl) rfl K (fun v4 u5 K => ?_)
          refine mG_if_eq (tgt := 154) C dX9_isLine_131 rfl (fun h => ?_) (fun h => ?_)
          · have K := K.1 h
            refine mG_iconst C dX9_isLine_154 ic0 ?_
            exact mG_iret C F dX9_isLine_155 rfl (by decide) K
          · have K := K.2 h
            refine mG_iload_n C dX9_isLine_134 rfl rfl ?_
            refine mG_iconst C dX9_isLine_135 ic4 ?_
            refine mG_icmp_ne (tgt := 150) C dX9_isLine_136 rfl (fun h => ?_) (fun h => ?_)
            · have K := K.1 h
              refine mG_iconst C dX9_isLine_150 ic1 ?_
              refine mG_goto (tgt := 155) C dX9_isLine_151 rfl ?_
              exact mG_iret C F dX9_isLine_155 rfl (by decide) K
            · have K := K.2 h
              refine mG_aload_n C dX9_isLine_139 rfl rfl ?_
              refine mG_iload_n C dX9_isLine_140 rfl rfl ?_
              refine mG_iconst C dX9_isLine_141 ic5 ?_
              refine mG_iadd C dX9_isLine_142 ?_
              refine mG_iconst C dX9_isLine_143 ic3 ?_
              refine mG_Vi (Z := MX9_isNumber) (as := [.int (p0 + (5 : Int32)), .int (3 : Int32)]) (rest := []) C dX9_isLine_144 lk_1002 zX9_isNumber ⟨Nat.le_of_ble_eq_true rfl, Nat.le_of_ble_eq_true rfl⟩ sh60 rfl rfl (Nat.le_of_ble_eq_true rfl) rfl K (fun v5 u6 K => ?_)
              refine mG_if_eq (tgt := 154) C dX9_isLine_147 rfl (fun h => ?_) (fun h => ?_)
              · have K := K.1 h
                refine mG_iconst C dX9_isLine_154 ic0 ?_
                exact mG_iret C F dX9_isLine_155 rfl (by decide) K
              · have K := K.2 h
                refine mG_iconst C dX9_isLine_150 ic1 ?_
                refine mG_goto (tgt := 155) C dX9_isLine_151 rfl ?_
                exact mG_iret C F dX9_isLine_155 rfl (by decide) K
        · have K := K.2 h
          refine mG_aload_n C dX9_isLine_119 rfl rfl ?_
          refine mG_Vi (Z := MX9_fails) (as := []) (rest := []) C dX9_isLine_120 lk_998 zX9_fails ⟨Nat.le_of_ble_eq_true rfl, Nat.le_of_ble_eq_true rfl⟩ sh60 rfl rfl (Nat.le_of_ble_eq_true rfl) rfl K (fun v6 u7 K => ?_)
          refine mG_goto (tgt := 155) C dX9_isLine_123 rfl ?_
          exact mG_iret C F dX9_isLine_155 rfl K.1 K.2
    · have K := K.2 h
      refine mG_aload_n C dX9_isLine_31 rfl rfl ?_
      refine mG_dup C dX9_isLine_32 rfl ?_
      refine mG_getI C dX9_isLine_33 fl_848 sh60 rfl ?_
      refine mG_iconst C dX9_isLine_36 ic1 ?_
      refine mG_iadd C dX9_isLine_37 ?_
      refine mG_putI C dX9_isLine_38 fp_848 sh60 rfl ?_
      refine mG_aload_n C dX9_isLine_41 rfl rfl ?_
      refine mG_getIv C dX9_isLine_42 fl_848 sh60 rfl (by first | rfl | simp [mPI, mPL]) ?_
      refine mG_bipush C dX9_isLine_45 bp6 ?_
      refine mG_icmp_le (tgt := 57) C dX9_isLine_47 rfl (fun h => ?_) (fun h => ?_)
      · have K := K.1 h
        refine mG_aload_n C dX9_isLine_57 rfl rfl ?_
        refine mG_iload_n C dX9_isLine_58 rfl rfl ?_
        refine mG_iconst C dX9_isLine_59 ic1 ?_
        refine mG_iadd C dX9_isLine_60 ?_
        refine mG_bipush C dX9_isLine_61 bp40 ?_
        refine mG_Vi (Z := MX9_isNumber) (as := [.int (p0 + (1 : Int32)), .int (40 : Int32)]) (rest := []) C dX9_isLine_63 lk_1002 zX9_isNumber ⟨Nat.le_of_ble_eq_true rfl, Nat.le_of_ble_eq_true rfl⟩ sh60 rfl rfl (Nat.le_of_ble_eq_true rfl) rfl K (fun v7 u8 K => ?_)
        refine mG_if_eq (tgt := 84) C dX9_isLine_66 rfl (fun h => ?_) (fun h => ?_)
        · have K := K.1 h
          refine mG_iconst C dX9_isLine_84 ic0 ?_
          exact mG_iret C F dX9_isLine_85 rfl (by decide) K
        · have K := K.2 h
          refine mG_aload_n C dX9_isLine_69 rfl rfl ?_
          refine mG_iload_n C dX9_isLine_70 rfl rfl ?_
          refine mG_iconst C dX9_isLine_71 ic2 ?_
          refine mG_iadd C dX9_isLine_72 ?_
          refine mG_iconst C dX9_isLine_73 ic1 ?_
          refine mG_Vi (Z := MX9_isNumber) (as := [.int (p0 + (2 : Int32)), .int (1 : Int32)]) (rest := []) C dX9_isLine_74 lk_1002 zX9_isNumber ⟨Nat.le_of_ble_eq_true rfl, Nat.le_of_ble_eq_true rfl⟩ sh60 rfl rfl (Nat.le_of_ble_eq_true rfl) rfl K (fun v8 u9 K => ?_)
          refine mG_if_eq (tgt := 84) C dX9_isLine_77 rfl (fun h => ?_) (fun h => ?_)
          · have K := K.1 h
            refine mG_iconst C dX9_isLine_84 ic0 ?_
            exact mG_iret C F dX9_isLine_85 rfl (by decide) K
          · have K := K.2 h
            refine mG_iconst C dX9_isLine_80 ic1 ?_
            refine mG_goto (tgt := 85) C dX9_isLine_81 rfl ?_
            exact mG_iret C F dX9_isLine_85 rfl (by decide) K
      · have K := K.2 h
        refine mG_aload_n C dX9_isLine_50 rfl rfl ?_
        refine mG_Vi (Z := MX9_fails) (as := []) (rest := []) C dX9_isLine_51 lk_998 zX9_fails ⟨Nat.le_of_ble_eq_true rfl, Nat.le_of_ble_eq_true rfl⟩ sh60 rfl rfl (Nat.le_of_ble_eq_true rfl) rfl K (fun v9 u10 K => ?_)
        refine mG_goto (tgt := 85) C dX9_isLine_54 rfl ?_
        exact mG_iret C F dX9_isLine_85 rfl K.1 K.2
  · have K := K.2 h
    refine mG_aload_n C dX9_isLine_21 rfl rfl ?_
    refine mG_Vi (Z := MX9_fails) (as := []) (rest := []) C dX9_isLine_22 lk_998 zX9_fails ⟨Nat.le_of_ble_eq_true rfl, Nat.le_of_ble_eq_true rfl⟩ sh60 rfl rfl (Nat.le_of_ble_eq_true rfl) rfl K (fun v10 u11 K => ?_)
    exact mG_iret C F dX9_isLine_25 rfl K.1 K.2

set_option maxRecDepth 20000 in
set_option maxHeartbeats 4000000 in
theorem vX9_isNumber_0 {X : mX} {E : mEnv} {Qm : Option Value → mW → Prop} (C : mCtx X E MX9_isNumber) (F : mFin X E MX9_isNumber Qm) {w : mW}  (p0 : Int32) (p1 : Int32)
    (K : mMv E MX9_nextToken [.ref 60] w (fun u1 =>
    ((¬ (lg_cmp (u1.2 60 10) (-1 : Int64)) = 0 →
    (mMi E MX9_fails [.ref 60] u1 (fun v1 u2 =>
    (narrow .boolean (.int v1) = .int v1 ∧ Qm (some (.int v1)) u2)))) ∧ ((lg_cmp (u1.2 60 10) (-1 : Int64)) = 0 →
    (((u1.1 60 12) ≤ p1 →
    (vp_in p0 84 ∧
    (∀ w1 : mW, w1 = (mPI u1 65 p0.toNatClampNeg (u1.1 60 12)) →
    (Qm (some (.int (1 : Int32))) w1)))) ∧ (¬ (u1.1 60 12) ≤ p1 →
    (mMi E MX9_fails [.ref 60] u1 (fun v2 u3 =>
    (narrow .boolean (.int v2) = .int v2 ∧ Qm (some (.int v2)) u3))))))))) :
    mG X E MX9_isNumber 0 [.ref 60, .int p0, .int p1] [] w := by
  refine mG_aload_n C dX9_isNumber_0 rfl rfl ?_
  refine mG_Vv (Z := MX9_nextToken) (as := []) (rest := []) C dX9_isNumber_1 lk_975 zX9_nextToken ⟨Nat.le_of_ble_eq_true rfl, Nat.le_of_ble_eq_true rfl⟩ sh60 rfl rfl (Nat.le_of_ble_eq_true rfl) rfl K (fun u1 K => ?_)
  refine mG_aload_n C dX9_isNumber_4 rfl rfl ?_
  refine mG_getL C dX9_isNumber_5 fl_843 sh60 rfl ?_
  refine mG_ldc2 C dX9_isNumber_8 kl_983 ?_
  refine mG_lcmp C dX9_isNumber_11 ?_
  refine mG_if_ne (tgt := 23) C dX9_isNumber_12 rfl (fun h => ?_) (fun h => ?_)
  · have K := K.1 h
    refine mG_aload_n C dX9_isNumber_23 rfl rfl ?_
    refine mG_Vi (Z := MX9_fails) (as := []) (rest := []) C dX9_isNumber_24 lk_998 zX9_fails ⟨Nat.le_of_ble_eq_true rfl, Nat.le_of_ble_eq_true rfl⟩ sh60 rfl rfl (Nat.le_of_ble_eq_true rfl) rfl K (fun v1 u2 K => ?_)
    exact mG_iret C F dX9_isNumber_27 rfl K.1 K.2
  · have K := K.2 h
    refine mG_aload_n C dX9_isNumber_15 rfl rfl ?_
    refine mG_getI C dX9_isNumber_16 fl_845 sh60 rfl ?_
    refine mG_iload_n C dX9_isNumber_19 rfl rfl ?_
    refine mG_icmp_le (tgt := 28) C dX9_isNumber_20 rfl (fun h => ?_) (fun h => ?_)
    · have K := K.1 h
      refine mG_aload_n C dX9_isNumber_28 rfl rfl ?_
      refine mG_getR C dX9_isNumber_29 fl_851 sh60 rfl ?_
      refine mG_iload_n C dX9_isNumber_32 rfl rfl ?_
      refine mG_aload_n C dX9_isNumber_33 rfl rfl ?_
      refine mG_getI C dX9_isNumber_34 fl_845 sh60 rfl ?_
      obtain ⟨h1, K⟩ := K
      refine mG_iast C dX9_isNumber_37 sh65 h1 ?_
      refine mG_nm (fun w1 ew1 => ?_)
      have K := K w1 ew1
      refine mG_iconst C dX9_isNumber_38 ic1 ?_
      exact mG_iret C F dX9_isNumber_39 rfl (by decide) K
    · have K := K.2 h
      refine mG_aload_n C dX9_isNumber_23 rfl rfl ?_
      refine mG_Vi (Z := MX9_fails) (as := []) (rest := []) C dX9_isNumber_24 lk_998 zX9_fails ⟨Nat.le_of_ble_eq_true rfl, Nat.le_of_ble_eq_true rfl⟩ sh60 rfl rfl (Nat.le_of_ble_eq_true rfl) rfl K (fun v2 u3 K => ?_)
      exact mG_iret C F dX9_isNumber_27 rfl K.1 K.2

set_option maxRecDepth 20000 in
set_option maxHeartbeats 4000000 in
theorem vX9_isOne_0 {X : mX} {E : mEnv} {Qm : Option Value → mW → Prop} (C : mCtx X E MX9_isOne) (F : mFin X E MX9_isOne Qm) {w : mW}  (p0 : Int32)
    (K : mMi E MX9_in [.int p0, .int (0 : Int32), .int ((w.1 60 2) - (1 : Int32))] w (fun v1 u1 =>
    (narrow .boolean (.int v1) = .int v1 ∧ Qm (some (.int v1)) u1))) :
    mG X E MX9_isOne 0 [.ref 60, .int p0] [] w := by
  refine mG_iload_n C dX9_isOne_0 rfl rfl ?_
  refine mG_iconst C dX9_isOne_1 ic0 ?_
  refine mG_aload_n C dX9_isOne_2 rfl rfl ?_
  refine mG_getI C dX9_isOne_3 fl_835 sh60 rfl ?_
  refine mG_iconst C dX9_isOne_6 ic1 ?_
  refine mG_isub C dX9_isOne_7 ?_
  refine mG_Si (Z := MX9_in) (as := [.int p0, .int (0 : Int32), .int ((w.1 60 2) - (1 : Int32))]) (rest := []) C dX9_isOne_8 lk_956 zX9_in ⟨Nat.le_of_ble_eq_true rfl, Nat.le_of_ble_eq_true rfl⟩ rfl (Nat.le_of_ble_eq_true rfl) rfl K (fun v1 u1 K => ?_)
  exact mG_iret C F dX9_isOne_11 rfl K.1 K.2

set_option maxRecDepth 20000 in
set_option maxHeartbeats 4000000 in
theorem vX9_isRead_0 {X : mX} {E : mEnv} {Qm : Option Value → mW → Prop} (C : mCtx X E MX9_isRead) (F : mFin X E MX9_isRead Qm) {w : mW} 
    (K : mG X E MX9_isRead 36 [.ref 60, .int (1 : Int32)] [] (mPI (mPI (mPI (mPI (mPI w 60 8 (0 : Int32)) 60 14 (0 : Int32)) 60 15 (w.1 60 0)) 60 16 (w.1 60 2)) 60 17 (w.1 60 4))) :
    mG X E MX9_isRead 0 [.ref 60, .retAddr 0] [] w := by
  refine mG_aload_n C dX9_isRead_0 rfl rfl ?_
  refine mG_iconst C dX9_isRead_1 ic0 ?_
  refine mG_putI C dX9_isRead_2 fp_841 sh60 rfl ?_
  refine mG_aload_n C dX9_isRead_5 rfl rfl ?_
  refine mG_iconst C dX9_isRead_6 ic0 ?_
  refine mG_putI C dX9_isRead_7 fp_847 sh60 rfl ?_
  refine mG_aload_n C dX9_isRead_10 rfl rfl ?_
  refine mG_aload_n C dX9_isRead_11 rfl rfl ?_
  refine mG_getIv C dX9_isRead_12 fl_833 sh60 rfl (by first | rfl | simp [mPI, mPL]) ?_
  refine mG_putI C dX9_isRead_15 fp_848 sh60 rfl ?_
  refine mG_aload_n C dX9_isRead_18 rfl rfl ?_
  refine mG_aload_n C dX9_isRead_19 rfl rfl ?_
  refine mG_getIv C dX9_isRead_20 fl_835 sh60 rfl (by first | rfl | simp [mPI, mPL]) ?_
  refine mG_putI C dX9_isRead_23 fp_849 sh60 rfl ?_
  refine mG_aload_n C dX9_isRead_26 rfl rfl ?_
  refine mG_aload_n C dX9_isRead_27 rfl rfl ?_
  refine mG_getIv C dX9_isRead_28 fl_837 sh60 rfl (by first | rfl | simp [mPI, mPL]) ?_
  refine mG_putI C dX9_isRead_31 fp_850 sh60 rfl ?_
  refine mG_iconst C dX9_isRead_34 ic1 ?_
  refine mG_istore_n (lv' := [.ref 60, .int (1 : Int32)]) C dX9_isRead_35 rfl (by decide) rfl ?_
  exact K

set_option maxRecDepth 20000 in
set_option maxHeartbeats 4000000 in
theorem vX9_isRead_36 {X : mX} {E : mEnv} {Qm : Option Value → mW → Prop} (C : mCtx X E MX9_isRead) (F : mFin X E MX9_isRead Qm) {w : mW}  (x1 : Int32)
    (K : (x1 = 0 →
    (((lg_cmp (w.2 60 10) (-2 : Int64)) = 0 →
    (Qm (some (.int (1 : Int32))) w)) ∧ (¬ (lg_cmp (w.2 60 10) (-2 : Int64)) = 0 →
    (mMi E MX9_fails [.ref 60] w (fun v1 u1 =>
    ((v1 = 0 →
    (Qm (some (.int (0 : Int32))) u1)) ∧ (¬ v1 = 0 →
    (Qm (some (.int (1 : Int32))) u1)))))))) ∧ (¬ x1 = 0 →
    (mMi E MX9_isLine [.ref 60, .int ((6 : Int32) * (w.1 60 14))] w (fun v2 u2 =>
    ((¬ v2 = 0 →
    (mMv E MX9_nextToken [.ref 60] (mPI u2 60 14 ((u2.1 60 14) + (1 : Int32))) (fun u3 =>
    ((¬ (lg_cmp (u3.2 60 10) (-3 : Int64)) = 0 →
    (mG X E MX9_isRead 36 [.ref 60, .int (0 : Int32)] [] u3)) ∧ ((lg_cmp (u3.2 60 10) (-3 : Int64)) = 0 →
    (((14 : Int32) ≤ (u3.1 60 14) →
    (mG X E MX9_isRead 36 [.ref 60, .int (0 : Int32)] [] u3)) ∧ (¬ (14 : Int32) ≤ (u3.1 60 14) →
    (mG X E MX9_isRead 36 [.ref 60, .int (1 : Int32)] [] u3)))))))) ∧ (v2 = 0 →
    (Qm (some (.int (0 : Int32))) u2))))))) :
    mG X E MX9_isRead 36 [.ref 60, .int x1] [] w := by
  refine mG_iload_n C dX9_isRead_36 rfl rfl ?_
  refine mG_if_eq (tgt := 99) C dX9_isRead_37 rfl (fun h => ?_) (fun h => ?_)
  · have K := K.1 h
    refine mG_aload_n C dX9_isRead_99 rfl rfl ?_
    refine mG_getL C dX9_isRead_100 fl_843 sh60 rfl ?_
    refine mG_ldc2 C dX9_isRead_103 kl_979 ?_
    refine mG_lcmp C dX9_isRead_106 ?_
    refine mG_if_eq (tgt := 117) C dX9_isRead_107 rfl (fun h => ?_) (fun h => ?_)
    · have K := K.1 h
      refine mG_iconst C dX9_isRead_117 ic1 ?_
      refine mG_goto (tgt := 122) C dX9_isRead_118 rfl ?_
      exact mG_iret C F dX9_isRead_122 rfl (by decide) K
    · have K := K.2 h
      refine mG_aload_n C dX9_isRead_110 rfl rfl ?_
      refine mG_Vi (Z := MX9_fails) (as := []) (rest := []) C dX9_isRead_111 lk_998 zX9_fails ⟨Nat.le_of_ble_eq_true rfl, Nat.le_of_ble_eq_true rfl⟩ sh60 rfl rfl (Nat.le_of_ble_eq_true rfl) rfl K (fun v1 u1 K => ?_)
      refine mG_if_eq (tgt := 121) C dX9_isRead_114 rfl (fun h => ?_) (fun h => ?_)
      · have K := K.1 h
        refine mG_iconst C dX9_isRead_121 ic0 ?_
        exact mG_iret C F dX9_isRead_122 rfl (by decide) K
      · have K := K.2 h
        refine mG_iconst C dX9_isRead_117 ic1 ?_
        refine mG_goto (tgt := 122) C dX9_isRead_118 rfl ?_
        exact mG_iret C F dX9_isRead_122 rfl (by decide) K
  · have K := K.2 h
    refine mG_aload_n C dX9_isRead_40 rfl rfl ?_
    refine mG_bipush C dX9_isRead_41 bp6 ?_
    refine mG_aload_n C dX9_isRead_43 rfl rfl ?_
    refine mG_getI C dX9_isRead_44 fl_847 sh60 rfl ?_
    refine mG_imul C dX9_isRead_47 ?_
    refine mG_Vi (Z := MX9_isLine) (as := [.int ((6 : Int32) * (w.1 60 14))]) (rest := []) C dX9_isRead_48 lk_971 zX9_isLine ⟨Nat.le_of_ble_eq_true rfl, Nat.le_of_ble_eq_true rfl⟩ sh60 rfl rfl (Nat.le_of_ble_eq_true rfl) rfl K (fun v2 u2 K => ?_)
    refine mG_if_ne (tgt := 56) C dX9_isRead_51 rfl (fun h => ?_) (fun h => ?_)
    · have K := K.1 h
      refine mG_aload_n C dX9_isRead_56 rfl rfl ?_
      refine mG_dup C dX9_isRead_57 rfl ?_
      refine mG_getI C dX9_isRead_58 fl_847 sh60 rfl ?_
      refine mG_iconst C dX9_isRead_61 ic1 ?_
      refine mG_iadd C dX9_isRead_62 ?_
      refine mG_putI C dX9_isRead_63 fp_847 sh60 rfl ?_
      refine mG_aload_n C dX9_isRead_66 rfl rfl ?_
      refine mG_Vv (Z := MX9_nextToken) (as := []) (rest := []) C dX9_isRead_67 lk_975 zX9_nextToken ⟨Nat.le_of_ble_eq_true rfl, Nat.le_of_ble_eq_true rfl⟩ sh60 rfl rfl (Nat.le_of_ble_eq_true rfl) rfl K (fun u3 K => ?_)
      refine mG_aload_n C dX9_isRead_70 rfl rfl ?_
      refine mG_getL C dX9_isRead_71 fl_843 sh60 rfl ?_
      refine mG_ldc2 C dX9_isRead_74 kl_984 ?_
      refine mG_lcmp C dX9_isRead_77 ?_
      refine mG_if_ne (tgt := 94) C dX9_isRead_78 rfl (fun h => ?_) (fun h => ?_)
      · have K := K.1 h
        refine mG_iconst C dX9_isRead_94 ic0 ?_
        refine mG_istore_n (lv' := [.ref 60, .int (0 : Int32)]) C dX9_isRead_95 rfl (by decide) rfl ?_
        refine mG_goto (tgt := 36) C dX9_isRead_96 rfl ?_
        exact K
      · have K := K.2 h
        refine mG_aload_n C dX9_isRead_81 rfl rfl ?_
        refine mG_getI C dX9_isRead_82 fl_847 sh60 rfl ?_
        refine mG_bipush C dX9_isRead_85 bp14 ?_
        refine mG_icmp_ge (tgt := 94) C dX9_isRead_87 rfl (fun h => ?_) (fun h => ?_)
        · have K := K.1 h
          refine mG_iconst C dX9_isRead_94 ic0 ?_
          refine mG_istore_n (lv' := [.ref 60, .int (0 : Int32)]) C dX9_isRead_95 rfl (by decide) rfl ?_
          refine mG_goto (tgt := 36) C dX9_isRead_96 rfl ?_
          exact K
        · have K := K.2 h
          refine mG_iconst C dX9_isRead_90 ic1 ?_
          refine mG_goto (tgt := 95) C dX9_isRead_91 rfl ?_
          refine mG_istore_n (lv' := [.ref 60, .int (1 : Int32)]) C dX9_isRead_95 rfl (by decide) rfl ?_
          refine mG_goto (tgt := 36) C dX9_isRead_96 rfl ?_
          exact K
    · have K := K.2 h
      refine mG_iconst C dX9_isRead_54 ic0 ?_
      exact mG_iret C F dX9_isRead_55 rfl (by decide) K

set_option maxRecDepth 20000 in
set_option maxHeartbeats 4000000 in
theorem vX9_isSaved_0 {X : mX} {E : mEnv} {Qm : Option Value → mW → Prop} (C : mCtx X E MX9_isSaved) (F : mFin X E MX9_isSaved Qm) {w : mW}  (p0 : Int32) (p1 : Int32)
    (K : mMv E MX9_copy [.ref 66, .int (0 : Int32), .ref 69, .int (0 : Int32)] w (fun u1 =>
    (¬ u1.1 60 0 = 0 ∧
    ((¬ p1 = (1 : Int32) →
    (mG X E MX9_isSaved 62 [.ref 60, .int p0, .int p1, .int (0 : Int32)] [] (mPI u1 69 0 ((u1.1 69 0) ^^^ ((1 : Int32) <<< ((p0 - p0 / (u1.1 60 0) * (u1.1 60 0)) &&& 31)))))) ∧ (p1 = (1 : Int32) →
    (mMv E MX9_layBest [.ref 60, .ref 69] (mPI u1 69 0 ((u1.1 69 0) ^^^ ((1 : Int32) <<< ((p0 - p0 / (u1.1 60 0) * (u1.1 60 0)) &&& 31)))) (fun u2 =>
    (((u2.1 60 34) < 0 →
    (Qm (some (.int (0 : Int32))) u2)) ∧ (¬ (u2.1 60 34) < 0 →
    (Qm (some (.int (1 : Int32))) u2)))))))))) :
    mG X E MX9_isSaved 0 [.ref 60, .int p0, .int p1, .retAddr 0] [] w := by
  refine mG_aload_n C dX9_isSaved_0 rfl rfl ?_
  refine mG_getR C dX9_isSaved_1 fl_852 sh60 rfl ?_
  refine mG_iconst C dX9_isSaved_4 ic0 ?_
  refine mG_aload_n C dX9_isSaved_5 rfl rfl ?_
  refine mG_getR C dX9_isSaved_6 fl_855 sh60 rfl ?_
  refine mG_iconst C dX9_isSaved_9 ic0 ?_
  refine mG_Sv (Z := MX9_copy) (as := [.ref 66, .int (0 : Int32), .ref 69, .int (0 : Int32)]) (rest := []) C dX9_isSaved_10 lk_1082 zX9_copy ⟨Nat.le_of_ble_eq_true rfl, Nat.le_of_ble_eq_true rfl⟩ rfl (Nat.le_of_ble_eq_true rfl) rfl K (fun u1 K => ?_)
  refine mG_aload_n C dX9_isSaved_13 rfl rfl ?_
  refine mG_getR C dX9_isSaved_14 fl_855 sh60 rfl ?_
  refine mG_iconst C dX9_isSaved_17 ic0 ?_
  refine mG_aload_n C dX9_isSaved_18 rfl rfl ?_
  refine mG_getR C dX9_isSaved_19 fl_855 sh60 rfl ?_
  refine mG_iconst C dX9_isSaved_22 ic0 ?_
  refine mG_ialdv C dX9_isSaved_23 sh69 (by unfold vp_in; decide) (by first | rfl | simp [mPI, mPL]) ?_
  refine mG_iconst C dX9_isSaved_24 ic1 ?_
  refine mG_iload_n C dX9_isSaved_25 rfl rfl ?_
  refine mG_aload_n C dX9_isSaved_26 rfl rfl ?_
  refine mG_getI C dX9_isSaved_27 fl_833 sh60 rfl ?_
  obtain ⟨h9, K⟩ := K
  refine mG_irem C dX9_isSaved_30 h9 ?_
  refine mG_ishl C dX9_isSaved_31 ?_
  refine mG_ixor C dX9_isSaved_32 ?_
  refine mG_iastv C dX9_isSaved_33 sh69 (by unfold vp_in; decide) (k := 0) rfl ?_
  refine mG_iload_n C dX9_isSaved_34 rfl rfl ?_
  refine mG_iconst C dX9_isSaved_35 ic1 ?_
  refine mG_icmp_ne (tgt := 60) C dX9_isSaved_36 rfl (fun h => ?_) (fun h => ?_)
  · have K := K.1 h
    refine mG_iconst C dX9_isSaved_60 ic0 ?_
    refine mG_istore_n (lv' := [.ref 60, .int p0, .int p1, .int (0 : Int32)]) C dX9_isSaved_61 rfl (by decide) rfl ?_
    exact K
  · have K := K.2 h
    refine mG_aload_n C dX9_isSaved_39 rfl rfl ?_
    refine mG_aload_n C dX9_isSaved_40 rfl rfl ?_
    refine mG_getR C dX9_isSaved_41 fl_855 sh60 rfl ?_
    refine mG_Vv (Z := MX9_layBest) (as := [.ref 69]) (rest := []) C dX9_isSaved_44 lk_1143 zX9_layBest ⟨Nat.le_of_ble_eq_true rfl, Nat.le_of_ble_eq_true rfl⟩ sh60 rfl rfl (Nat.le_of_ble_eq_true rfl) rfl K (fun u2 K => ?_)
    refine mG_aload_n C dX9_isSaved_47 rfl rfl ?_
    refine mG_getI C dX9_isSaved_48 fl_867 sh60 rfl ?_
    refine mG_if_lt (tgt := 58) C dX9_isSaved_51 rfl (fun h => ?_) (fun h => ?_)
    · have K := K.1 h
      refine mG_iconst C dX9_isSaved_58 ic0 ?_
      exact mG_iret C F dX9_isSaved_59 rfl (by decide) K
    · have K := K.2 h
      refine mG_iconst C dX9_isSaved_54 ic1 ?_
      refine mG_goto (tgt := 59) C dX9_isSaved_55 rfl ?_
      exact mG_iret C F dX9_isSaved_59 rfl (by decide) K

set_option maxRecDepth 20000 in
set_option maxHeartbeats 4000000 in
theorem vX9_isSaved_62 {X : mX} {E : mEnv} {Qm : Option Value → mW → Prop} (C : mCtx X E MX9_isSaved) (F : mFin X E MX9_isSaved Qm) {w : mW}  (x1 : Int32) (x2 : Int32) (x3 : Int32)
    (K : ((w.1 60 2) ≤ x3 →
    (mMv E MX9_pass [.ref 60, .ref 69] w (fun u1 =>
    (mMi E MX9_sumOf [.ref 60, .int (u1.1 69 0)] u1 (fun v1 u2 =>
    ((v1 < 0 →
    (Qm (some (.int (0 : Int32))) u2)) ∧ (¬ v1 < 0 →
    (Qm (some (.int (1 : Int32))) u2)))))))) ∧ (¬ (w.1 60 2) ≤ x3 →
    ((¬ x2 = (2 : Int32) →
    (mMv E MX9_pass [.ref 60, .ref 69] w (fun u3 =>
    (mMi E MX9_sumOf [.ref 60, .int (u3.1 69 0)] u3 (fun v2 u4 =>
    ((v2 < 0 →
    (Qm (some (.int (0 : Int32))) u4)) ∧ (¬ v2 < 0 →
    (Qm (some (.int (1 : Int32))) u4)))))))) ∧ (x2 = (2 : Int32) →
    (¬ w.1 60 0 = 0 ∧
    (vp_in (((2 : Int32) + ((6 : Int32) * x3)) + ((x1 / (8 : Int32)) - (x1 / (8 : Int32)) / (w.1 60 0) * (w.1 60 0))) 32 ∧
    (∀ w1 : mW, w1 = (mPI w 69 (((2 : Int32) + ((6 : Int32) * x3)) + ((x1 / (8 : Int32)) - (x1 / (8 : Int32)) / (w.1 60 0) * (w.1 60 0))).toNatClampNeg ((x1 / (64 : Int32)) - (x1 / (64 : Int32)) / (2 : Int32) * (2 : Int32))) →
    (mG X E MX9_isSaved 62 [.ref 60, .int x1, .int x2, .int (x3 + (1 : Int32))] [] w1)))))))) :
    mG X E MX9_isSaved 62 [.ref 60, .int x1, .int x2, .int x3] [] w := by
  refine mG_iload_n C dX9_isSaved_62 rfl rfl ?_
  refine mG_aload_n C dX9_isSaved_63 rfl rfl ?_
  refine mG_getI C dX9_isSaved_64 fl_835 sh60 rfl ?_
  refine mG_icmp_ge (tgt := 108) C dX9_isSaved_67 rfl (fun h => ?_) (fun h => ?_)
  · have K := K.1 h
    refine mG_aload_n C dX9_isSaved_108 rfl rfl ?_
    refine mG_aload_n C dX9_isSaved_109 rfl rfl ?_
    refine mG_getR C dX9_isSaved_110 fl_855 sh60 rfl ?_
    refine mG_Vv (Z := MX9_pass) (as := [.ref 69]) (rest := []) C dX9_isSaved_113 lk_1096 zX9_pass ⟨Nat.le_of_ble_eq_true rfl, Nat.le_of_ble_eq_true rfl⟩ sh60 rfl rfl (Nat.le_of_ble_eq_true rfl) rfl K (fun u1 K => ?_)
    refine mG_aload_n C dX9_isSaved_116 rfl rfl ?_
    refine mG_aload_n C dX9_isSaved_117 rfl rfl ?_
    refine mG_getR C dX9_isSaved_118 fl_855 sh60 rfl ?_
    refine mG_iconst C dX9_isSaved_121 ic0 ?_
    refine mG_ialdv C dX9_isSaved_122 sh69 (by unfold vp_in; decide) (by first | rfl | simp [mPI, mPL]) ?_
    refine mG_Vi (Z := MX9_sumOf) (as := [.int (u1.1 69 0)]) (rest := []) C dX9_isSaved_123 lk_1119 zX9_sumOf ⟨Nat.le_of_ble_eq_true rfl, Nat.le_of_ble_eq_true rfl⟩ sh60 rfl rfl (Nat.le_of_ble_eq_true rfl) rfl K (fun v1 u2 K => ?_)
    refine mG_if_lt (tgt := 133) C dX9_isSaved_126 rfl (fun h => ?_) (fun h => ?_)
    · have K := K.1 h
      refine mG_iconst C dX9_isSaved_133 ic0 ?_
      exact mG_iret C F dX9_isSaved_134 rfl (by decide) K
    · have K := K.2 h
      refine mG_iconst C dX9_isSaved_129 ic1 ?_
      refine mG_goto (tgt := 134) C dX9_isSaved_130 rfl ?_
      exact mG_iret C F dX9_isSaved_134 rfl (by decide) K
  · have K := K.2 h
    refine mG_iload_n C dX9_isSaved_70 rfl rfl ?_
    refine mG_iconst C dX9_isSaved_71 ic2 ?_
    refine mG_icmp_ne (tgt := 108) C dX9_isSaved_72 rfl (fun h => ?_) (fun h => ?_)
    · have K := K.1 h
      refine mG_aload_n C dX9_isSaved_108 rfl rfl ?_
      refine mG_aload_n C dX9_isSaved_109 rfl rfl ?_
      refine mG_getR C dX9_isSaved_110 fl_855 sh60 rfl ?_
      refine mG_Vv (Z := MX9_pass) (as := [.ref 69]) (rest := []) C dX9_isSaved_113 lk_1096 zX9_pass ⟨Nat.le_of_ble_eq_true rfl, Nat.le_of_ble_eq_true rfl⟩ sh60 rfl rfl (Nat.le_of_ble_eq_true rfl) rfl K (fun u3 K => ?_)
      refine mG_aload_n C dX9_isSaved_116 rfl rfl ?_
      refine mG_aload_n C dX9_isSaved_117 rfl rfl ?_
      refine mG_getR C dX9_isSaved_118 fl_855 sh60 rfl ?_
      refine mG_iconst C dX9_isSaved_121 ic0 ?_
      refine mG_ialdv C dX9_isSaved_122 sh69 (by unfold vp_in; decide) (by first | rfl | simp [mPI, mPL]) ?_
      refine mG_Vi (Z := MX9_sumOf) (as := [.int (u3.1 69 0)]) (rest := []) C dX9_isSaved_123 lk_1119 zX9_sumOf ⟨Nat.le_of_ble_eq_true rfl, Nat.le_of_ble_eq_true rfl⟩ sh60 rfl rfl (Nat.le_of_ble_eq_true rfl) rfl K (fun v2 u4 K => ?_)
      refine mG_if_lt (tgt := 133) C dX9_isSaved_126 rfl (fun h => ?_) (fun h => ?_)
      · have K := K.1 h
        refine mG_iconst C dX9_isSaved_133 ic0 ?_
        exact mG_iret C F dX9_isSaved_134 rfl (by decide) K
      · have K := K.2 h
        refine mG_iconst C dX9_isSaved_129 ic1 ?_
        refine mG_goto (tgt := 134) C dX9_isSaved_130 rfl ?_
        exact mG_iret C F dX9_isSaved_134 rfl (by decide) K
    · have K := K.2 h
      refine mG_aload_n C dX9_isSaved_75 rfl rfl ?_
      refine mG_getR C dX9_isSaved_76 fl_855 sh60 rfl ?_
      refine mG_iconst C dX9_isSaved_79 ic2 ?_
      refine mG_bipush C dX9_isSaved_80 bp6 ?_
      refine mG_iload_n C dX9_isSaved_82 rfl rfl ?_
      refine mG_imul C dX9_isSaved_83 ?_
      refine mG_iadd C dX9_isSaved_84 ?_
      refine mG_iload_n C dX9_isSaved_85 rfl rfl ?_
      refine mG_bipush C dX9_isSaved_86 bp8 ?_
      refine mG_idiv C dX9_isSaved_88 (by decide) ?_
      refine mG_aload_n C dX9_isSaved_89 rfl rfl ?_
      refine mG_getI C dX9_isSaved_90 fl_833 sh60 rfl ?_
      obtain ⟨h9, K⟩ := K
      refine mG_irem C dX9_isSaved_93 h9 ?_
      refine mG_iadd C dX9_isSaved_94 ?_
      refine mG_iload_n C dX9_isSaved_95 rfl rfl ?_
      refine mG_bipush C dX9_isSaved_96 bp64 ?_
      refine mG_idiv C dX9_isSaved_98 (by decide) ?_
      refine mG_iconst C dX9_isSaved_99 ic2 ?_
      refine mG_irem C dX9_isSaved_100 (by decide) ?_
      obtain ⟨h1, K⟩ := K
      refine mG_iast C dX9_isSaved_101 sh69 h1 ?_
      refine mG_nm (fun w1 ew1 => ?_)
      have K := K w1 ew1
      refine mG_iincc (lv' := [.ref 60, .int x1, .int x2, .int (x3 + (1 : Int32))]) C dX9_isSaved_102 rfl ic1 (by decide) rfl ?_
      refine mG_goto (tgt := 62) C dX9_isSaved_105 rfl ?_
      exact K

set_option maxRecDepth 20000 in
set_option maxHeartbeats 4000000 in
theorem vX9_isSentence_0 {X : mX} {E : mEnv} {Qm : Option Value → mW → Prop} (C : mCtx X E MX9_isSentence) (F : mFin X E MX9_isSentence Qm) {w : mW}  (p0 : Int32)
    (K : mMv E MX9_lay [.ref 60, .int (p0 / (10000 : Int32)), .int ((p0 / (1000 : Int32)) - (p0 / (1000 : Int32)) / (10 : Int32) * (10 : Int32)), .int ((p0 / (100 : Int32)) - (p0 / (100 : Int32)) / (10 : Int32) * (10 : Int32)), .int ((p0 / (10 : Int32)) - (p0 / (10 : Int32)) / (10 : Int32) * (10 : Int32)), .int (p0 - p0 / (10 : Int32) * (10 : Int32))] w (fun u1 =>
    (mMi E MX9_barred [.ref 60, .int (u1.1 60 29), .int (u1.1 60 30), .int (u1.1 60 31), .int (u1.1 60 32), .int (u1.1 60 33)] u1 (fun v1 u2 =>
    ((0 ≤ v1 →
    (((u2.1 60 29) = 0 →
    ((¬ (u2.1 60 32) = 0 →
    (Qm (some (.int (0 : Int32))) u2)) ∧ ((u2.1 60 32) = 0 →
    ((¬ (u2.1 60 33) = 0 →
    (Qm (some (.int (0 : Int32))) u2)) ∧ ((u2.1 60 33) = 0 →
    (Qm (some (.int (1 : Int32))) u2)))))) ∧ (¬ (u2.1 60 29) = 0 →
    ((¬ (u2.1 60 29) = (4 : Int32) →
    (Qm (some (.int (1 : Int32))) u2)) ∧ ((u2.1 60 29) = (4 : Int32) →
    ((¬ (u2.1 60 32) = 0 →
    (Qm (some (.int (0 : Int32))) u2)) ∧ ((u2.1 60 32) = 0 →
    ((¬ (u2.1 60 33) = 0 →
    (Qm (some (.int (0 : Int32))) u2)) ∧ ((u2.1 60 33) = 0 →
    (Qm (some (.int (1 : Int32))) u2)))))))))) ∧ (¬ 0 ≤ v1 →
    (Qm (some (.int (0 : Int32))) u2))))))) :
    mG X E MX9_isSentence 0 [.ref 60, .int p0, .retAddr 0] [] w := by
  refine mG_aload_n C dX9_isSentence_0 rfl rfl ?_
  refine mG_iload_n C dX9_isSentence_1 rfl rfl ?_
  refine mG_sipush C dX9_isSentence_2 sp10000 ?_
  refine mG_idiv C dX9_isSentence_5 (by decide) ?_
  refine mG_iload_n C dX9_isSentence_6 rfl rfl ?_
  refine mG_sipush C dX9_isSentence_7 sp1000 ?_
  refine mG_idiv C dX9_isSentence_10 (by decide) ?_
  refine mG_bipush C dX9_isSentence_11 bp10 ?_
  refine mG_irem C dX9_isSentence_13 (by decide) ?_
  refine mG_iload_n C dX9_isSentence_14 rfl rfl ?_
  refine mG_bipush C dX9_isSentence_15 bp100 ?_
  refine mG_idiv C dX9_isSentence_17 (by decide) ?_
  refine mG_bipush C dX9_isSentence_18 bp10 ?_
  refine mG_irem C dX9_isSentence_20 (by decide) ?_
  refine mG_iload_n C dX9_isSentence_21 rfl rfl ?_
  refine mG_bipush C dX9_isSentence_22 bp10 ?_
  refine mG_idiv C dX9_isSentence_24 (by decide) ?_
  refine mG_bipush C dX9_isSentence_25 bp10 ?_
  refine mG_irem C dX9_isSentence_27 (by decide) ?_
  refine mG_iload_n C dX9_isSentence_28 rfl rfl ?_
  refine mG_bipush C dX9_isSentence_29 bp10 ?_
  refine mG_irem C dX9_isSentence_31 (by decide) ?_
  refine mG_Vv (Z := MX9_lay) (as := [.int (p0 / (10000 : Int32)), .int ((p0 / (1000 : Int32)) - (p0 / (1000 : Int32)) / (10 : Int32) * (10 : Int32)), .int ((p0 / (100 : Int32)) - (p0 / (100 : Int32)) / (10 : Int32) * (10 : Int32)), .int ((p0 / (10 : Int32)) - (p0 / (10 : Int32)) / (10 : Int32) * (10 : Int32)), .int (p0 - p0 / (10 : Int32) * (10 : Int32))]) (rest := []) C dX9_isSentence_32 lk_1070 zX9_lay ⟨Nat.le_of_ble_eq_true rfl, Nat.le_of_ble_eq_true rfl⟩ sh60 rfl rfl (Nat.le_of_ble_eq_true rfl) rfl K (fun u1 K => ?_)
  refine mG_aload_n C dX9_isSentence_35 rfl rfl ?_
  refine mG_aload_n C dX9_isSentence_36 rfl rfl ?_
  refine mG_getI C dX9_isSentence_37 fl_862 sh60 rfl ?_
  refine mG_aload_n C dX9_isSentence_40 rfl rfl ?_
  refine mG_getI C dX9_isSentence_41 fl_863 sh60 rfl ?_
  refine mG_aload_n C dX9_isSentence_44 rfl rfl ?_
  refine mG_getI C dX9_isSentence_45 fl_864 sh60 rfl ?_
  refine mG_aload_n C dX9_isSentence_48 rfl rfl ?_
  refine mG_getI C dX9_isSentence_49 fl_865 sh60 rfl ?_
  refine mG_aload_n C dX9_isSentence_52 rfl rfl ?_
  refine mG_getI C dX9_isSentence_53 fl_866 sh60 rfl ?_
  refine mG_Vi (Z := MX9_barred) (as := [.int (u1.1 60 29), .int (u1.1 60 30), .int (u1.1 60 31), .int (u1.1 60 32), .int (u1.1 60 33)]) (rest := []) C dX9_isSentence_56 lk_1062 zX9_barred ⟨Nat.le_of_ble_eq_true rfl, Nat.le_of_ble_eq_true rfl⟩ sh60 rfl rfl (Nat.le_of_ble_eq_true rfl) rfl K (fun v1 u2 K => ?_)
  refine mG_if_ge (tgt := 64) C dX9_isSentence_59 rfl (fun h => ?_) (fun h => ?_)
  · have K := K.1 h
    refine mG_aload_n C dX9_isSentence_64 rfl rfl ?_
    refine mG_getI C dX9_isSentence_65 fl_862 sh60 rfl ?_
    refine mG_if_eq (tgt := 79) C dX9_isSentence_68 rfl (fun h => ?_) (fun h => ?_)
    · have K := K.1 h
      refine mG_iconst C dX9_isSentence_79 ic1 ?_
      refine mG_goto (tgt := 84) C dX9_isSentence_80 rfl ?_
      refine mG_istore_n (lv' := [.ref 60, .int p0, .int (1 : Int32)]) C dX9_isSentence_84 rfl (by decide) rfl ?_
      refine mG_iload_n C dX9_isSentence_85 rfl rfl ?_
      refine mG_if_eq (tgt := 103) C dX9_isSentence_86 rfl (fun h => absurd h (by decide)) (fun _ => ?_)
      refine mG_aload_n C dX9_isSentence_89 rfl rfl ?_
      refine mG_getI C dX9_isSentence_90 fl_865 sh60 rfl ?_
      refine mG_if_ne (tgt := 107) C dX9_isSentence_93 rfl (fun h => ?_) (fun h => ?_)
      · have K := K.1 h
        refine mG_iconst C dX9_isSentence_107 ic0 ?_
        exact mG_iret C F dX9_isSentence_108 rfl (by decide) K
      · have K := K.2 h
        refine mG_aload_n C dX9_isSentence_96 rfl rfl ?_
        refine mG_getI C dX9_isSentence_97 fl_866 sh60 rfl ?_
        refine mG_if_ne (tgt := 107) C dX9_isSentence_100 rfl (fun h => ?_) (fun h => ?_)
        · have K := K.1 h
          refine mG_iconst C dX9_isSentence_107 ic0 ?_
          exact mG_iret C F dX9_isSentence_108 rfl (by decide) K
        · have K := K.2 h
          refine mG_iconst C dX9_isSentence_103 ic1 ?_
          refine mG_goto (tgt := 108) C dX9_isSentence_104 rfl ?_
          exact mG_iret C F dX9_isSentence_108 rfl (by decide) K
    · have K := K.2 h
      refine mG_aload_n C dX9_isSentence_71 rfl rfl ?_
      refine mG_getI C dX9_isSentence_72 fl_862 sh60 rfl ?_
      refine mG_iconst C dX9_isSentence_75 ic4 ?_
      refine mG_icmp_ne (tgt := 83) C dX9_isSentence_76 rfl (fun h => ?_) (fun h => ?_)
      · have K := K.1 h
        refine mG_iconst C dX9_isSentence_83 ic0 ?_
        refine mG_istore_n (lv' := [.ref 60, .int p0, .int (0 : Int32)]) C dX9_isSentence_84 rfl (by decide) rfl ?_
        refine mG_iload_n C dX9_isSentence_85 rfl rfl ?_
        refine mG_if_eq (tgt := 103) C dX9_isSentence_86 rfl (fun _ => ?_) (fun h => absurd h (by decide))
        refine mG_iconst C dX9_isSentence_103 ic1 ?_
        refine mG_goto (tgt := 108) C dX9_isSentence_104 rfl ?_
        exact mG_iret C F dX9_isSentence_108 rfl (by decide) K
      · have K := K.2 h
        refine mG_iconst C dX9_isSentence_79 ic1 ?_
        refine mG_goto (tgt := 84) C dX9_isSentence_80 rfl ?_
        refine mG_istore_n (lv' := [.ref 60, .int p0, .int (1 : Int32)]) C dX9_isSentence_84 rfl (by decide) rfl ?_
        refine mG_iload_n C dX9_isSentence_85 rfl rfl ?_
        refine mG_if_eq (tgt := 103) C dX9_isSentence_86 rfl (fun h => absurd h (by decide)) (fun _ => ?_)
        refine mG_aload_n C dX9_isSentence_89 rfl rfl ?_
        refine mG_getI C dX9_isSentence_90 fl_865 sh60 rfl ?_
        refine mG_if_ne (tgt := 107) C dX9_isSentence_93 rfl (fun h => ?_) (fun h => ?_)
        · have K := K.1 h
          refine mG_iconst C dX9_isSentence_107 ic0 ?_
          exact mG_iret C F dX9_isSentence_108 rfl (by decide) K
        · have K := K.2 h
          refine mG_aload_n C dX9_isSentence_96 rfl rfl ?_
          refine mG_getI C dX9_isSentence_97 fl_866 sh60 rfl ?_
          refine mG_if_ne (tgt := 107) C dX9_isSentence_100 rfl (fun h => ?_) (fun h => ?_)
          · have K := K.1 h
            refine mG_iconst C dX9_isSentence_107 ic0 ?_
            exact mG_iret C F dX9_isSentence_108 rfl (by decide) K
          · have K := K.2 h
            refine mG_iconst C dX9_isSentence_103 ic1 ?_
            refine mG_goto (tgt := 108) C dX9_isSentence_104 rfl ?_
            exact mG_iret C F dX9_isSentence_108 rfl (by decide) K
  · have K := K.2 h
    refine mG_iconst C dX9_isSentence_62 ic0 ?_
    exact mG_iret C F dX9_isSentence_63 rfl (by decide) K

set_option maxRecDepth 20000 in
set_option maxHeartbeats 4000000 in
theorem vX9_isSo_0 {X : mX} {E : mEnv} {Qm : Option Value → mW → Prop} (C : mCtx X E MX9_isSo) (F : mFin X E MX9_isSo Qm) {w : mW} {a0 : Nat} (ha0 : mSh[a0]? = some (.inl (0, 32, []))) (p1 : Int32)
    (K : (¬ (((w.1 a0 0) >>> ((w.1 60 30) &&& 31)) &&& (1 : Int32)) = (w.1 60 31) →
    ((¬ (((w.1 a0 0) >>> ((w.1 60 32) &&& 31)) &&& (1 : Int32)) = (w.1 60 33) →
    (((w.1 60 29) = (0 : Int32) →
    (Qm (some (.int (0 : Int32))) w)) ∧ (¬ (w.1 60 29) = (0 : Int32) →
    (((w.1 60 29) = (1 : Int32) →
    (Qm (some (.int (0 : Int32))) w)) ∧ (¬ (w.1 60 29) = (1 : Int32) →
    (((w.1 60 29) = (2 : Int32) →
    (Qm (some (.int (0 : Int32))) w)) ∧ (¬ (w.1 60 29) = (2 : Int32) →
    (((w.1 60 29) = (3 : Int32) →
    (Qm (some (.int (1 : Int32))) w)) ∧ (¬ (w.1 60 29) = (3 : Int32) →
    (mMv E MX9_copy [.ref a0, .int (0 : Int32), .ref 68, .int (0 : Int32)] w (fun u1 =>
    (mMv E MX9_hearAll [.ref 60, .ref 68, .int p1] u1 (fun u2 =>
    (mMv E MX9_pass [.ref 60, .ref 68] u2 (fun u3 =>
    ((¬ (((u3.1 68 0) >>> ((u3.1 60 30) &&& 31)) &&& (1 : Int32)) = (u3.1 60 31) →
    (Qm (some (.int (0 : Int32))) u3)) ∧ ((((u3.1 68 0) >>> ((u3.1 60 30) &&& 31)) &&& (1 : Int32)) = (u3.1 60 31) →
    (Qm (some (.int (1 : Int32))) u3)))))))))))))))))) ∧ ((((w.1 a0 0) >>> ((w.1 60 32) &&& 31)) &&& (1 : Int32)) = (w.1 60 33) →
    (((w.1 60 29) = (0 : Int32) →
    (Qm (some (.int (0 : Int32))) w)) ∧ (¬ (w.1 60 29) = (0 : Int32) →
    (((w.1 60 29) = (1 : Int32) →
    (Qm (some (.int (0 : Int32))) w)) ∧ (¬ (w.1 60 29) = (1 : Int32) →
    (((w.1 60 29) = (2 : Int32) →
    (Qm (some (.int (1 : Int32))) w)) ∧ (¬ (w.1 60 29) = (2 : Int32) →
    (((w.1 60 29) = (3 : Int32) →
    (Qm (some (.int (1 : Int32))) w)) ∧ (¬ (w.1 60 29) = (3 : Int32) →
    (mMv E MX9_copy [.ref a0, .int (0 : Int32), .ref 68, .int (0 : Int32)] w (fun u4 =>
    (mMv E MX9_hearAll [.ref 60, .ref 68, .int p1] u4 (fun u5 =>
    (mMv E MX9_pass [.ref 60, .ref 68] u5 (fun u6 =>
    ((¬ (((u6.1 68 0) >>> ((u6.1 60 30) &&& 31)) &&& (1 : Int32)) = (u6.1 60 31) →
    (Qm (some (.int (0 : Int32))) u6)) ∧ ((((u6.1 68 0) >>> ((u6.1 60 30) &&& 31)) &&& (1 : Int32)) = (u6.1 60 31) →
    (Qm (some (.int (1 : Int32))) u6)))))))))))))))))))) ∧ ((((w.1 a0 0) >>> ((w.1 60 30) &&& 31)) &&& (1 : Int32)) = (w.1 60 31) →
    ((¬ (((w.1 a0 0) >>> ((w.1 60 32) &&& 31)) &&& (1 : Int32)) = (w.1 60 33) →
    (((w.1 60 29) = (0 : Int32) →
    (Qm (some (.int (1 : Int32))) w)) ∧ (¬ (w.1 60 29) = (0 : Int32) →
    (((w.1 60 29) = (1 : Int32) →
    (Qm (some (.int (0 : Int32))) w)) ∧ (¬ (w.1 60 29) = (1 : Int32) →
    (((w.1 60 29) = (2 : Int32) →
    (Qm (some (.int (1 : Int32))) w)) ∧ (¬ (w.1 60 29) = (2 : Int32) →
    (((w.1 60 29) = (3 : Int32) →
    (Qm (some (.int (0 : Int32))) w)) ∧ (¬ (w.1 60 29) = (3 : Int32) →
    (mMv E MX9_copy [.ref a0, .int (0 : Int32), .ref 68, .int (0 : Int32)] w (fun u7 =>
    (mMv E MX9_hearAll [.ref 60, .ref 68, .int p1] u7 (fun u8 =>
    (mMv E MX9_pass [.ref 60, .ref 68] u8 (fun u9 =>
    ((¬ (((u9.1 68 0) >>> ((u9.1 60 30) &&& 31)) &&& (1 : Int32)) = (u9.1 60 31) →
    (Qm (some (.int (0 : Int32))) u9)) ∧ ((((u9.1 68 0) >>> ((u9.1 60 30) &&& 31)) &&& (1 : Int32)) = (u9.1 60 31) →
    (Qm (some (.int (1 : Int32))) u9)))))))))))))))))) ∧ ((((w.1 a0 0) >>> ((w.1 60 32) &&& 31)) &&& (1 : Int32)) = (w.1 60 33) →
    (((w.1 60 29) = (0 : Int32) →
    (Qm (some (.int (1 : Int32))) w)) ∧ (¬ (w.1 60 29) = (0 : Int32) →
    (((w.1 60 29) = (1 : Int32) →
    (Qm (some (.int (1 : Int32))) w)) ∧ (¬ (w.1 60 29) = (1 : Int32) →
    (((w.1 60 29) = (2 : Int32) →
    (Qm (some (.int (1 : Int32))) w)) ∧ (¬ (w.1 60 29) = (2 : Int32) →
    (((w.1 60 29) = (3 : Int32) →
    (Qm (some (.int (1 : Int32))) w)) ∧ (¬ (w.1 60 29) = (3 : Int32) →
    (mMv E MX9_copy [.ref a0, .int (0 : Int32), .ref 68, .int (0 : Int32)] w (fun u10 =>
    (mMv E MX9_hearAll [.ref 60, .ref 68, .int p1] u10 (fun u11 =>
    (mMv E MX9_pass [.ref 60, .ref 68] u11 (fun u12 =>
    ((¬ (((u12.1 68 0) >>> ((u12.1 60 30) &&& 31)) &&& (1 : Int32)) = (u12.1 60 31) →
    (Qm (some (.int (0 : Int32))) u12)) ∧ ((((u12.1 68 0) >>> ((u12.1 60 30) &&& 31)) &&& (1 : Int32)) = (u12.1 60 31) →
    (Qm (some (.int (1 : Int32))) u12))))))))))))))))))))) :
    mG X E MX9_isSo 0 [.ref 60, .ref a0, .int p1, .retAddr 0, .retAddr 0] [] w := by
  refine mG_aload_n C dX9_isSo_0 rfl rfl ?_
  refine mG_iconst C dX9_isSo_1 ic0 ?_
  refine mG_ialdv C dX9_isSo_2 ha0 (by unfold vp_in; decide) (by first | rfl | simp [mPI, mPL]) ?_
  refine mG_aload_n C dX9_isSo_3 rfl rfl ?_
  refine mG_getI C dX9_isSo_4 fl_863 sh60 rfl ?_
  refine mG_ishr C dX9_isSo_7 ?_
  refine mG_iconst C dX9_isSo_8 ic1 ?_
  refine mG_iand C dX9_isSo_9 ?_
  refine mG_aload_n C dX9_isSo_10 rfl rfl ?_
  refine mG_getI C dX9_isSo_11 fl_864 sh60 rfl ?_
  refine mG_icmp_ne (tgt := 21) C dX9_isSo_14 rfl (fun h => ?_) (fun h => ?_)
  · have K := K.1 h
    refine mG_iconst C dX9_isSo_21 ic0 ?_
    refine mG_istore_n (lv' := [.ref 60, .ref a0, .int p1, .int (0 : Int32), .retAddr 0]) C dX9_isSo_22 rfl (by decide) rfl ?_
    refine mG_aload_n C dX9_isSo_23 rfl rfl ?_
    refine mG_iconst C dX9_isSo_24 ic0 ?_
    refine mG_ialdv C dX9_isSo_25 ha0 (by unfold vp_in; decide) (by first | rfl | simp [mPI, mPL]) ?_
    refine mG_aload_n C dX9_isSo_26 rfl rfl ?_
    refine mG_getI C dX9_isSo_27 fl_865 sh60 rfl ?_
    refine mG_ishr C dX9_isSo_30 ?_
    refine mG_iconst C dX9_isSo_31 ic1 ?_
    refine mG_iand C dX9_isSo_32 ?_
    refine mG_aload_n C dX9_isSo_33 rfl rfl ?_
    refine mG_getI C dX9_isSo_34 fl_866 sh60 rfl ?_
    refine mG_icmp_ne (tgt := 44) C dX9_isSo_37 rfl (fun h => ?_) (fun h => ?_)
    · have K := K.1 h
      refine mG_iconst C dX9_isSo_44 ic0 ?_
      refine mG_istore (lv' := [.ref 60, .ref a0, .int p1, .int (0 : Int32), .int (0 : Int32)]) C dX9_isSo_45 (by decide) rfl ?_
      refine mG_aload_n C dX9_isSo_47 rfl rfl ?_
      refine mG_getI C dX9_isSo_48 fl_862 sh60 rfl ?_
      by_cases g0 : (w.1 60 29) = (0 : Int32)
      · have K := K.1 g0
        refine mG_tableEq (off := 29) (tgt := 80) C dX9_isSo_51 g0 (by decide) (by decide) rfl rfl ?_
        refine mG_iload_n C dX9_isSo_80 rfl rfl ?_
        exact mG_iret C F dX9_isSo_81 rfl (by decide) K
      · have K := K.2 g0
        by_cases g1 : (w.1 60 29) = (1 : Int32)
        · have K := K.1 g1
          refine mG_tableEq (off := 31) (tgt := 82) C dX9_isSo_51 g1 (by decide) (by decide) rfl rfl ?_
          refine mG_iload_n C dX9_isSo_82 rfl rfl ?_
          refine mG_if_eq (tgt := 95) C dX9_isSo_83 rfl (fun _ => ?_) (fun h => absurd h (by decide))
          refine mG_iconst C dX9_isSo_95 ic0 ?_
          exact mG_iret C F dX9_isSo_96 rfl (by decide) K
        · have K := K.2 g1
          by_cases g2 : (w.1 60 29) = (2 : Int32)
          · have K := K.1 g2
            refine mG_tableEq (off := 46) (tgt := 97) C dX9_isSo_51 g2 (by decide) (by decide) rfl rfl ?_
            refine mG_iload_n C dX9_isSo_97 rfl rfl ?_
            refine mG_if_ne (tgt := 106) C dX9_isSo_98 rfl (fun h => absurd h (by decide)) (fun _ => ?_)
            refine mG_iload C dX9_isSo_101 rfl ?_
            refine mG_if_eq (tgt := 110) C dX9_isSo_103 rfl (fun _ => ?_) (fun h => absurd h (by decide))
            refine mG_iconst C dX9_isSo_110 ic0 ?_
            exact mG_iret C F dX9_isSo_111 rfl (by decide) K
          · have K := K.2 g2
            by_cases g3 : (w.1 60 29) = (3 : Int32)
            · have K := K.1 g3
              refine mG_tableEq (off := 61) (tgt := 112) C dX9_isSo_51 g3 (by decide) (by decide) rfl rfl ?_
              refine mG_iload_n C dX9_isSo_112 rfl rfl ?_
              refine mG_if_eq (tgt := 121) C dX9_isSo_113 rfl (fun _ => ?_) (fun h => absurd h (by decide))
              refine mG_iconst C dX9_isSo_121 ic1 ?_
              refine mG_goto (tgt := 126) C dX9_isSo_122 rfl ?_
              exact mG_iret C F dX9_isSo_126 rfl (by decide) K
            · have K := K.2 g3
              have e0 := lv_neT g0 (show (0 : Int32).toInt = 0 by decide)
              have e1 := lv_neT g1 (show (1 : Int32).toInt = 1 by decide)
              have e2 := lv_neT g2 (show (2 : Int32).toInt = 2 by decide)
              have e3 := lv_neT g3 (show (3 : Int32).toInt = 3 by decide)
              refine mG_tableOut (tgt := 127) C dX9_isSo_51 (by omega) rfl ?_
              refine mG_aload_n C dX9_isSo_127 rfl rfl ?_
              refine mG_iconst C dX9_isSo_128 ic0 ?_
              refine mG_aload_n C dX9_isSo_129 rfl rfl ?_
              refine mG_getR C dX9_isSo_130 fl_854 sh60 rfl ?_
              refine mG_iconst C dX9_isSo_133 ic0 ?_
              refine mG_Sv (Z := MX9_copy) (as := [.ref a0, .int (0 : Int32), .ref 68, .int (0 : Int32)]) (rest := []) C dX9_isSo_134 lk_1082 zX9_copy ⟨Nat.le_of_ble_eq_true rfl, Nat.le_of_ble_eq_true rfl⟩ rfl (Nat.le_of_ble_eq_true rfl) rfl K (fun u1 K => ?_)
              refine mG_aload_n C dX9_isSo_137 rfl rfl ?_
              refine mG_aload_n C dX9_isSo_138 rfl rfl ?_
              refine mG_getR C dX9_isSo_139 fl_854 sh60 rfl ?_
              refine mG_iload_n C dX9_isSo_142 rfl rfl ?_
              refine mG_Vv (Z := MX9_hearAll) (as := [.ref 68, .int p1]) (rest := []) C dX9_isSo_143 lk_1085 zX9_hearAll ⟨Nat.le_of_ble_eq_true rfl, Nat.le_of_ble_eq_true rfl⟩ sh60 rfl rfl (Nat.le_of_ble_eq_true rfl) rfl K (fun u2 K => ?_)
              refine mG_aload_n C dX9_isSo_146 rfl rfl ?_
              refine mG_aload_n C dX9_isSo_147 rfl rfl ?_
              refine mG_getR C dX9_isSo_148 fl_854 sh60 rfl ?_
              refine mG_Vv (Z := MX9_pass) (as := [.ref 68]) (rest := []) C dX9_isSo_151 lk_1096 zX9_pass ⟨Nat.le_of_ble_eq_true rfl, Nat.le_of_ble_eq_true rfl⟩ sh60 rfl rfl (Nat.le_of_ble_eq_true rfl) rfl K (fun u3 K => ?_)
              refine mG_aload_n C dX9_isSo_154 rfl rfl ?_
              refine mG_getR C dX9_isSo_155 fl_854 sh60 rfl ?_
              refine mG_iconst C dX9_isSo_158 ic0 ?_
              refine mG_ialdv C dX9_isSo_159 sh68 (by unfold vp_in; decide) (by first | rfl | simp [mPI, mPL]) ?_
              refine mG_aload_n C dX9_isSo_160 rfl rfl ?_
              refine mG_getI C dX9_isSo_161 fl_863 sh60 rfl ?_
              refine mG_ishr C dX9_isSo_164 ?_
              refine mG_iconst C dX9_isSo_165 ic1 ?_
              refine mG_iand C dX9_isSo_166 ?_
              refine mG_aload_n C dX9_isSo_167 rfl rfl ?_
              refine mG_getI C dX9_isSo_168 fl_864 sh60 rfl ?_
              refine mG_icmp_ne (tgt := 178) C dX9_isSo_171 rfl (fun h => ?_) (fun h => ?_)
              · have K := K.1 h
                refine mG_iconst C dX9_isSo_178 ic0 ?_
                exact mG_iret C F dX9_isSo_179 rfl (by decide) K
              · have K := K.2 h
                refine mG_iconst C dX9_isSo_174 ic1 ?_
                refine mG_goto (tgt := 179) C dX9_isSo_175 rfl ?_
                exact mG_iret C F dX9_isSo_179 rfl (by decide) K
    · have K := K.2 h
      refine mG_iconst C dX9_isSo_40 ic1 ?_
      refine mG_goto (tgt := 45) C dX9_isSo_41 rfl ?_
      refine mG_istore (lv' := [.ref 60, .ref a0, .int p1, .int (0 : Int32), .int (1 : Int32)]) C dX9_isSo_45 (by decide) rfl ?_
      refine mG_aload_n C dX9_isSo_47 rfl rfl ?_
      refine mG_getI C dX9_isSo_48 fl_862 sh60 rfl ?_
      by_cases g0 : (w.1 60 29) = (0 : Int32)
      · have K := K.1 g0
        refine mG_tableEq (off := 29) (tgt := 80) C dX9_isSo_51 g0 (by decide) (by decide) rfl rfl ?_
        refine mG_iload_n C dX9_isSo_80 rfl rfl ?_
        exact mG_iret C F dX9_isSo_81 rfl (by decide) K
      · have K := K.2 g0
        by_cases g1 : (w.1 60 29) = (1 : Int32)
        · have K := K.1 g1
          refine mG_tableEq (off := 31) (tgt := 82) C dX9_isSo_51 g1 (by decide) (by decide) rfl rfl ?_
          refine mG_iload_n C dX9_isSo_82 rfl rfl ?_
          refine mG_if_eq (tgt := 95) C dX9_isSo_83 rfl (fun _ => ?_) (fun h => absurd h (by decide))
          refine mG_iconst C dX9_isSo_95 ic0 ?_
          exact mG_iret C F dX9_isSo_96 rfl (by decide) K
        · have K := K.2 g1
          by_cases g2 : (w.1 60 29) = (2 : Int32)
          · have K := K.1 g2
            refine mG_tableEq (off := 46) (tgt := 97) C dX9_isSo_51 g2 (by decide) (by decide) rfl rfl ?_
            refine mG_iload_n C dX9_isSo_97 rfl rfl ?_
            refine mG_if_ne (tgt := 106) C dX9_isSo_98 rfl (fun h => absurd h (by decide)) (fun _ => ?_)
            refine mG_iload C dX9_isSo_101 rfl ?_
            refine mG_if_eq (tgt := 110) C dX9_isSo_103 rfl (fun h => absurd h (by decide)) (fun _ => ?_)
            refine mG_iconst C dX9_isSo_106 ic1 ?_
            refine mG_goto (tgt := 111) C dX9_isSo_107 rfl ?_
            exact mG_iret C F dX9_isSo_111 rfl (by decide) K
          · have K := K.2 g2
            by_cases g3 : (w.1 60 29) = (3 : Int32)
            · have K := K.1 g3
              refine mG_tableEq (off := 61) (tgt := 112) C dX9_isSo_51 g3 (by decide) (by decide) rfl rfl ?_
              refine mG_iload_n C dX9_isSo_112 rfl rfl ?_
              refine mG_if_eq (tgt := 121) C dX9_isSo_113 rfl (fun _ => ?_) (fun h => absurd h (by decide))
              refine mG_iconst C dX9_isSo_121 ic1 ?_
              refine mG_goto (tgt := 126) C dX9_isSo_122 rfl ?_
              exact mG_iret C F dX9_isSo_126 rfl (by decide) K
            · have K := K.2 g3
              have e0 := lv_neT g0 (show (0 : Int32).toInt = 0 by decide)
              have e1 := lv_neT g1 (show (1 : Int32).toInt = 1 by decide)
              have e2 := lv_neT g2 (show (2 : Int32).toInt = 2 by decide)
              have e3 := lv_neT g3 (show (3 : Int32).toInt = 3 by decide)
              refine mG_tableOut (tgt := 127) C dX9_isSo_51 (by omega) rfl ?_
              refine mG_aload_n C dX9_isSo_127 rfl rfl ?_
              refine mG_iconst C dX9_isSo_128 ic0 ?_
              refine mG_aload_n C dX9_isSo_129 rfl rfl ?_
              refine mG_getR C dX9_isSo_130 fl_854 sh60 rfl ?_
              refine mG_iconst C dX9_isSo_133 ic0 ?_
              refine mG_Sv (Z := MX9_copy) (as := [.ref a0, .int (0 : Int32), .ref 68, .int (0 : Int32)]) (rest := []) C dX9_isSo_134 lk_1082 zX9_copy ⟨Nat.le_of_ble_eq_true rfl, Nat.le_of_ble_eq_true rfl⟩ rfl (Nat.le_of_ble_eq_true rfl) rfl K (fun u4 K => ?_)
              refine mG_aload_n C dX9_isSo_137 rfl rfl ?_
              refine mG_aload_n C dX9_isSo_138 rfl rfl ?_
              refine mG_getR C dX9_isSo_139 fl_854 sh60 rfl ?_
              refine mG_iload_n C dX9_isSo_142 rfl rfl ?_
              refine mG_Vv (Z := MX9_hearAll) (as := [.ref 68, .int p1]) (rest := []) C dX9_isSo_143 lk_1085 zX9_hearAll ⟨Nat.le_of_ble_eq_true rfl, Nat.le_of_ble_eq_true rfl⟩ sh60 rfl rfl (Nat.le_of_ble_eq_true rfl) rfl K (fun u5 K => ?_)
              refine mG_aload_n C dX9_isSo_146 rfl rfl ?_
              refine mG_aload_n C dX9_isSo_147 rfl rfl ?_
              refine mG_getR C dX9_isSo_148 fl_854 sh60 rfl ?_
              refine mG_Vv (Z := MX9_pass) (as := [.ref 68]) (rest := []) C dX9_isSo_151 lk_1096 zX9_pass ⟨Nat.le_of_ble_eq_true rfl, Nat.le_of_ble_eq_true rfl⟩ sh60 rfl rfl (Nat.le_of_ble_eq_true rfl) rfl K (fun u6 K => ?_)
              refine mG_aload_n C dX9_isSo_154 rfl rfl ?_
              refine mG_getR C dX9_isSo_155 fl_854 sh60 rfl ?_
              refine mG_iconst C dX9_isSo_158 ic0 ?_
              refine mG_ialdv C dX9_isSo_159 sh68 (by unfold vp_in; decide) (by first | rfl | simp [mPI, mPL]) ?_
              refine mG_aload_n C dX9_isSo_160 rfl rfl ?_
              refine mG_getI C dX9_isSo_161 fl_863 sh60 rfl ?_
              refine mG_ishr C dX9_isSo_164 ?_
              refine mG_iconst C dX9_isSo_165 ic1 ?_
              refine mG_iand C dX9_isSo_166 ?_
              refine mG_aload_n C dX9_isSo_167 rfl rfl ?_
              refine mG_getI C dX9_isSo_168 fl_864 sh60 rfl ?_
              refine mG_icmp_ne (tgt := 178) C dX9_isSo_171 rfl (fun h => ?_) (fun h => ?_)
              · have K := K.1 h
                refine mG_iconst C dX9_isSo_178 ic0 ?_
                exact mG_iret C F dX9_isSo_179 rfl (by decide) K
              · have K := K.2 h
                refine mG_iconst C dX9_isSo_174 ic1 ?_
                refine mG_goto (tgt := 179) C dX9_isSo_175 rfl ?_
                exact mG_iret C F dX9_isSo_179 rfl (by decide) K
  · have K := K.2 h
    refine mG_iconst C dX9_isSo_17 ic1 ?_
    refine mG_goto (tgt := 22) C dX9_isSo_18 rfl ?_
    refine mG_istore_n (lv' := [.ref 60, .ref a0, .int p1, .int (1 : Int32), .retAddr 0]) C dX9_isSo_22 rfl (by decide) rfl ?_
    refine mG_aload_n C dX9_isSo_23 rfl rfl ?_
    refine mG_iconst C dX9_isSo_24 ic0 ?_
    refine mG_ialdv C dX9_isSo_25 ha0 (by unfold vp_in; decide) (by first | rfl | simp [mPI, mPL]) ?_
    refine mG_aload_n C dX9_isSo_26 rfl rfl ?_
    refine mG_getI C dX9_isSo_27 fl_865 sh60 rfl ?_
    refine mG_ishr C dX9_isSo_30 ?_
    refine mG_iconst C dX9_isSo_31 ic1 ?_
    refine mG_iand C dX9_isSo_32 ?_
    refine mG_aload_n C dX9_isSo_33 rfl rfl ?_
    refine mG_getI C dX9_isSo_34 fl_866 sh60 rfl ?_
    refine mG_icmp_ne (tgt := 44) C dX9_isSo_37 rfl (fun h => ?_) (fun h => ?_)
    · have K := K.1 h
      refine mG_iconst C dX9_isSo_44 ic0 ?_
      refine mG_istore (lv' := [.ref 60, .ref a0, .int p1, .int (1 : Int32), .int (0 : Int32)]) C dX9_isSo_45 (by decide) rfl ?_
      refine mG_aload_n C dX9_isSo_47 rfl rfl ?_
      refine mG_getI C dX9_isSo_48 fl_862 sh60 rfl ?_
      by_cases g0 : (w.1 60 29) = (0 : Int32)
      · have K := K.1 g0
        refine mG_tableEq (off := 29) (tgt := 80) C dX9_isSo_51 g0 (by decide) (by decide) rfl rfl ?_
        refine mG_iload_n C dX9_isSo_80 rfl rfl ?_
        exact mG_iret C F dX9_isSo_81 rfl (by decide) K
      · have K := K.2 g0
        by_cases g1 : (w.1 60 29) = (1 : Int32)
        · have K := K.1 g1
          refine mG_tableEq (off := 31) (tgt := 82) C dX9_isSo_51 g1 (by decide) (by decide) rfl rfl ?_
          refine mG_iload_n C dX9_isSo_82 rfl rfl ?_
          refine mG_if_eq (tgt := 95) C dX9_isSo_83 rfl (fun h => absurd h (by decide)) (fun _ => ?_)
          refine mG_iload C dX9_isSo_86 rfl ?_
          refine mG_if_eq (tgt := 95) C dX9_isSo_88 rfl (fun _ => ?_) (fun h => absurd h (by decide))
          refine mG_iconst C dX9_isSo_95 ic0 ?_
          exact mG_iret C F dX9_isSo_96 rfl (by decide) K
        · have K := K.2 g1
          by_cases g2 : (w.1 60 29) = (2 : Int32)
          · have K := K.1 g2
            refine mG_tableEq (off := 46) (tgt := 97) C dX9_isSo_51 g2 (by decide) (by decide) rfl rfl ?_
            refine mG_iload_n C dX9_isSo_97 rfl rfl ?_
            refine mG_if_ne (tgt := 106) C dX9_isSo_98 rfl (fun _ => ?_) (fun h => absurd h (by decide))
            refine mG_iconst C dX9_isSo_106 ic1 ?_
            refine mG_goto (tgt := 111) C dX9_isSo_107 rfl ?_
            exact mG_iret C F dX9_isSo_111 rfl (by decide) K
          · have K := K.2 g2
            by_cases g3 : (w.1 60 29) = (3 : Int32)
            · have K := K.1 g3
              refine mG_tableEq (off := 61) (tgt := 112) C dX9_isSo_51 g3 (by decide) (by decide) rfl rfl ?_
              refine mG_iload_n C dX9_isSo_112 rfl rfl ?_
              refine mG_if_eq (tgt := 121) C dX9_isSo_113 rfl (fun h => absurd h (by decide)) (fun _ => ?_)
              refine mG_iload C dX9_isSo_116 rfl ?_
              refine mG_if_eq (tgt := 125) C dX9_isSo_118 rfl (fun _ => ?_) (fun h => absurd h (by decide))
              refine mG_iconst C dX9_isSo_125 ic0 ?_
              exact mG_iret C F dX9_isSo_126 rfl (by decide) K
            · have K := K.2 g3
              have e0 := lv_neT g0 (show (0 : Int32).toInt = 0 by decide)
              have e1 := lv_neT g1 (show (1 : Int32).toInt = 1 by decide)
              have e2 := lv_neT g2 (show (2 : Int32).toInt = 2 by decide)
              have e3 := lv_neT g3 (show (3 : Int32).toInt = 3 by decide)
              refine mG_tableOut (tgt := 127) C dX9_isSo_51 (by omega) rfl ?_
              refine mG_aload_n C dX9_isSo_127 rfl rfl ?_
              refine mG_iconst C dX9_isSo_128 ic0 ?_
              refine mG_aload_n C dX9_isSo_129 rfl rfl ?_
              refine mG_getR C dX9_isSo_130 fl_854 sh60 rfl ?_
              refine mG_iconst C dX9_isSo_133 ic0 ?_
              refine mG_Sv (Z := MX9_copy) (as := [.ref a0, .int (0 : Int32), .ref 68, .int (0 : Int32)]) (rest := []) C dX9_isSo_134 lk_1082 zX9_copy ⟨Nat.le_of_ble_eq_true rfl, Nat.le_of_ble_eq_true rfl⟩ rfl (Nat.le_of_ble_eq_true rfl) rfl K (fun u7 K => ?_)
              refine mG_aload_n C dX9_isSo_137 rfl rfl ?_
              refine mG_aload_n C dX9_isSo_138 rfl rfl ?_
              refine mG_getR C dX9_isSo_139 fl_854 sh60 rfl ?_
              refine mG_iload_n C dX9_isSo_142 rfl rfl ?_
              refine mG_Vv (Z := MX9_hearAll) (as := [.ref 68, .int p1]) (rest := []) C dX9_isSo_143 lk_1085 zX9_hearAll ⟨Nat.le_of_ble_eq_true rfl, Nat.le_of_ble_eq_true rfl⟩ sh60 rfl rfl (Nat.le_of_ble_eq_true rfl) rfl K (fun u8 K => ?_)
              refine mG_aload_n C dX9_isSo_146 rfl rfl ?_
              refine mG_aload_n C dX9_isSo_147 rfl rfl ?_
              refine mG_getR C dX9_isSo_148 fl_854 sh60 rfl ?_
              refine mG_Vv (Z := MX9_pass) (as := [.ref 68]) (rest := []) C dX9_isSo_151 lk_1096 zX9_pass ⟨Nat.le_of_ble_eq_true rfl, Nat.le_of_ble_eq_true rfl⟩ sh60 rfl rfl (Nat.le_of_ble_eq_true rfl) rfl K (fun u9 K => ?_)
              refine mG_aload_n C dX9_isSo_154 rfl rfl ?_
              refine mG_getR C dX9_isSo_155 fl_854 sh60 rfl ?_
              refine mG_iconst C dX9_isSo_158 ic0 ?_
              refine mG_ialdv C dX9_isSo_159 sh68 (by unfold vp_in; decide) (by first | rfl | simp [mPI, mPL]) ?_
              refine mG_aload_n C dX9_isSo_160 rfl rfl ?_
              refine mG_getI C dX9_isSo_161 fl_863 sh60 rfl ?_
              refine mG_ishr C dX9_isSo_164 ?_
              refine mG_iconst C dX9_isSo_165 ic1 ?_
              refine mG_iand C dX9_isSo_166 ?_
              refine mG_aload_n C dX9_isSo_167 rfl rfl ?_
              refine mG_getI C dX9_isSo_168 fl_864 sh60 rfl ?_
              refine mG_icmp_ne (tgt := 178) C dX9_isSo_171 rfl (fun h => ?_) (fun h => ?_)
              · have K := K.1 h
                refine mG_iconst C dX9_isSo_178 ic0 ?_
                exact mG_iret C F dX9_isSo_179 rfl (by decide) K
              · have K := K.2 h
                refine mG_iconst C dX9_isSo_174 ic1 ?_
                refine mG_goto (tgt := 179) C dX9_isSo_175 rfl ?_
                exact mG_iret C F dX9_isSo_179 rfl (by decide) K
    · have K := K.2 h
      refine mG_iconst C dX9_isSo_40 ic1 ?_
      refine mG_goto (tgt := 45) C dX9_isSo_41 rfl ?_
      refine mG_istore (lv' := [.ref 60, .ref a0, .int p1, .int (1 : Int32), .int (1 : Int32)]) C dX9_isSo_45 (by decide) rfl ?_
      refine mG_aload_n C dX9_isSo_47 rfl rfl ?_
      refine mG_getI C dX9_isSo_48 fl_862 sh60 rfl ?_
      by_cases g0 : (w.1 60 29) = (0 : Int32)
      · have K := K.1 g0
        refine mG_tableEq (off := 29) (tgt := 80) C dX9_isSo_51 g0 (by decide) (by decide) rfl rfl ?_
        refine mG_iload_n C dX9_isSo_80 rfl rfl ?_
        exact mG_iret C F dX9_isSo_81 rfl (by decide) K
      · have K := K.2 g0
        by_cases g1 : (w.1 60 29) = (1 : Int32)
        · have K := K.1 g1
          refine mG_tableEq (off := 31) (tgt := 82) C dX9_isSo_51 g1 (by decide) (by decide) rfl rfl ?_
          refine mG_iload_n C dX9_isSo_82 rfl rfl ?_
          refine mG_if_eq (tgt := 95) C dX9_isSo_83 rfl (fun h => absurd h (by decide)) (fun _ => ?_)
          refine mG_iload C dX9_isSo_86 rfl ?_
          refine mG_if_eq (tgt := 95) C dX9_isSo_88 rfl (fun h => absurd h (by decide)) (fun _ => ?_)
          refine mG_iconst C dX9_isSo_91 ic1 ?_
          refine mG_goto (tgt := 96) C dX9_isSo_92 rfl ?_
          exact mG_iret C F dX9_isSo_96 rfl (by decide) K
        · have K := K.2 g1
          by_cases g2 : (w.1 60 29) = (2 : Int32)
          · have K := K.1 g2
            refine mG_tableEq (off := 46) (tgt := 97) C dX9_isSo_51 g2 (by decide) (by decide) rfl rfl ?_
            refine mG_iload_n C dX9_isSo_97 rfl rfl ?_
            refine mG_if_ne (tgt := 106) C dX9_isSo_98 rfl (fun _ => ?_) (fun h => absurd h (by decide))
            refine mG_iconst C dX9_isSo_106 ic1 ?_
            refine mG_goto (tgt := 111) C dX9_isSo_107 rfl ?_
            exact mG_iret C F dX9_isSo_111 rfl (by decide) K
          · have K := K.2 g2
            by_cases g3 : (w.1 60 29) = (3 : Int32)
            · have K := K.1 g3
              refine mG_tableEq (off := 61) (tgt := 112) C dX9_isSo_51 g3 (by decide) (by decide) rfl rfl ?_
              refine mG_iload_n C dX9_isSo_112 rfl rfl ?_
              refine mG_if_eq (tgt := 121) C dX9_isSo_113 rfl (fun h => absurd h (by decide)) (fun _ => ?_)
              refine mG_iload C dX9_isSo_116 rfl ?_
              refine mG_if_eq (tgt := 125) C dX9_isSo_118 rfl (fun h => absurd h (by decide)) (fun _ => ?_)
              refine mG_iconst C dX9_isSo_121 ic1 ?_
              refine mG_goto (tgt := 126) C dX9_isSo_122 rfl ?_
              exact mG_iret C F dX9_isSo_126 rfl (by decide) K
            · have K := K.2 g3
              have e0 := lv_neT g0 (show (0 : Int32).toInt = 0 by decide)
              have e1 := lv_neT g1 (show (1 : Int32).toInt = 1 by decide)
              have e2 := lv_neT g2 (show (2 : Int32).toInt = 2 by decide)
              have e3 := lv_neT g3 (show (3 : Int32).toInt = 3 by decide)
              refine mG_tableOut (tgt := 127) C dX9_isSo_51 (by omega) rfl ?_
              refine mG_aload_n C dX9_isSo_127 rfl rfl ?_
              refine mG_iconst C dX9_isSo_128 ic0 ?_
              refine mG_aload_n C dX9_isSo_129 rfl rfl ?_
              refine mG_getR C dX9_isSo_130 fl_854 sh60 rfl ?_
              refine mG_iconst C dX9_isSo_133 ic0 ?_
              refine mG_Sv (Z := MX9_copy) (as := [.ref a0, .int (0 : Int32), .ref 68, .int (0 : Int32)]) (rest := []) C dX9_isSo_134 lk_1082 zX9_copy ⟨Nat.le_of_ble_eq_true rfl, Nat.le_of_ble_eq_true rfl⟩ rfl (Nat.le_of_ble_eq_true rfl) rfl K (fun u10 K => ?_)
              refine mG_aload_n C dX9_isSo_137 rfl rfl ?_
              refine mG_aload_n C dX9_isSo_138 rfl rfl ?_
              refine mG_getR C dX9_isSo_139 fl_854 sh60 rfl ?_
              refine mG_iload_n C dX9_isSo_142 rfl rfl ?_
              refine mG_Vv (Z := MX9_hearAll) (as := [.ref 68, .int p1]) (rest := []) C dX9_isSo_143 lk_1085 zX9_hearAll ⟨Nat.le_of_ble_eq_true rfl, Nat.le_of_ble_eq_true rfl⟩ sh60 rfl rfl (Nat.le_of_ble_eq_true rfl) rfl K (fun u11 K => ?_)
              refine mG_aload_n C dX9_isSo_146 rfl rfl ?_
              refine mG_aload_n C dX9_isSo_147 rfl rfl ?_
              refine mG_getR C dX9_isSo_148 fl_854 sh60 rfl ?_
              refine mG_Vv (Z := MX9_pass) (as := [.ref 68]) (rest := []) C dX9_isSo_151 lk_1096 zX9_pass ⟨Nat.le_of_ble_eq_true rfl, Nat.le_of_ble_eq_true rfl⟩ sh60 rfl rfl (Nat.le_of_ble_eq_true rfl) rfl K (fun u12 K => ?_)
              refine mG_aload_n C dX9_isSo_154 rfl rfl ?_
              refine mG_getR C dX9_isSo_155 fl_854 sh60 rfl ?_
              refine mG_iconst C dX9_isSo_158 ic0 ?_
              refine mG_ialdv C dX9_isSo_159 sh68 (by unfold vp_in; decide) (by first | rfl | simp [mPI, mPL]) ?_
              refine mG_aload_n C dX9_isSo_160 rfl rfl ?_
              refine mG_getI C dX9_isSo_161 fl_863 sh60 rfl ?_
              refine mG_ishr C dX9_isSo_164 ?_
              refine mG_iconst C dX9_isSo_165 ic1 ?_
              refine mG_iand C dX9_isSo_166 ?_
              refine mG_aload_n C dX9_isSo_167 rfl rfl ?_
              refine mG_getI C dX9_isSo_168 fl_864 sh60 rfl ?_
              refine mG_icmp_ne (tgt := 178) C dX9_isSo_171 rfl (fun h => ?_) (fun h => ?_)
              · have K := K.1 h
                refine mG_iconst C dX9_isSo_178 ic0 ?_
                exact mG_iret C F dX9_isSo_179 rfl (by decide) K
              · have K := K.2 h
                refine mG_iconst C dX9_isSo_174 ic1 ?_
                refine mG_goto (tgt := 179) C dX9_isSo_175 rfl ?_
                exact mG_iret C F dX9_isSo_179 rfl (by decide) K

set_option maxRecDepth 20000 in
set_option maxHeartbeats 4000000 in
theorem vX9_keep_0 {X : mX} {E : mEnv} {Qm : Option Value → mW → Prop} (C : mCtx X E MX9_keep) (F : mFin X E MX9_keep Qm) {w : mW}  (p0 : Int32)
    (K : mMi E MX9_in [.int p0, .int (0 : Int32), .int (1 : Int32)] w (fun v1 u1 =>
    ((¬ v1 = 0 →
    (mMv E MX9_copy [.ref 66, .int (0 : Int32), .ref 70, .int ((32 : Int32) * p0)] u1 (fun u2 =>
    (vp_in p0 2 ∧
    (∀ w1 : mW, w1 = (mPI u2 71 p0.toNatClampNeg (1 : Int32)) →
    (Qm (some (.int (w1.1 66 1))) w1)))))) ∧ (v1 = 0 →
    (Qm (some (.int (-2 : Int32))) u1))))) :
    mG X E MX9_keep 0 [.ref 60, .int p0] [] w := by
  refine mG_iload_n C dX9_keep_0 rfl rfl ?_
  refine mG_iconst C dX9_keep_1 ic0 ?_
  refine mG_iconst C dX9_keep_2 ic1 ?_
  refine mG_Si (Z := MX9_in) (as := [.int p0, .int (0 : Int32), .int (1 : Int32)]) (rest := []) C dX9_keep_3 lk_956 zX9_in ⟨Nat.le_of_ble_eq_true rfl, Nat.le_of_ble_eq_true rfl⟩ rfl (Nat.le_of_ble_eq_true rfl) rfl K (fun v1 u1 K => ?_)
  refine mG_if_ne (tgt := 12) C dX9_keep_6 rfl (fun h => ?_) (fun h => ?_)
  · have K := K.1 h
    refine mG_aload_n C dX9_keep_12 rfl rfl ?_
    refine mG_getR C dX9_keep_13 fl_852 sh60 rfl ?_
    refine mG_iconst C dX9_keep_16 ic0 ?_
    refine mG_aload_n C dX9_keep_17 rfl rfl ?_
    refine mG_getR C dX9_keep_18 fl_856 sh60 rfl ?_
    refine mG_bipush C dX9_keep_21 bp32 ?_
    refine mG_iload_n C dX9_keep_23 rfl rfl ?_
    refine mG_imul C dX9_keep_24 ?_
    refine mG_Sv (Z := MX9_copy) (as := [.ref 66, .int (0 : Int32), .ref 70, .int ((32 : Int32) * p0)]) (rest := []) C dX9_keep_25 lk_1082 zX9_copy ⟨Nat.le_of_ble_eq_true rfl, Nat.le_of_ble_eq_true rfl⟩ rfl (Nat.le_of_ble_eq_true rfl) rfl K (fun u2 K => ?_)
    refine mG_aload_n C dX9_keep_28 rfl rfl ?_
    refine mG_getR C dX9_keep_29 fl_857 sh60 rfl ?_
    refine mG_iload_n C dX9_keep_32 rfl rfl ?_
    refine mG_iconst C dX9_keep_33 ic1 ?_
    obtain ⟨h1, K⟩ := K
    refine mG_zast (y := (1 : Int32)) C dX9_keep_34 sh71 h1 (by decide) ?_
    refine mG_nm (fun w1 ew1 => ?_)
    have K := K w1 ew1
    refine mG_aload_n C dX9_keep_35 rfl rfl ?_
    refine mG_getR C dX9_keep_36 fl_852 sh60 rfl ?_
    refine mG_iconst C dX9_keep_39 ic1 ?_
    refine mG_ialdv C dX9_keep_40 sh66 (by unfold vp_in; decide) (by first | rfl | simp [mPI, mPL]) ?_
    exact mG_iret C F dX9_keep_41 rfl rfl K
  · have K := K.2 h
    refine mG_bipush C dX9_keep_9 bpm2 ?_
    exact mG_iret C F dX9_keep_11 rfl rfl K

set_option maxRecDepth 20000 in
set_option maxHeartbeats 4000000 in
theorem vX9_kindOf_0 {X : mX} {E : mEnv} {Qm : Option Value → mW → Prop} (C : mCtx X E MX9_kindOf) (F : mFin X E MX9_kindOf Qm) {w : mW}  (p0 : Int32)
    (K : vp_in ((6 : Int32) * p0) 30 ∧
    (Qm (some (.int (w.1 62 (((6 : Int32) * p0).toNatClampNeg)))) w)) :
    mG X E MX9_kindOf 0 [.ref 60, .int p0] [] w := by
  refine mG_aload_n C dX9_kindOf_0 rfl rfl ?_
  refine mG_getR C dX9_kindOf_1 fl_836 sh60 rfl ?_
  refine mG_bipush C dX9_kindOf_4 bp6 ?_
  refine mG_iload_n C dX9_kindOf_6 rfl rfl ?_
  refine mG_imul C dX9_kindOf_7 ?_
  obtain ⟨h1, K⟩ := K
  refine mG_iald C dX9_kindOf_8 sh62 h1 ?_
  exact mG_iret C F dX9_kindOf_9 rfl rfl K

set_option maxRecDepth 20000 in
set_option maxHeartbeats 4000000 in
theorem vX9_lay_0 {X : mX} {E : mEnv} {Qm : Option Value → mW → Prop} (C : mCtx X E MX9_lay) (F : mFin X E MX9_lay Qm) {w : mW}  (p0 : Int32) (p1 : Int32) (p2 : Int32) (p3 : Int32) (p4 : Int32)
    (K : Qm none (mPI (mPI (mPI (mPI (mPI w 60 29 p0) 60 30 p1) 60 31 p2) 60 32 p3) 60 33 p4)) :
    mG X E MX9_lay 0 [.ref 60, .int p0, .int p1, .int p2, .int p3, .int p4] [] w := by
  refine mG_aload_n C dX9_lay_0 rfl rfl ?_
  refine mG_iload_n C dX9_lay_1 rfl rfl ?_
  refine mG_putI C dX9_lay_2 fp_862 sh60 rfl ?_
  refine mG_aload_n C dX9_lay_5 rfl rfl ?_
  refine mG_iload_n C dX9_lay_6 rfl rfl ?_
  refine mG_putI C dX9_lay_7 fp_863 sh60 rfl ?_
  refine mG_aload_n C dX9_lay_10 rfl rfl ?_
  refine mG_iload_n C dX9_lay_11 rfl rfl ?_
  refine mG_putI C dX9_lay_12 fp_864 sh60 rfl ?_
  refine mG_aload_n C dX9_lay_15 rfl rfl ?_
  refine mG_iload C dX9_lay_16 rfl ?_
  refine mG_putI C dX9_lay_18 fp_865 sh60 rfl ?_
  refine mG_aload_n C dX9_lay_21 rfl rfl ?_
  refine mG_iload C dX9_lay_22 rfl ?_
  refine mG_putI C dX9_lay_24 fp_866 sh60 rfl ?_
  exact mG_vret C F dX9_lay_27 rfl K

set_option maxRecDepth 20000 in
set_option maxHeartbeats 4000000 in
theorem vX9_layBest_0 {X : mX} {E : mEnv} {Qm : Option Value → mW → Prop} (C : mCtx X E MX9_layBest) (F : mFin X E MX9_layBest Qm) {w : mW} {a0 : Nat} (ha0 : mSh[a0]? = some (.inl (0, 32, [])))
    (K : mMv E MX9_copy [.ref a0, .int (0 : Int32), .ref 67, .int (0 : Int32)] w (fun u1 =>
    (mMv E MX9_pass [.ref 60, .ref 67] u1 (fun u2 =>
    (mMi E MX9_sumOf [.ref 60, .int (u2.1 67 0)] u2 (fun v1 u3 =>
    (mG X E MX9_layBest 44 [.ref 60, .ref a0, .int (0 : Int32), .retAddr 0, .retAddr 0] [] (mPI (mPI (mPI u3 60 34 v1) 60 35 (-1 : Int32)) 60 36 (0 : Int32))))))))) :
    mG X E MX9_layBest 0 [.ref 60, .ref a0, .retAddr 0, .retAddr 0, .retAddr 0] [] w := by
  refine mG_aload_n C dX9_layBest_0 rfl rfl ?_
  refine mG_iconst C dX9_layBest_1 ic0 ?_
  refine mG_aload_n C dX9_layBest_2 rfl rfl ?_
  refine mG_getR C dX9_layBest_3 fl_853 sh60 rfl ?_
  refine mG_iconst C dX9_layBest_6 ic0 ?_
  refine mG_Sv (Z := MX9_copy) (as := [.ref a0, .int (0 : Int32), .ref 67, .int (0 : Int32)]) (rest := []) C dX9_layBest_7 lk_1082 zX9_copy ⟨Nat.le_of_ble_eq_true rfl, Nat.le_of_ble_eq_true rfl⟩ rfl (Nat.le_of_ble_eq_true rfl) rfl K (fun u1 K => ?_)
  refine mG_aload_n C dX9_layBest_10 rfl rfl ?_
  refine mG_aload_n C dX9_layBest_11 rfl rfl ?_
  refine mG_getR C dX9_layBest_12 fl_853 sh60 rfl ?_
  refine mG_Vv (Z := MX9_pass) (as := [.ref 67]) (rest := []) C dX9_layBest_15 lk_1096 zX9_pass ⟨Nat.le_of_ble_eq_true rfl, Nat.le_of_ble_eq_true rfl⟩ sh60 rfl rfl (Nat.le_of_ble_eq_true rfl) rfl K (fun u2 K => ?_)
  refine mG_aload_n C dX9_layBest_18 rfl rfl ?_
  refine mG_aload_n C dX9_layBest_19 rfl rfl ?_
  refine mG_aload_n C dX9_layBest_20 rfl rfl ?_
  refine mG_getR C dX9_layBest_21 fl_853 sh60 rfl ?_
  refine mG_iconst C dX9_layBest_24 ic0 ?_
  refine mG_ialdv C dX9_layBest_25 sh67 (by unfold vp_in; decide) (by first | rfl | simp [mPI, mPL]) ?_
  refine mG_Vi (Z := MX9_sumOf) (as := [.int (u2.1 67 0)]) (rest := [.ref 60]) C dX9_layBest_26 lk_1119 zX9_sumOf ⟨Nat.le_of_ble_eq_true rfl, Nat.le_of_ble_eq_true rfl⟩ sh60 rfl rfl (Nat.le_of_ble_eq_true rfl) rfl K (fun v1 u3 K => ?_)
  refine mG_putI C dX9_layBest_29 fp_867 sh60 rfl ?_
  refine mG_aload_n C dX9_layBest_32 rfl rfl ?_
  refine mG_iconst C dX9_layBest_33 icm1 ?_
  refine mG_putI C dX9_layBest_34 fp_868 sh60 rfl ?_
  refine mG_aload_n C dX9_layBest_37 rfl rfl ?_
  refine mG_iconst C dX9_layBest_38 ic0 ?_
  refine mG_putI C dX9_layBest_39 fp_869 sh60 rfl ?_
  refine mG_iconst C dX9_layBest_42 ic0 ?_
  refine mG_istore_n (lv' := [.ref 60, .ref a0, .int (0 : Int32), .retAddr 0, .retAddr 0]) C dX9_layBest_43 rfl (by decide) rfl ?_
  exact K

set_option maxRecDepth 20000 in
set_option maxHeartbeats 4000000 in
theorem vX9_layBest_44 {X : mX} {E : mEnv} {Qm : Option Value → mW → Prop} (C : mCtx X E MX9_layBest) (F : mFin X E MX9_layBest Qm) {w : mW} {a0 : Nat} (ha0 : mSh[a0]? = some (.inl (0, 32, []))) (x2 : Int32)
    (K : ((46000 : Int32) ≤ x2 →
    (Qm none w)) ∧ (¬ (46000 : Int32) ≤ x2 →
    (mMi E MX9_isSentence [.ref 60, .int x2] w (fun v1 u1 =>
    ((¬ v1 = 0 →
    (mG X E MX9_layBest 64 [.ref 60, .ref a0, .int x2, .int (1 : Int32), .retAddr 0] [] u1)) ∧ (v1 = 0 →
    (mMi E MX9_nextNumber [.int x2] u1 (fun v2 u2 =>
    (mG X E MX9_layBest 44 [.ref 60, .ref a0, .int v2, .retAddr 0, .retAddr 0] [] u2))))))))) :
    mG X E MX9_layBest 44 [.ref 60, .ref a0, .int x2, .retAddr 0, .retAddr 0] [] w := by
  refine mG_iload_n C dX9_layBest_44 rfl rfl ?_
  refine mG_ldcw C dX9_layBest_45 kc_1147_260 ?_
  refine mG_icmp_ge (tgt := 159) C dX9_layBest_48 rfl (fun h => ?_) (fun h => ?_)
  · have K := K.1 h
    exact mG_vret C F dX9_layBest_159 rfl K
  · have K := K.2 h
    refine mG_aload_n C dX9_layBest_51 rfl rfl ?_
    refine mG_iload_n C dX9_layBest_52 rfl rfl ?_
    refine mG_Vi (Z := MX9_isSentence) (as := [.int x2]) (rest := []) C dX9_layBest_53 lk_1148 zX9_isSentence ⟨Nat.le_of_ble_eq_true rfl, Nat.le_of_ble_eq_true rfl⟩ sh60 rfl rfl (Nat.le_of_ble_eq_true rfl) rfl K (fun v1 u1 K => ?_)
    refine mG_if_ne (tgt := 62) C dX9_layBest_56 rfl (fun h => ?_) (fun h => ?_)
    · have K := K.1 h
      refine mG_iconst C dX9_layBest_62 ic1 ?_
      refine mG_istore_n (lv' := [.ref 60, .ref a0, .int x2, .int (1 : Int32), .retAddr 0]) C dX9_layBest_63 rfl (by decide) rfl ?_
      exact K
    · have K := K.2 h
      refine mG_goto (tgt := 151) C dX9_layBest_59 rfl ?_
      refine mG_iload_n C dX9_layBest_151 rfl rfl ?_
      refine mG_Si (Z := MX9_nextNumber) (as := [.int x2]) (rest := []) C dX9_layBest_152 lk_1152 zX9_nextNumber ⟨Nat.le_of_ble_eq_true rfl, Nat.le_of_ble_eq_true rfl⟩ rfl (Nat.le_of_ble_eq_true rfl) rfl K (fun v2 u2 K => ?_)
      refine mG_istore_n (lv' := [.ref 60, .ref a0, .int v2, .retAddr 0, .retAddr 0]) C dX9_layBest_155 rfl (by decide) rfl ?_
      refine mG_goto (tgt := 44) C dX9_layBest_156 rfl ?_
      exact K

set_option maxRecDepth 20000 in
set_option maxHeartbeats 4000000 in
theorem vX9_layBest_64 {X : mX} {E : mEnv} {Qm : Option Value → mW → Prop} (C : mCtx X E MX9_layBest) (F : mFin X E MX9_layBest Qm) {w : mW} {a0 : Nat} (ha0 : mSh[a0]? = some (.inl (0, 32, []))) (x2 : Int32) (x3 : Int32)
    (K : mMi E MX9_everybody [.ref 60] w (fun v1 u1 =>
    ((v1 < x3 →
    (mMi E MX9_nextNumber [.int x2] u1 (fun v2 u2 =>
    (mG X E MX9_layBest 44 [.ref 60, .ref a0, .int v2, .retAddr 0, .retAddr 0] [] u2)))) ∧ (¬ v1 < x3 →
    (mMi E MX9_isSo [.ref 60, .ref a0, .int x3] u1 (fun v3 u3 =>
    ((v3 = 0 →
    (mG X E MX9_layBest 64 [.ref 60, .ref a0, .int x2, .int (x3 + (1 : Int32)), .retAddr 0] [] u3)) ∧ (¬ v3 = 0 →
    (mMv E MX9_copy [.ref a0, .int (0 : Int32), .ref 67, .int (0 : Int32)] u3 (fun u4 =>
    (mMv E MX9_hearAll [.ref 60, .ref 67, .int x3] u4 (fun u5 =>
    (mMv E MX9_pass [.ref 60, .ref 67] u5 (fun u6 =>
    (mMi E MX9_sumOf [.ref 60, .int (u6.1 67 0)] u6 (fun v4 u7 =>
    ((v4 ≤ (u7.1 60 34) →
    (mG X E MX9_layBest 64 [.ref 60, .ref a0, .int x2, .int (x3 + (1 : Int32)), .retAddr 0] [] u7)) ∧ (¬ v4 ≤ (u7.1 60 34) →
    (mG X E MX9_layBest 64 [.ref 60, .ref a0, .int x2, .int (x3 + (1 : Int32)), .retAddr 0] [] (mPI (mPI (mPI u7 60 34 v4) 60 35 x2) 60 36 x3)))))))))))))))))))) :
    mG X E MX9_layBest 64 [.ref 60, .ref a0, .int x2, .int x3, .retAddr 0] [] w := by
  refine mG_iload_n C dX9_layBest_64 rfl rfl ?_
  refine mG_aload_n C dX9_layBest_65 rfl rfl ?_
  refine mG_Vi (Z := MX9_everybody) (as := []) (rest := [.int x3]) C dX9_layBest_66 lk_1074 zX9_everybody ⟨Nat.le_of_ble_eq_true rfl, Nat.le_of_ble_eq_true rfl⟩ sh60 rfl rfl (Nat.le_of_ble_eq_true rfl) rfl K (fun v1 u1 K => ?_)
  refine mG_icmp_gt (tgt := 151) C dX9_layBest_69 rfl (fun h => ?_) (fun h => ?_)
  · have K := K.1 h
    refine mG_iload_n C dX9_layBest_151 rfl rfl ?_
    refine mG_Si (Z := MX9_nextNumber) (as := [.int x2]) (rest := []) C dX9_layBest_152 lk_1152 zX9_nextNumber ⟨Nat.le_of_ble_eq_true rfl, Nat.le_of_ble_eq_true rfl⟩ rfl (Nat.le_of_ble_eq_true rfl) rfl K (fun v2 u2 K => ?_)
    refine mG_istore_n (lv' := [.ref 60, .ref a0, .int v2, .int x3, .retAddr 0]) C dX9_layBest_155 rfl (by decide) rfl ?_
    refine mG_goto (tgt := 44) C dX9_layBest_156 rfl ?_
    exact mG_holes [3] rfl K
  · have K := K.2 h
    refine mG_aload_n C dX9_layBest_72 rfl rfl ?_
    refine mG_aload_n C dX9_layBest_73 rfl rfl ?_
    refine mG_iload_n C dX9_layBest_74 rfl rfl ?_
    refine mG_Vi (Z := MX9_isSo) (as := [.ref a0, .int x3]) (rest := []) C dX9_layBest_75 lk_1078 zX9_isSo ⟨Nat.le_of_ble_eq_true rfl, Nat.le_of_ble_eq_true rfl⟩ sh60 rfl rfl (Nat.le_of_ble_eq_true rfl) rfl K (fun v3 u3 K => ?_)
    refine mG_if_eq (tgt := 145) C dX9_layBest_78 rfl (fun h => ?_) (fun h => ?_)
    · have K := K.1 h
      refine mG_iincc (lv' := [.ref 60, .ref a0, .int x2, .int (x3 + (1 : Int32)), .retAddr 0]) C dX9_layBest_145 rfl ic1 (by decide) rfl ?_
      refine mG_goto (tgt := 64) C dX9_layBest_148 rfl ?_
      exact K
    · have K := K.2 h
      refine mG_aload_n C dX9_layBest_81 rfl rfl ?_
      refine mG_iconst C dX9_layBest_82 ic0 ?_
      refine mG_aload_n C dX9_layBest_83 rfl rfl ?_
      refine mG_getR C dX9_layBest_84 fl_853 sh60 rfl ?_
      refine mG_iconst C dX9_layBest_87 ic0 ?_
      refine mG_Sv (Z := MX9_copy) (as := [.ref a0, .int (0 : Int32), .ref 67, .int (0 : Int32)]) (rest := []) C dX9_layBest_88 lk_1082 zX9_copy ⟨Nat.le_of_ble_eq_true rfl, Nat.le_of_ble_eq_true rfl⟩ rfl (Nat.le_of_ble_eq_true rfl) rfl K (fun u4 K => ?_)
      refine mG_aload_n C dX9_layBest_91 rfl rfl ?_
      refine mG_aload_n C dX9_layBest_92 rfl rfl ?_
      refine mG_getR C dX9_layBest_93 fl_853 sh60 rfl ?_
      refine mG_iload_n C dX9_layBest_96 rfl rfl ?_
      refine mG_Vv (Z := MX9_hearAll) (as := [.ref 67, .int x3]) (rest := []) C dX9_layBest_97 lk_1085 zX9_hearAll ⟨Nat.le_of_ble_eq_true rfl, Nat.le_of_ble_eq_true rfl⟩ sh60 rfl rfl (Nat.le_of_ble_eq_true rfl) rfl K (fun u5 K => ?_)
      refine mG_aload_n C dX9_layBest_100 rfl rfl ?_
      refine mG_aload_n C dX9_layBest_101 rfl rfl ?_
      refine mG_getR C dX9_layBest_102 fl_853 sh60 rfl ?_
      refine mG_Vv (Z := MX9_pass) (as := [.ref 67]) (rest := []) C dX9_layBest_105 lk_1096 zX9_pass ⟨Nat.le_of_ble_eq_true rfl, Nat.le_of_ble_eq_true rfl⟩ sh60 rfl rfl (Nat.le_of_ble_eq_true rfl) rfl K (fun u6 K => ?_)
      refine mG_aload_n C dX9_layBest_108 rfl rfl ?_
      refine mG_aload_n C dX9_layBest_109 rfl rfl ?_
      refine mG_getR C dX9_layBest_110 fl_853 sh60 rfl ?_
      refine mG_iconst C dX9_layBest_113 ic0 ?_
      refine mG_ialdv C dX9_layBest_114 sh67 (by unfold vp_in; decide) (by first | rfl | simp [mPI, mPL]) ?_
      refine mG_Vi (Z := MX9_sumOf) (as := [.int (u6.1 67 0)]) (rest := []) C dX9_layBest_115 lk_1119 zX9_sumOf ⟨Nat.le_of_ble_eq_true rfl, Nat.le_of_ble_eq_true rfl⟩ sh60 rfl rfl (Nat.le_of_ble_eq_true rfl) rfl K (fun v4 u7 K => ?_)
      refine mG_istore (lv' := [.ref 60, .ref a0, .int x2, .int x3, .int v4]) C dX9_layBest_118 (by decide) rfl ?_
      refine mG_iload C dX9_layBest_120 rfl ?_
      refine mG_aload_n C dX9_layBest_122 rfl rfl ?_
      refine mG_getI C dX9_layBest_123 fl_867 sh60 rfl ?_
      refine mG_icmp_le (tgt := 145) C dX9_layBest_126 rfl (fun h => ?_) (fun h => ?_)
      · have K := K.1 h
        refine mG_iincc (lv' := [.ref 60, .ref a0, .int x2, .int (x3 + (1 : Int32)), .int v4]) C dX9_layBest_145 rfl ic1 (by decide) rfl ?_
        refine mG_goto (tgt := 64) C dX9_layBest_148 rfl ?_
        exact mG_holes [4] rfl K
      · have K := K.2 h
        refine mG_aload_n C dX9_layBest_129 rfl rfl ?_
        refine mG_iload C dX9_layBest_130 rfl ?_
        refine mG_putI C dX9_layBest_132 fp_867 sh60 rfl ?_
        refine mG_aload_n C dX9_layBest_135 rfl rfl ?_
        refine mG_iload_n C dX9_layBest_136 rfl rfl ?_
        refine mG_putI C dX9_layBest_137 fp_868 sh60 rfl ?_
        refine mG_aload_n C dX9_layBest_140 rfl rfl ?_
        refine mG_iload_n C dX9_layBest_141 rfl rfl ?_
        refine mG_putI C dX9_layBest_142 fp_869 sh60 rfl ?_
        refine mG_iincc (lv' := [.ref 60, .ref a0, .int x2, .int (x3 + (1 : Int32)), .int v4]) C dX9_layBest_145 rfl ic1 (by decide) rfl ?_
        refine mG_goto (tgt := 64) C dX9_layBest_148 rfl ?_
        exact mG_holes [4] rfl K

set_option maxRecDepth 20000 in
set_option maxHeartbeats 4000000 in
theorem vX9_layCanBe_0 {X : mX} {E : mEnv} {Qm : Option Value → mW → Prop} (C : mCtx X E MX9_layCanBe) (F : mFin X E MX9_layCanBe Qm) {w : mW} 
    (K : mG X E MX9_layCanBe 2 [.ref 60, .int (0 : Int32), .retAddr 0] [] w) :
    mG X E MX9_layCanBe 0 [.ref 60, .retAddr 0, .retAddr 0] [] w := by
  refine mG_iconst C dX9_layCanBe_0 ic0 ?_
  refine mG_istore_n (lv' := [.ref 60, .int (0 : Int32), .retAddr 0]) C dX9_layCanBe_1 rfl (by decide) rfl ?_
  exact K

set_option maxRecDepth 20000 in
set_option maxHeartbeats 4000000 in
theorem vX9_layCanBe_2 {X : mX} {E : mEnv} {Qm : Option Value → mW → Prop} (C : mCtx X E MX9_layCanBe) (F : mFin X E MX9_layCanBe Qm) {w : mW}  (x1 : Int32)
    (K : ((64 : Int32) ≤ x1 →
    (mMv E MX9_copy [.ref 66, .int (0 : Int32), .ref 67, .int (0 : Int32)] w (fun u1 =>
    (mMv E MX9_pass [.ref 60, .ref 67] u1 (fun u2 =>
    (vp_in (u2.1 67 0) 64 ∧
    (∀ w1 : mW, w1 = (mPI u2 74 (u2.1 67 0).toNatClampNeg (1 : Int32)) →
    (mG X E MX9_layCanBe 56 [.ref 60, .int (0 : Int32), .retAddr 0] [] w1)))))))) ∧ (¬ (64 : Int32) ≤ x1 →
    (vp_in x1 64 ∧
    (∀ w2 : mW, w2 = (mPI w 74 x1.toNatClampNeg (0 : Int32)) →
    (mG X E MX9_layCanBe 2 [.ref 60, .int (x1 + (1 : Int32)), .retAddr 0] [] w2))))) :
    mG X E MX9_layCanBe 2 [.ref 60, .int x1, .retAddr 0] [] w := by
  refine mG_iload_n C dX9_layCanBe_2 rfl rfl ?_
  refine mG_bipush C dX9_layCanBe_3 bp64 ?_
  refine mG_icmp_ge (tgt := 21) C dX9_layCanBe_5 rfl (fun h => ?_) (fun h => ?_)
  · have K := K.1 h
    refine mG_aload_n C dX9_layCanBe_21 rfl rfl ?_
    refine mG_getR C dX9_layCanBe_22 fl_852 sh60 rfl ?_
    refine mG_iconst C dX9_layCanBe_25 ic0 ?_
    refine mG_aload_n C dX9_layCanBe_26 rfl rfl ?_
    refine mG_getR C dX9_layCanBe_27 fl_853 sh60 rfl ?_
    refine mG_iconst C dX9_layCanBe_30 ic0 ?_
    refine mG_Sv (Z := MX9_copy) (as := [.ref 66, .int (0 : Int32), .ref 67, .int (0 : Int32)]) (rest := []) C dX9_layCanBe_31 lk_1082 zX9_copy ⟨Nat.le_of_ble_eq_true rfl, Nat.le_of_ble_eq_true rfl⟩ rfl (Nat.le_of_ble_eq_true rfl) rfl K (fun u1 K => ?_)
    refine mG_aload_n C dX9_layCanBe_34 rfl rfl ?_
    refine mG_aload_n C dX9_layCanBe_35 rfl rfl ?_
    refine mG_getR C dX9_layCanBe_36 fl_853 sh60 rfl ?_
    refine mG_Vv (Z := MX9_pass) (as := [.ref 67]) (rest := []) C dX9_layCanBe_39 lk_1096 zX9_pass ⟨Nat.le_of_ble_eq_true rfl, Nat.le_of_ble_eq_true rfl⟩ sh60 rfl rfl (Nat.le_of_ble_eq_true rfl) rfl K (fun u2 K => ?_)
    refine mG_aload_n C dX9_layCanBe_42 rfl rfl ?_
    refine mG_getR C dX9_layCanBe_43 fl_870 sh60 rfl ?_
    refine mG_aload_n C dX9_layCanBe_46 rfl rfl ?_
    refine mG_getR C dX9_layCanBe_47 fl_853 sh60 rfl ?_
    refine mG_iconst C dX9_layCanBe_50 ic0 ?_
    refine mG_ialdv C dX9_layCanBe_51 sh67 (by unfold vp_in; decide) (by first | rfl | simp [mPI, mPL]) ?_
    refine mG_iconst C dX9_layCanBe_52 ic1 ?_
    obtain ⟨h1, K⟩ := K
    refine mG_zast (y := (1 : Int32)) C dX9_layCanBe_53 sh74 h1 (by decide) ?_
    refine mG_nm (fun w1 ew1 => ?_)
    have K := K w1 ew1
    refine mG_iconst C dX9_layCanBe_54 ic0 ?_
    refine mG_istore_n (lv' := [.ref 60, .int (0 : Int32), .retAddr 0]) C dX9_layCanBe_55 rfl (by decide) rfl ?_
    exact K
  · have K := K.2 h
    refine mG_aload_n C dX9_layCanBe_8 rfl rfl ?_
    refine mG_getR C dX9_layCanBe_9 fl_870 sh60 rfl ?_
    refine mG_iload_n C dX9_layCanBe_12 rfl rfl ?_
    refine mG_iconst C dX9_layCanBe_13 ic0 ?_
    obtain ⟨h2, K⟩ := K
    refine mG_zast (y := (0 : Int32)) C dX9_layCanBe_14 sh74 h2 (by decide) ?_
    refine mG_nm (fun w2 ew2 => ?_)
    have K := K w2 ew2
    refine mG_iincc (lv' := [.ref 60, .int (x1 + (1 : Int32)), .retAddr 0]) C dX9_layCanBe_15 rfl ic1 (by decide) rfl ?_
    refine mG_goto (tgt := 2) C dX9_layCanBe_18 rfl ?_
    exact K

set_option maxRecDepth 20000 in
set_option maxHeartbeats 4000000 in
theorem vX9_layCanBe_56 {X : mX} {E : mEnv} {Qm : Option Value → mW → Prop} (C : mCtx X E MX9_layCanBe) (F : mFin X E MX9_layCanBe Qm) {w : mW}  (x1 : Int32)
    (K : ((46000 : Int32) ≤ x1 →
    (Qm none w)) ∧ (¬ (46000 : Int32) ≤ x1 →
    (mG X E MX9_layCanBe 65 [.ref 60, .int x1, .int (0 : Int32)] [] w))) :
    mG X E MX9_layCanBe 56 [.ref 60, .int x1, .retAddr 0] [] w := by
  refine mG_iload_n C dX9_layCanBe_56 rfl rfl ?_
  refine mG_ldcw C dX9_layCanBe_57 kc_1147_260 ?_
  refine mG_icmp_ge (tgt := 153) C dX9_layCanBe_60 rfl (fun h => ?_) (fun h => ?_)
  · have K := K.1 h
    exact mG_vret C F dX9_layCanBe_153 rfl K
  · have K := K.2 h
    refine mG_iconst C dX9_layCanBe_63 ic0 ?_
    refine mG_istore_n (lv' := [.ref 60, .int x1, .int (0 : Int32)]) C dX9_layCanBe_64 rfl (by decide) rfl ?_
    exact K

set_option maxRecDepth 20000 in
set_option maxHeartbeats 4000000 in
theorem vX9_layCanBe_65 {X : mX} {E : mEnv} {Qm : Option Value → mW → Prop} (C : mCtx X E MX9_layCanBe) (F : mFin X E MX9_layCanBe Qm) {w : mW}  (x1 : Int32) (x2 : Int32)
    (K : ((w.1 60 2) ≤ x2 →
    (mMi E MX9_nextNumber [.int x1] w (fun v1 u1 =>
    (mG X E MX9_layCanBe 56 [.ref 60, .int v1, .retAddr 0] [] u1)))) ∧ (¬ (w.1 60 2) ≤ x2 →
    (mMi E MX9_isSentence [.ref 60, .int x1] w (fun v2 u2 =>
    ((v2 = 0 →
    (mMi E MX9_nextNumber [.int x1] u2 (fun v3 u3 =>
    (mG X E MX9_layCanBe 56 [.ref 60, .int v3, .retAddr 0] [] u3)))) ∧ (¬ v2 = 0 →
    (mMi E MX9_isSo [.ref 60, .ref 66, .int ((1 : Int32) <<< (x2 &&& 31))] u2 (fun v4 u4 =>
    ((v4 = 0 →
    (mG X E MX9_layCanBe 65 [.ref 60, .int x1, .int (x2 + (1 : Int32))] [] u4)) ∧ (¬ v4 = 0 →
    (mMv E MX9_copy [.ref 66, .int (0 : Int32), .ref 67, .int (0 : Int32)] u4 (fun u5 =>
    (mMv E MX9_hearAll [.ref 60, .ref 67, .int ((1 : Int32) <<< (x2 &&& 31))] u5 (fun u6 =>
    (mMv E MX9_pass [.ref 60, .ref 67] u6 (fun u7 =>
    (vp_in (u7.1 67 0) 64 ∧
    (∀ w1 : mW, w1 = (mPI u7 74 (u7.1 67 0).toNatClampNeg (1 : Int32)) →
    (mG X E MX9_layCanBe 65 [.ref 60, .int x1, .int (x2 + (1 : Int32))] [] w1))))))))))))))))))) :
    mG X E MX9_layCanBe 65 [.ref 60, .int x1, .int x2] [] w := by
  refine mG_iload_n C dX9_layCanBe_65 rfl rfl ?_
  refine mG_aload_n C dX9_layCanBe_66 rfl rfl ?_
  refine mG_getI C dX9_layCanBe_67 fl_835 sh60 rfl ?_
  refine mG_icmp_ge (tgt := 145) C dX9_layCanBe_70 rfl (fun h => ?_) (fun h => ?_)
  · have K := K.1 h
    refine mG_iload_n C dX9_layCanBe_145 rfl rfl ?_
    refine mG_Si (Z := MX9_nextNumber) (as := [.int x1]) (rest := []) C dX9_layCanBe_146 lk_1152 zX9_nextNumber ⟨Nat.le_of_ble_eq_true rfl, Nat.le_of_ble_eq_true rfl⟩ rfl (Nat.le_of_ble_eq_true rfl) rfl K (fun v1 u1 K => ?_)
    refine mG_istore_n (lv' := [.ref 60, .int v1, .int x2]) C dX9_layCanBe_149 rfl (by decide) rfl ?_
    refine mG_goto (tgt := 56) C dX9_layCanBe_150 rfl ?_
    exact mG_holes [2] rfl K
  · have K := K.2 h
    refine mG_aload_n C dX9_layCanBe_73 rfl rfl ?_
    refine mG_iload_n C dX9_layCanBe_74 rfl rfl ?_
    refine mG_Vi (Z := MX9_isSentence) (as := [.int x1]) (rest := []) C dX9_layCanBe_75 lk_1148 zX9_isSentence ⟨Nat.le_of_ble_eq_true rfl, Nat.le_of_ble_eq_true rfl⟩ sh60 rfl rfl (Nat.le_of_ble_eq_true rfl) rfl K (fun v2 u2 K => ?_)
    refine mG_if_eq (tgt := 145) C dX9_layCanBe_78 rfl (fun h => ?_) (fun h => ?_)
    · have K := K.1 h
      refine mG_iload_n C dX9_layCanBe_145 rfl rfl ?_
      refine mG_Si (Z := MX9_nextNumber) (as := [.int x1]) (rest := []) C dX9_layCanBe_146 lk_1152 zX9_nextNumber ⟨Nat.le_of_ble_eq_true rfl, Nat.le_of_ble_eq_true rfl⟩ rfl (Nat.le_of_ble_eq_true rfl) rfl K (fun v3 u3 K => ?_)
      refine mG_istore_n (lv' := [.ref 60, .int v3, .int x2]) C dX9_layCanBe_149 rfl (by decide) rfl ?_
      refine mG_goto (tgt := 56) C dX9_layCanBe_150 rfl ?_
      exact mG_holes [2] rfl K
    · have K := K.2 h
      refine mG_aload_n C dX9_layCanBe_81 rfl rfl ?_
      refine mG_aload_n C dX9_layCanBe_82 rfl rfl ?_
      refine mG_getR C dX9_layCanBe_83 fl_852 sh60 rfl ?_
      refine mG_iconst C dX9_layCanBe_86 ic1 ?_
      refine mG_iload_n C dX9_layCanBe_87 rfl rfl ?_
      refine mG_ishl C dX9_layCanBe_88 ?_
      refine mG_Vi (Z := MX9_isSo) (as := [.ref 66, .int ((1 : Int32) <<< (x2 &&& 31))]) (rest := []) C dX9_layCanBe_89 lk_1078 zX9_isSo ⟨Nat.le_of_ble_eq_true rfl, Nat.le_of_ble_eq_true rfl⟩ sh60 rfl rfl (Nat.le_of_ble_eq_true rfl) rfl K (fun v4 u4 K => ?_)
      refine mG_if_eq (tgt := 139) C dX9_layCanBe_92 rfl (fun h => ?_) (fun h => ?_)
      · have K := K.1 h
        refine mG_iincc (lv' := [.ref 60, .int x1, .int (x2 + (1 : Int32))]) C dX9_layCanBe_139 rfl ic1 (by decide) rfl ?_
        refine mG_goto (tgt := 65) C dX9_layCanBe_142 rfl ?_
        exact K
      · have K := K.2 h
        refine mG_aload_n C dX9_layCanBe_95 rfl rfl ?_
        refine mG_getR C dX9_layCanBe_96 fl_852 sh60 rfl ?_
        refine mG_iconst C dX9_layCanBe_99 ic0 ?_
        refine mG_aload_n C dX9_layCanBe_100 rfl rfl ?_
        refine mG_getR C dX9_layCanBe_101 fl_853 sh60 rfl ?_
        refine mG_iconst C dX9_layCanBe_104 ic0 ?_
        refine mG_Sv (Z := MX9_copy) (as := [.ref 66, .int (0 : Int32), .ref 67, .int (0 : Int32)]) (rest := []) C dX9_layCanBe_105 lk_1082 zX9_copy ⟨Nat.le_of_ble_eq_true rfl, Nat.le_of_ble_eq_true rfl⟩ rfl (Nat.le_of_ble_eq_true rfl) rfl K (fun u5 K => ?_)
        refine mG_aload_n C dX9_layCanBe_108 rfl rfl ?_
        refine mG_aload_n C dX9_layCanBe_109 rfl rfl ?_
        refine mG_getR C dX9_layCanBe_110 fl_853 sh60 rfl ?_
        refine mG_iconst C dX9_layCanBe_113 ic1 ?_
        refine mG_iload_n C dX9_layCanBe_114 rfl rfl ?_
        refine mG_ishl C dX9_layCanBe_115 ?_
        refine mG_Vv (Z := MX9_hearAll) (as := [.ref 67, .int ((1 : Int32) <<< (x2 &&& 31))]) (rest := []) C dX9_layCanBe_116 lk_1085 zX9_hearAll ⟨Nat.le_of_ble_eq_true rfl, Nat.le_of_ble_eq_true rfl⟩ sh60 rfl rfl (Nat.le_of_ble_eq_true rfl) rfl K (fun u6 K => ?_)
        refine mG_aload_n C dX9_layCanBe_119 rfl rfl ?_
        refine mG_aload_n C dX9_layCanBe_120 rfl rfl ?_
        refine mG_getR C dX9_layCanBe_121 fl_853 sh60 rfl ?_
        refine mG_Vv (Z := MX9_pass) (as := [.ref 67]) (rest := []) C dX9_layCanBe_124 lk_1096 zX9_pass ⟨Nat.le_of_ble_eq_true rfl, Nat.le_of_ble_eq_true rfl⟩ sh60 rfl rfl (Nat.le_of_ble_eq_true rfl) rfl K (fun u7 K => ?_)
        refine mG_aload_n C dX9_layCanBe_127 rfl rfl ?_
        refine mG_getR C dX9_layCanBe_128 fl_870 sh60 rfl ?_
        refine mG_aload_n C dX9_layCanBe_131 rfl rfl ?_
        refine mG_getR C dX9_layCanBe_132 fl_853 sh60 rfl ?_
        refine mG_iconst C dX9_layCanBe_135 ic0 ?_
        refine mG_ialdv C dX9_layCanBe_136 sh67 (by unfold vp_in; decide) (by first | rfl | simp [mPI, mPL]) ?_
        refine mG_iconst C dX9_layCanBe_137 ic1 ?_
        obtain ⟨h1, K⟩ := K
        refine mG_zast (y := (1 : Int32)) C dX9_layCanBe_138 sh74 h1 (by decide) ?_
        refine mG_nm (fun w1 ew1 => ?_)
        have K := K w1 ew1
        refine mG_iincc (lv' := [.ref 60, .int x1, .int (x2 + (1 : Int32))]) C dX9_layCanBe_139 rfl ic1 (by decide) rfl ?_
        refine mG_goto (tgt := 65) C dX9_layCanBe_142 rfl ?_
        exact K

set_option maxRecDepth 20000 in
set_option maxHeartbeats 4000000 in
theorem vX9_layTold_0 {X : mX} {E : mEnv} {Qm : Option Value → mW → Prop} (C : mCtx X E MX9_layTold) (F : mFin X E MX9_layTold Qm) {w : mW}  (p0 : Int32) (p1 : Int32) (p2 : Int32) (p3 : Int32) (p4 : Int32)
    (K : (p0 = 0 →
    (mMv E MX9_lay [.ref 60, .int p0, .int p1, .int p2, .int (0 : Int32), .int (0 : Int32)] w (fun u1 =>
    (Qm none u1)))) ∧ (¬ p0 = 0 →
    ((¬ p0 = (4 : Int32) →
    (mMv E MX9_lay [.ref 60, .int p0, .int p1, .int p2, .int p3, .int p4] w (fun u2 =>
    (Qm none u2)))) ∧ (p0 = (4 : Int32) →
    (mMv E MX9_lay [.ref 60, .int p0, .int p1, .int p2, .int (0 : Int32), .int (0 : Int32)] w (fun u3 =>
    (Qm none u3))))))) :
    mG X E MX9_layTold 0 [.ref 60, .int p0, .int p1, .int p2, .int p3, .int p4, .retAddr 0] [] w := by
  refine mG_iload_n C dX9_layTold_0 rfl rfl ?_
  refine mG_if_eq (tgt := 9) C dX9_layTold_1 rfl (fun h => ?_) (fun h => ?_)
  · have K := K.1 h
    refine mG_iconst C dX9_layTold_9 ic1 ?_
    refine mG_goto (tgt := 14) C dX9_layTold_10 rfl ?_
    refine mG_istore (lv' := [.ref 60, .int p0, .int p1, .int p2, .int p3, .int p4, .int (1 : Int32)]) C dX9_layTold_14 (by decide) rfl ?_
    refine mG_aload_n C dX9_layTold_16 rfl rfl ?_
    refine mG_iload_n C dX9_layTold_17 rfl rfl ?_
    refine mG_iload_n C dX9_layTold_18 rfl rfl ?_
    refine mG_iload_n C dX9_layTold_19 rfl rfl ?_
    refine mG_iload C dX9_layTold_20 rfl ?_
    refine mG_if_eq (tgt := 29) C dX9_layTold_22 rfl (fun h => absurd h (by decide)) (fun _ => ?_)
    refine mG_iconst C dX9_layTold_25 ic0 ?_
    refine mG_goto (tgt := 31) C dX9_layTold_26 rfl ?_
    refine mG_iload C dX9_layTold_31 rfl ?_
    refine mG_if_eq (tgt := 40) C dX9_layTold_33 rfl (fun h => absurd h (by decide)) (fun _ => ?_)
    refine mG_iconst C dX9_layTold_36 ic0 ?_
    refine mG_goto (tgt := 42) C dX9_layTold_37 rfl ?_
    refine mG_Vv (Z := MX9_lay) (as := [.int p0, .int p1, .int p2, .int (0 : Int32), .int (0 : Int32)]) (rest := []) C dX9_layTold_42 lk_1070 zX9_lay ⟨Nat.le_of_ble_eq_true rfl, Nat.le_of_ble_eq_true rfl⟩ sh60 rfl rfl (Nat.le_of_ble_eq_true rfl) rfl K (fun u1 K => ?_)
    exact mG_vret C F dX9_layTold_45 rfl K
  · have K := K.2 h
    refine mG_iload_n C dX9_layTold_4 rfl rfl ?_
    refine mG_iconst C dX9_layTold_5 ic4 ?_
    refine mG_icmp_ne (tgt := 13) C dX9_layTold_6 rfl (fun h => ?_) (fun h => ?_)
    · have K := K.1 h
      refine mG_iconst C dX9_layTold_13 ic0 ?_
      refine mG_istore (lv' := [.ref 60, .int p0, .int p1, .int p2, .int p3, .int p4, .int (0 : Int32)]) C dX9_layTold_14 (by decide) rfl ?_
      refine mG_aload_n C dX9_layTold_16 rfl rfl ?_
      refine mG_iload_n C dX9_layTold_17 rfl rfl ?_
      refine mG_iload_n C dX9_layTold_18 rfl rfl ?_
      refine mG_iload_n C dX9_layTold_19 rfl rfl ?_
      refine mG_iload C dX9_layTold_20 rfl ?_
      refine mG_if_eq (tgt := 29) C dX9_layTold_22 rfl (fun _ => ?_) (fun h => absurd h (by decide))
      refine mG_iload C dX9_layTold_29 rfl ?_
      refine mG_iload C dX9_layTold_31 rfl ?_
      refine mG_if_eq (tgt := 40) C dX9_layTold_33 rfl (fun _ => ?_) (fun h => absurd h (by decide))
      refine mG_iload C dX9_layTold_40 rfl ?_
      refine mG_Vv (Z := MX9_lay) (as := [.int p0, .int p1, .int p2, .int p3, .int p4]) (rest := []) C dX9_layTold_42 lk_1070 zX9_lay ⟨Nat.le_of_ble_eq_true rfl, Nat.le_of_ble_eq_true rfl⟩ sh60 rfl rfl (Nat.le_of_ble_eq_true rfl) rfl K (fun u2 K => ?_)
      exact mG_vret C F dX9_layTold_45 rfl K
    · have K := K.2 h
      refine mG_iconst C dX9_layTold_9 ic1 ?_
      refine mG_goto (tgt := 14) C dX9_layTold_10 rfl ?_
      refine mG_istore (lv' := [.ref 60, .int p0, .int p1, .int p2, .int p3, .int p4, .int (1 : Int32)]) C dX9_layTold_14 (by decide) rfl ?_
      refine mG_aload_n C dX9_layTold_16 rfl rfl ?_
      refine mG_iload_n C dX9_layTold_17 rfl rfl ?_
      refine mG_iload_n C dX9_layTold_18 rfl rfl ?_
      refine mG_iload_n C dX9_layTold_19 rfl rfl ?_
      refine mG_iload C dX9_layTold_20 rfl ?_
      refine mG_if_eq (tgt := 29) C dX9_layTold_22 rfl (fun h => absurd h (by decide)) (fun _ => ?_)
      refine mG_iconst C dX9_layTold_25 ic0 ?_
      refine mG_goto (tgt := 31) C dX9_layTold_26 rfl ?_
      refine mG_iload C dX9_layTold_31 rfl ?_
      refine mG_if_eq (tgt := 40) C dX9_layTold_33 rfl (fun h => absurd h (by decide)) (fun _ => ?_)
      refine mG_iconst C dX9_layTold_36 ic0 ?_
      refine mG_goto (tgt := 42) C dX9_layTold_37 rfl ?_
      refine mG_Vv (Z := MX9_lay) (as := [.int p0, .int p1, .int p2, .int (0 : Int32), .int (0 : Int32)]) (rest := []) C dX9_layTold_42 lk_1070 zX9_lay ⟨Nat.le_of_ble_eq_true rfl, Nat.le_of_ble_eq_true rfl⟩ sh60 rfl rfl (Nat.le_of_ble_eq_true rfl) rfl K (fun u3 K => ?_)
      exact mG_vret C F dX9_layTold_45 rfl K

set_option maxRecDepth 20000 in
set_option maxHeartbeats 4000000 in
theorem vX9_mostNext_0 {X : mX} {E : mEnv} {Qm : Option Value → mW → Prop} (C : mCtx X E MX9_mostNext) (F : mFin X E MX9_mostNext Qm) {w : mW} {a0 : Nat} (ha0 : mSh[a0]? = some (.inl (0, 32, [])))
    (K : mMv E MX9_copy [.ref a0, .int (0 : Int32), .ref 67, .int (0 : Int32)] w (fun u1 =>
    (mMv E MX9_pass [.ref 60, .ref 67] u1 (fun u2 =>
    (mMi E MX9_sumOf [.ref 60, .int (u2.1 67 0)] u2 (fun v1 u3 =>
    (mG X E MX9_mostNext 31 [.ref 60, .ref a0, .int v1, .int (0 : Int32), .retAddr 0, .retAddr 0] [] u3))))))) :
    mG X E MX9_mostNext 0 [.ref 60, .ref a0, .retAddr 0, .retAddr 0, .retAddr 0, .retAddr 0] [] w := by
  refine mG_aload_n C dX9_mostNext_0 rfl rfl ?_
  refine mG_iconst C dX9_mostNext_1 ic0 ?_
  refine mG_aload_n C dX9_mostNext_2 rfl rfl ?_
  refine mG_getR C dX9_mostNext_3 fl_853 sh60 rfl ?_
  refine mG_iconst C dX9_mostNext_6 ic0 ?_
  refine mG_Sv (Z := MX9_copy) (as := [.ref a0, .int (0 : Int32), .ref 67, .int (0 : Int32)]) (rest := []) C dX9_mostNext_7 lk_1082 zX9_copy ⟨Nat.le_of_ble_eq_true rfl, Nat.le_of_ble_eq_true rfl⟩ rfl (Nat.le_of_ble_eq_true rfl) rfl K (fun u1 K => ?_)
  refine mG_aload_n C dX9_mostNext_10 rfl rfl ?_
  refine mG_aload_n C dX9_mostNext_11 rfl rfl ?_
  refine mG_getR C dX9_mostNext_12 fl_853 sh60 rfl ?_
  refine mG_Vv (Z := MX9_pass) (as := [.ref 67]) (rest := []) C dX9_mostNext_15 lk_1096 zX9_pass ⟨Nat.le_of_ble_eq_true rfl, Nat.le_of_ble_eq_true rfl⟩ sh60 rfl rfl (Nat.le_of_ble_eq_true rfl) rfl K (fun u2 K => ?_)
  refine mG_aload_n C dX9_mostNext_18 rfl rfl ?_
  refine mG_aload_n C dX9_mostNext_19 rfl rfl ?_
  refine mG_getR C dX9_mostNext_20 fl_853 sh60 rfl ?_
  refine mG_iconst C dX9_mostNext_23 ic0 ?_
  refine mG_ialdv C dX9_mostNext_24 sh67 (by unfold vp_in; decide) (by first | rfl | simp [mPI, mPL]) ?_
  refine mG_Vi (Z := MX9_sumOf) (as := [.int (u2.1 67 0)]) (rest := []) C dX9_mostNext_25 lk_1119 zX9_sumOf ⟨Nat.le_of_ble_eq_true rfl, Nat.le_of_ble_eq_true rfl⟩ sh60 rfl rfl (Nat.le_of_ble_eq_true rfl) rfl K (fun v1 u3 K => ?_)
  refine mG_istore_n (lv' := [.ref 60, .ref a0, .int v1, .retAddr 0, .retAddr 0, .retAddr 0]) C dX9_mostNext_28 rfl (by decide) rfl ?_
  refine mG_iconst C dX9_mostNext_29 ic0 ?_
  refine mG_istore_n (lv' := [.ref 60, .ref a0, .int v1, .int (0 : Int32), .retAddr 0, .retAddr 0]) C dX9_mostNext_30 rfl (by decide) rfl ?_
  exact K

set_option maxRecDepth 20000 in
set_option maxHeartbeats 4000000 in
theorem vX9_mostNext_31 {X : mX} {E : mEnv} {Qm : Option Value → mW → Prop} (C : mCtx X E MX9_mostNext) (F : mFin X E MX9_mostNext Qm) {w : mW} {a0 : Nat} (ha0 : mSh[a0]? = some (.inl (0, 32, []))) (x2 : Int32) (x3 : Int32)
    (K : ((46000 : Int32) ≤ x3 →
    (Qm (some (.int x2)) w)) ∧ (¬ (46000 : Int32) ≤ x3 →
    (mG X E MX9_mostNext 41 [.ref 60, .ref a0, .int x2, .int x3, .int (0 : Int32), .retAddr 0] [] w))) :
    mG X E MX9_mostNext 31 [.ref 60, .ref a0, .int x2, .int x3, .retAddr 0, .retAddr 0] [] w := by
  refine mG_iload_n C dX9_mostNext_31 rfl rfl ?_
  refine mG_ldcw C dX9_mostNext_32 kc_1147_260 ?_
  refine mG_icmp_ge (tgt := 139) C dX9_mostNext_35 rfl (fun h => ?_) (fun h => ?_)
  · have K := K.1 h
    refine mG_iload_n C dX9_mostNext_139 rfl rfl ?_
    exact mG_iret C F dX9_mostNext_140 rfl rfl K
  · have K := K.2 h
    refine mG_iconst C dX9_mostNext_38 ic0 ?_
    refine mG_istore (lv' := [.ref 60, .ref a0, .int x2, .int x3, .int (0 : Int32), .retAddr 0]) C dX9_mostNext_39 (by decide) rfl ?_
    exact K

set_option maxRecDepth 20000 in
set_option maxHeartbeats 4000000 in
theorem vX9_mostNext_41 {X : mX} {E : mEnv} {Qm : Option Value → mW → Prop} (C : mCtx X E MX9_mostNext) (F : mFin X E MX9_mostNext Qm) {w : mW} {a0 : Nat} (ha0 : mSh[a0]? = some (.inl (0, 32, []))) (x2 : Int32) (x3 : Int32) (x4 : Int32)
    (K : ((w.1 60 2) ≤ x4 →
    (mMi E MX9_nextPlain [.int x3] w (fun v1 u1 =>
    (mG X E MX9_mostNext 31 [.ref 60, .ref a0, .int x2, .int v1, .retAddr 0, .retAddr 0] [] u1)))) ∧ (¬ (w.1 60 2) ≤ x4 →
    (mMi E MX9_isSentence [.ref 60, .int x3] w (fun v2 u2 =>
    ((v2 = 0 →
    (mMi E MX9_nextPlain [.int x3] u2 (fun v3 u3 =>
    (mG X E MX9_mostNext 31 [.ref 60, .ref a0, .int x2, .int v3, .retAddr 0, .retAddr 0] [] u3)))) ∧ (¬ v2 = 0 →
    (mMi E MX9_isSo [.ref 60, .ref a0, .int ((1 : Int32) <<< (x4 &&& 31))] u2 (fun v4 u4 =>
    ((v4 = 0 →
    (mG X E MX9_mostNext 41 [.ref 60, .ref a0, .int x2, .int x3, .int (x4 + (1 : Int32)), .retAddr 0] [] u4)) ∧ (¬ v4 = 0 →
    (mMv E MX9_copy [.ref a0, .int (0 : Int32), .ref 67, .int (0 : Int32)] u4 (fun u5 =>
    (mMv E MX9_hearAll [.ref 60, .ref 67, .int ((1 : Int32) <<< (x4 &&& 31))] u5 (fun u6 =>
    (mMv E MX9_pass [.ref 60, .ref 67] u6 (fun u7 =>
    (mMi E MX9_sumOf [.ref 60, .int (u7.1 67 0)] u7 (fun v5 u8 =>
    ((v5 ≤ x2 →
    (mG X E MX9_mostNext 41 [.ref 60, .ref a0, .int x2, .int x3, .int (x4 + (1 : Int32)), .retAddr 0] [] u8)) ∧ (¬ v5 ≤ x2 →
    (mG X E MX9_mostNext 41 [.ref 60, .ref a0, .int v5, .int x3, .int (x4 + (1 : Int32)), .retAddr 0] [] u8))))))))))))))))))))) :
    mG X E MX9_mostNext 41 [.ref 60, .ref a0, .int x2, .int x3, .int x4, .retAddr 0] [] w := by
  refine mG_iload C dX9_mostNext_41 rfl ?_
  refine mG_aload_n C dX9_mostNext_43 rfl rfl ?_
  refine mG_getI C dX9_mostNext_44 fl_835 sh60 rfl ?_
  refine mG_icmp_ge (tgt := 131) C dX9_mostNext_47 rfl (fun h => ?_) (fun h => ?_)
  · have K := K.1 h
    refine mG_iload_n C dX9_mostNext_131 rfl rfl ?_
    refine mG_Si (Z := MX9_nextPlain) (as := [.int x3]) (rest := []) C dX9_mostNext_132 lk_1204 zX9_nextPlain ⟨Nat.le_of_ble_eq_true rfl, Nat.le_of_ble_eq_true rfl⟩ rfl (Nat.le_of_ble_eq_true rfl) rfl K (fun v1 u1 K => ?_)
    refine mG_istore_n (lv' := [.ref 60, .ref a0, .int x2, .int v1, .int x4, .retAddr 0]) C dX9_mostNext_135 rfl (by decide) rfl ?_
    refine mG_goto (tgt := 31) C dX9_mostNext_136 rfl ?_
    exact mG_holes [4] rfl K
  · have K := K.2 h
    refine mG_aload_n C dX9_mostNext_50 rfl rfl ?_
    refine mG_iload_n C dX9_mostNext_51 rfl rfl ?_
    refine mG_Vi (Z := MX9_isSentence) (as := [.int x3]) (rest := []) C dX9_mostNext_52 lk_1148 zX9_isSentence ⟨Nat.le_of_ble_eq_true rfl, Nat.le_of_ble_eq_true rfl⟩ sh60 rfl rfl (Nat.le_of_ble_eq_true rfl) rfl K (fun v2 u2 K => ?_)
    refine mG_if_eq (tgt := 131) C dX9_mostNext_55 rfl (fun h => ?_) (fun h => ?_)
    · have K := K.1 h
      refine mG_iload_n C dX9_mostNext_131 rfl rfl ?_
      refine mG_Si (Z := MX9_nextPlain) (as := [.int x3]) (rest := []) C dX9_mostNext_132 lk_1204 zX9_nextPlain ⟨Nat.le_of_ble_eq_true rfl, Nat.le_of_ble_eq_true rfl⟩ rfl (Nat.le_of_ble_eq_true rfl) rfl K (fun v3 u3 K => ?_)
      refine mG_istore_n (lv' := [.ref 60, .ref a0, .int x2, .int v3, .int x4, .retAddr 0]) C dX9_mostNext_135 rfl (by decide) rfl ?_
      refine mG_goto (tgt := 31) C dX9_mostNext_136 rfl ?_
      exact mG_holes [4] rfl K
    · have K := K.2 h
      refine mG_aload_n C dX9_mostNext_58 rfl rfl ?_
      refine mG_aload_n C dX9_mostNext_59 rfl rfl ?_
      refine mG_iconst C dX9_mostNext_60 ic1 ?_
      refine mG_iload C dX9_mostNext_61 rfl ?_
      refine mG_ishl C dX9_mostNext_63 ?_
      refine mG_Vi (Z := MX9_isSo) (as := [.ref a0, .int ((1 : Int32) <<< (x4 &&& 31))]) (rest := []) C dX9_mostNext_64 lk_1078 zX9_isSo ⟨Nat.le_of_ble_eq_true rfl, Nat.le_of_ble_eq_true rfl⟩ sh60 rfl rfl (Nat.le_of_ble_eq_true rfl) rfl K (fun v4 u4 K => ?_)
      refine mG_if_eq (tgt := 125) C dX9_mostNext_67 rfl (fun h => ?_) (fun h => ?_)
      · have K := K.1 h
        refine mG_iincc (lv' := [.ref 60, .ref a0, .int x2, .int x3, .int (x4 + (1 : Int32)), .retAddr 0]) C dX9_mostNext_125 rfl ic1 (by decide) rfl ?_
        refine mG_goto (tgt := 41) C dX9_mostNext_128 rfl ?_
        exact K
      · have K := K.2 h
        refine mG_aload_n C dX9_mostNext_70 rfl rfl ?_
        refine mG_iconst C dX9_mostNext_71 ic0 ?_
        refine mG_aload_n C dX9_mostNext_72 rfl rfl ?_
        refine mG_getR C dX9_mostNext_73 fl_853 sh60 rfl ?_
        refine mG_iconst C dX9_mostNext_76 ic0 ?_
        refine mG_Sv (Z := MX9_copy) (as := [.ref a0, .int (0 : Int32), .ref 67, .int (0 : Int32)]) (rest := []) C dX9_mostNext_77 lk_1082 zX9_copy ⟨Nat.le_of_ble_eq_true rfl, Nat.le_of_ble_eq_true rfl⟩ rfl (Nat.le_of_ble_eq_true rfl) rfl K (fun u5 K => ?_)
        refine mG_aload_n C dX9_mostNext_80 rfl rfl ?_
        refine mG_aload_n C dX9_mostNext_81 rfl rfl ?_
        refine mG_getR C dX9_mostNext_82 fl_853 sh60 rfl ?_
        refine mG_iconst C dX9_mostNext_85 ic1 ?_
        refine mG_iload C dX9_mostNext_86 rfl ?_
        refine mG_ishl C dX9_mostNext_88 ?_
        refine mG_Vv (Z := MX9_hearAll) (as := [.ref 67, .int ((1 : Int32) <<< (x4 &&& 31))]) (rest := []) C dX9_mostNext_89 lk_1085 zX9_hearAll ⟨Nat.le_of_ble_eq_true rfl, Nat.le_of_ble_eq_true rfl⟩ sh60 rfl rfl (Nat.le_of_ble_eq_true rfl) rfl K (fun u6 K => ?_)
        refine mG_aload_n C dX9_mostNext_92 rfl rfl ?_
        refine mG_aload_n C dX9_mostNext_93 rfl rfl ?_
        refine mG_getR C dX9_mostNext_94 fl_853 sh60 rfl ?_
        refine mG_Vv (Z := MX9_pass) (as := [.ref 67]) (rest := []) C dX9_mostNext_97 lk_1096 zX9_pass ⟨Nat.le_of_ble_eq_true rfl, Nat.le_of_ble_eq_true rfl⟩ sh60 rfl rfl (Nat.le_of_ble_eq_true rfl) rfl K (fun u7 K => ?_)
        refine mG_aload_n C dX9_mostNext_100 rfl rfl ?_
        refine mG_aload_n C dX9_mostNext_101 rfl rfl ?_
        refine mG_getR C dX9_mostNext_102 fl_853 sh60 rfl ?_
        refine mG_iconst C dX9_mostNext_105 ic0 ?_
        refine mG_ialdv C dX9_mostNext_106 sh67 (by unfold vp_in; decide) (by first | rfl | simp [mPI, mPL]) ?_
        refine mG_Vi (Z := MX9_sumOf) (as := [.int (u7.1 67 0)]) (rest := []) C dX9_mostNext_107 lk_1119 zX9_sumOf ⟨Nat.le_of_ble_eq_true rfl, Nat.le_of_ble_eq_true rfl⟩ sh60 rfl rfl (Nat.le_of_ble_eq_true rfl) rfl K (fun v5 u8 K => ?_)
        refine mG_istore (lv' := [.ref 60, .ref a0, .int x2, .int x3, .int x4, .int v5]) C dX9_mostNext_110 (by decide) rfl ?_
        refine mG_iload C dX9_mostNext_112 rfl ?_
        refine mG_iload_n C dX9_mostNext_114 rfl rfl ?_
        refine mG_icmp_le (tgt := 123) C dX9_mostNext_115 rfl (fun h => ?_) (fun h => ?_)
        · have K := K.1 h
          refine mG_iload_n C dX9_mostNext_123 rfl rfl ?_
          refine mG_istore_n (lv' := [.ref 60, .ref a0, .int x2, .int x3, .int x4, .int v5]) C dX9_mostNext_124 rfl (by decide) rfl ?_
          refine mG_iincc (lv' := [.ref 60, .ref a0, .int x2, .int x3, .int (x4 + (1 : Int32)), .int v5]) C dX9_mostNext_125 rfl ic1 (by decide) rfl ?_
          refine mG_goto (tgt := 41) C dX9_mostNext_128 rfl ?_
          exact mG_holes [5] rfl K
        · have K := K.2 h
          refine mG_iload C dX9_mostNext_118 rfl ?_
          refine mG_goto (tgt := 124) C dX9_mostNext_120 rfl ?_
          refine mG_istore_n (lv' := [.ref 60, .ref a0, .int v5, .int x3, .int x4, .int v5]) C dX9_mostNext_124 rfl (by decide) rfl ?_
          refine mG_iincc (lv' := [.ref 60, .ref a0, .int v5, .int x3, .int (x4 + (1 : Int32)), .int v5]) C dX9_mostNext_125 rfl ic1 (by decide) rfl ?_
          refine mG_goto (tgt := 41) C dX9_mostNext_128 rfl ?_
          exact mG_holes [5] rfl K

set_option maxRecDepth 20000 in
set_option maxHeartbeats 4000000 in
theorem vX9_nextNumber_0 {X : mX} {E : mEnv} {Qm : Option Value → mW → Prop} (C : mCtx X E MX9_nextNumber) (F : mFin X E MX9_nextNumber Qm) {w : mW}  (p0 : Int32)
    (K : (((p0 + (1 : Int32)) - (p0 + (1 : Int32)) / (10 : Int32) * (10 : Int32)) ≤ (1 : Int32) →
    (Qm (some (.int (p0 + (1 : Int32)))) w)) ∧ (¬ ((p0 + (1 : Int32)) - (p0 + (1 : Int32)) / (10 : Int32) * (10 : Int32)) ≤ (1 : Int32) →
    (Qm (some (.int ((((p0 + (1 : Int32)) / (10 : Int32)) * (10 : Int32)) + (10 : Int32)))) w))) :
    mG X E MX9_nextNumber 0 [.int p0, .retAddr 0] [] w := by
  refine mG_iload_n C dX9_nextNumber_0 rfl rfl ?_
  refine mG_iconst C dX9_nextNumber_1 ic1 ?_
  refine mG_iadd C dX9_nextNumber_2 ?_
  refine mG_istore_n (lv' := [.int p0, .int (p0 + (1 : Int32))]) C dX9_nextNumber_3 rfl (by decide) rfl ?_
  refine mG_iload_n C dX9_nextNumber_4 rfl rfl ?_
  refine mG_bipush C dX9_nextNumber_5 bp10 ?_
  refine mG_irem C dX9_nextNumber_7 (by decide) ?_
  refine mG_iconst C dX9_nextNumber_8 ic1 ?_
  refine mG_icmp_le (tgt := 25) C dX9_nextNumber_9 rfl (fun h => ?_) (fun h => ?_)
  · have K := K.1 h
    refine mG_iload_n C dX9_nextNumber_25 rfl rfl ?_
    exact mG_iret C F dX9_nextNumber_26 rfl rfl K
  · have K := K.2 h
    refine mG_iload_n C dX9_nextNumber_12 rfl rfl ?_
    refine mG_bipush C dX9_nextNumber_13 bp10 ?_
    refine mG_idiv C dX9_nextNumber_15 (by decide) ?_
    refine mG_bipush C dX9_nextNumber_16 bp10 ?_
    refine mG_imul C dX9_nextNumber_18 ?_
    refine mG_bipush C dX9_nextNumber_19 bp10 ?_
    refine mG_iadd C dX9_nextNumber_21 ?_
    refine mG_goto (tgt := 26) C dX9_nextNumber_22 rfl ?_
    exact mG_iret C F dX9_nextNumber_26 rfl rfl K

set_option maxRecDepth 20000 in
set_option maxHeartbeats 4000000 in
theorem vX9_nextPlain_0 {X : mX} {E : mEnv} {Qm : Option Value → mW → Prop} (C : mCtx X E MX9_nextPlain) (F : mFin X E MX9_nextPlain Qm) {w : mW}  (p0 : Int32)
    (K : (((p0 + (100 : Int32)) - (p0 + (100 : Int32)) / (1000 : Int32) * (1000 : Int32)) ≤ (100 : Int32) →
    (((p0 + (100 : Int32)) ≤ (9999 : Int32) →
    (Qm (some (.int (p0 + (100 : Int32)))) w)) ∧ (¬ (p0 + (100 : Int32)) ≤ (9999 : Int32) →
    (((40000 : Int32) ≤ (p0 + (100 : Int32)) →
    (Qm (some (.int (p0 + (100 : Int32)))) w)) ∧ (¬ (40000 : Int32) ≤ (p0 + (100 : Int32)) →
    (Qm (some (.int (40000 : Int32))) w)))))) ∧ (¬ ((p0 + (100 : Int32)) - (p0 + (100 : Int32)) / (1000 : Int32) * (1000 : Int32)) ≤ (100 : Int32) →
    ((((((p0 + (100 : Int32)) / (1000 : Int32)) * (1000 : Int32)) + (1000 : Int32)) ≤ (9999 : Int32) →
    (Qm (some (.int ((((p0 + (100 : Int32)) / (1000 : Int32)) * (1000 : Int32)) + (1000 : Int32)))) w)) ∧ (¬ ((((p0 + (100 : Int32)) / (1000 : Int32)) * (1000 : Int32)) + (1000 : Int32)) ≤ (9999 : Int32) →
    (((40000 : Int32) ≤ ((((p0 + (100 : Int32)) / (1000 : Int32)) * (1000 : Int32)) + (1000 : Int32)) →
    (Qm (some (.int ((((p0 + (100 : Int32)) / (1000 : Int32)) * (1000 : Int32)) + (1000 : Int32)))) w)) ∧ (¬ (40000 : Int32) ≤ ((((p0 + (100 : Int32)) / (1000 : Int32)) * (1000 : Int32)) + (1000 : Int32)) →
    (Qm (some (.int (40000 : Int32))) w))))))) :
    mG X E MX9_nextPlain 0 [.int p0, .retAddr 0] [] w := by
  refine mG_iload_n C dX9_nextPlain_0 rfl rfl ?_
  refine mG_bipush C dX9_nextPlain_1 bp100 ?_
  refine mG_iadd C dX9_nextPlain_3 ?_
  refine mG_istore_n (lv' := [.int p0, .int (p0 + (100 : Int32))]) C dX9_nextPlain_4 rfl (by decide) rfl ?_
  refine mG_iload_n C dX9_nextPlain_5 rfl rfl ?_
  refine mG_sipush C dX9_nextPlain_6 sp1000 ?_
  refine mG_irem C dX9_nextPlain_9 (by decide) ?_
  refine mG_bipush C dX9_nextPlain_10 bp100 ?_
  refine mG_icmp_le (tgt := 31) C dX9_nextPlain_12 rfl (fun h => ?_) (fun h => ?_)
  · have K := K.1 h
    refine mG_iload_n C dX9_nextPlain_31 rfl rfl ?_
    refine mG_istore_n (lv' := [.int p0, .int (p0 + (100 : Int32))]) C dX9_nextPlain_32 rfl (by decide) rfl ?_
    refine mG_iload_n C dX9_nextPlain_33 rfl rfl ?_
    refine mG_sipush C dX9_nextPlain_34 sp9999 ?_
    refine mG_icmp_le (tgt := 53) C dX9_nextPlain_37 rfl (fun h => ?_) (fun h => ?_)
    · have K := K.1 h
      refine mG_iload_n C dX9_nextPlain_53 rfl rfl ?_
      exact mG_iret C F dX9_nextPlain_54 rfl rfl K
    · have K := K.2 h
      refine mG_iload_n C dX9_nextPlain_40 rfl rfl ?_
      refine mG_ldcw C dX9_nextPlain_41 kc_1207_284 ?_
      refine mG_icmp_ge (tgt := 53) C dX9_nextPlain_44 rfl (fun h => ?_) (fun h => ?_)
      · have K := K.1 h
        refine mG_iload_n C dX9_nextPlain_53 rfl rfl ?_
        exact mG_iret C F dX9_nextPlain_54 rfl rfl K
      · have K := K.2 h
        refine mG_ldcw C dX9_nextPlain_47 kc_1207_284 ?_
        refine mG_goto (tgt := 54) C dX9_nextPlain_50 rfl ?_
        exact mG_iret C F dX9_nextPlain_54 rfl rfl K
  · have K := K.2 h
    refine mG_iload_n C dX9_nextPlain_15 rfl rfl ?_
    refine mG_sipush C dX9_nextPlain_16 sp1000 ?_
    refine mG_idiv C dX9_nextPlain_19 (by decide) ?_
    refine mG_sipush C dX9_nextPlain_20 sp1000 ?_
    refine mG_imul C dX9_nextPlain_23 ?_
    refine mG_sipush C dX9_nextPlain_24 sp1000 ?_
    refine mG_iadd C dX9_nextPlain_27 ?_
    refine mG_goto (tgt := 32) C dX9_nextPlain_28 rfl ?_
    refine mG_istore_n (lv' := [.int p0, .int ((((p0 + (100 : Int32)) / (1000 : Int32)) * (1000 : Int32)) + (1000 : Int32))]) C dX9_nextPlain_32 rfl (by decide) rfl ?_
    refine mG_iload_n C dX9_nextPlain_33 rfl rfl ?_
    refine mG_sipush C dX9_nextPlain_34 sp9999 ?_
    refine mG_icmp_le (tgt := 53) C dX9_nextPlain_37 rfl (fun h => ?_) (fun h => ?_)
    · have K := K.1 h
      refine mG_iload_n C dX9_nextPlain_53 rfl rfl ?_
      exact mG_iret C F dX9_nextPlain_54 rfl rfl K
    · have K := K.2 h
      refine mG_iload_n C dX9_nextPlain_40 rfl rfl ?_
      refine mG_ldcw C dX9_nextPlain_41 kc_1207_284 ?_
      refine mG_icmp_ge (tgt := 53) C dX9_nextPlain_44 rfl (fun h => ?_) (fun h => ?_)
      · have K := K.1 h
        refine mG_iload_n C dX9_nextPlain_53 rfl rfl ?_
        exact mG_iret C F dX9_nextPlain_54 rfl rfl K
      · have K := K.2 h
        refine mG_ldcw C dX9_nextPlain_47 kc_1207_284 ?_
        refine mG_goto (tgt := 54) C dX9_nextPlain_50 rfl ?_
        exact mG_iret C F dX9_nextPlain_54 rfl rfl K

set_option maxRecDepth 20000 in
set_option maxHeartbeats 4000000 in
theorem vX9_nextToken_0 {X : mX} {E : mEnv} {Qm : Option Value → mW → Prop} (C : mCtx X E MX9_nextToken) (F : mFin X E MX9_nextToken Qm) {w : mW} 
    (K : ((w.1 60 6) ≤ (w.1 60 8) →
    ((¬ (w.1 60 8) = (w.1 60 6) →
    (vp_in (w.1 60 8) 160 ∧
    (mMi E MX9_in [.int (w.1 64 ((w.1 60 8).toNatClampNeg)), .int (97 : Int32), .int (122 : Int32)] (mPI (mPI (mPI w 60 9 (w.1 60 8)) 60 11 (0 : Int32)) 60 12 (0 : Int32)) (fun v1 u1 =>
    ((v1 = 0 →
    (vp_in (u1.1 60 8) 160 ∧
    (mMi E MX9_in [.int (u1.1 64 ((u1.1 60 8).toNatClampNeg)), .int (48 : Int32), .int (57 : Int32)] u1 (fun v2 u2 =>
    ((v2 = 0 →
    (vp_in (u2.1 60 8) 160 ∧
    ((¬ (u2.1 64 ((u2.1 60 8).toNatClampNeg)) = (59 : Int32) →
    (Qm none (mPI (mPL u2 60 10 (-4 : Int64)) 60 8 ((u2.1 60 8) + (1 : Int32))))) ∧ ((u2.1 64 ((u2.1 60 8).toNatClampNeg)) = (59 : Int32) →
    (Qm none (mPI (mPL u2 60 10 (-3 : Int64)) 60 8 ((u2.1 60 8) + (1 : Int32)))))))) ∧ (¬ v2 = 0 →
    (mG X E MX9_nextToken 241 [.ref 60] [] u2))))))) ∧ (¬ v1 = 0 →
    (mG X E MX9_nextToken 101 [.ref 60] [] (mPL u1 60 10 (0 : Int64))))))))) ∧ ((w.1 60 8) = (w.1 60 6) →
    (Qm none (mPL (mPI (mPI (mPI w 60 9 (w.1 60 8)) 60 11 (0 : Int32)) 60 12 (0 : Int32)) 60 10 (-2 : Int64)))))) ∧ (¬ (w.1 60 6) ≤ (w.1 60 8) →
    (vp_in (w.1 60 8) 160 ∧
    ((¬ (w.1 64 ((w.1 60 8).toNatClampNeg)) = (32 : Int32) →
    ((¬ (w.1 60 8) = (w.1 60 6) →
    (vp_in (w.1 60 8) 160 ∧
    (mMi E MX9_in [.int (w.1 64 ((w.1 60 8).toNatClampNeg)), .int (97 : Int32), .int (122 : Int32)] (mPI (mPI (mPI w 60 9 (w.1 60 8)) 60 11 (0 : Int32)) 60 12 (0 : Int32)) (fun v3 u3 =>
    ((v3 = 0 →
    (vp_in (u3.1 60 8) 160 ∧
    (mMi E MX9_in [.int (u3.1 64 ((u3.1 60 8).toNatClampNeg)), .int (48 : Int32), .int (57 : Int32)] u3 (fun v4 u4 =>
    ((v4 = 0 →
    (vp_in (u4.1 60 8) 160 ∧
    ((¬ (u4.1 64 ((u4.1 60 8).toNatClampNeg)) = (59 : Int32) →
    (Qm none (mPI (mPL u4 60 10 (-4 : Int64)) 60 8 ((u4.1 60 8) + (1 : Int32))))) ∧ ((u4.1 64 ((u4.1 60 8).toNatClampNeg)) = (59 : Int32) →
    (Qm none (mPI (mPL u4 60 10 (-3 : Int64)) 60 8 ((u4.1 60 8) + (1 : Int32)))))))) ∧ (¬ v4 = 0 →
    (mG X E MX9_nextToken 241 [.ref 60] [] u4))))))) ∧ (¬ v3 = 0 →
    (mG X E MX9_nextToken 101 [.ref 60] [] (mPL u3 60 10 (0 : Int64))))))))) ∧ ((w.1 60 8) = (w.1 60 6) →
    (Qm none (mPL (mPI (mPI (mPI w 60 9 (w.1 60 8)) 60 11 (0 : Int32)) 60 12 (0 : Int32)) 60 10 (-2 : Int64)))))) ∧ ((w.1 64 ((w.1 60 8).toNatClampNeg)) = (32 : Int32) →
    (mG X E MX9_nextToken 0 [.ref 60] [] (mPI w 60 8 ((w.1 60 8) + (1 : Int32))))))))) :
    mG X E MX9_nextToken 0 [.ref 60] [] w := by
  refine mG_aload_n C dX9_nextToken_0 rfl rfl ?_
  refine mG_getI C dX9_nextToken_1 fl_841 sh60 rfl ?_
  refine mG_aload_n C dX9_nextToken_4 rfl rfl ?_
  refine mG_getI C dX9_nextToken_5 fl_839 sh60 rfl ?_
  refine mG_icmp_ge (tgt := 38) C dX9_nextToken_8 rfl (fun h => ?_) (fun h => ?_)
  · have K := K.1 h
    refine mG_aload_n C dX9_nextToken_38 rfl rfl ?_
    refine mG_aload_n C dX9_nextToken_39 rfl rfl ?_
    refine mG_getI C dX9_nextToken_40 fl_841 sh60 rfl ?_
    refine mG_putI C dX9_nextToken_43 fp_842 sh60 rfl ?_
    refine mG_aload_n C dX9_nextToken_46 rfl rfl ?_
    refine mG_iconst C dX9_nextToken_47 ic0 ?_
    refine mG_putI C dX9_nextToken_48 fp_844 sh60 rfl ?_
    refine mG_aload_n C dX9_nextToken_51 rfl rfl ?_
    refine mG_iconst C dX9_nextToken_52 ic0 ?_
    refine mG_putI C dX9_nextToken_53 fp_845 sh60 rfl ?_
    refine mG_aload_n C dX9_nextToken_56 rfl rfl ?_
    refine mG_getIv C dX9_nextToken_57 fl_841 sh60 rfl (by first | rfl | simp [mPI, mPL]) ?_
    refine mG_aload_n C dX9_nextToken_60 rfl rfl ?_
    refine mG_getIv C dX9_nextToken_61 fl_839 sh60 rfl (by first | rfl | simp [mPI, mPL]) ?_
    refine mG_icmp_ne (tgt := 77) C dX9_nextToken_64 rfl (fun h => ?_) (fun h => ?_)
    · have K := K.1 h
      refine mG_aload_n C dX9_nextToken_77 rfl rfl ?_
      refine mG_getR C dX9_nextToken_78 fl_840 sh60 rfl ?_
      refine mG_aload_n C dX9_nextToken_81 rfl rfl ?_
      refine mG_getIv C dX9_nextToken_82 fl_841 sh60 rfl (by first | rfl | simp [mPI, mPL]) ?_
      obtain ⟨h1, K⟩ := K
      refine mG_ialdv C dX9_nextToken_85 sh64 h1 (by first | rfl | simp [mPI, mPL]) ?_
      refine mG_bipush C dX9_nextToken_86 bp97 ?_
      refine mG_bipush C dX9_nextToken_88 bp122 ?_
      refine mG_Si (Z := MX9_in) (as := [.int (w.1 64 ((w.1 60 8).toNatClampNeg)), .int (97 : Int32), .int (122 : Int32)]) (rest := []) C dX9_nextToken_90 lk_956 zX9_in ⟨Nat.le_of_ble_eq_true rfl, Nat.le_of_ble_eq_true rfl⟩ rfl (Nat.le_of_ble_eq_true rfl) rfl K (fun v1 u1 K => ?_)
      refine mG_if_eq (tgt := 222) C dX9_nextToken_93 rfl (fun h => ?_) (fun h => ?_)
      · have K := K.1 h
        refine mG_aload_n C dX9_nextToken_222 rfl rfl ?_
        refine mG_getR C dX9_nextToken_223 fl_840 sh60 rfl ?_
        refine mG_aload_n C dX9_nextToken_226 rfl rfl ?_
        refine mG_getI C dX9_nextToken_227 fl_841 sh60 rfl ?_
        obtain ⟨h2, K⟩ := K
        refine mG_iald C dX9_nextToken_230 sh64 h2 ?_
        refine mG_bipush C dX9_nextToken_231 bp48 ?_
        refine mG_bipush C dX9_nextToken_233 bp57 ?_
        refine mG_Si (Z := MX9_in) (as := [.int (u1.1 64 ((u1.1 60 8).toNatClampNeg)), .int (48 : Int32), .int (57 : Int32)]) (rest := []) C dX9_nextToken_235 lk_956 zX9_in ⟨Nat.le_of_ble_eq_true rfl, Nat.le_of_ble_eq_true rfl⟩ rfl (Nat.le_of_ble_eq_true rfl) rfl K (fun v2 u2 K => ?_)
        refine mG_if_eq (tgt := 357) C dX9_nextToken_238 rfl (fun h => ?_) (fun h => ?_)
        · have K := K.1 h
          refine mG_aload_n C dX9_nextToken_357 rfl rfl ?_
          refine mG_aload_n C dX9_nextToken_358 rfl rfl ?_
          refine mG_getR C dX9_nextToken_359 fl_840 sh60 rfl ?_
          refine mG_aload_n C dX9_nextToken_362 rfl rfl ?_
          refine mG_getI C dX9_nextToken_363 fl_841 sh60 rfl ?_
          obtain ⟨h3, K⟩ := K
          refine mG_iald C dX9_nextToken_366 sh64 h3 ?_
          refine mG_bipush C dX9_nextToken_367 bp59 ?_
          refine mG_icmp_ne (tgt := 378) C dX9_nextToken_369 rfl (fun h => ?_) (fun h => ?_)
          · have K := K.1 h
            refine mG_ldc2 C dX9_nextToken_378 kl_982 ?_
            refine mG_putL C dX9_nextToken_381 fp_843 sh60 rfl ?_
            refine mG_aload_n C dX9_nextToken_384 rfl rfl ?_
            refine mG_dup C dX9_nextToken_385 rfl ?_
            refine mG_getIv C dX9_nextToken_386 fl_841 sh60 rfl (by first | rfl | simp [mPI, mPL]) ?_
            refine mG_iconst C dX9_nextToken_389 ic1 ?_
            refine mG_iadd C dX9_nextToken_390 ?_
            refine mG_putI C dX9_nextToken_391 fp_841 sh60 rfl ?_
            exact mG_vret C F dX9_nextToken_394 rfl K
          · have K := K.2 h
            refine mG_ldc2 C dX9_nextToken_372 kl_984 ?_
            refine mG_goto (tgt := 381) C dX9_nextToken_375 rfl ?_
            refine mG_putL C dX9_nextToken_381 fp_843 sh60 rfl ?_
            refine mG_aload_n C dX9_nextToken_384 rfl rfl ?_
            refine mG_dup C dX9_nextToken_385 rfl ?_
            refine mG_getIv C dX9_nextToken_386 fl_841 sh60 rfl (by first | rfl | simp [mPI, mPL]) ?_
            refine mG_iconst C dX9_nextToken_389 ic1 ?_
            refine mG_iadd C dX9_nextToken_390 ?_
            refine mG_putI C dX9_nextToken_391 fp_841 sh60 rfl ?_
            exact mG_vret C F dX9_nextToken_394 rfl K
        · have K := K.2 h
          exact K
      · have K := K.2 h
        refine mG_aload_n C dX9_nextToken_96 rfl rfl ?_
        refine mG_lconst (v := 0) C dX9_nextToken_97 (by decide) ?_
        refine mG_putL C dX9_nextToken_98 fp_843 sh60 rfl ?_
        exact K
    · have K := K.2 h
      refine mG_aload_n C dX9_nextToken_67 rfl rfl ?_
      refine mG_ldc2 C dX9_nextToken_68 kl_979 ?_
      refine mG_putL C dX9_nextToken_71 fp_843 sh60 rfl ?_
      refine mG_goto (tgt := 394) C dX9_nextToken_74 rfl ?_
      exact mG_vret C F dX9_nextToken_394 rfl K
  · have K := K.2 h
    refine mG_aload_n C dX9_nextToken_11 rfl rfl ?_
    refine mG_getR C dX9_nextToken_12 fl_840 sh60 rfl ?_
    refine mG_aload_n C dX9_nextToken_15 rfl rfl ?_
    refine mG_getI C dX9_nextToken_16 fl_841 sh60 rfl ?_
    obtain ⟨h4, K⟩ := K
    refine mG_iald C dX9_nextToken_19 sh64 h4 ?_
    refine mG_bipush C dX9_nextToken_20 bp32 ?_
    refine mG_icmp_ne (tgt := 38) C dX9_nextToken_22 rfl (fun h => ?_) (fun h => ?_)
    · have K := K.1 h
      refine mG_aload_n C dX9_nextToken_38 rfl rfl ?_
      refine mG_aload_n C dX9_nextToken_39 rfl rfl ?_
      refine mG_getI C dX9_nextToken_40 fl_841 sh60 rfl ?_
      refine mG_putI C dX9_nextToken_43 fp_842 sh60 rfl ?_
      refine mG_aload_n C dX9_nextToken_46 rfl rfl ?_
      refine mG_iconst C dX9_nextToken_47 ic0 ?_
      refine mG_putI C dX9_nextToken_48 fp_844 sh60 rfl ?_
      refine mG_aload_n C dX9_nextToken_51 rfl rfl ?_
      refine mG_iconst C dX9_nextToken_52 ic0 ?_
      refine mG_putI C dX9_nextToken_53 fp_845 sh60 rfl ?_
      refine mG_aload_n C dX9_nextToken_56 rfl rfl ?_
      refine mG_getIv C dX9_nextToken_57 fl_841 sh60 rfl (by first | rfl | simp [mPI, mPL]) ?_
      refine mG_aload_n C dX9_nextToken_60 rfl rfl ?_
      refine mG_getIv C dX9_nextToken_61 fl_839 sh60 rfl (by first | rfl | simp [mPI, mPL]) ?_
      refine mG_icmp_ne (tgt := 77) C dX9_nextToken_64 rfl (fun h => ?_) (fun h => ?_)
      · have K := K.1 h
        refine mG_aload_n C dX9_nextToken_77 rfl rfl ?_
        refine mG_getR C dX9_nextToken_78 fl_840 sh60 rfl ?_
        refine mG_aload_n C dX9_nextToken_81 rfl rfl ?_
        refine mG_getIv C dX9_nextToken_82 fl_841 sh60 rfl (by first | rfl | simp [mPI, mPL]) ?_
        obtain ⟨h5, K⟩ := K
        refine mG_ialdv C dX9_nextToken_85 sh64 h5 (by first | rfl | simp [mPI, mPL]) ?_
        refine mG_bipush C dX9_nextToken_86 bp97 ?_
        refine mG_bipush C dX9_nextToken_88 bp122 ?_
        refine mG_Si (Z := MX9_in) (as := [.int (w.1 64 ((w.1 60 8).toNatClampNeg)), .int (97 : Int32), .int (122 : Int32)]) (rest := []) C dX9_nextToken_90 lk_956 zX9_in ⟨Nat.le_of_ble_eq_true rfl, Nat.le_of_ble_eq_true rfl⟩ rfl (Nat.le_of_ble_eq_true rfl) rfl K (fun v3 u3 K => ?_)
        refine mG_if_eq (tgt := 222) C dX9_nextToken_93 rfl (fun h => ?_) (fun h => ?_)
        · have K := K.1 h
          refine mG_aload_n C dX9_nextToken_222 rfl rfl ?_
          refine mG_getR C dX9_nextToken_223 fl_840 sh60 rfl ?_
          refine mG_aload_n C dX9_nextToken_226 rfl rfl ?_
          refine mG_getI C dX9_nextToken_227 fl_841 sh60 rfl ?_
          obtain ⟨h6, K⟩ := K
          refine mG_iald C dX9_nextToken_230 sh64 h6 ?_
          refine mG_bipush C dX9_nextToken_231 bp48 ?_
          refine mG_bipush C dX9_nextToken_233 bp57 ?_
          refine mG_Si (Z := MX9_in) (as := [.int (u3.1 64 ((u3.1 60 8).toNatClampNeg)), .int (48 : Int32), .int (57 : Int32)]) (rest := []) C dX9_nextToken_235 lk_956 zX9_in ⟨Nat.le_of_ble_eq_true rfl, Nat.le_of_ble_eq_true rfl⟩ rfl (Nat.le_of_ble_eq_true rfl) rfl K (fun v4 u4 K => ?_)
          refine mG_if_eq (tgt := 357) C dX9_nextToken_238 rfl (fun h => ?_) (fun h => ?_)
          · have K := K.1 h
            refine mG_aload_n C dX9_nextToken_357 rfl rfl ?_
            refine mG_aload_n C dX9_nextToken_358 rfl rfl ?_
            refine mG_getR C dX9_nextToken_359 fl_840 sh60 rfl ?_
            refine mG_aload_n C dX9_nextToken_362 rfl rfl ?_
            refine mG_getI C dX9_nextToken_363 fl_841 sh60 rfl ?_
            obtain ⟨h7, K⟩ := K
            refine mG_iald C dX9_nextToken_366 sh64 h7 ?_
            refine mG_bipush C dX9_nextToken_367 bp59 ?_
            refine mG_icmp_ne (tgt := 378) C dX9_nextToken_369 rfl (fun h => ?_) (fun h => ?_)
            · have K := K.1 h
              refine mG_ldc2 C dX9_nextToken_378 kl_982 ?_
              refine mG_putL C dX9_nextToken_381 fp_843 sh60 rfl ?_
              refine mG_aload_n C dX9_nextToken_384 rfl rfl ?_
              refine mG_dup C dX9_nextToken_385 rfl ?_
              refine mG_getIv C dX9_nextToken_386 fl_841 sh60 rfl (by first | rfl | simp [mPI, mPL]) ?_
              refine mG_iconst C dX9_nextToken_389 ic1 ?_
              refine mG_iadd C dX9_nextToken_390 ?_
              refine mG_putI C dX9_nextToken_391 fp_841 sh60 rfl ?_
              exact mG_vret C F dX9_nextToken_394 rfl K
            · have K := K.2 h
              refine mG_ldc2 C dX9_nextToken_372 kl_984 ?_
              refine mG_goto (tgt := 381) C dX9_nextToken_375 rfl ?_
              refine mG_putL C dX9_nextToken_381 fp_843 sh60 rfl ?_
              refine mG_aload_n C dX9_nextToken_384 rfl rfl ?_
              refine mG_dup C dX9_nextToken_385 rfl ?_
              refine mG_getIv C dX9_nextToken_386 fl_841 sh60 rfl (by first | rfl | simp [mPI, mPL]) ?_
              refine mG_iconst C dX9_nextToken_389 ic1 ?_
              refine mG_iadd C dX9_nextToken_390 ?_
              refine mG_putI C dX9_nextToken_391 fp_841 sh60 rfl ?_
              exact mG_vret C F dX9_nextToken_394 rfl K
          · have K := K.2 h
            exact K
        · have K := K.2 h
          refine mG_aload_n C dX9_nextToken_96 rfl rfl ?_
          refine mG_lconst (v := 0) C dX9_nextToken_97 (by decide) ?_
          refine mG_putL C dX9_nextToken_98 fp_843 sh60 rfl ?_
          exact K
      · have K := K.2 h
        refine mG_aload_n C dX9_nextToken_67 rfl rfl ?_
        refine mG_ldc2 C dX9_nextToken_68 kl_979 ?_
        refine mG_putL C dX9_nextToken_71 fp_843 sh60 rfl ?_
        refine mG_goto (tgt := 394) C dX9_nextToken_74 rfl ?_
        exact mG_vret C F dX9_nextToken_394 rfl K
    · have K := K.2 h
      refine mG_aload_n C dX9_nextToken_25 rfl rfl ?_
      refine mG_dup C dX9_nextToken_26 rfl ?_
      refine mG_getI C dX9_nextToken_27 fl_841 sh60 rfl ?_
      refine mG_iconst C dX9_nextToken_30 ic1 ?_
      refine mG_iadd C dX9_nextToken_31 ?_
      refine mG_putI C dX9_nextToken_32 fp_841 sh60 rfl ?_
      refine mG_goto (tgt := 0) C dX9_nextToken_35 rfl ?_
      exact K

set_option maxRecDepth 20000 in
set_option maxHeartbeats 4000000 in
theorem vX9_nextToken_241 {X : mX} {E : mEnv} {Qm : Option Value → mW → Prop} (C : mCtx X E MX9_nextToken) (F : mFin X E MX9_nextToken Qm) {w : mW} 
    (K : ((w.1 60 6) ≤ (w.1 60 8) →
    (((w.1 60 11) ≤ (2 : Int32) →
    (Qm none (mPL w 60 10 (-1 : Int64)))) ∧ (¬ (w.1 60 11) ≤ (2 : Int32) →
    (Qm none (mPL w 60 10 (-4 : Int64)))))) ∧ (¬ (w.1 60 6) ≤ (w.1 60 8) →
    (vp_in (w.1 60 8) 160 ∧
    (mMi E MX9_in [.int (w.1 64 ((w.1 60 8).toNatClampNeg)), .int (48 : Int32), .int (57 : Int32)] w (fun v1 u1 =>
    ((v1 = 0 →
    (((u1.1 60 11) ≤ (2 : Int32) →
    (Qm none (mPL u1 60 10 (-1 : Int64)))) ∧ (¬ (u1.1 60 11) ≤ (2 : Int32) →
    (Qm none (mPL u1 60 10 (-4 : Int64)))))) ∧ (¬ v1 = 0 →
    (((2 : Int32) ≤ (u1.1 60 11) →
    (mG X E MX9_nextToken 241 [.ref 60] [] (mPI (mPI (mPI u1 60 12 (u1.1 60 12)) 60 11 ((u1.1 60 11) + (1 : Int32))) 60 8 ((u1.1 60 8) + (1 : Int32))))) ∧ (¬ (2 : Int32) ≤ (u1.1 60 11) →
    (vp_in (u1.1 60 8) 160 ∧
    (∀ w1 : mW, w1 = (mPI (mPI (mPI u1 60 12 ((((10 : Int32) * (u1.1 60 12)) + (u1.1 64 ((u1.1 60 8).toNatClampNeg))) - (48 : Int32))) 60 11 ((u1.1 60 11) + (1 : Int32))) 60 8 ((u1.1 60 8) + (1 : Int32))) →
    (mG X E MX9_nextToken 241 [.ref 60] [] w1)))))))))))) :
    mG X E MX9_nextToken 241 [.ref 60] [] w := by
  refine mG_aload_n C dX9_nextToken_241 rfl rfl ?_
  refine mG_getI C dX9_nextToken_242 fl_841 sh60 rfl ?_
  refine mG_aload_n C dX9_nextToken_245 rfl rfl ?_
  refine mG_getI C dX9_nextToken_246 fl_839 sh60 rfl ?_
  refine mG_icmp_ge (tgt := 333) C dX9_nextToken_249 rfl (fun h => ?_) (fun h => ?_)
  · have K := K.1 h
    refine mG_aload_n C dX9_nextToken_333 rfl rfl ?_
    refine mG_aload_n C dX9_nextToken_334 rfl rfl ?_
    refine mG_getI C dX9_nextToken_335 fl_844 sh60 rfl ?_
    refine mG_iconst C dX9_nextToken_338 ic2 ?_
    refine mG_icmp_le (tgt := 348) C dX9_nextToken_339 rfl (fun h => ?_) (fun h => ?_)
    · have K := K.1 h
      refine mG_ldc2 C dX9_nextToken_348 kl_983 ?_
      refine mG_putL C dX9_nextToken_351 fp_843 sh60 rfl ?_
      refine mG_goto (tgt := 394) C dX9_nextToken_354 rfl ?_
      exact mG_vret C F dX9_nextToken_394 rfl K
    · have K := K.2 h
      refine mG_ldc2 C dX9_nextToken_342 kl_982 ?_
      refine mG_goto (tgt := 351) C dX9_nextToken_345 rfl ?_
      refine mG_putL C dX9_nextToken_351 fp_843 sh60 rfl ?_
      refine mG_goto (tgt := 394) C dX9_nextToken_354 rfl ?_
      exact mG_vret C F dX9_nextToken_394 rfl K
  · have K := K.2 h
    refine mG_aload_n C dX9_nextToken_252 rfl rfl ?_
    refine mG_getR C dX9_nextToken_253 fl_840 sh60 rfl ?_
    refine mG_aload_n C dX9_nextToken_256 rfl rfl ?_
    refine mG_getI C dX9_nextToken_257 fl_841 sh60 rfl ?_
    obtain ⟨h1, K⟩ := K
    refine mG_iald C dX9_nextToken_260 sh64 h1 ?_
    refine mG_bipush C dX9_nextToken_261 bp48 ?_
    refine mG_bipush C dX9_nextToken_263 bp57 ?_
    refine mG_Si (Z := MX9_in) (as := [.int (w.1 64 ((w.1 60 8).toNatClampNeg)), .int (48 : Int32), .int (57 : Int32)]) (rest := []) C dX9_nextToken_265 lk_956 zX9_in ⟨Nat.le_of_ble_eq_true rfl, Nat.le_of_ble_eq_true rfl⟩ rfl (Nat.le_of_ble_eq_true rfl) rfl K (fun v1 u1 K => ?_)
    refine mG_if_eq (tgt := 333) C dX9_nextToken_268 rfl (fun h => ?_) (fun h => ?_)
    · have K := K.1 h
      refine mG_aload_n C dX9_nextToken_333 rfl rfl ?_
      refine mG_aload_n C dX9_nextToken_334 rfl rfl ?_
      refine mG_getI C dX9_nextToken_335 fl_844 sh60 rfl ?_
      refine mG_iconst C dX9_nextToken_338 ic2 ?_
      refine mG_icmp_le (tgt := 348) C dX9_nextToken_339 rfl (fun h => ?_) (fun h => ?_)
      · have K := K.1 h
        refine mG_ldc2 C dX9_nextToken_348 kl_983 ?_
        refine mG_putL C dX9_nextToken_351 fp_843 sh60 rfl ?_
        refine mG_goto (tgt := 394) C dX9_nextToken_354 rfl ?_
        exact mG_vret C F dX9_nextToken_394 rfl K
      · have K := K.2 h
        refine mG_ldc2 C dX9_nextToken_342 kl_982 ?_
        refine mG_goto (tgt := 351) C dX9_nextToken_345 rfl ?_
        refine mG_putL C dX9_nextToken_351 fp_843 sh60 rfl ?_
        refine mG_goto (tgt := 394) C dX9_nextToken_354 rfl ?_
        exact mG_vret C F dX9_nextToken_394 rfl K
    · have K := K.2 h
      refine mG_aload_n C dX9_nextToken_271 rfl rfl ?_
      refine mG_aload_n C dX9_nextToken_272 rfl rfl ?_
      refine mG_getI C dX9_nextToken_273 fl_844 sh60 rfl ?_
      refine mG_iconst C dX9_nextToken_276 ic2 ?_
      refine mG_icmp_ge (tgt := 303) C dX9_nextToken_277 rfl (fun h => ?_) (fun h => ?_)
      · have K := K.1 h
        refine mG_aload_n C dX9_nextToken_303 rfl rfl ?_
        refine mG_getI C dX9_nextToken_304 fl_845 sh60 rfl ?_
        refine mG_putI C dX9_nextToken_307 fp_845 sh60 rfl ?_
        refine mG_aload_n C dX9_nextToken_310 rfl rfl ?_
        refine mG_dup C dX9_nextToken_311 rfl ?_
        refine mG_getIv C dX9_nextToken_312 fl_844 sh60 rfl (by first | rfl | simp [mPI, mPL]) ?_
        refine mG_iconst C dX9_nextToken_315 ic1 ?_
        refine mG_iadd C dX9_nextToken_316 ?_
        refine mG_putI C dX9_nextToken_317 fp_844 sh60 rfl ?_
        refine mG_aload_n C dX9_nextToken_320 rfl rfl ?_
        refine mG_dup C dX9_nextToken_321 rfl ?_
        refine mG_getIv C dX9_nextToken_322 fl_841 sh60 rfl (by first | rfl | simp [mPI, mPL]) ?_
        refine mG_iconst C dX9_nextToken_325 ic1 ?_
        refine mG_iadd C dX9_nextToken_326 ?_
        refine mG_putI C dX9_nextToken_327 fp_841 sh60 rfl ?_
        refine mG_goto (tgt := 241) C dX9_nextToken_330 rfl ?_
        exact K
      · have K := K.2 h
        refine mG_bipush C dX9_nextToken_280 bp10 ?_
        refine mG_aload_n C dX9_nextToken_282 rfl rfl ?_
        refine mG_getI C dX9_nextToken_283 fl_845 sh60 rfl ?_
        refine mG_imul C dX9_nextToken_286 ?_
        refine mG_aload_n C dX9_nextToken_287 rfl rfl ?_
        refine mG_getR C dX9_nextToken_288 fl_840 sh60 rfl ?_
        refine mG_aload_n C dX9_nextToken_291 rfl rfl ?_
        refine mG_getI C dX9_nextToken_292 fl_841 sh60 rfl ?_
        obtain ⟨h2, K⟩ := K
        refine mG_iald C dX9_nextToken_295 sh64 h2 ?_
        refine mG_iadd C dX9_nextToken_296 ?_
        refine mG_bipush C dX9_nextToken_297 bp48 ?_
        refine mG_isub C dX9_nextToken_299 ?_
        refine mG_goto (tgt := 307) C dX9_nextToken_300 rfl ?_
        refine mG_putI C dX9_nextToken_307 fp_845 sh60 rfl ?_
        refine mG_aload_n C dX9_nextToken_310 rfl rfl ?_
        refine mG_dup C dX9_nextToken_311 rfl ?_
        refine mG_getIv C dX9_nextToken_312 fl_844 sh60 rfl (by first | rfl | simp [mPI, mPL]) ?_
        refine mG_iconst C dX9_nextToken_315 ic1 ?_
        refine mG_iadd C dX9_nextToken_316 ?_
        refine mG_putI C dX9_nextToken_317 fp_844 sh60 rfl ?_
        refine mG_aload_n C dX9_nextToken_320 rfl rfl ?_
        refine mG_dup C dX9_nextToken_321 rfl ?_
        refine mG_getIv C dX9_nextToken_322 fl_841 sh60 rfl (by first | rfl | simp [mPI, mPL]) ?_
        refine mG_iconst C dX9_nextToken_325 ic1 ?_
        refine mG_iadd C dX9_nextToken_326 ?_
        refine mG_putI C dX9_nextToken_327 fp_841 sh60 rfl ?_
        refine mG_nm (fun w1 ew1 => ?_)
        have K := K w1 ew1
        refine mG_goto (tgt := 241) C dX9_nextToken_330 rfl ?_
        exact K

set_option maxRecDepth 20000 in
set_option maxHeartbeats 4000000 in
theorem vX9_nextToken_101 {X : mX} {E : mEnv} {Qm : Option Value → mW → Prop} (C : mCtx X E MX9_nextToken) (F : mFin X E MX9_nextToken Qm) {w : mW} 
    (K : ((w.1 60 6) ≤ (w.1 60 8) →
    ((((w.1 60 8) - (w.1 60 9)) ≤ (11 : Int32) →
    (Qm none (mPL w 60 10 (w.2 60 10)))) ∧ (¬ ((w.1 60 8) - (w.1 60 9)) ≤ (11 : Int32) →
    (Qm none (mPL w 60 10 (-4 : Int64)))))) ∧ (¬ (w.1 60 6) ≤ (w.1 60 8) →
    (vp_in (w.1 60 8) 160 ∧
    (mMi E MX9_in [.int (w.1 64 ((w.1 60 8).toNatClampNeg)), .int (97 : Int32), .int (122 : Int32)] w (fun v1 u1 =>
    ((v1 = 0 →
    ((((u1.1 60 8) - (u1.1 60 9)) ≤ (11 : Int32) →
    (Qm none (mPL u1 60 10 (u1.2 60 10)))) ∧ (¬ ((u1.1 60 8) - (u1.1 60 9)) ≤ (11 : Int32) →
    (Qm none (mPL u1 60 10 (-4 : Int64)))))) ∧ (¬ v1 = 0 →
    (((11 : Int32) ≤ ((u1.1 60 8) - (u1.1 60 9)) →
    (mG X E MX9_nextToken 101 [.ref 60] [] (mPI (mPL u1 60 10 (-4 : Int64)) 60 8 ((u1.1 60 8) + (1 : Int32))))) ∧ (¬ (11 : Int32) ≤ ((u1.1 60 8) - (u1.1 60 9)) →
    (vp_in (u1.1 60 8) 160 ∧
    (mG X E MX9_nextToken 101 [.ref 60] [] (mPI (mPL u1 60 10 ((((27 : Int64) * (u1.2 60 10)) + ((u1.1 64 ((u1.1 60 8).toNatClampNeg)).toInt64)) - (96 : Int64))) 60 8 ((u1.1 60 8) + (1 : Int32)))))))))))))) :
    mG X E MX9_nextToken 101 [.ref 60] [] w := by
  refine mG_aload_n C dX9_nextToken_101 rfl rfl ?_
  refine mG_getI C dX9_nextToken_102 fl_841 sh60 rfl ?_
  refine mG_aload_n C dX9_nextToken_105 rfl rfl ?_
  refine mG_getI C dX9_nextToken_106 fl_839 sh60 rfl ?_
  refine mG_icmp_ge (tgt := 191) C dX9_nextToken_109 rfl (fun h => ?_) (fun h => ?_)
  · have K := K.1 h
    refine mG_aload_n C dX9_nextToken_191 rfl rfl ?_
    refine mG_aload_n C dX9_nextToken_192 rfl rfl ?_
    refine mG_getI C dX9_nextToken_193 fl_841 sh60 rfl ?_
    refine mG_aload_n C dX9_nextToken_196 rfl rfl ?_
    refine mG_getI C dX9_nextToken_197 fl_842 sh60 rfl ?_
    refine mG_isub C dX9_nextToken_200 ?_
    refine mG_bipush C dX9_nextToken_201 bp11 ?_
    refine mG_icmp_le (tgt := 212) C dX9_nextToken_203 rfl (fun h => ?_) (fun h => ?_)
    · have K := K.1 h
      refine mG_aload_n C dX9_nextToken_212 rfl rfl ?_
      refine mG_getL C dX9_nextToken_213 fl_843 sh60 rfl ?_
      refine mG_putL C dX9_nextToken_216 fp_843 sh60 rfl ?_
      refine mG_goto (tgt := 394) C dX9_nextToken_219 rfl ?_
      exact mG_vret C F dX9_nextToken_394 rfl K
    · have K := K.2 h
      refine mG_ldc2 C dX9_nextToken_206 kl_982 ?_
      refine mG_goto (tgt := 216) C dX9_nextToken_209 rfl ?_
      refine mG_putL C dX9_nextToken_216 fp_843 sh60 rfl ?_
      refine mG_goto (tgt := 394) C dX9_nextToken_219 rfl ?_
      exact mG_vret C F dX9_nextToken_394 rfl K
  · have K := K.2 h
    refine mG_aload_n C dX9_nextToken_112 rfl rfl ?_
    refine mG_getR C dX9_nextToken_113 fl_840 sh60 rfl ?_
    refine mG_aload_n C dX9_nextToken_116 rfl rfl ?_
    refine mG_getI C dX9_nextToken_117 fl_841 sh60 rfl ?_
    obtain ⟨h1, K⟩ := K
    refine mG_iald C dX9_nextToken_120 sh64 h1 ?_
    refine mG_bipush C dX9_nextToken_121 bp97 ?_
    refine mG_bipush C dX9_nextToken_123 bp122 ?_
    refine mG_Si (Z := MX9_in) (as := [.int (w.1 64 ((w.1 60 8).toNatClampNeg)), .int (97 : Int32), .int (122 : Int32)]) (rest := []) C dX9_nextToken_125 lk_956 zX9_in ⟨Nat.le_of_ble_eq_true rfl, Nat.le_of_ble_eq_true rfl⟩ rfl (Nat.le_of_ble_eq_true rfl) rfl K (fun v1 u1 K => ?_)
    refine mG_if_eq (tgt := 191) C dX9_nextToken_128 rfl (fun h => ?_) (fun h => ?_)
    · have K := K.1 h
      refine mG_aload_n C dX9_nextToken_191 rfl rfl ?_
      refine mG_aload_n C dX9_nextToken_192 rfl rfl ?_
      refine mG_getI C dX9_nextToken_193 fl_841 sh60 rfl ?_
      refine mG_aload_n C dX9_nextToken_196 rfl rfl ?_
      refine mG_getI C dX9_nextToken_197 fl_842 sh60 rfl ?_
      refine mG_isub C dX9_nextToken_200 ?_
      refine mG_bipush C dX9_nextToken_201 bp11 ?_
      refine mG_icmp_le (tgt := 212) C dX9_nextToken_203 rfl (fun h => ?_) (fun h => ?_)
      · have K := K.1 h
        refine mG_aload_n C dX9_nextToken_212 rfl rfl ?_
        refine mG_getL C dX9_nextToken_213 fl_843 sh60 rfl ?_
        refine mG_putL C dX9_nextToken_216 fp_843 sh60 rfl ?_
        refine mG_goto (tgt := 394) C dX9_nextToken_219 rfl ?_
        exact mG_vret C F dX9_nextToken_394 rfl K
      · have K := K.2 h
        refine mG_ldc2 C dX9_nextToken_206 kl_982 ?_
        refine mG_goto (tgt := 216) C dX9_nextToken_209 rfl ?_
        refine mG_putL C dX9_nextToken_216 fp_843 sh60 rfl ?_
        refine mG_goto (tgt := 394) C dX9_nextToken_219 rfl ?_
        exact mG_vret C F dX9_nextToken_394 rfl K
    · have K := K.2 h
      refine mG_aload_n C dX9_nextToken_131 rfl rfl ?_
      refine mG_aload_n C dX9_nextToken_132 rfl rfl ?_
      refine mG_getI C dX9_nextToken_133 fl_841 sh60 rfl ?_
      refine mG_aload_n C dX9_nextToken_136 rfl rfl ?_
      refine mG_getI C dX9_nextToken_137 fl_842 sh60 rfl ?_
      refine mG_isub C dX9_nextToken_140 ?_
      refine mG_bipush C dX9_nextToken_141 bp11 ?_
      refine mG_icmp_ge (tgt := 172) C dX9_nextToken_143 rfl (fun h => ?_) (fun h => ?_)
      · have K := K.1 h
        refine mG_ldc2 C dX9_nextToken_172 kl_982 ?_
        refine mG_putL C dX9_nextToken_175 fp_843 sh60 rfl ?_
        refine mG_aload_n C dX9_nextToken_178 rfl rfl ?_
        refine mG_dup C dX9_nextToken_179 rfl ?_
        refine mG_getIv C dX9_nextToken_180 fl_841 sh60 rfl (by first | rfl | simp [mPI, mPL]) ?_
        refine mG_iconst C dX9_nextToken_183 ic1 ?_
        refine mG_iadd C dX9_nextToken_184 ?_
        refine mG_putI C dX9_nextToken_185 fp_841 sh60 rfl ?_
        refine mG_goto (tgt := 101) C dX9_nextToken_188 rfl ?_
        exact K
      · have K := K.2 h
        refine mG_ldc2 C dX9_nextToken_146 kl_980 ?_
        refine mG_aload_n C dX9_nextToken_149 rfl rfl ?_
        refine mG_getL C dX9_nextToken_150 fl_843 sh60 rfl ?_
        refine mG_lmul C dX9_nextToken_153 ?_
        refine mG_aload_n C dX9_nextToken_154 rfl rfl ?_
        refine mG_getR C dX9_nextToken_155 fl_840 sh60 rfl ?_
        refine mG_aload_n C dX9_nextToken_158 rfl rfl ?_
        refine mG_getI C dX9_nextToken_159 fl_841 sh60 rfl ?_
        obtain ⟨h2, K⟩ := K
        refine mG_iald C dX9_nextToken_162 sh64 h2 ?_
        refine mG_i2l C dX9_nextToken_163 ?_
        refine mG_ladd C dX9_nextToken_164 ?_
        refine mG_ldc2 C dX9_nextToken_165 kl_981 ?_
        refine mG_lsub C dX9_nextToken_168 ?_
        refine mG_goto (tgt := 175) C dX9_nextToken_169 rfl ?_
        refine mG_putL C dX9_nextToken_175 fp_843 sh60 rfl ?_
        refine mG_aload_n C dX9_nextToken_178 rfl rfl ?_
        refine mG_dup C dX9_nextToken_179 rfl ?_
        refine mG_getIv C dX9_nextToken_180 fl_841 sh60 rfl (by first | rfl | simp [mPI, mPL]) ?_
        refine mG_iconst C dX9_nextToken_183 ic1 ?_
        refine mG_iadd C dX9_nextToken_184 ?_
        refine mG_putI C dX9_nextToken_185 fp_841 sh60 rfl ?_
        refine mG_goto (tgt := 101) C dX9_nextToken_188 rfl ?_
        exact K

set_option maxRecDepth 20000 in
set_option maxHeartbeats 4000000 in
theorem vX9_night_0 {X : mX} {E : mEnv} {Qm : Option Value → mW → Prop} (C : mCtx X E MX9_night) (F : mFin X E MX9_night Qm) {w : mW} 
    (K : (¬ (w.1 66 1) = (999 : Int32) →
    (mMv E MX9_note [.ref 60] w (fun u1 =>
    (mMv E MX9_pass [.ref 60, .ref 66] u1 (fun u2 =>
    (mMi E MX9_sumOf [.ref 60, .int (u2.1 66 0)] u2 (fun v1 u3 =>
    (Qm (some (.int (v1 + (9999 : Int32)))) u3)))))))) ∧ ((w.1 66 1) = (999 : Int32) →
    (Qm (some (.int (-5 : Int32))) w))) :
    mG X E MX9_night 0 [.ref 60] [] w := by
  refine mG_aload_n C dX9_night_0 rfl rfl ?_
  refine mG_getR C dX9_night_1 fl_852 sh60 rfl ?_
  refine mG_iconst C dX9_night_4 ic1 ?_
  refine mG_ialdv C dX9_night_5 sh66 (by unfold vp_in; decide) (by first | rfl | simp [mPI, mPL]) ?_
  refine mG_sipush C dX9_night_6 sp999 ?_
  refine mG_icmp_ne (tgt := 15) C dX9_night_9 rfl (fun h => ?_) (fun h => ?_)
  · have K := K.1 h
    refine mG_aload_n C dX9_night_15 rfl rfl ?_
    refine mG_Vv (Z := MX9_note) (as := []) (rest := []) C dX9_night_16 lk_1107 zX9_note ⟨Nat.le_of_ble_eq_true rfl, Nat.le_of_ble_eq_true rfl⟩ sh60 rfl rfl (Nat.le_of_ble_eq_true rfl) rfl K (fun u1 K => ?_)
    refine mG_aload_n C dX9_night_19 rfl rfl ?_
    refine mG_aload_n C dX9_night_20 rfl rfl ?_
    refine mG_getR C dX9_night_21 fl_852 sh60 rfl ?_
    refine mG_Vv (Z := MX9_pass) (as := [.ref 66]) (rest := []) C dX9_night_24 lk_1096 zX9_pass ⟨Nat.le_of_ble_eq_true rfl, Nat.le_of_ble_eq_true rfl⟩ sh60 rfl rfl (Nat.le_of_ble_eq_true rfl) rfl K (fun u2 K => ?_)
    refine mG_aload_n C dX9_night_27 rfl rfl ?_
    refine mG_aload_n C dX9_night_28 rfl rfl ?_
    refine mG_getR C dX9_night_29 fl_852 sh60 rfl ?_
    refine mG_iconst C dX9_night_32 ic0 ?_
    refine mG_ialdv C dX9_night_33 sh66 (by unfold vp_in; decide) (by first | rfl | simp [mPI, mPL]) ?_
    refine mG_Vi (Z := MX9_sumOf) (as := [.int (u2.1 66 0)]) (rest := []) C dX9_night_34 lk_1119 zX9_sumOf ⟨Nat.le_of_ble_eq_true rfl, Nat.le_of_ble_eq_true rfl⟩ sh60 rfl rfl (Nat.le_of_ble_eq_true rfl) rfl K (fun v1 u3 K => ?_)
    refine mG_sipush C dX9_night_37 sp9999 ?_
    refine mG_iadd C dX9_night_40 ?_
    exact mG_iret C F dX9_night_41 rfl rfl K
  · have K := K.2 h
    refine mG_bipush C dX9_night_12 bpm5 ?_
    exact mG_iret C F dX9_night_14 rfl rfl K

set_option maxRecDepth 20000 in
set_option maxHeartbeats 4000000 in
theorem vX9_note_0 {X : mX} {E : mEnv} {Qm : Option Value → mW → Prop} (C : mCtx X E MX9_note) (F : mFin X E MX9_note Qm) {w : mW} 
    (K : (¬ (w.1 60 26) = (8 : Int32) →
    (mMv E MX9_copy [.ref 66, .int (0 : Int32), .ref 72, .int ((32 : Int32) * (w.1 60 26))] w (fun u1 =>
    (Qm none (mPI u1 60 26 ((u1.1 60 26) + (1 : Int32))))))) ∧ ((w.1 60 26) = (8 : Int32) →
    (mG X E MX9_note 11 [.ref 60, .int (0 : Int32)] [] w))) :
    mG X E MX9_note 0 [.ref 60, .retAddr 0] [] w := by
  refine mG_aload_n C dX9_note_0 rfl rfl ?_
  refine mG_getI C dX9_note_1 fl_859 sh60 rfl ?_
  refine mG_bipush C dX9_note_4 bp8 ?_
  refine mG_icmp_ne (tgt := 49) C dX9_note_6 rfl (fun h => ?_) (fun h => ?_)
  · have K := K.1 h
    refine mG_aload_n C dX9_note_49 rfl rfl ?_
    refine mG_getR C dX9_note_50 fl_852 sh60 rfl ?_
    refine mG_iconst C dX9_note_53 ic0 ?_
    refine mG_aload_n C dX9_note_54 rfl rfl ?_
    refine mG_getR C dX9_note_55 fl_858 sh60 rfl ?_
    refine mG_bipush C dX9_note_58 bp32 ?_
    refine mG_aload_n C dX9_note_60 rfl rfl ?_
    refine mG_getI C dX9_note_61 fl_859 sh60 rfl ?_
    refine mG_imul C dX9_note_64 ?_
    refine mG_Sv (Z := MX9_copy) (as := [.ref 66, .int (0 : Int32), .ref 72, .int ((32 : Int32) * (w.1 60 26))]) (rest := []) C dX9_note_65 lk_1082 zX9_copy ⟨Nat.le_of_ble_eq_true rfl, Nat.le_of_ble_eq_true rfl⟩ rfl (Nat.le_of_ble_eq_true rfl) rfl K (fun u1 K => ?_)
    refine mG_aload_n C dX9_note_68 rfl rfl ?_
    refine mG_dup C dX9_note_69 rfl ?_
    refine mG_getI C dX9_note_70 fl_859 sh60 rfl ?_
    refine mG_iconst C dX9_note_73 ic1 ?_
    refine mG_iadd C dX9_note_74 ?_
    refine mG_putI C dX9_note_75 fp_859 sh60 rfl ?_
    exact mG_vret C F dX9_note_78 rfl K
  · have K := K.2 h
    refine mG_iconst C dX9_note_9 ic0 ?_
    refine mG_istore_n (lv' := [.ref 60, .int (0 : Int32)]) C dX9_note_10 rfl (by decide) rfl ?_
    exact K

set_option maxRecDepth 20000 in
set_option maxHeartbeats 4000000 in
theorem vX9_note_11 {X : mX} {E : mEnv} {Qm : Option Value → mW → Prop} (C : mCtx X E MX9_note) (F : mFin X E MX9_note Qm) {w : mW}  (x1 : Int32)
    (K : ((224 : Int32) ≤ x1 →
    (mMv E MX9_copy [.ref 66, .int (0 : Int32), .ref 72, .int ((32 : Int32) * ((w.1 60 26) - (1 : Int32)))] (mPI w 60 26 ((w.1 60 26) - (1 : Int32))) (fun u1 =>
    (Qm none (mPI u1 60 26 ((u1.1 60 26) + (1 : Int32))))))) ∧ (¬ (224 : Int32) ≤ x1 →
    (vp_in (x1 + (32 : Int32)) 256 ∧
    (vp_in x1 256 ∧
    (∀ w1 : mW, w1 = (mPI w 72 x1.toNatClampNeg (w.1 72 ((x1 + (32 : Int32)).toNatClampNeg))) →
    (mG X E MX9_note 11 [.ref 60, .int (x1 + (1 : Int32))] [] w1)))))) :
    mG X E MX9_note 11 [.ref 60, .int x1] [] w := by
  refine mG_iload_n C dX9_note_11 rfl rfl ?_
  refine mG_sipush C dX9_note_12 sp224 ?_
  refine mG_icmp_ge (tgt := 39) C dX9_note_15 rfl (fun h => ?_) (fun h => ?_)
  · have K := K.1 h
    refine mG_aload_n C dX9_note_39 rfl rfl ?_
    refine mG_dup C dX9_note_40 rfl ?_
    refine mG_getI C dX9_note_41 fl_859 sh60 rfl ?_
    refine mG_iconst C dX9_note_44 ic1 ?_
    refine mG_isub C dX9_note_45 ?_
    refine mG_putI C dX9_note_46 fp_859 sh60 rfl ?_
    refine mG_aload_n C dX9_note_49 rfl rfl ?_
    refine mG_getR C dX9_note_50 fl_852 sh60 rfl ?_
    refine mG_iconst C dX9_note_53 ic0 ?_
    refine mG_aload_n C dX9_note_54 rfl rfl ?_
    refine mG_getR C dX9_note_55 fl_858 sh60 rfl ?_
    refine mG_bipush C dX9_note_58 bp32 ?_
    refine mG_aload_n C dX9_note_60 rfl rfl ?_
    refine mG_getIv C dX9_note_61 fl_859 sh60 rfl (by first | rfl | simp [mPI, mPL]) ?_
    refine mG_imul C dX9_note_64 ?_
    refine mG_Sv (Z := MX9_copy) (as := [.ref 66, .int (0 : Int32), .ref 72, .int ((32 : Int32) * ((w.1 60 26) - (1 : Int32)))]) (rest := []) C dX9_note_65 lk_1082 zX9_copy ⟨Nat.le_of_ble_eq_true rfl, Nat.le_of_ble_eq_true rfl⟩ rfl (Nat.le_of_ble_eq_true rfl) rfl K (fun u1 K => ?_)
    refine mG_aload_n C dX9_note_68 rfl rfl ?_
    refine mG_dup C dX9_note_69 rfl ?_
    refine mG_getI C dX9_note_70 fl_859 sh60 rfl ?_
    refine mG_iconst C dX9_note_73 ic1 ?_
    refine mG_iadd C dX9_note_74 ?_
    refine mG_putI C dX9_note_75 fp_859 sh60 rfl ?_
    exact mG_vret C F dX9_note_78 rfl K
  · have K := K.2 h
    refine mG_aload_n C dX9_note_18 rfl rfl ?_
    refine mG_getR C dX9_note_19 fl_858 sh60 rfl ?_
    refine mG_iload_n C dX9_note_22 rfl rfl ?_
    refine mG_aload_n C dX9_note_23 rfl rfl ?_
    refine mG_getR C dX9_note_24 fl_858 sh60 rfl ?_
    refine mG_iload_n C dX9_note_27 rfl rfl ?_
    refine mG_bipush C dX9_note_28 bp32 ?_
    refine mG_iadd C dX9_note_30 ?_
    obtain ⟨h1, K⟩ := K
    refine mG_iald C dX9_note_31 sh72 h1 ?_
    obtain ⟨h2, K⟩ := K
    refine mG_iast C dX9_note_32 sh72 h2 ?_
    refine mG_nm (fun w1 ew1 => ?_)
    have K := K w1 ew1
    refine mG_iincc (lv' := [.ref 60, .int (x1 + (1 : Int32))]) C dX9_note_33 rfl ic1 (by decide) rfl ?_
    refine mG_goto (tgt := 11) C dX9_note_36 rfl ?_
    exact K

set_option maxRecDepth 20000 in
set_option maxHeartbeats 4000000 in
theorem vX9_one_0 {X : mX} {E : mEnv} {Qm : Option Value → mW → Prop} (C : mCtx X E MX9_one) (F : mFin X E MX9_one Qm) {w : mW}  (p0 : Int32) (p1 : Int32)
    (K : mMi E MX9_isOne [.ref 60, .int p0] w (fun v1 u1 =>
    ((¬ v1 = 0 →
    (mMi E MX9_in [.int p1, .int (0 : Int32), .int (5 : Int32)] u1 (fun v2 u2 =>
    ((v2 = 0 →
    (Qm (some (.int (-3 : Int32))) u2)) ∧ (¬ v2 = 0 →
    (vp_in (((6 : Int32) * p0) + p1) 30 ∧
    (Qm (some (.int (u2.1 62 ((((6 : Int32) * p0) + p1).toNatClampNeg)))) u2))))))) ∧ (v1 = 0 →
    (Qm (some (.int (-2 : Int32))) u1))))) :
    mG X E MX9_one 0 [.ref 60, .int p0, .int p1] [] w := by
  refine mG_aload_n C dX9_one_0 rfl rfl ?_
  refine mG_iload_n C dX9_one_1 rfl rfl ?_
  refine mG_Vi (Z := MX9_isOne) (as := [.int p0]) (rest := []) C dX9_one_2 lk_1030 zX9_isOne ⟨Nat.le_of_ble_eq_true rfl, Nat.le_of_ble_eq_true rfl⟩ sh60 rfl rfl (Nat.le_of_ble_eq_true rfl) rfl K (fun v1 u1 K => ?_)
  refine mG_if_ne (tgt := 11) C dX9_one_5 rfl (fun h => ?_) (fun h => ?_)
  · have K := K.1 h
    refine mG_iload_n C dX9_one_11 rfl rfl ?_
    refine mG_iconst C dX9_one_12 ic0 ?_
    refine mG_iconst C dX9_one_13 ic5 ?_
    refine mG_Si (Z := MX9_in) (as := [.int p1, .int (0 : Int32), .int (5 : Int32)]) (rest := []) C dX9_one_14 lk_956 zX9_in ⟨Nat.le_of_ble_eq_true rfl, Nat.le_of_ble_eq_true rfl⟩ rfl (Nat.le_of_ble_eq_true rfl) rfl K (fun v2 u2 K => ?_)
    refine mG_if_eq (tgt := 34) C dX9_one_17 rfl (fun h => ?_) (fun h => ?_)
    · have K := K.1 h
      refine mG_bipush C dX9_one_34 bpm3 ?_
      exact mG_iret C F dX9_one_36 rfl rfl K
    · have K := K.2 h
      refine mG_aload_n C dX9_one_20 rfl rfl ?_
      refine mG_getR C dX9_one_21 fl_836 sh60 rfl ?_
      refine mG_bipush C dX9_one_24 bp6 ?_
      refine mG_iload_n C dX9_one_26 rfl rfl ?_
      refine mG_imul C dX9_one_27 ?_
      refine mG_iload_n C dX9_one_28 rfl rfl ?_
      refine mG_iadd C dX9_one_29 ?_
      obtain ⟨h1, K⟩ := K
      refine mG_iald C dX9_one_30 sh62 h1 ?_
      refine mG_goto (tgt := 36) C dX9_one_31 rfl ?_
      exact mG_iret C F dX9_one_36 rfl rfl K
  · have K := K.2 h
    refine mG_bipush C dX9_one_8 bpm2 ?_
    exact mG_iret C F dX9_one_10 rfl rfl K

set_option maxRecDepth 20000 in
set_option maxHeartbeats 4000000 in
theorem vX9_pass_0 {X : mX} {E : mEnv} {Qm : Option Value → mW → Prop} (C : mCtx X E MX9_pass) (F : mFin X E MX9_pass Qm) {w : mW} {a0 : Nat} (ha0 : mSh[a0]? = some (.inl (0, 32, [])))
    (K : mG X E MX9_pass 2 [.ref 60, .ref a0, .int (0 : Int32)] [] w) :
    mG X E MX9_pass 0 [.ref 60, .ref a0, .retAddr 0] [] w := by
  refine mG_iconst C dX9_pass_0 ic0 ?_
  refine mG_istore_n (lv' := [.ref 60, .ref a0, .int (0 : Int32)]) C dX9_pass_1 rfl (by decide) rfl ?_
  exact K

set_option maxRecDepth 20000 in
set_option maxHeartbeats 4000000 in
theorem vX9_pass_2 {X : mX} {E : mEnv} {Qm : Option Value → mW → Prop} (C : mCtx X E MX9_pass) (F : mFin X E MX9_pass Qm) {w : mW} {a0 : Nat} (ha0 : mSh[a0]? = some (.inl (0, 32, []))) (x2 : Int32)
    (K : ((w.1 60 2) ≤ x2 →
    (mG X E MX9_pass 78 [.ref 60, .ref a0, .int (0 : Int32)] [] w)) ∧ (¬ (w.1 60 2) ≤ x2 →
    (vp_in (((6 : Int32) * x2) + (1 : Int32)) 30 ∧
    (vp_in (((2 : Int32) + ((6 : Int32) * x2)) + (w.1 62 ((((6 : Int32) * x2) + (1 : Int32)).toNatClampNeg))) 32 ∧
    (vp_in (((6 : Int32) * x2) + (2 : Int32)) 30 ∧
    ((¬ (w.1 a0 ((((2 : Int32) + ((6 : Int32) * x2)) + (w.1 62 ((((6 : Int32) * x2) + (1 : Int32)).toNatClampNeg))).toNatClampNeg)) = (w.1 62 ((((6 : Int32) * x2) + (2 : Int32)).toNatClampNeg)) →
    (mG X E MX9_pass 2 [.ref 60, .ref a0, .int (x2 + (1 : Int32))] [] w)) ∧ ((w.1 a0 ((((2 : Int32) + ((6 : Int32) * x2)) + (w.1 62 ((((6 : Int32) * x2) + (1 : Int32)).toNatClampNeg))).toNatClampNeg)) = (w.1 62 ((((6 : Int32) * x2) + (2 : Int32)).toNatClampNeg)) →
    (vp_in (((6 : Int32) * x2) + (3 : Int32)) 30 ∧
    (vp_in (((6 : Int32) * x2) + (4 : Int32)) 30 ∧
    (mMv E MX9_become [.ref a0, .int (w.1 62 ((((6 : Int32) * x2) + (3 : Int32)).toNatClampNeg)), .int (w.1 62 ((((6 : Int32) * x2) + (4 : Int32)).toNatClampNeg))] w (fun u1 =>
    (mG X E MX9_pass 2 [.ref 60, .ref a0, .int (x2 + (1 : Int32))] [] u1)))))))))))) :
    mG X E MX9_pass 2 [.ref 60, .ref a0, .int x2] [] w := by
  refine mG_iload_n C dX9_pass_2 rfl rfl ?_
  refine mG_aload_n C dX9_pass_3 rfl rfl ?_
  refine mG_getI C dX9_pass_4 fl_835 sh60 rfl ?_
  refine mG_icmp_ge (tgt := 76) C dX9_pass_7 rfl (fun h => ?_) (fun h => ?_)
  · have K := K.1 h
    refine mG_iconst C dX9_pass_76 ic0 ?_
    refine mG_istore_n (lv' := [.ref 60, .ref a0, .int (0 : Int32)]) C dX9_pass_77 rfl (by decide) rfl ?_
    exact K
  · have K := K.2 h
    refine mG_aload_n C dX9_pass_10 rfl rfl ?_
    refine mG_iconst C dX9_pass_11 ic2 ?_
    refine mG_bipush C dX9_pass_12 bp6 ?_
    refine mG_iload_n C dX9_pass_14 rfl rfl ?_
    refine mG_imul C dX9_pass_15 ?_
    refine mG_iadd C dX9_pass_16 ?_
    refine mG_aload_n C dX9_pass_17 rfl rfl ?_
    refine mG_getR C dX9_pass_18 fl_836 sh60 rfl ?_
    refine mG_bipush C dX9_pass_21 bp6 ?_
    refine mG_iload_n C dX9_pass_23 rfl rfl ?_
    refine mG_imul C dX9_pass_24 ?_
    refine mG_iconst C dX9_pass_25 ic1 ?_
    refine mG_iadd C dX9_pass_26 ?_
    obtain ⟨h1, K⟩ := K
    refine mG_iald C dX9_pass_27 sh62 h1 ?_
    refine mG_iadd C dX9_pass_28 ?_
    obtain ⟨h2, K⟩ := K
    refine mG_iald C dX9_pass_29 ha0 h2 ?_
    refine mG_aload_n C dX9_pass_30 rfl rfl ?_
    refine mG_getR C dX9_pass_31 fl_836 sh60 rfl ?_
    refine mG_bipush C dX9_pass_34 bp6 ?_
    refine mG_iload_n C dX9_pass_36 rfl rfl ?_
    refine mG_imul C dX9_pass_37 ?_
    refine mG_iconst C dX9_pass_38 ic2 ?_
    refine mG_iadd C dX9_pass_39 ?_
    obtain ⟨h3, K⟩ := K
    refine mG_iald C dX9_pass_40 sh62 h3 ?_
    refine mG_icmp_ne (tgt := 70) C dX9_pass_41 rfl (fun h => ?_) (fun h => ?_)
    · have K := K.1 h
      refine mG_iincc (lv' := [.ref 60, .ref a0, .int (x2 + (1 : Int32))]) C dX9_pass_70 rfl ic1 (by decide) rfl ?_
      refine mG_goto (tgt := 2) C dX9_pass_73 rfl ?_
      exact K
    · have K := K.2 h
      refine mG_aload_n C dX9_pass_44 rfl rfl ?_
      refine mG_aload_n C dX9_pass_45 rfl rfl ?_
      refine mG_getR C dX9_pass_46 fl_836 sh60 rfl ?_
      refine mG_bipush C dX9_pass_49 bp6 ?_
      refine mG_iload_n C dX9_pass_51 rfl rfl ?_
      refine mG_imul C dX9_pass_52 ?_
      refine mG_iconst C dX9_pass_53 ic3 ?_
      refine mG_iadd C dX9_pass_54 ?_
      obtain ⟨h4, K⟩ := K
      refine mG_iald C dX9_pass_55 sh62 h4 ?_
      refine mG_aload_n C dX9_pass_56 rfl rfl ?_
      refine mG_getR C dX9_pass_57 fl_836 sh60 rfl ?_
      refine mG_bipush C dX9_pass_60 bp6 ?_
      refine mG_iload_n C dX9_pass_62 rfl rfl ?_
      refine mG_imul C dX9_pass_63 ?_
      refine mG_iconst C dX9_pass_64 ic4 ?_
      refine mG_iadd C dX9_pass_65 ?_
      obtain ⟨h5, K⟩ := K
      refine mG_iald C dX9_pass_66 sh62 h5 ?_
      refine mG_Sv (Z := MX9_become) (as := [.ref a0, .int (w.1 62 ((((6 : Int32) * x2) + (3 : Int32)).toNatClampNeg)), .int (w.1 62 ((((6 : Int32) * x2) + (4 : Int32)).toNatClampNeg))]) (rest := []) C dX9_pass_67 lk_1100 zX9_become ⟨Nat.le_of_ble_eq_true rfl, Nat.le_of_ble_eq_true rfl⟩ rfl (Nat.le_of_ble_eq_true rfl) rfl K (fun u1 K => ?_)
      refine mG_iincc (lv' := [.ref 60, .ref a0, .int (x2 + (1 : Int32))]) C dX9_pass_70 rfl ic1 (by decide) rfl ?_
      refine mG_goto (tgt := 2) C dX9_pass_73 rfl ?_
      exact K

set_option maxRecDepth 20000 in
set_option maxHeartbeats 4000000 in
theorem vX9_pass_78 {X : mX} {E : mEnv} {Qm : Option Value → mW → Prop} (C : mCtx X E MX9_pass) (F : mFin X E MX9_pass Qm) {w : mW} {a0 : Nat} (ha0 : mSh[a0]? = some (.inl (0, 32, []))) (x2 : Int32)
    (K : ((w.1 60 4) ≤ x2 →
    (∀ w1 : mW, w1 = (mPI w a0 1 ((w.1 a0 1) + (1 : Int32))) →
    (Qm none w1))) ∧ (¬ (w.1 60 4) ≤ x2 →
    (vp_in ((4 : Int32) * x2) 24 ∧
    (vp_in (((4 : Int32) * x2) + (1 : Int32)) 24 ∧
    ((¬ (((w.1 a0 0) >>> ((w.1 63 (((4 : Int32) * x2).toNatClampNeg)) &&& 31)) &&& (1 : Int32)) = (w.1 63 ((((4 : Int32) * x2) + (1 : Int32)).toNatClampNeg)) →
    (mG X E MX9_pass 78 [.ref 60, .ref a0, .int (x2 + (1 : Int32))] [] w)) ∧ ((((w.1 a0 0) >>> ((w.1 63 (((4 : Int32) * x2).toNatClampNeg)) &&& 31)) &&& (1 : Int32)) = (w.1 63 ((((4 : Int32) * x2) + (1 : Int32)).toNatClampNeg)) →
    (vp_in (((4 : Int32) * x2) + (2 : Int32)) 24 ∧
    (vp_in (((4 : Int32) * x2) + (3 : Int32)) 24 ∧
    (mMv E MX9_become [.ref a0, .int (w.1 63 ((((4 : Int32) * x2) + (2 : Int32)).toNatClampNeg)), .int (w.1 63 ((((4 : Int32) * x2) + (3 : Int32)).toNatClampNeg))] w (fun u1 =>
    (mG X E MX9_pass 78 [.ref 60, .ref a0, .int (x2 + (1 : Int32))] [] u1))))))))))) :
    mG X E MX9_pass 78 [.ref 60, .ref a0, .int x2] [] w := by
  refine mG_iload_n C dX9_pass_78 rfl rfl ?_
  refine mG_aload_n C dX9_pass_79 rfl rfl ?_
  refine mG_getI C dX9_pass_80 fl_837 sh60 rfl ?_
  refine mG_icmp_ge (tgt := 143) C dX9_pass_83 rfl (fun h => ?_) (fun h => ?_)
  · have K := K.1 h
    refine mG_aload_n C dX9_pass_143 rfl rfl ?_
    refine mG_iconst C dX9_pass_144 ic1 ?_
    refine mG_dup2 C dX9_pass_145 rfl rfl ?_
    refine mG_ialdv C dX9_pass_146 ha0 (by unfold vp_in; decide) (by first | rfl | simp [mPI, mPL]) ?_
    refine mG_iconst C dX9_pass_147 ic1 ?_
    refine mG_iadd C dX9_pass_148 ?_
    refine mG_iastv C dX9_pass_149 ha0 (by unfold vp_in; decide) (k := 1) rfl ?_
    refine mG_nm (fun w1 ew1 => ?_)
    have K := K w1 ew1
    exact mG_vret C F dX9_pass_150 rfl K
  · have K := K.2 h
    refine mG_aload_n C dX9_pass_86 rfl rfl ?_
    refine mG_iconst C dX9_pass_87 ic0 ?_
    refine mG_ialdv C dX9_pass_88 ha0 (by unfold vp_in; decide) (by first | rfl | simp [mPI, mPL]) ?_
    refine mG_aload_n C dX9_pass_89 rfl rfl ?_
    refine mG_getR C dX9_pass_90 fl_838 sh60 rfl ?_
    refine mG_iconst C dX9_pass_93 ic4 ?_
    refine mG_iload_n C dX9_pass_94 rfl rfl ?_
    refine mG_imul C dX9_pass_95 ?_
    obtain ⟨h1, K⟩ := K
    refine mG_iald C dX9_pass_96 sh63 h1 ?_
    refine mG_ishr C dX9_pass_97 ?_
    refine mG_iconst C dX9_pass_98 ic1 ?_
    refine mG_iand C dX9_pass_99 ?_
    refine mG_aload_n C dX9_pass_100 rfl rfl ?_
    refine mG_getR C dX9_pass_101 fl_838 sh60 rfl ?_
    refine mG_iconst C dX9_pass_104 ic4 ?_
    refine mG_iload_n C dX9_pass_105 rfl rfl ?_
    refine mG_imul C dX9_pass_106 ?_
    refine mG_iconst C dX9_pass_107 ic1 ?_
    refine mG_iadd C dX9_pass_108 ?_
    obtain ⟨h2, K⟩ := K
    refine mG_iald C dX9_pass_109 sh63 h2 ?_
    refine mG_icmp_ne (tgt := 137) C dX9_pass_110 rfl (fun h => ?_) (fun h => ?_)
    · have K := K.1 h
      refine mG_iincc (lv' := [.ref 60, .ref a0, .int (x2 + (1 : Int32))]) C dX9_pass_137 rfl ic1 (by decide) rfl ?_
      refine mG_goto (tgt := 78) C dX9_pass_140 rfl ?_
      exact K
    · have K := K.2 h
      refine mG_aload_n C dX9_pass_113 rfl rfl ?_
      refine mG_aload_n C dX9_pass_114 rfl rfl ?_
      refine mG_getR C dX9_pass_115 fl_838 sh60 rfl ?_
      refine mG_iconst C dX9_pass_118 ic4 ?_
      refine mG_iload_n C dX9_pass_119 rfl rfl ?_
      refine mG_imul C dX9_pass_120 ?_
      refine mG_iconst C dX9_pass_121 ic2 ?_
      refine mG_iadd C dX9_pass_122 ?_
      obtain ⟨h3, K⟩ := K
      refine mG_iald C dX9_pass_123 sh63 h3 ?_
      refine mG_aload_n C dX9_pass_124 rfl rfl ?_
      refine mG_getR C dX9_pass_125 fl_838 sh60 rfl ?_
      refine mG_iconst C dX9_pass_128 ic4 ?_
      refine mG_iload_n C dX9_pass_129 rfl rfl ?_
      refine mG_imul C dX9_pass_130 ?_
      refine mG_iconst C dX9_pass_131 ic3 ?_
      refine mG_iadd C dX9_pass_132 ?_
      obtain ⟨h4, K⟩ := K
      refine mG_iald C dX9_pass_133 sh63 h4 ?_
      refine mG_Sv (Z := MX9_become) (as := [.ref a0, .int (w.1 63 ((((4 : Int32) * x2) + (2 : Int32)).toNatClampNeg)), .int (w.1 63 ((((4 : Int32) * x2) + (3 : Int32)).toNatClampNeg))]) (rest := []) C dX9_pass_134 lk_1100 zX9_become ⟨Nat.le_of_ble_eq_true rfl, Nat.le_of_ble_eq_true rfl⟩ rfl (Nat.le_of_ble_eq_true rfl) rfl K (fun u1 K => ?_)
      refine mG_iincc (lv' := [.ref 60, .ref a0, .int (x2 + (1 : Int32))]) C dX9_pass_137 rfl ic1 (by decide) rfl ?_
      refine mG_goto (tgt := 78) C dX9_pass_140 rfl ?_
      exact K

set_option maxRecDepth 20000 in
set_option maxHeartbeats 4000000 in
theorem vX9_plan_0 {X : mX} {E : mEnv} {Qm : Option Value → mW → Prop} (C : mCtx X E MX9_plan) (F : mFin X E MX9_plan Qm) {w : mW}  (p0 : Int32) (p1 : Int32)
    (K : mMi E MX9_in [.int p0, .int (1 : Int32), .int (2 : Int32)] w (fun v1 u1 =>
    ((v1 = 0 →
    (Qm (some (.int (-3 : Int32))) u1)) ∧ (¬ v1 = 0 →
    (mMi E MX9_in [.int p1, .int (0 : Int32), .int (2 : Int32)] u1 (fun v2 u2 =>
    ((¬ v2 = 0 →
    (mMv E MX9_copy [.ref 66, .int (0 : Int32), .ref 75, .int (0 : Int32)] u2 (fun u3 =>
    (mMv E MX9_pass [.ref 60, .ref 75] u3 (fun u4 =>
    (mMi E MX9_worthOf [.ref 60, .ref 75, .int p0] u4 (fun v3 u5 =>
    (mG X E MX9_plan 61 [.ref 60, .int p0, .int p1, .int v3, .int (-1 : Int32), .int (-1 : Int32), .int (0 : Int32), .retAddr 0, .retAddr 0] [] u5)))))))) ∧ (v2 = 0 →
    (Qm (some (.int (-3 : Int32))) u2))))))))) :
    mG X E MX9_plan 0 [.ref 60, .int p0, .int p1, .retAddr 0, .retAddr 0, .retAddr 0, .retAddr 0, .retAddr 0, .retAddr 0] [] w := by
  refine mG_iload_n C dX9_plan_0 rfl rfl ?_
  refine mG_iconst C dX9_plan_1 ic1 ?_
  refine mG_iconst C dX9_plan_2 ic2 ?_
  refine mG_Si (Z := MX9_in) (as := [.int p0, .int (1 : Int32), .int (2 : Int32)]) (rest := []) C dX9_plan_3 lk_956 zX9_in ⟨Nat.le_of_ble_eq_true rfl, Nat.le_of_ble_eq_true rfl⟩ rfl (Nat.le_of_ble_eq_true rfl) rfl K (fun v1 u1 K => ?_)
  refine mG_if_eq (tgt := 18) C dX9_plan_6 rfl (fun h => ?_) (fun h => ?_)
  · have K := K.1 h
    refine mG_bipush C dX9_plan_18 bpm3 ?_
    exact mG_iret C F dX9_plan_20 rfl rfl K
  · have K := K.2 h
    refine mG_iload_n C dX9_plan_9 rfl rfl ?_
    refine mG_iconst C dX9_plan_10 ic0 ?_
    refine mG_iconst C dX9_plan_11 ic2 ?_
    refine mG_Si (Z := MX9_in) (as := [.int p1, .int (0 : Int32), .int (2 : Int32)]) (rest := []) C dX9_plan_12 lk_956 zX9_in ⟨Nat.le_of_ble_eq_true rfl, Nat.le_of_ble_eq_true rfl⟩ rfl (Nat.le_of_ble_eq_true rfl) rfl K (fun v2 u2 K => ?_)
    refine mG_if_ne (tgt := 21) C dX9_plan_15 rfl (fun h => ?_) (fun h => ?_)
    · have K := K.1 h
      refine mG_aload_n C dX9_plan_21 rfl rfl ?_
      refine mG_getR C dX9_plan_22 fl_852 sh60 rfl ?_
      refine mG_iconst C dX9_plan_25 ic0 ?_
      refine mG_aload_n C dX9_plan_26 rfl rfl ?_
      refine mG_getR C dX9_plan_27 fl_871 sh60 rfl ?_
      refine mG_iconst C dX9_plan_30 ic0 ?_
      refine mG_Sv (Z := MX9_copy) (as := [.ref 66, .int (0 : Int32), .ref 75, .int (0 : Int32)]) (rest := []) C dX9_plan_31 lk_1082 zX9_copy ⟨Nat.le_of_ble_eq_true rfl, Nat.le_of_ble_eq_true rfl⟩ rfl (Nat.le_of_ble_eq_true rfl) rfl K (fun u3 K => ?_)
      refine mG_aload_n C dX9_plan_34 rfl rfl ?_
      refine mG_aload_n C dX9_plan_35 rfl rfl ?_
      refine mG_getR C dX9_plan_36 fl_871 sh60 rfl ?_
      refine mG_Vv (Z := MX9_pass) (as := [.ref 75]) (rest := []) C dX9_plan_39 lk_1096 zX9_pass ⟨Nat.le_of_ble_eq_true rfl, Nat.le_of_ble_eq_true rfl⟩ sh60 rfl rfl (Nat.le_of_ble_eq_true rfl) rfl K (fun u4 K => ?_)
      refine mG_aload_n C dX9_plan_42 rfl rfl ?_
      refine mG_aload_n C dX9_plan_43 rfl rfl ?_
      refine mG_getR C dX9_plan_44 fl_871 sh60 rfl ?_
      refine mG_iload_n C dX9_plan_47 rfl rfl ?_
      refine mG_Vi (Z := MX9_worthOf) (as := [.ref 75, .int p0]) (rest := []) C dX9_plan_48 lk_1196 zX9_worthOf ⟨Nat.le_of_ble_eq_true rfl, Nat.le_of_ble_eq_true rfl⟩ sh60 rfl rfl (Nat.le_of_ble_eq_true rfl) rfl K (fun v3 u5 K => ?_)
      refine mG_istore_n (lv' := [.ref 60, .int p0, .int p1, .int v3, .retAddr 0, .retAddr 0, .retAddr 0, .retAddr 0, .retAddr 0]) C dX9_plan_51 rfl (by decide) rfl ?_
      refine mG_iconst C dX9_plan_52 icm1 ?_
      refine mG_istore (lv' := [.ref 60, .int p0, .int p1, .int v3, .int (-1 : Int32), .retAddr 0, .retAddr 0, .retAddr 0, .retAddr 0]) C dX9_plan_53 (by decide) rfl ?_
      refine mG_iconst C dX9_plan_55 icm1 ?_
      refine mG_istore (lv' := [.ref 60, .int p0, .int p1, .int v3, .int (-1 : Int32), .int (-1 : Int32), .retAddr 0, .retAddr 0, .retAddr 0]) C dX9_plan_56 (by decide) rfl ?_
      refine mG_iconst C dX9_plan_58 ic0 ?_
      refine mG_istore (lv' := [.ref 60, .int p0, .int p1, .int v3, .int (-1 : Int32), .int (-1 : Int32), .int (0 : Int32), .retAddr 0, .retAddr 0]) C dX9_plan_59 (by decide) rfl ?_
      exact K
    · have K := K.2 h
      refine mG_bipush C dX9_plan_18 bpm3 ?_
      exact mG_iret C F dX9_plan_20 rfl rfl K

set_option maxRecDepth 20000 in
set_option maxHeartbeats 4000000 in
theorem vX9_plan_61 {X : mX} {E : mEnv} {Qm : Option Value → mW → Prop} (C : mCtx X E MX9_plan) (F : mFin X E MX9_plan Qm) {w : mW}  (x1 : Int32) (x2 : Int32) (x3 : Int32) (x4 : Int32) (x5 : Int32) (x6 : Int32)
    (K : ((46000 : Int32) ≤ x6 →
    ((¬ x2 = 0 →
    ((¬ x2 = (1 : Int32) →
    (Qm (some (.int x5)) w)) ∧ (x2 = (1 : Int32) →
    (Qm (some (.int x4)) w)))) ∧ (x2 = 0 →
    (Qm (some (.int (x3 + (9999 : Int32)))) w)))) ∧ (¬ (46000 : Int32) ≤ x6 →
    (mG X E MX9_plan 72 [.ref 60, .int x1, .int x2, .int x3, .int x4, .int x5, .int x6, .int (0 : Int32), .retAddr 0] [] w))) :
    mG X E MX9_plan 61 [.ref 60, .int x1, .int x2, .int x3, .int x4, .int x5, .int x6, .retAddr 0, .retAddr 0] [] w := by
  refine mG_iload C dX9_plan_61 rfl ?_
  refine mG_ldcw C dX9_plan_63 kc_1147_260 ?_
  refine mG_icmp_ge (tgt := 182) C dX9_plan_66 rfl (fun h => ?_) (fun h => ?_)
  · have K := K.1 h
    refine mG_iload_n C dX9_plan_182 rfl rfl ?_
    refine mG_if_ne (tgt := 194) C dX9_plan_183 rfl (fun h => ?_) (fun h => ?_)
    · have K := K.1 h
      refine mG_iload_n C dX9_plan_194 rfl rfl ?_
      refine mG_iconst C dX9_plan_195 ic1 ?_
      refine mG_icmp_ne (tgt := 204) C dX9_plan_196 rfl (fun h => ?_) (fun h => ?_)
      · have K := K.1 h
        refine mG_iload C dX9_plan_204 rfl ?_
        exact mG_iret C F dX9_plan_206 rfl rfl K
      · have K := K.2 h
        refine mG_iload C dX9_plan_199 rfl ?_
        refine mG_goto (tgt := 206) C dX9_plan_201 rfl ?_
        exact mG_iret C F dX9_plan_206 rfl rfl K
    · have K := K.2 h
      refine mG_iload_n C dX9_plan_186 rfl rfl ?_
      refine mG_sipush C dX9_plan_187 sp9999 ?_
      refine mG_iadd C dX9_plan_190 ?_
      refine mG_goto (tgt := 206) C dX9_plan_191 rfl ?_
      exact mG_iret C F dX9_plan_206 rfl rfl K
  · have K := K.2 h
    refine mG_iconst C dX9_plan_69 ic0 ?_
    refine mG_istore (lv' := [.ref 60, .int x1, .int x2, .int x3, .int x4, .int x5, .int x6, .int (0 : Int32), .retAddr 0]) C dX9_plan_70 (by decide) rfl ?_
    exact K

set_option maxRecDepth 20000 in
set_option maxHeartbeats 4000000 in
theorem vX9_plan_72 {X : mX} {E : mEnv} {Qm : Option Value → mW → Prop} (C : mCtx X E MX9_plan) (F : mFin X E MX9_plan Qm) {w : mW}  (x1 : Int32) (x2 : Int32) (x3 : Int32) (x4 : Int32) (x5 : Int32) (x6 : Int32) (x7 : Int32)
    (K : ((w.1 60 2) ≤ x7 →
    (mMi E MX9_nextPlain [.int x6] w (fun v1 u1 =>
    (mG X E MX9_plan 61 [.ref 60, .int x1, .int x2, .int x3, .int x4, .int x5, .int v1, .retAddr 0, .retAddr 0] [] u1)))) ∧ (¬ (w.1 60 2) ≤ x7 →
    (mMi E MX9_isSentence [.ref 60, .int x6] w (fun v2 u2 =>
    ((v2 = 0 →
    (mG X E MX9_plan 72 [.ref 60, .int x1, .int x2, .int x3, .int x4, .int x5, .int x6, .int (x7 + (1 : Int32)), .retAddr 0] [] u2)) ∧ (¬ v2 = 0 →
    (mMi E MX9_isSo [.ref 60, .ref 66, .int ((1 : Int32) <<< (x7 &&& 31))] u2 (fun v3 u3 =>
    ((v3 = 0 →
    (mG X E MX9_plan 72 [.ref 60, .int x1, .int x2, .int x3, .int x4, .int x5, .int x6, .int (x7 + (1 : Int32)), .retAddr 0] [] u3)) ∧ (¬ v3 = 0 →
    (mMv E MX9_copy [.ref 66, .int (0 : Int32), .ref 75, .int (0 : Int32)] u3 (fun u4 =>
    (mMv E MX9_hearAll [.ref 60, .ref 75, .int ((1 : Int32) <<< (x7 &&& 31))] u4 (fun u5 =>
    (mMv E MX9_pass [.ref 60, .ref 75] u5 (fun u6 =>
    (mMi E MX9_worthOf [.ref 60, .ref 75, .int x1] u6 (fun v4 u7 =>
    ((v4 ≤ x3 →
    (mG X E MX9_plan 72 [.ref 60, .int x1, .int x2, .int x3, .int x4, .int x5, .int x6, .int (x7 + (1 : Int32)), .retAddr 0] [] u7)) ∧ (¬ v4 ≤ x3 →
    (mG X E MX9_plan 72 [.ref 60, .int x1, .int x2, .int v4, .int x6, .int x7, .int x6, .int (x7 + (1 : Int32)), .retAddr 0] [] u7))))))))))))))))))))) :
    mG X E MX9_plan 72 [.ref 60, .int x1, .int x2, .int x3, .int x4, .int x5, .int x6, .int x7, .retAddr 0] [] w := by
  refine mG_iload C dX9_plan_72 rfl ?_
  refine mG_aload_n C dX9_plan_74 rfl rfl ?_
  refine mG_getI C dX9_plan_75 fl_835 sh60 rfl ?_
  refine mG_icmp_ge (tgt := 172) C dX9_plan_78 rfl (fun h => ?_) (fun h => ?_)
  · have K := K.1 h
    refine mG_iload C dX9_plan_172 rfl ?_
    refine mG_Si (Z := MX9_nextPlain) (as := [.int x6]) (rest := []) C dX9_plan_174 lk_1204 zX9_nextPlain ⟨Nat.le_of_ble_eq_true rfl, Nat.le_of_ble_eq_true rfl⟩ rfl (Nat.le_of_ble_eq_true rfl) rfl K (fun v1 u1 K => ?_)
    refine mG_istore (lv' := [.ref 60, .int x1, .int x2, .int x3, .int x4, .int x5, .int v1, .int x7, .retAddr 0]) C dX9_plan_177 (by decide) rfl ?_
    refine mG_goto (tgt := 61) C dX9_plan_179 rfl ?_
    exact mG_holes [7] rfl K
  · have K := K.2 h
    refine mG_aload_n C dX9_plan_81 rfl rfl ?_
    refine mG_iload C dX9_plan_82 rfl ?_
    refine mG_Vi (Z := MX9_isSentence) (as := [.int x6]) (rest := []) C dX9_plan_84 lk_1148 zX9_isSentence ⟨Nat.le_of_ble_eq_true rfl, Nat.le_of_ble_eq_true rfl⟩ sh60 rfl rfl (Nat.le_of_ble_eq_true rfl) rfl K (fun v2 u2 K => ?_)
    refine mG_if_eq (tgt := 166) C dX9_plan_87 rfl (fun h => ?_) (fun h => ?_)
    · have K := K.1 h
      refine mG_iincc (lv' := [.ref 60, .int x1, .int x2, .int x3, .int x4, .int x5, .int x6, .int (x7 + (1 : Int32)), .retAddr 0]) C dX9_plan_166 rfl ic1 (by decide) rfl ?_
      refine mG_goto (tgt := 72) C dX9_plan_169 rfl ?_
      exact K
    · have K := K.2 h
      refine mG_aload_n C dX9_plan_90 rfl rfl ?_
      refine mG_aload_n C dX9_plan_91 rfl rfl ?_
      refine mG_getR C dX9_plan_92 fl_852 sh60 rfl ?_
      refine mG_iconst C dX9_plan_95 ic1 ?_
      refine mG_iload C dX9_plan_96 rfl ?_
      refine mG_ishl C dX9_plan_98 ?_
      refine mG_Vi (Z := MX9_isSo) (as := [.ref 66, .int ((1 : Int32) <<< (x7 &&& 31))]) (rest := []) C dX9_plan_99 lk_1078 zX9_isSo ⟨Nat.le_of_ble_eq_true rfl, Nat.le_of_ble_eq_true rfl⟩ sh60 rfl rfl (Nat.le_of_ble_eq_true rfl) rfl K (fun v3 u3 K => ?_)
      refine mG_if_eq (tgt := 166) C dX9_plan_102 rfl (fun h => ?_) (fun h => ?_)
      · have K := K.1 h
        refine mG_iincc (lv' := [.ref 60, .int x1, .int x2, .int x3, .int x4, .int x5, .int x6, .int (x7 + (1 : Int32)), .retAddr 0]) C dX9_plan_166 rfl ic1 (by decide) rfl ?_
        refine mG_goto (tgt := 72) C dX9_plan_169 rfl ?_
        exact K
      · have K := K.2 h
        refine mG_aload_n C dX9_plan_105 rfl rfl ?_
        refine mG_getR C dX9_plan_106 fl_852 sh60 rfl ?_
        refine mG_iconst C dX9_plan_109 ic0 ?_
        refine mG_aload_n C dX9_plan_110 rfl rfl ?_
        refine mG_getR C dX9_plan_111 fl_871 sh60 rfl ?_
        refine mG_iconst C dX9_plan_114 ic0 ?_
        refine mG_Sv (Z := MX9_copy) (as := [.ref 66, .int (0 : Int32), .ref 75, .int (0 : Int32)]) (rest := []) C dX9_plan_115 lk_1082 zX9_copy ⟨Nat.le_of_ble_eq_true rfl, Nat.le_of_ble_eq_true rfl⟩ rfl (Nat.le_of_ble_eq_true rfl) rfl K (fun u4 K => ?_)
        refine mG_aload_n C dX9_plan_118 rfl rfl ?_
        refine mG_aload_n C dX9_plan_119 rfl rfl ?_
        refine mG_getR C dX9_plan_120 fl_871 sh60 rfl ?_
        refine mG_iconst C dX9_plan_123 ic1 ?_
        refine mG_iload C dX9_plan_124 rfl ?_
        refine mG_ishl C dX9_plan_126 ?_
        refine mG_Vv (Z := MX9_hearAll) (as := [.ref 75, .int ((1 : Int32) <<< (x7 &&& 31))]) (rest := []) C dX9_plan_127 lk_1085 zX9_hearAll ⟨Nat.le_of_ble_eq_true rfl, Nat.le_of_ble_eq_true rfl⟩ sh60 rfl rfl (Nat.le_of_ble_eq_true rfl) rfl K (fun u5 K => ?_)
        refine mG_aload_n C dX9_plan_130 rfl rfl ?_
        refine mG_aload_n C dX9_plan_131 rfl rfl ?_
        refine mG_getR C dX9_plan_132 fl_871 sh60 rfl ?_
        refine mG_Vv (Z := MX9_pass) (as := [.ref 75]) (rest := []) C dX9_plan_135 lk_1096 zX9_pass ⟨Nat.le_of_ble_eq_true rfl, Nat.le_of_ble_eq_true rfl⟩ sh60 rfl rfl (Nat.le_of_ble_eq_true rfl) rfl K (fun u6 K => ?_)
        refine mG_aload_n C dX9_plan_138 rfl rfl ?_
        refine mG_aload_n C dX9_plan_139 rfl rfl ?_
        refine mG_getR C dX9_plan_140 fl_871 sh60 rfl ?_
        refine mG_iload_n C dX9_plan_143 rfl rfl ?_
        refine mG_Vi (Z := MX9_worthOf) (as := [.ref 75, .int x1]) (rest := []) C dX9_plan_144 lk_1196 zX9_worthOf ⟨Nat.le_of_ble_eq_true rfl, Nat.le_of_ble_eq_true rfl⟩ sh60 rfl rfl (Nat.le_of_ble_eq_true rfl) rfl K (fun v4 u7 K => ?_)
        refine mG_istore (lv' := [.ref 60, .int x1, .int x2, .int x3, .int x4, .int x5, .int x6, .int x7, .int v4]) C dX9_plan_147 (by decide) rfl ?_
        refine mG_iload C dX9_plan_149 rfl ?_
        refine mG_iload_n C dX9_plan_151 rfl rfl ?_
        refine mG_icmp_le (tgt := 166) C dX9_plan_152 rfl (fun h => ?_) (fun h => ?_)
        · have K := K.1 h
          refine mG_iincc (lv' := [.ref 60, .int x1, .int x2, .int x3, .int x4, .int x5, .int x6, .int (x7 + (1 : Int32)), .int v4]) C dX9_plan_166 rfl ic1 (by decide) rfl ?_
          refine mG_goto (tgt := 72) C dX9_plan_169 rfl ?_
          exact mG_holes [8] rfl K
        · have K := K.2 h
          refine mG_iload C dX9_plan_155 rfl ?_
          refine mG_istore_n (lv' := [.ref 60, .int x1, .int x2, .int v4, .int x4, .int x5, .int x6, .int x7, .int v4]) C dX9_plan_157 rfl (by decide) rfl ?_
          refine mG_iload C dX9_plan_158 rfl ?_
          refine mG_istore (lv' := [.ref 60, .int x1, .int x2, .int v4, .int x6, .int x5, .int x6, .int x7, .int v4]) C dX9_plan_160 (by decide) rfl ?_
          refine mG_iload C dX9_plan_162 rfl ?_
          refine mG_istore (lv' := [.ref 60, .int x1, .int x2, .int v4, .int x6, .int x7, .int x6, .int x7, .int v4]) C dX9_plan_164 (by decide) rfl ?_
          refine mG_iincc (lv' := [.ref 60, .int x1, .int x2, .int v4, .int x6, .int x7, .int x6, .int (x7 + (1 : Int32)), .int v4]) C dX9_plan_166 rfl ic1 (by decide) rfl ?_
          refine mG_goto (tgt := 72) C dX9_plan_169 rfl ?_
          exact mG_holes [8] rfl K

set_option maxRecDepth 20000 in
set_option maxHeartbeats 4000000 in
theorem vX9_rests_0 {X : mX} {E : mEnv} {Qm : Option Value → mW → Prop} (C : mCtx X E MX9_rests) (F : mFin X E MX9_rests Qm) {w : mW}  (p0 : Int32) (p1 : Int32) (p2 : Int32) (p3 : Int32) (p4 : Int32)
    (K : mMi E MX9_isOne [.ref 60, .int p0] w (fun v1 u1 =>
    ((v1 = 0 →
    (Qm (some (.int (-2 : Int32))) u1)) ∧ (¬ v1 = 0 →
    (mMi E MX9_isOne [.ref 60, .int p1] u1 (fun v2 u2 =>
    ((v2 = 0 →
    (Qm (some (.int (-2 : Int32))) u2)) ∧ (¬ v2 = 0 →
    ((p0 = p1 →
    (Qm (some (.int (-2 : Int32))) u2)) ∧ (¬ p0 = p1 →
    (mMi E MX9_isFact [.ref 60, .int p2] u2 (fun v3 u3 =>
    ((¬ v3 = 0 →
    (mMi E MX9_in [.int p3, .int (0 : Int32), .int (1 : Int32)] u3 (fun v4 u4 =>
    ((v4 = 0 →
    (Qm (some (.int (-3 : Int32))) u4)) ∧ (¬ v4 = 0 →
    (mMi E MX9_in [.int p4, .int (0 : Int32), .int (1 : Int32)] u4 (fun v5 u5 =>
    ((¬ v5 = 0 →
    (mG X E MX9_rests 64 [.ref 60, .int p0, .int p1, .int p2, .int p3, .int p4, .int (0 : Int32), .int (-1 : Int32), .int (3 : Int32), .retAddr 0] [] u5)) ∧ (v5 = 0 →
    (Qm (some (.int (-3 : Int32))) u5)))))))))) ∧ (v3 = 0 →
    (Qm (some (.int (-2 : Int32))) u3))))))))))))))) :
    mG X E MX9_rests 0 [.ref 60, .int p0, .int p1, .int p2, .int p3, .int p4, .retAddr 0, .retAddr 0, .retAddr 0, .retAddr 0] [] w := by
  refine mG_aload_n C dX9_rests_0 rfl rfl ?_
  refine mG_iload_n C dX9_rests_1 rfl rfl ?_
  refine mG_Vi (Z := MX9_isOne) (as := [.int p0]) (rest := []) C dX9_rests_2 lk_1030 zX9_isOne ⟨Nat.le_of_ble_eq_true rfl, Nat.le_of_ble_eq_true rfl⟩ sh60 rfl rfl (Nat.le_of_ble_eq_true rfl) rfl K (fun v1 u1 K => ?_)
  refine mG_if_eq (tgt := 29) C dX9_rests_5 rfl (fun h => ?_) (fun h => ?_)
  · have K := K.1 h
    refine mG_bipush C dX9_rests_29 bpm2 ?_
    exact mG_iret C F dX9_rests_31 rfl rfl K
  · have K := K.2 h
    refine mG_aload_n C dX9_rests_8 rfl rfl ?_
    refine mG_iload_n C dX9_rests_9 rfl rfl ?_
    refine mG_Vi (Z := MX9_isOne) (as := [.int p1]) (rest := []) C dX9_rests_10 lk_1030 zX9_isOne ⟨Nat.le_of_ble_eq_true rfl, Nat.le_of_ble_eq_true rfl⟩ sh60 rfl rfl (Nat.le_of_ble_eq_true rfl) rfl K (fun v2 u2 K => ?_)
    refine mG_if_eq (tgt := 29) C dX9_rests_13 rfl (fun h => ?_) (fun h => ?_)
    · have K := K.1 h
      refine mG_bipush C dX9_rests_29 bpm2 ?_
      exact mG_iret C F dX9_rests_31 rfl rfl K
    · have K := K.2 h
      refine mG_iload_n C dX9_rests_16 rfl rfl ?_
      refine mG_iload_n C dX9_rests_17 rfl rfl ?_
      refine mG_icmp_eq (tgt := 29) C dX9_rests_18 rfl (fun h => ?_) (fun h => ?_)
      · have K := K.1 h
        refine mG_bipush C dX9_rests_29 bpm2 ?_
        exact mG_iret C F dX9_rests_31 rfl rfl K
      · have K := K.2 h
        refine mG_aload_n C dX9_rests_21 rfl rfl ?_
        refine mG_iload_n C dX9_rests_22 rfl rfl ?_
        refine mG_Vi (Z := MX9_isFact) (as := [.int p2]) (rest := []) C dX9_rests_23 lk_1022 zX9_isFact ⟨Nat.le_of_ble_eq_true rfl, Nat.le_of_ble_eq_true rfl⟩ sh60 rfl rfl (Nat.le_of_ble_eq_true rfl) rfl K (fun v3 u3 K => ?_)
        refine mG_if_ne (tgt := 32) C dX9_rests_26 rfl (fun h => ?_) (fun h => ?_)
        · have K := K.1 h
          refine mG_iload C dX9_rests_32 rfl ?_
          refine mG_iconst C dX9_rests_34 ic0 ?_
          refine mG_iconst C dX9_rests_35 ic1 ?_
          refine mG_Si (Z := MX9_in) (as := [.int p3, .int (0 : Int32), .int (1 : Int32)]) (rest := []) C dX9_rests_36 lk_956 zX9_in ⟨Nat.le_of_ble_eq_true rfl, Nat.le_of_ble_eq_true rfl⟩ rfl (Nat.le_of_ble_eq_true rfl) rfl K (fun v4 u4 K => ?_)
          refine mG_if_eq (tgt := 52) C dX9_rests_39 rfl (fun h => ?_) (fun h => ?_)
          · have K := K.1 h
            refine mG_bipush C dX9_rests_52 bpm3 ?_
            exact mG_iret C F dX9_rests_54 rfl rfl K
          · have K := K.2 h
            refine mG_iload C dX9_rests_42 rfl ?_
            refine mG_iconst C dX9_rests_44 ic0 ?_
            refine mG_iconst C dX9_rests_45 ic1 ?_
            refine mG_Si (Z := MX9_in) (as := [.int p4, .int (0 : Int32), .int (1 : Int32)]) (rest := []) C dX9_rests_46 lk_956 zX9_in ⟨Nat.le_of_ble_eq_true rfl, Nat.le_of_ble_eq_true rfl⟩ rfl (Nat.le_of_ble_eq_true rfl) rfl K (fun v5 u5 K => ?_)
            refine mG_if_ne (tgt := 55) C dX9_rests_49 rfl (fun h => ?_) (fun h => ?_)
            · have K := K.1 h
              refine mG_iconst C dX9_rests_55 ic0 ?_
              refine mG_istore (lv' := [.ref 60, .int p0, .int p1, .int p2, .int p3, .int p4, .int (0 : Int32), .retAddr 0, .retAddr 0, .retAddr 0]) C dX9_rests_56 (by decide) rfl ?_
              refine mG_iconst C dX9_rests_58 icm1 ?_
              refine mG_istore (lv' := [.ref 60, .int p0, .int p1, .int p2, .int p3, .int p4, .int (0 : Int32), .int (-1 : Int32), .retAddr 0, .retAddr 0]) C dX9_rests_59 (by decide) rfl ?_
              refine mG_iconst C dX9_rests_61 ic3 ?_
              refine mG_istore (lv' := [.ref 60, .int p0, .int p1, .int p2, .int p3, .int p4, .int (0 : Int32), .int (-1 : Int32), .int (3 : Int32), .retAddr 0]) C dX9_rests_62 (by decide) rfl ?_
              exact K
            · have K := K.2 h
              refine mG_bipush C dX9_rests_52 bpm3 ?_
              exact mG_iret C F dX9_rests_54 rfl rfl K
        · have K := K.2 h
          refine mG_bipush C dX9_rests_29 bpm2 ?_
          exact mG_iret C F dX9_rests_31 rfl rfl K

set_option maxRecDepth 20000 in
set_option maxHeartbeats 4000000 in
theorem vX9_rests_64 {X : mX} {E : mEnv} {Qm : Option Value → mW → Prop} (C : mCtx X E MX9_rests) (F : mFin X E MX9_rests Qm) {w : mW}  (x1 : Int32) (x2 : Int32) (x3 : Int32) (x4 : Int32) (x5 : Int32) (x6 : Int32) (x7 : Int32) (x8 : Int32)
    (K : (x8 < 0 →
    ((¬ x5 = 0 →
    (Qm (some (.int x7)) w)) ∧ (x5 = 0 →
    (Qm (some (.int x6)) w)))) ∧ (¬ x8 < 0 →
    (mMi E MX9_sumBy [.ref 60, .int x1, .int x2, .int x3, .int x4, .int x8] w (fun v1 u1 =>
    (mMi E MX9_sumBy [.ref 60, .int x1, .int x2, .int x3, .int x4, .int (x8 ^^^ (2 : Int32))] u1 (fun v2 u2 =>
    ((v1 < v2 →
    (mG X E MX9_rests 64 [.ref 60, .int x1, .int x2, .int x3, .int x4, .int x5, .int x6, .int x7, .int (x8 + (-1 : Int32)), .retAddr 0] [] u2)) ∧ (¬ v1 < v2 →
    (mMi E MX9_sumBy [.ref 60, .int x1, .int x2, .int x3, .int x4, .int (x8 ^^^ (1 : Int32))] u2 (fun v3 u3 =>
    ((v1 < v3 →
    (mG X E MX9_rests 64 [.ref 60, .int x1, .int x2, .int x3, .int x4, .int x5, .int x6, .int x7, .int (x8 + (-1 : Int32)), .retAddr 0] [] u3)) ∧ (¬ v1 < v3 →
    (mG X E MX9_rests 64 [.ref 60, .int x1, .int x2, .int x3, .int x4, .int x5, .int (x6 + (1 : Int32)), .int x8, .int (x8 + (-1 : Int32)), .retAddr 0] [] u3))))))))))))) :
    mG X E MX9_rests 64 [.ref 60, .int x1, .int x2, .int x3, .int x4, .int x5, .int x6, .int x7, .int x8, .retAddr 0] [] w := by
  refine mG_iload C dX9_rests_64 rfl ?_
  refine mG_if_lt (tgt := 131) C dX9_rests_66 rfl (fun h => ?_) (fun h => ?_)
  · have K := K.1 h
    refine mG_iload C dX9_rests_131 rfl ?_
    refine mG_if_ne (tgt := 141) C dX9_rests_133 rfl (fun h => ?_) (fun h => ?_)
    · have K := K.1 h
      refine mG_iload C dX9_rests_141 rfl ?_
      exact mG_iret C F dX9_rests_143 rfl rfl K
    · have K := K.2 h
      refine mG_iload C dX9_rests_136 rfl ?_
      refine mG_goto (tgt := 143) C dX9_rests_138 rfl ?_
      exact mG_iret C F dX9_rests_143 rfl rfl K
  · have K := K.2 h
    refine mG_aload_n C dX9_rests_69 rfl rfl ?_
    refine mG_iload_n C dX9_rests_70 rfl rfl ?_
    refine mG_iload_n C dX9_rests_71 rfl rfl ?_
    refine mG_iload_n C dX9_rests_72 rfl rfl ?_
    refine mG_iload C dX9_rests_73 rfl ?_
    refine mG_iload C dX9_rests_75 rfl ?_
    refine mG_Vi (Z := MX9_sumBy) (as := [.int x1, .int x2, .int x3, .int x4, .int x8]) (rest := []) C dX9_rests_77 lk_1171 zX9_sumBy ⟨Nat.le_of_ble_eq_true rfl, Nat.le_of_ble_eq_true rfl⟩ sh60 rfl rfl (Nat.le_of_ble_eq_true rfl) rfl K (fun v1 u1 K => ?_)
    refine mG_istore (lv' := [.ref 60, .int x1, .int x2, .int x3, .int x4, .int x5, .int x6, .int x7, .int x8, .int v1]) C dX9_rests_80 (by decide) rfl ?_
    refine mG_aload_n C dX9_rests_82 rfl rfl ?_
    refine mG_iload_n C dX9_rests_83 rfl rfl ?_
    refine mG_iload_n C dX9_rests_84 rfl rfl ?_
    refine mG_iload_n C dX9_rests_85 rfl rfl ?_
    refine mG_iload C dX9_rests_86 rfl ?_
    refine mG_iload C dX9_rests_88 rfl ?_
    refine mG_iconst C dX9_rests_90 ic2 ?_
    refine mG_ixor C dX9_rests_91 ?_
    refine mG_Vi (Z := MX9_sumBy) (as := [.int x1, .int x2, .int x3, .int x4, .int (x8 ^^^ (2 : Int32))]) (rest := []) C dX9_rests_92 lk_1171 zX9_sumBy ⟨Nat.le_of_ble_eq_true rfl, Nat.le_of_ble_eq_true rfl⟩ sh60 rfl rfl (Nat.le_of_ble_eq_true rfl) rfl K (fun v2 u2 K => ?_)
    refine mG_iload C dX9_rests_95 rfl ?_
    refine mG_icmp_gt (tgt := 125) C dX9_rests_97 rfl (fun h => ?_) (fun h => ?_)
    · have K := K.1 h
      refine mG_iincc (lv' := [.ref 60, .int x1, .int x2, .int x3, .int x4, .int x5, .int x6, .int x7, .int (x8 + (-1 : Int32)), .int v1]) C dX9_rests_125 rfl icm1 (by decide) rfl ?_
      refine mG_goto (tgt := 64) C dX9_rests_128 rfl ?_
      exact mG_holes [9] rfl K
    · have K := K.2 h
      refine mG_aload_n C dX9_rests_100 rfl rfl ?_
      refine mG_iload_n C dX9_rests_101 rfl rfl ?_
      refine mG_iload_n C dX9_rests_102 rfl rfl ?_
      refine mG_iload_n C dX9_rests_103 rfl rfl ?_
      refine mG_iload C dX9_rests_104 rfl ?_
      refine mG_iload C dX9_rests_106 rfl ?_
      refine mG_iconst C dX9_rests_108 ic1 ?_
      refine mG_ixor C dX9_rests_109 ?_
      refine mG_Vi (Z := MX9_sumBy) (as := [.int x1, .int x2, .int x3, .int x4, .int (x8 ^^^ (1 : Int32))]) (rest := []) C dX9_rests_110 lk_1171 zX9_sumBy ⟨Nat.le_of_ble_eq_true rfl, Nat.le_of_ble_eq_true rfl⟩ sh60 rfl rfl (Nat.le_of_ble_eq_true rfl) rfl K (fun v3 u3 K => ?_)
      refine mG_iload C dX9_rests_113 rfl ?_
      refine mG_icmp_gt (tgt := 125) C dX9_rests_115 rfl (fun h => ?_) (fun h => ?_)
      · have K := K.1 h
        refine mG_iincc (lv' := [.ref 60, .int x1, .int x2, .int x3, .int x4, .int x5, .int x6, .int x7, .int (x8 + (-1 : Int32)), .int v1]) C dX9_rests_125 rfl icm1 (by decide) rfl ?_
        refine mG_goto (tgt := 64) C dX9_rests_128 rfl ?_
        exact mG_holes [9] rfl K
      · have K := K.2 h
        refine mG_iincc (lv' := [.ref 60, .int x1, .int x2, .int x3, .int x4, .int x5, .int (x6 + (1 : Int32)), .int x7, .int x8, .int v1]) C dX9_rests_118 rfl ic1 (by decide) rfl ?_
        refine mG_iload C dX9_rests_121 rfl ?_
        refine mG_istore (lv' := [.ref 60, .int x1, .int x2, .int x3, .int x4, .int x5, .int (x6 + (1 : Int32)), .int x8, .int x8, .int v1]) C dX9_rests_123 (by decide) rfl ?_
        refine mG_iincc (lv' := [.ref 60, .int x1, .int x2, .int x3, .int x4, .int x5, .int (x6 + (1 : Int32)), .int x8, .int (x8 + (-1 : Int32)), .int v1]) C dX9_rests_125 rfl icm1 (by decide) rfl ?_
        refine mG_goto (tgt := 64) C dX9_rests_128 rfl ?_
        exact mG_holes [9] rfl K

set_option maxRecDepth 20000 in
set_option maxHeartbeats 4000000 in
theorem vX9_said_0 {X : mX} {E : mEnv} {Qm : Option Value → mW → Prop} (C : mCtx X E MX9_said) (F : mFin X E MX9_said Qm) {w : mW}  (p0 : Int32) (p1 : Int32) (p2 : Int32)
    (K : mMi E MX9_isOne [.ref 60, .int p0] w (fun v1 u1 =>
    ((¬ v1 = 0 →
    (mMi E MX9_in [.int p1, .int (0 : Int32), .int (1 : Int32)] u1 (fun v2 u2 =>
    ((v2 = 0 →
    (Qm (some (.int (-3 : Int32))) u2)) ∧ (¬ v2 = 0 →
    (mMi E MX9_in [.int p2, .int (0 : Int32), .int (1 : Int32)] u2 (fun v3 u3 =>
    ((v3 = 0 →
    (Qm (some (.int (-3 : Int32))) u3)) ∧ (¬ v3 = 0 →
    (mMi E MX9_askOf [.ref 60, .int p0, .int p1, .int p2] u3 (fun v4 u4 =>
    (Qm (some (.int v4)) u4)))))))))))) ∧ (v1 = 0 →
    (Qm (some (.int (-2 : Int32))) u1))))) :
    mG X E MX9_said 0 [.ref 60, .int p0, .int p1, .int p2] [] w := by
  refine mG_aload_n C dX9_said_0 rfl rfl ?_
  refine mG_iload_n C dX9_said_1 rfl rfl ?_
  refine mG_Vi (Z := MX9_isOne) (as := [.int p0]) (rest := []) C dX9_said_2 lk_1030 zX9_isOne ⟨Nat.le_of_ble_eq_true rfl, Nat.le_of_ble_eq_true rfl⟩ sh60 rfl rfl (Nat.le_of_ble_eq_true rfl) rfl K (fun v1 u1 K => ?_)
  refine mG_if_ne (tgt := 11) C dX9_said_5 rfl (fun h => ?_) (fun h => ?_)
  · have K := K.1 h
    refine mG_iload_n C dX9_said_11 rfl rfl ?_
    refine mG_iconst C dX9_said_12 ic0 ?_
    refine mG_iconst C dX9_said_13 ic1 ?_
    refine mG_Si (Z := MX9_in) (as := [.int p1, .int (0 : Int32), .int (1 : Int32)]) (rest := []) C dX9_said_14 lk_956 zX9_in ⟨Nat.le_of_ble_eq_true rfl, Nat.le_of_ble_eq_true rfl⟩ rfl (Nat.le_of_ble_eq_true rfl) rfl K (fun v2 u2 K => ?_)
    refine mG_if_eq (tgt := 39) C dX9_said_17 rfl (fun h => ?_) (fun h => ?_)
    · have K := K.1 h
      refine mG_bipush C dX9_said_39 bpm3 ?_
      exact mG_iret C F dX9_said_41 rfl rfl K
    · have K := K.2 h
      refine mG_iload_n C dX9_said_20 rfl rfl ?_
      refine mG_iconst C dX9_said_21 ic0 ?_
      refine mG_iconst C dX9_said_22 ic1 ?_
      refine mG_Si (Z := MX9_in) (as := [.int p2, .int (0 : Int32), .int (1 : Int32)]) (rest := []) C dX9_said_23 lk_956 zX9_in ⟨Nat.le_of_ble_eq_true rfl, Nat.le_of_ble_eq_true rfl⟩ rfl (Nat.le_of_ble_eq_true rfl) rfl K (fun v3 u3 K => ?_)
      refine mG_if_eq (tgt := 39) C dX9_said_26 rfl (fun h => ?_) (fun h => ?_)
      · have K := K.1 h
        refine mG_bipush C dX9_said_39 bpm3 ?_
        exact mG_iret C F dX9_said_41 rfl rfl K
      · have K := K.2 h
        refine mG_aload_n C dX9_said_29 rfl rfl ?_
        refine mG_iload_n C dX9_said_30 rfl rfl ?_
        refine mG_iload_n C dX9_said_31 rfl rfl ?_
        refine mG_iload_n C dX9_said_32 rfl rfl ?_
        refine mG_Vi (Z := MX9_askOf) (as := [.int p0, .int p1, .int p2]) (rest := []) C dX9_said_33 lk_1159 zX9_askOf ⟨Nat.le_of_ble_eq_true rfl, Nat.le_of_ble_eq_true rfl⟩ sh60 rfl rfl (Nat.le_of_ble_eq_true rfl) rfl K (fun v4 u4 K => ?_)
        refine mG_goto (tgt := 41) C dX9_said_36 rfl ?_
        exact mG_iret C F dX9_said_41 rfl rfl K
  · have K := K.2 h
    refine mG_bipush C dX9_said_8 bpm2 ?_
    exact mG_iret C F dX9_said_10 rfl rfl K

set_option maxRecDepth 20000 in
set_option maxHeartbeats 4000000 in
theorem vX9_say_0 {X : mX} {E : mEnv} {Qm : Option Value → mW → Prop} (C : mCtx X E MX9_say) (F : mFin X E MX9_say Qm) {w : mW}  (p0 : Int32) (p1 : Int32) (p2 : Int32) (p3 : Int32) (p4 : Int32) (p5 : Int32)
    (K : mMi E MX9_everybody [.ref 60] w (fun v1 u1 =>
    (mMi E MX9_in [.int p0, .int (1 : Int32), .int v1] u1 (fun v2 u2 =>
    ((¬ v2 = 0 →
    (mMi E MX9_barred [.ref 60, .int p1, .int p2, .int p3, .int p4, .int p5] u2 (fun v3 u3 =>
    ((0 ≤ v3 →
    (mMv E MX9_layTold [.ref 60, .int p1, .int p2, .int p3, .int p4, .int p5] u3 (fun u4 =>
    (mMi E MX9_isSo [.ref 60, .ref 66, .int p0] u4 (fun v4 u5 =>
    ((¬ v4 = 0 →
    (mMv E MX9_note [.ref 60] u5 (fun u6 =>
    (mMv E MX9_copy [.ref 66, .int (0 : Int32), .ref 67, .int (0 : Int32)] u6 (fun u7 =>
    (mMv E MX9_hearAll [.ref 60, .ref 66, .int p0] u7 (fun u8 =>
    (mMi E MX9_changed [.ref 60, .ref 66, .ref 67] u8 (fun v5 u9 =>
    (Qm (some (.int v5)) u9)))))))))) ∧ (v4 = 0 →
    (Qm (some (.int (-4 : Int32))) u5)))))))) ∧ (¬ 0 ≤ v3 →
    (Qm (some (.int v3)) u3)))))) ∧ (v2 = 0 →
    (Qm (some (.int (-3 : Int32))) u2))))))) :
    mG X E MX9_say 0 [.ref 60, .int p0, .int p1, .int p2, .int p3, .int p4, .int p5, .retAddr 0] [] w := by
  refine mG_iload_n C dX9_say_0 rfl rfl ?_
  refine mG_iconst C dX9_say_1 ic1 ?_
  refine mG_aload_n C dX9_say_2 rfl rfl ?_
  refine mG_Vi (Z := MX9_everybody) (as := []) (rest := [.int (1 : Int32), .int p0]) C dX9_say_3 lk_1074 zX9_everybody ⟨Nat.le_of_ble_eq_true rfl, Nat.le_of_ble_eq_true rfl⟩ sh60 rfl rfl (Nat.le_of_ble_eq_true rfl) rfl K (fun v1 u1 K => ?_)
  refine mG_Si (Z := MX9_in) (as := [.int p0, .int (1 : Int32), .int v1]) (rest := []) C dX9_say_6 lk_956 zX9_in ⟨Nat.le_of_ble_eq_true rfl, Nat.le_of_ble_eq_true rfl⟩ rfl (Nat.le_of_ble_eq_true rfl) rfl K (fun v2 u2 K => ?_)
  refine mG_if_ne (tgt := 15) C dX9_say_9 rfl (fun h => ?_) (fun h => ?_)
  · have K := K.1 h
    refine mG_aload_n C dX9_say_15 rfl rfl ?_
    refine mG_iload_n C dX9_say_16 rfl rfl ?_
    refine mG_iload_n C dX9_say_17 rfl rfl ?_
    refine mG_iload C dX9_say_18 rfl ?_
    refine mG_iload C dX9_say_20 rfl ?_
    refine mG_iload C dX9_say_22 rfl ?_
    refine mG_Vi (Z := MX9_barred) (as := [.int p1, .int p2, .int p3, .int p4, .int p5]) (rest := []) C dX9_say_24 lk_1062 zX9_barred ⟨Nat.le_of_ble_eq_true rfl, Nat.le_of_ble_eq_true rfl⟩ sh60 rfl rfl (Nat.le_of_ble_eq_true rfl) rfl K (fun v3 u3 K => ?_)
    refine mG_istore (lv' := [.ref 60, .int p0, .int p1, .int p2, .int p3, .int p4, .int p5, .int v3]) C dX9_say_27 (by decide) rfl ?_
    refine mG_iload C dX9_say_29 rfl ?_
    refine mG_if_ge (tgt := 37) C dX9_say_31 rfl (fun h => ?_) (fun h => ?_)
    · have K := K.1 h
      refine mG_aload_n C dX9_say_37 rfl rfl ?_
      refine mG_iload_n C dX9_say_38 rfl rfl ?_
      refine mG_iload_n C dX9_say_39 rfl rfl ?_
      refine mG_iload C dX9_say_40 rfl ?_
      refine mG_iload C dX9_say_42 rfl ?_
      refine mG_iload C dX9_say_44 rfl ?_
      refine mG_Vv (Z := MX9_layTold) (as := [.int p1, .int p2, .int p3, .int p4, .int p5]) (rest := []) C dX9_say_46 lk_1066 zX9_layTold ⟨Nat.le_of_ble_eq_true rfl, Nat.le_of_ble_eq_true rfl⟩ sh60 rfl rfl (Nat.le_of_ble_eq_true rfl) rfl K (fun u4 K => ?_)
      refine mG_aload_n C dX9_say_49 rfl rfl ?_
      refine mG_aload_n C dX9_say_50 rfl rfl ?_
      refine mG_getR C dX9_say_51 fl_852 sh60 rfl ?_
      refine mG_iload_n C dX9_say_54 rfl rfl ?_
      refine mG_Vi (Z := MX9_isSo) (as := [.ref 66, .int p0]) (rest := []) C dX9_say_55 lk_1078 zX9_isSo ⟨Nat.le_of_ble_eq_true rfl, Nat.le_of_ble_eq_true rfl⟩ sh60 rfl rfl (Nat.le_of_ble_eq_true rfl) rfl K (fun v4 u5 K => ?_)
      refine mG_if_ne (tgt := 64) C dX9_say_58 rfl (fun h => ?_) (fun h => ?_)
      · have K := K.1 h
        refine mG_aload_n C dX9_say_64 rfl rfl ?_
        refine mG_Vv (Z := MX9_note) (as := []) (rest := []) C dX9_say_65 lk_1107 zX9_note ⟨Nat.le_of_ble_eq_true rfl, Nat.le_of_ble_eq_true rfl⟩ sh60 rfl rfl (Nat.le_of_ble_eq_true rfl) rfl K (fun u6 K => ?_)
        refine mG_aload_n C dX9_say_68 rfl rfl ?_
        refine mG_getR C dX9_say_69 fl_852 sh60 rfl ?_
        refine mG_iconst C dX9_say_72 ic0 ?_
        refine mG_aload_n C dX9_say_73 rfl rfl ?_
        refine mG_getR C dX9_say_74 fl_853 sh60 rfl ?_
        refine mG_iconst C dX9_say_77 ic0 ?_
        refine mG_Sv (Z := MX9_copy) (as := [.ref 66, .int (0 : Int32), .ref 67, .int (0 : Int32)]) (rest := []) C dX9_say_78 lk_1082 zX9_copy ⟨Nat.le_of_ble_eq_true rfl, Nat.le_of_ble_eq_true rfl⟩ rfl (Nat.le_of_ble_eq_true rfl) rfl K (fun u7 K => ?_)
        refine mG_aload_n C dX9_say_81 rfl rfl ?_
        refine mG_aload_n C dX9_say_82 rfl rfl ?_
        refine mG_getR C dX9_say_83 fl_852 sh60 rfl ?_
        refine mG_iload_n C dX9_say_86 rfl rfl ?_
        refine mG_Vv (Z := MX9_hearAll) (as := [.ref 66, .int p0]) (rest := []) C dX9_say_87 lk_1085 zX9_hearAll ⟨Nat.le_of_ble_eq_true rfl, Nat.le_of_ble_eq_true rfl⟩ sh60 rfl rfl (Nat.le_of_ble_eq_true rfl) rfl K (fun u8 K => ?_)
        refine mG_aload_n C dX9_say_90 rfl rfl ?_
        refine mG_aload_n C dX9_say_91 rfl rfl ?_
        refine mG_getR C dX9_say_92 fl_852 sh60 rfl ?_
        refine mG_aload_n C dX9_say_95 rfl rfl ?_
        refine mG_getR C dX9_say_96 fl_853 sh60 rfl ?_
        refine mG_Vi (Z := MX9_changed) (as := [.ref 66, .ref 67]) (rest := []) C dX9_say_99 lk_1111 zX9_changed ⟨Nat.le_of_ble_eq_true rfl, Nat.le_of_ble_eq_true rfl⟩ sh60 rfl rfl (Nat.le_of_ble_eq_true rfl) rfl K (fun v5 u9 K => ?_)
        exact mG_iret C F dX9_say_102 rfl rfl K
      · have K := K.2 h
        refine mG_bipush C dX9_say_61 bpm4 ?_
        exact mG_iret C F dX9_say_63 rfl rfl K
    · have K := K.2 h
      refine mG_iload C dX9_say_34 rfl ?_
      exact mG_iret C F dX9_say_36 rfl rfl K
  · have K := K.2 h
    refine mG_bipush C dX9_say_12 bpm3 ?_
    exact mG_iret C F dX9_say_14 rfl rfl K

set_option maxRecDepth 20000 in
set_option maxHeartbeats 4000000 in
theorem vX9_sayingAs_0 {X : mX} {E : mEnv} {Qm : Option Value → mW → Prop} (C : mCtx X E MX9_sayingAs) (F : mFin X E MX9_sayingAs Qm) {w : mW}  (p0 : Int32) (p1 : Int32)
    (K : mMi E MX9_in [.int p0, .int (0 : Int32), .int (4 : Int32)] w (fun v1 u1 =>
    ((v1 = 0 →
    (Qm (some (.int (-3 : Int32))) u1)) ∧ (¬ v1 = 0 →
    (mMi E MX9_in [.int p1, .int (0 : Int32), .int (6 : Int32)] u1 (fun v2 u2 =>
    ((¬ v2 = 0 →
    ((p0 = 0 →
    ((p1 = (0 : Int32) →
    (Qm (some (.int (1 : Int32))) u2)) ∧ (¬ p1 = (0 : Int32) →
    ((p1 = (1 : Int32) →
    (Qm (some (.int (1 : Int32))) u2)) ∧ (¬ p1 = (1 : Int32) →
    ((p1 = (2 : Int32) →
    ((¬ p0 = (4 : Int32) →
    (Qm (some (.int (-4 : Int32))) u2)) ∧ (p0 = (4 : Int32) →
    (Qm (some (.int (1 : Int32))) u2)))) ∧ (¬ p1 = (2 : Int32) →
    ((p1 = (3 : Int32) →
    (Qm (some (.int (-4 : Int32))) u2)) ∧ (¬ p1 = (3 : Int32) →
    ((p1 = (4 : Int32) →
    ((¬ p0 = (1 : Int32) →
    (Qm (some (.int (-4 : Int32))) u2)) ∧ (p0 = (1 : Int32) →
    (Qm (some (.int (1 : Int32))) u2)))) ∧ (¬ p1 = (4 : Int32) →
    ((p1 = (5 : Int32) →
    ((p0 = (2 : Int32) →
    (Qm (some (.int (1 : Int32))) u2)) ∧ (¬ p0 = (2 : Int32) →
    ((¬ p0 = (3 : Int32) →
    (Qm (some (.int (-4 : Int32))) u2)) ∧ (p0 = (3 : Int32) →
    (Qm (some (.int (1 : Int32))) u2)))))) ∧ (¬ p1 = (5 : Int32) →
    ((¬ p0 = (3 : Int32) →
    (Qm (some (.int (-4 : Int32))) u2)) ∧ (p0 = (3 : Int32) →
    (Qm (some (.int (1 : Int32))) u2)))))))))))))))) ∧ (¬ p0 = 0 →
    ((¬ p0 = (4 : Int32) →
    ((p1 = (0 : Int32) →
    (Qm (some (.int (2 : Int32))) u2)) ∧ (¬ p1 = (0 : Int32) →
    ((p1 = (1 : Int32) →
    (Qm (some (.int (-4 : Int32))) u2)) ∧ (¬ p1 = (1 : Int32) →
    ((p1 = (2 : Int32) →
    ((¬ p0 = (4 : Int32) →
    (Qm (some (.int (-4 : Int32))) u2)) ∧ (p0 = (4 : Int32) →
    (Qm (some (.int (2 : Int32))) u2)))) ∧ (¬ p1 = (2 : Int32) →
    ((p1 = (3 : Int32) →
    (Qm (some (.int (2 : Int32))) u2)) ∧ (¬ p1 = (3 : Int32) →
    ((p1 = (4 : Int32) →
    ((¬ p0 = (1 : Int32) →
    (Qm (some (.int (-4 : Int32))) u2)) ∧ (p0 = (1 : Int32) →
    (Qm (some (.int (2 : Int32))) u2)))) ∧ (¬ p1 = (4 : Int32) →
    ((p1 = (5 : Int32) →
    ((p0 = (2 : Int32) →
    (Qm (some (.int (2 : Int32))) u2)) ∧ (¬ p0 = (2 : Int32) →
    ((¬ p0 = (3 : Int32) →
    (Qm (some (.int (-4 : Int32))) u2)) ∧ (p0 = (3 : Int32) →
    (Qm (some (.int (2 : Int32))) u2)))))) ∧ (¬ p1 = (5 : Int32) →
    ((¬ p0 = (3 : Int32) →
    (Qm (some (.int (-4 : Int32))) u2)) ∧ (p0 = (3 : Int32) →
    (Qm (some (.int (2 : Int32))) u2)))))))))))))))) ∧ (p0 = (4 : Int32) →
    ((p1 = (0 : Int32) →
    (Qm (some (.int (1 : Int32))) u2)) ∧ (¬ p1 = (0 : Int32) →
    ((p1 = (1 : Int32) →
    (Qm (some (.int (1 : Int32))) u2)) ∧ (¬ p1 = (1 : Int32) →
    ((p1 = (2 : Int32) →
    ((¬ p0 = (4 : Int32) →
    (Qm (some (.int (-4 : Int32))) u2)) ∧ (p0 = (4 : Int32) →
    (Qm (some (.int (1 : Int32))) u2)))) ∧ (¬ p1 = (2 : Int32) →
    ((p1 = (3 : Int32) →
    (Qm (some (.int (-4 : Int32))) u2)) ∧ (¬ p1 = (3 : Int32) →
    ((p1 = (4 : Int32) →
    ((¬ p0 = (1 : Int32) →
    (Qm (some (.int (-4 : Int32))) u2)) ∧ (p0 = (1 : Int32) →
    (Qm (some (.int (1 : Int32))) u2)))) ∧ (¬ p1 = (4 : Int32) →
    ((p1 = (5 : Int32) →
    ((p0 = (2 : Int32) →
    (Qm (some (.int (1 : Int32))) u2)) ∧ (¬ p0 = (2 : Int32) →
    ((¬ p0 = (3 : Int32) →
    (Qm (some (.int (-4 : Int32))) u2)) ∧ (p0 = (3 : Int32) →
    (Qm (some (.int (1 : Int32))) u2)))))) ∧ (¬ p1 = (5 : Int32) →
    ((¬ p0 = (3 : Int32) →
    (Qm (some (.int (-4 : Int32))) u2)) ∧ (p0 = (3 : Int32) →
    (Qm (some (.int (1 : Int32))) u2)))))))))))))))))))) ∧ (v2 = 0 →
    (Qm (some (.int (-3 : Int32))) u2))))))))) :
    mG X E MX9_sayingAs 0 [.ref 60, .int p0, .int p1, .retAddr 0, .retAddr 0] [] w := by
  refine mG_iload_n C dX9_sayingAs_0 rfl rfl ?_
  refine mG_iconst C dX9_sayingAs_1 ic0 ?_
  refine mG_iconst C dX9_sayingAs_2 ic4 ?_
  refine mG_Si (Z := MX9_in) (as := [.int p0, .int (0 : Int32), .int (4 : Int32)]) (rest := []) C dX9_sayingAs_3 lk_956 zX9_in ⟨Nat.le_of_ble_eq_true rfl, Nat.le_of_ble_eq_true rfl⟩ rfl (Nat.le_of_ble_eq_true rfl) rfl K (fun v1 u1 K => ?_)
  refine mG_if_eq (tgt := 19) C dX9_sayingAs_6 rfl (fun h => ?_) (fun h => ?_)
  · have K := K.1 h
    refine mG_bipush C dX9_sayingAs_19 bpm3 ?_
    exact mG_iret C F dX9_sayingAs_21 rfl rfl K
  · have K := K.2 h
    refine mG_iload_n C dX9_sayingAs_9 rfl rfl ?_
    refine mG_iconst C dX9_sayingAs_10 ic0 ?_
    refine mG_bipush C dX9_sayingAs_11 bp6 ?_
    refine mG_Si (Z := MX9_in) (as := [.int p1, .int (0 : Int32), .int (6 : Int32)]) (rest := []) C dX9_sayingAs_13 lk_956 zX9_in ⟨Nat.le_of_ble_eq_true rfl, Nat.le_of_ble_eq_true rfl⟩ rfl (Nat.le_of_ble_eq_true rfl) rfl K (fun v2 u2 K => ?_)
    refine mG_if_ne (tgt := 22) C dX9_sayingAs_16 rfl (fun h => ?_) (fun h => ?_)
    · have K := K.1 h
      refine mG_iload_n C dX9_sayingAs_22 rfl rfl ?_
      refine mG_if_eq (tgt := 31) C dX9_sayingAs_23 rfl (fun h => ?_) (fun h => ?_)
      · have K := K.1 h
        refine mG_iconst C dX9_sayingAs_31 ic1 ?_
        refine mG_goto (tgt := 36) C dX9_sayingAs_32 rfl ?_
        refine mG_istore_n (lv' := [.ref 60, .int p0, .int p1, .int (1 : Int32), .retAddr 0]) C dX9_sayingAs_36 rfl (by decide) rfl ?_
        refine mG_iconst C dX9_sayingAs_37 ic0 ?_
        refine mG_istore (lv' := [.ref 60, .int p0, .int p1, .int (1 : Int32), .int (0 : Int32)]) C dX9_sayingAs_38 (by decide) rfl ?_
        refine mG_iload_n C dX9_sayingAs_40 rfl rfl ?_
        by_cases g0 : p1 = (0 : Int32)
        · have K := K.1 g0
          refine mG_tableEq (off := 39) (tgt := 80) C dX9_sayingAs_41 g0 (by decide) (by decide) rfl rfl ?_
          refine mG_iconst C dX9_sayingAs_80 ic1 ?_
          refine mG_istore (lv' := [.ref 60, .int p0, .int p1, .int (1 : Int32), .int (1 : Int32)]) C dX9_sayingAs_81 (by decide) rfl ?_
          refine mG_goto (tgt := 168) C dX9_sayingAs_83 rfl ?_
          refine mG_iload C dX9_sayingAs_168 rfl ?_
          refine mG_if_ne (tgt := 178) C dX9_sayingAs_170 rfl (fun _ => ?_) (fun h => absurd h (by decide))
          refine mG_iload_n C dX9_sayingAs_178 rfl rfl ?_
          refine mG_if_eq (tgt := 186) C dX9_sayingAs_179 rfl (fun h => absurd h (by decide)) (fun _ => ?_)
          refine mG_iconst C dX9_sayingAs_182 ic1 ?_
          refine mG_goto (tgt := 187) C dX9_sayingAs_183 rfl ?_
          exact mG_iret C F dX9_sayingAs_187 rfl rfl K
        · have K := K.2 g0
          by_cases g1 : p1 = (1 : Int32)
          · have K := K.1 g1
            refine mG_tableEq (off := 45) (tgt := 86) C dX9_sayingAs_41 g1 (by decide) (by decide) rfl rfl ?_
            refine mG_iload_n C dX9_sayingAs_86 rfl rfl ?_
            refine mG_istore (lv' := [.ref 60, .int p0, .int p1, .int (1 : Int32), .int (1 : Int32)]) C dX9_sayingAs_87 (by decide) rfl ?_
            refine mG_goto (tgt := 168) C dX9_sayingAs_89 rfl ?_
            refine mG_iload C dX9_sayingAs_168 rfl ?_
            refine mG_if_ne (tgt := 178) C dX9_sayingAs_170 rfl (fun _ => ?_) (fun h => absurd h (by decide))
            refine mG_iload_n C dX9_sayingAs_178 rfl rfl ?_
            refine mG_if_eq (tgt := 186) C dX9_sayingAs_179 rfl (fun h => absurd h (by decide)) (fun _ => ?_)
            refine mG_iconst C dX9_sayingAs_182 ic1 ?_
            refine mG_goto (tgt := 187) C dX9_sayingAs_183 rfl ?_
            exact mG_iret C F dX9_sayingAs_187 rfl rfl K
          · have K := K.2 g1
            by_cases g2 : p1 = (2 : Int32)
            · have K := K.1 g2
              refine mG_tableEq (off := 51) (tgt := 92) C dX9_sayingAs_41 g2 (by decide) (by decide) rfl rfl ?_
              refine mG_iload_n C dX9_sayingAs_92 rfl rfl ?_
              refine mG_iconst C dX9_sayingAs_93 ic4 ?_
              refine mG_icmp_ne (tgt := 101) C dX9_sayingAs_94 rfl (fun h => ?_) (fun h => ?_)
              · have K := K.1 h
                refine mG_iconst C dX9_sayingAs_101 ic0 ?_
                refine mG_istore (lv' := [.ref 60, .int p0, .int p1, .int (1 : Int32), .int (0 : Int32)]) C dX9_sayingAs_102 (by decide) rfl ?_
                refine mG_goto (tgt := 168) C dX9_sayingAs_104 rfl ?_
                refine mG_iload C dX9_sayingAs_168 rfl ?_
                refine mG_if_ne (tgt := 178) C dX9_sayingAs_170 rfl (fun h => absurd h (by decide)) (fun _ => ?_)
                refine mG_bipush C dX9_sayingAs_173 bpm4 ?_
                refine mG_goto (tgt := 187) C dX9_sayingAs_175 rfl ?_
                exact mG_iret C F dX9_sayingAs_187 rfl rfl K
              · have K := K.2 h
                refine mG_iconst C dX9_sayingAs_97 ic1 ?_
                refine mG_goto (tgt := 102) C dX9_sayingAs_98 rfl ?_
                refine mG_istore (lv' := [.ref 60, .int p0, .int p1, .int (1 : Int32), .int (1 : Int32)]) C dX9_sayingAs_102 (by decide) rfl ?_
                refine mG_goto (tgt := 168) C dX9_sayingAs_104 rfl ?_
                refine mG_iload C dX9_sayingAs_168 rfl ?_
                refine mG_if_ne (tgt := 178) C dX9_sayingAs_170 rfl (fun _ => ?_) (fun h => absurd h (by decide))
                refine mG_iload_n C dX9_sayingAs_178 rfl rfl ?_
                refine mG_if_eq (tgt := 186) C dX9_sayingAs_179 rfl (fun h => absurd h (by decide)) (fun _ => ?_)
                refine mG_iconst C dX9_sayingAs_182 ic1 ?_
                refine mG_goto (tgt := 187) C dX9_sayingAs_183 rfl ?_
                exact mG_iret C F dX9_sayingAs_187 rfl rfl K
            · have K := K.2 g2
              by_cases g3 : p1 = (3 : Int32)
              · have K := K.1 g3
                refine mG_tableEq (off := 66) (tgt := 107) C dX9_sayingAs_41 g3 (by decide) (by decide) rfl rfl ?_
                refine mG_iload_n C dX9_sayingAs_107 rfl rfl ?_
                refine mG_if_ne (tgt := 115) C dX9_sayingAs_108 rfl (fun _ => ?_) (fun h => absurd h (by decide))
                refine mG_iconst C dX9_sayingAs_115 ic0 ?_
                refine mG_istore (lv' := [.ref 60, .int p0, .int p1, .int (1 : Int32), .int (0 : Int32)]) C dX9_sayingAs_116 (by decide) rfl ?_
                refine mG_goto (tgt := 168) C dX9_sayingAs_118 rfl ?_
                refine mG_iload C dX9_sayingAs_168 rfl ?_
                refine mG_if_ne (tgt := 178) C dX9_sayingAs_170 rfl (fun h => absurd h (by decide)) (fun _ => ?_)
                refine mG_bipush C dX9_sayingAs_173 bpm4 ?_
                refine mG_goto (tgt := 187) C dX9_sayingAs_175 rfl ?_
                exact mG_iret C F dX9_sayingAs_187 rfl rfl K
              · have K := K.2 g3
                by_cases g4 : p1 = (4 : Int32)
                · have K := K.1 g4
                  refine mG_tableEq (off := 80) (tgt := 121) C dX9_sayingAs_41 g4 (by decide) (by decide) rfl rfl ?_
                  refine mG_iload_n C dX9_sayingAs_121 rfl rfl ?_
                  refine mG_iconst C dX9_sayingAs_122 ic1 ?_
                  refine mG_icmp_ne (tgt := 130) C dX9_sayingAs_123 rfl (fun h => ?_) (fun h => ?_)
                  · have K := K.1 h
                    refine mG_iconst C dX9_sayingAs_130 ic0 ?_
                    refine mG_istore (lv' := [.ref 60, .int p0, .int p1, .int (1 : Int32), .int (0 : Int32)]) C dX9_sayingAs_131 (by decide) rfl ?_
                    refine mG_goto (tgt := 168) C dX9_sayingAs_133 rfl ?_
                    refine mG_iload C dX9_sayingAs_168 rfl ?_
                    refine mG_if_ne (tgt := 178) C dX9_sayingAs_170 rfl (fun h => absurd h (by decide)) (fun _ => ?_)
                    refine mG_bipush C dX9_sayingAs_173 bpm4 ?_
                    refine mG_goto (tgt := 187) C dX9_sayingAs_175 rfl ?_
                    exact mG_iret C F dX9_sayingAs_187 rfl rfl K
                  · have K := K.2 h
                    refine mG_iconst C dX9_sayingAs_126 ic1 ?_
                    refine mG_goto (tgt := 131) C dX9_sayingAs_127 rfl ?_
                    refine mG_istore (lv' := [.ref 60, .int p0, .int p1, .int (1 : Int32), .int (1 : Int32)]) C dX9_sayingAs_131 (by decide) rfl ?_
                    refine mG_goto (tgt := 168) C dX9_sayingAs_133 rfl ?_
                    refine mG_iload C dX9_sayingAs_168 rfl ?_
                    refine mG_if_ne (tgt := 178) C dX9_sayingAs_170 rfl (fun _ => ?_) (fun h => absurd h (by decide))
                    refine mG_iload_n C dX9_sayingAs_178 rfl rfl ?_
                    refine mG_if_eq (tgt := 186) C dX9_sayingAs_179 rfl (fun h => absurd h (by decide)) (fun _ => ?_)
                    refine mG_iconst C dX9_sayingAs_182 ic1 ?_
                    refine mG_goto (tgt := 187) C dX9_sayingAs_183 rfl ?_
                    exact mG_iret C F dX9_sayingAs_187 rfl rfl K
                · have K := K.2 g4
                  by_cases g5 : p1 = (5 : Int32)
                  · have K := K.1 g5
                    refine mG_tableEq (off := 95) (tgt := 136) C dX9_sayingAs_41 g5 (by decide) (by decide) rfl rfl ?_
                    refine mG_iload_n C dX9_sayingAs_136 rfl rfl ?_
                    refine mG_iconst C dX9_sayingAs_137 ic2 ?_
                    refine mG_icmp_eq (tgt := 146) C dX9_sayingAs_138 rfl (fun h => ?_) (fun h => ?_)
                    · have K := K.1 h
                      refine mG_iconst C dX9_sayingAs_146 ic1 ?_
                      refine mG_goto (tgt := 151) C dX9_sayingAs_147 rfl ?_
                      refine mG_istore (lv' := [.ref 60, .int p0, .int p1, .int (1 : Int32), .int (1 : Int32)]) C dX9_sayingAs_151 (by decide) rfl ?_
                      refine mG_goto (tgt := 168) C dX9_sayingAs_153 rfl ?_
                      refine mG_iload C dX9_sayingAs_168 rfl ?_
                      refine mG_if_ne (tgt := 178) C dX9_sayingAs_170 rfl (fun _ => ?_) (fun h => absurd h (by decide))
                      refine mG_iload_n C dX9_sayingAs_178 rfl rfl ?_
                      refine mG_if_eq (tgt := 186) C dX9_sayingAs_179 rfl (fun h => absurd h (by decide)) (fun _ => ?_)
                      refine mG_iconst C dX9_sayingAs_182 ic1 ?_
                      refine mG_goto (tgt := 187) C dX9_sayingAs_183 rfl ?_
                      exact mG_iret C F dX9_sayingAs_187 rfl rfl K
                    · have K := K.2 h
                      refine mG_iload_n C dX9_sayingAs_141 rfl rfl ?_
                      refine mG_iconst C dX9_sayingAs_142 ic3 ?_
                      refine mG_icmp_ne (tgt := 150) C dX9_sayingAs_143 rfl (fun h => ?_) (fun h => ?_)
                      · have K := K.1 h
                        refine mG_iconst C dX9_sayingAs_150 ic0 ?_
                        refine mG_istore (lv' := [.ref 60, .int p0, .int p1, .int (1 : Int32), .int (0 : Int32)]) C dX9_sayingAs_151 (by decide) rfl ?_
                        refine mG_goto (tgt := 168) C dX9_sayingAs_153 rfl ?_
                        refine mG_iload C dX9_sayingAs_168 rfl ?_
                        refine mG_if_ne (tgt := 178) C dX9_sayingAs_170 rfl (fun h => absurd h (by decide)) (fun _ => ?_)
                        refine mG_bipush C dX9_sayingAs_173 bpm4 ?_
                        refine mG_goto (tgt := 187) C dX9_sayingAs_175 rfl ?_
                        exact mG_iret C F dX9_sayingAs_187 rfl rfl K
                      · have K := K.2 h
                        refine mG_iconst C dX9_sayingAs_146 ic1 ?_
                        refine mG_goto (tgt := 151) C dX9_sayingAs_147 rfl ?_
                        refine mG_istore (lv' := [.ref 60, .int p0, .int p1, .int (1 : Int32), .int (1 : Int32)]) C dX9_sayingAs_151 (by decide) rfl ?_
                        refine mG_goto (tgt := 168) C dX9_sayingAs_153 rfl ?_
                        refine mG_iload C dX9_sayingAs_168 rfl ?_
                        refine mG_if_ne (tgt := 178) C dX9_sayingAs_170 rfl (fun _ => ?_) (fun h => absurd h (by decide))
                        refine mG_iload_n C dX9_sayingAs_178 rfl rfl ?_
                        refine mG_if_eq (tgt := 186) C dX9_sayingAs_179 rfl (fun h => absurd h (by decide)) (fun _ => ?_)
                        refine mG_iconst C dX9_sayingAs_182 ic1 ?_
                        refine mG_goto (tgt := 187) C dX9_sayingAs_183 rfl ?_
                        exact mG_iret C F dX9_sayingAs_187 rfl rfl K
                  · have K := K.2 g5
                    have e0 := lv_neT g0 (show (0 : Int32).toInt = 0 by decide)
                    have e1 := lv_neT g1 (show (1 : Int32).toInt = 1 by decide)
                    have e2 := lv_neT g2 (show (2 : Int32).toInt = 2 by decide)
                    have e3 := lv_neT g3 (show (3 : Int32).toInt = 3 by decide)
                    have e4 := lv_neT g4 (show (4 : Int32).toInt = 4 by decide)
                    have e5 := lv_neT g5 (show (5 : Int32).toInt = 5 by decide)
                    refine mG_tableOut (tgt := 156) C dX9_sayingAs_41 (by omega) rfl ?_
                    refine mG_iload_n C dX9_sayingAs_156 rfl rfl ?_
                    refine mG_iconst C dX9_sayingAs_157 ic3 ?_
                    refine mG_icmp_ne (tgt := 165) C dX9_sayingAs_158 rfl (fun h => ?_) (fun h => ?_)
                    · have K := K.1 h
                      refine mG_iconst C dX9_sayingAs_165 ic0 ?_
                      refine mG_istore (lv' := [.ref 60, .int p0, .int p1, .int (1 : Int32), .int (0 : Int32)]) C dX9_sayingAs_166 (by decide) rfl ?_
                      refine mG_iload C dX9_sayingAs_168 rfl ?_
                      refine mG_if_ne (tgt := 178) C dX9_sayingAs_170 rfl (fun h => absurd h (by decide)) (fun _ => ?_)
                      refine mG_bipush C dX9_sayingAs_173 bpm4 ?_
                      refine mG_goto (tgt := 187) C dX9_sayingAs_175 rfl ?_
                      exact mG_iret C F dX9_sayingAs_187 rfl rfl K
                    · have K := K.2 h
                      refine mG_iconst C dX9_sayingAs_161 ic1 ?_
                      refine mG_goto (tgt := 166) C dX9_sayingAs_162 rfl ?_
                      refine mG_istore (lv' := [.ref 60, .int p0, .int p1, .int (1 : Int32), .int (1 : Int32)]) C dX9_sayingAs_166 (by decide) rfl ?_
                      refine mG_iload C dX9_sayingAs_168 rfl ?_
                      refine mG_if_ne (tgt := 178) C dX9_sayingAs_170 rfl (fun _ => ?_) (fun h => absurd h (by decide))
                      refine mG_iload_n C dX9_sayingAs_178 rfl rfl ?_
                      refine mG_if_eq (tgt := 186) C dX9_sayingAs_179 rfl (fun h => absurd h (by decide)) (fun _ => ?_)
                      refine mG_iconst C dX9_sayingAs_182 ic1 ?_
                      refine mG_goto (tgt := 187) C dX9_sayingAs_183 rfl ?_
                      exact mG_iret C F dX9_sayingAs_187 rfl rfl K
      · have K := K.2 h
        refine mG_iload_n C dX9_sayingAs_26 rfl rfl ?_
        refine mG_iconst C dX9_sayingAs_27 ic4 ?_
        refine mG_icmp_ne (tgt := 35) C dX9_sayingAs_28 rfl (fun h => ?_) (fun h => ?_)
        · have K := K.1 h
          refine mG_iconst C dX9_sayingAs_35 ic0 ?_
          refine mG_istore_n (lv' := [.ref 60, .int p0, .int p1, .int (0 : Int32), .retAddr 0]) C dX9_sayingAs_36 rfl (by decide) rfl ?_
          refine mG_iconst C dX9_sayingAs_37 ic0 ?_
          refine mG_istore (lv' := [.ref 60, .int p0, .int p1, .int (0 : Int32), .int (0 : Int32)]) C dX9_sayingAs_38 (by decide) rfl ?_
          refine mG_iload_n C dX9_sayingAs_40 rfl rfl ?_
          by_cases g0 : p1 = (0 : Int32)
          · have K := K.1 g0
            refine mG_tableEq (off := 39) (tgt := 80) C dX9_sayingAs_41 g0 (by decide) (by decide) rfl rfl ?_
            refine mG_iconst C dX9_sayingAs_80 ic1 ?_
            refine mG_istore (lv' := [.ref 60, .int p0, .int p1, .int (0 : Int32), .int (1 : Int32)]) C dX9_sayingAs_81 (by decide) rfl ?_
            refine mG_goto (tgt := 168) C dX9_sayingAs_83 rfl ?_
            refine mG_iload C dX9_sayingAs_168 rfl ?_
            refine mG_if_ne (tgt := 178) C dX9_sayingAs_170 rfl (fun _ => ?_) (fun h => absurd h (by decide))
            refine mG_iload_n C dX9_sayingAs_178 rfl rfl ?_
            refine mG_if_eq (tgt := 186) C dX9_sayingAs_179 rfl (fun _ => ?_) (fun h => absurd h (by decide))
            refine mG_iconst C dX9_sayingAs_186 ic2 ?_
            exact mG_iret C F dX9_sayingAs_187 rfl rfl K
          · have K := K.2 g0
            by_cases g1 : p1 = (1 : Int32)
            · have K := K.1 g1
              refine mG_tableEq (off := 45) (tgt := 86) C dX9_sayingAs_41 g1 (by decide) (by decide) rfl rfl ?_
              refine mG_iload_n C dX9_sayingAs_86 rfl rfl ?_
              refine mG_istore (lv' := [.ref 60, .int p0, .int p1, .int (0 : Int32), .int (0 : Int32)]) C dX9_sayingAs_87 (by decide) rfl ?_
              refine mG_goto (tgt := 168) C dX9_sayingAs_89 rfl ?_
              refine mG_iload C dX9_sayingAs_168 rfl ?_
              refine mG_if_ne (tgt := 178) C dX9_sayingAs_170 rfl (fun h => absurd h (by decide)) (fun _ => ?_)
              refine mG_bipush C dX9_sayingAs_173 bpm4 ?_
              refine mG_goto (tgt := 187) C dX9_sayingAs_175 rfl ?_
              exact mG_iret C F dX9_sayingAs_187 rfl rfl K
            · have K := K.2 g1
              by_cases g2 : p1 = (2 : Int32)
              · have K := K.1 g2
                refine mG_tableEq (off := 51) (tgt := 92) C dX9_sayingAs_41 g2 (by decide) (by decide) rfl rfl ?_
                refine mG_iload_n C dX9_sayingAs_92 rfl rfl ?_
                refine mG_iconst C dX9_sayingAs_93 ic4 ?_
                refine mG_icmp_ne (tgt := 101) C dX9_sayingAs_94 rfl (fun h => ?_) (fun h => ?_)
                · have K := K.1 h
                  refine mG_iconst C dX9_sayingAs_101 ic0 ?_
                  refine mG_istore (lv' := [.ref 60, .int p0, .int p1, .int (0 : Int32), .int (0 : Int32)]) C dX9_sayingAs_102 (by decide) rfl ?_
                  refine mG_goto (tgt := 168) C dX9_sayingAs_104 rfl ?_
                  refine mG_iload C dX9_sayingAs_168 rfl ?_
                  refine mG_if_ne (tgt := 178) C dX9_sayingAs_170 rfl (fun h => absurd h (by decide)) (fun _ => ?_)
                  refine mG_bipush C dX9_sayingAs_173 bpm4 ?_
                  refine mG_goto (tgt := 187) C dX9_sayingAs_175 rfl ?_
                  exact mG_iret C F dX9_sayingAs_187 rfl rfl K
                · have K := K.2 h
                  refine mG_iconst C dX9_sayingAs_97 ic1 ?_
                  refine mG_goto (tgt := 102) C dX9_sayingAs_98 rfl ?_
                  refine mG_istore (lv' := [.ref 60, .int p0, .int p1, .int (0 : Int32), .int (1 : Int32)]) C dX9_sayingAs_102 (by decide) rfl ?_
                  refine mG_goto (tgt := 168) C dX9_sayingAs_104 rfl ?_
                  refine mG_iload C dX9_sayingAs_168 rfl ?_
                  refine mG_if_ne (tgt := 178) C dX9_sayingAs_170 rfl (fun _ => ?_) (fun h => absurd h (by decide))
                  refine mG_iload_n C dX9_sayingAs_178 rfl rfl ?_
                  refine mG_if_eq (tgt := 186) C dX9_sayingAs_179 rfl (fun _ => ?_) (fun h => absurd h (by decide))
                  refine mG_iconst C dX9_sayingAs_186 ic2 ?_
                  exact mG_iret C F dX9_sayingAs_187 rfl rfl K
              · have K := K.2 g2
                by_cases g3 : p1 = (3 : Int32)
                · have K := K.1 g3
                  refine mG_tableEq (off := 66) (tgt := 107) C dX9_sayingAs_41 g3 (by decide) (by decide) rfl rfl ?_
                  refine mG_iload_n C dX9_sayingAs_107 rfl rfl ?_
                  refine mG_if_ne (tgt := 115) C dX9_sayingAs_108 rfl (fun h => absurd h (by decide)) (fun _ => ?_)
                  refine mG_iconst C dX9_sayingAs_111 ic1 ?_
                  refine mG_goto (tgt := 116) C dX9_sayingAs_112 rfl ?_
                  refine mG_istore (lv' := [.ref 60, .int p0, .int p1, .int (0 : Int32), .int (1 : Int32)]) C dX9_sayingAs_116 (by decide) rfl ?_
                  refine mG_goto (tgt := 168) C dX9_sayingAs_118 rfl ?_
                  refine mG_iload C dX9_sayingAs_168 rfl ?_
                  refine mG_if_ne (tgt := 178) C dX9_sayingAs_170 rfl (fun _ => ?_) (fun h => absurd h (by decide))
                  refine mG_iload_n C dX9_sayingAs_178 rfl rfl ?_
                  refine mG_if_eq (tgt := 186) C dX9_sayingAs_179 rfl (fun _ => ?_) (fun h => absurd h (by decide))
                  refine mG_iconst C dX9_sayingAs_186 ic2 ?_
                  exact mG_iret C F dX9_sayingAs_187 rfl rfl K
                · have K := K.2 g3
                  by_cases g4 : p1 = (4 : Int32)
                  · have K := K.1 g4
                    refine mG_tableEq (off := 80) (tgt := 121) C dX9_sayingAs_41 g4 (by decide) (by decide) rfl rfl ?_
                    refine mG_iload_n C dX9_sayingAs_121 rfl rfl ?_
                    refine mG_iconst C dX9_sayingAs_122 ic1 ?_
                    refine mG_icmp_ne (tgt := 130) C dX9_sayingAs_123 rfl (fun h => ?_) (fun h => ?_)
                    · have K := K.1 h
                      refine mG_iconst C dX9_sayingAs_130 ic0 ?_
                      refine mG_istore (lv' := [.ref 60, .int p0, .int p1, .int (0 : Int32), .int (0 : Int32)]) C dX9_sayingAs_131 (by decide) rfl ?_
                      refine mG_goto (tgt := 168) C dX9_sayingAs_133 rfl ?_
                      refine mG_iload C dX9_sayingAs_168 rfl ?_
                      refine mG_if_ne (tgt := 178) C dX9_sayingAs_170 rfl (fun h => absurd h (by decide)) (fun _ => ?_)
                      refine mG_bipush C dX9_sayingAs_173 bpm4 ?_
                      refine mG_goto (tgt := 187) C dX9_sayingAs_175 rfl ?_
                      exact mG_iret C F dX9_sayingAs_187 rfl rfl K
                    · have K := K.2 h
                      refine mG_iconst C dX9_sayingAs_126 ic1 ?_
                      refine mG_goto (tgt := 131) C dX9_sayingAs_127 rfl ?_
                      refine mG_istore (lv' := [.ref 60, .int p0, .int p1, .int (0 : Int32), .int (1 : Int32)]) C dX9_sayingAs_131 (by decide) rfl ?_
                      refine mG_goto (tgt := 168) C dX9_sayingAs_133 rfl ?_
                      refine mG_iload C dX9_sayingAs_168 rfl ?_
                      refine mG_if_ne (tgt := 178) C dX9_sayingAs_170 rfl (fun _ => ?_) (fun h => absurd h (by decide))
                      refine mG_iload_n C dX9_sayingAs_178 rfl rfl ?_
                      refine mG_if_eq (tgt := 186) C dX9_sayingAs_179 rfl (fun _ => ?_) (fun h => absurd h (by decide))
                      refine mG_iconst C dX9_sayingAs_186 ic2 ?_
                      exact mG_iret C F dX9_sayingAs_187 rfl rfl K
                  · have K := K.2 g4
                    by_cases g5 : p1 = (5 : Int32)
                    · have K := K.1 g5
                      refine mG_tableEq (off := 95) (tgt := 136) C dX9_sayingAs_41 g5 (by decide) (by decide) rfl rfl ?_
                      refine mG_iload_n C dX9_sayingAs_136 rfl rfl ?_
                      refine mG_iconst C dX9_sayingAs_137 ic2 ?_
                      refine mG_icmp_eq (tgt := 146) C dX9_sayingAs_138 rfl (fun h => ?_) (fun h => ?_)
                      · have K := K.1 h
                        refine mG_iconst C dX9_sayingAs_146 ic1 ?_
                        refine mG_goto (tgt := 151) C dX9_sayingAs_147 rfl ?_
                        refine mG_istore (lv' := [.ref 60, .int p0, .int p1, .int (0 : Int32), .int (1 : Int32)]) C dX9_sayingAs_151 (by decide) rfl ?_
                        refine mG_goto (tgt := 168) C dX9_sayingAs_153 rfl ?_
                        refine mG_iload C dX9_sayingAs_168 rfl ?_
                        refine mG_if_ne (tgt := 178) C dX9_sayingAs_170 rfl (fun _ => ?_) (fun h => absurd h (by decide))
                        refine mG_iload_n C dX9_sayingAs_178 rfl rfl ?_
                        refine mG_if_eq (tgt := 186) C dX9_sayingAs_179 rfl (fun _ => ?_) (fun h => absurd h (by decide))
                        refine mG_iconst C dX9_sayingAs_186 ic2 ?_
                        exact mG_iret C F dX9_sayingAs_187 rfl rfl K
                      · have K := K.2 h
                        refine mG_iload_n C dX9_sayingAs_141 rfl rfl ?_
                        refine mG_iconst C dX9_sayingAs_142 ic3 ?_
                        refine mG_icmp_ne (tgt := 150) C dX9_sayingAs_143 rfl (fun h => ?_) (fun h => ?_)
                        · have K := K.1 h
                          refine mG_iconst C dX9_sayingAs_150 ic0 ?_
                          refine mG_istore (lv' := [.ref 60, .int p0, .int p1, .int (0 : Int32), .int (0 : Int32)]) C dX9_sayingAs_151 (by decide) rfl ?_
                          refine mG_goto (tgt := 168) C dX9_sayingAs_153 rfl ?_
                          refine mG_iload C dX9_sayingAs_168 rfl ?_
                          refine mG_if_ne (tgt := 178) C dX9_sayingAs_170 rfl (fun h => absurd h (by decide)) (fun _ => ?_)
                          refine mG_bipush C dX9_sayingAs_173 bpm4 ?_
                          refine mG_goto (tgt := 187) C dX9_sayingAs_175 rfl ?_
                          exact mG_iret C F dX9_sayingAs_187 rfl rfl K
                        · have K := K.2 h
                          refine mG_iconst C dX9_sayingAs_146 ic1 ?_
                          refine mG_goto (tgt := 151) C dX9_sayingAs_147 rfl ?_
                          refine mG_istore (lv' := [.ref 60, .int p0, .int p1, .int (0 : Int32), .int (1 : Int32)]) C dX9_sayingAs_151 (by decide) rfl ?_
                          refine mG_goto (tgt := 168) C dX9_sayingAs_153 rfl ?_
                          refine mG_iload C dX9_sayingAs_168 rfl ?_
                          refine mG_if_ne (tgt := 178) C dX9_sayingAs_170 rfl (fun _ => ?_) (fun h => absurd h (by decide))
                          refine mG_iload_n C dX9_sayingAs_178 rfl rfl ?_
                          refine mG_if_eq (tgt := 186) C dX9_sayingAs_179 rfl (fun _ => ?_) (fun h => absurd h (by decide))
                          refine mG_iconst C dX9_sayingAs_186 ic2 ?_
                          exact mG_iret C F dX9_sayingAs_187 rfl rfl K
                    · have K := K.2 g5
                      have e0 := lv_neT g0 (show (0 : Int32).toInt = 0 by decide)
                      have e1 := lv_neT g1 (show (1 : Int32).toInt = 1 by decide)
                      have e2 := lv_neT g2 (show (2 : Int32).toInt = 2 by decide)
                      have e3 := lv_neT g3 (show (3 : Int32).toInt = 3 by decide)
                      have e4 := lv_neT g4 (show (4 : Int32).toInt = 4 by decide)
                      have e5 := lv_neT g5 (show (5 : Int32).toInt = 5 by decide)
                      refine mG_tableOut (tgt := 156) C dX9_sayingAs_41 (by omega) rfl ?_
                      refine mG_iload_n C dX9_sayingAs_156 rfl rfl ?_
                      refine mG_iconst C dX9_sayingAs_157 ic3 ?_
                      refine mG_icmp_ne (tgt := 165) C dX9_sayingAs_158 rfl (fun h => ?_) (fun h => ?_)
                      · have K := K.1 h
                        refine mG_iconst C dX9_sayingAs_165 ic0 ?_
                        refine mG_istore (lv' := [.ref 60, .int p0, .int p1, .int (0 : Int32), .int (0 : Int32)]) C dX9_sayingAs_166 (by decide) rfl ?_
                        refine mG_iload C dX9_sayingAs_168 rfl ?_
                        refine mG_if_ne (tgt := 178) C dX9_sayingAs_170 rfl (fun h => absurd h (by decide)) (fun _ => ?_)
                        refine mG_bipush C dX9_sayingAs_173 bpm4 ?_
                        refine mG_goto (tgt := 187) C dX9_sayingAs_175 rfl ?_
                        exact mG_iret C F dX9_sayingAs_187 rfl rfl K
                      · have K := K.2 h
                        refine mG_iconst C dX9_sayingAs_161 ic1 ?_
                        refine mG_goto (tgt := 166) C dX9_sayingAs_162 rfl ?_
                        refine mG_istore (lv' := [.ref 60, .int p0, .int p1, .int (0 : Int32), .int (1 : Int32)]) C dX9_sayingAs_166 (by decide) rfl ?_
                        refine mG_iload C dX9_sayingAs_168 rfl ?_
                        refine mG_if_ne (tgt := 178) C dX9_sayingAs_170 rfl (fun _ => ?_) (fun h => absurd h (by decide))
                        refine mG_iload_n C dX9_sayingAs_178 rfl rfl ?_
                        refine mG_if_eq (tgt := 186) C dX9_sayingAs_179 rfl (fun _ => ?_) (fun h => absurd h (by decide))
                        refine mG_iconst C dX9_sayingAs_186 ic2 ?_
                        exact mG_iret C F dX9_sayingAs_187 rfl rfl K
        · have K := K.2 h
          refine mG_iconst C dX9_sayingAs_31 ic1 ?_
          refine mG_goto (tgt := 36) C dX9_sayingAs_32 rfl ?_
          refine mG_istore_n (lv' := [.ref 60, .int p0, .int p1, .int (1 : Int32), .retAddr 0]) C dX9_sayingAs_36 rfl (by decide) rfl ?_
          refine mG_iconst C dX9_sayingAs_37 ic0 ?_
          refine mG_istore (lv' := [.ref 60, .int p0, .int p1, .int (1 : Int32), .int (0 : Int32)]) C dX9_sayingAs_38 (by decide) rfl ?_
          refine mG_iload_n C dX9_sayingAs_40 rfl rfl ?_
          by_cases g0 : p1 = (0 : Int32)
          · have K := K.1 g0
            refine mG_tableEq (off := 39) (tgt := 80) C dX9_sayingAs_41 g0 (by decide) (by decide) rfl rfl ?_
            refine mG_iconst C dX9_sayingAs_80 ic1 ?_
            refine mG_istore (lv' := [.ref 60, .int p0, .int p1, .int (1 : Int32), .int (1 : Int32)]) C dX9_sayingAs_81 (by decide) rfl ?_
            refine mG_goto (tgt := 168) C dX9_sayingAs_83 rfl ?_
            refine mG_iload C dX9_sayingAs_168 rfl ?_
            refine mG_if_ne (tgt := 178) C dX9_sayingAs_170 rfl (fun _ => ?_) (fun h => absurd h (by decide))
            refine mG_iload_n C dX9_sayingAs_178 rfl rfl ?_
            refine mG_if_eq (tgt := 186) C dX9_sayingAs_179 rfl (fun h => absurd h (by decide)) (fun _ => ?_)
            refine mG_iconst C dX9_sayingAs_182 ic1 ?_
            refine mG_goto (tgt := 187) C dX9_sayingAs_183 rfl ?_
            exact mG_iret C F dX9_sayingAs_187 rfl rfl K
          · have K := K.2 g0
            by_cases g1 : p1 = (1 : Int32)
            · have K := K.1 g1
              refine mG_tableEq (off := 45) (tgt := 86) C dX9_sayingAs_41 g1 (by decide) (by decide) rfl rfl ?_
              refine mG_iload_n C dX9_sayingAs_86 rfl rfl ?_
              refine mG_istore (lv' := [.ref 60, .int p0, .int p1, .int (1 : Int32), .int (1 : Int32)]) C dX9_sayingAs_87 (by decide) rfl ?_
              refine mG_goto (tgt := 168) C dX9_sayingAs_89 rfl ?_
              refine mG_iload C dX9_sayingAs_168 rfl ?_
              refine mG_if_ne (tgt := 178) C dX9_sayingAs_170 rfl (fun _ => ?_) (fun h => absurd h (by decide))
              refine mG_iload_n C dX9_sayingAs_178 rfl rfl ?_
              refine mG_if_eq (tgt := 186) C dX9_sayingAs_179 rfl (fun h => absurd h (by decide)) (fun _ => ?_)
              refine mG_iconst C dX9_sayingAs_182 ic1 ?_
              refine mG_goto (tgt := 187) C dX9_sayingAs_183 rfl ?_
              exact mG_iret C F dX9_sayingAs_187 rfl rfl K
            · have K := K.2 g1
              by_cases g2 : p1 = (2 : Int32)
              · have K := K.1 g2
                refine mG_tableEq (off := 51) (tgt := 92) C dX9_sayingAs_41 g2 (by decide) (by decide) rfl rfl ?_
                refine mG_iload_n C dX9_sayingAs_92 rfl rfl ?_
                refine mG_iconst C dX9_sayingAs_93 ic4 ?_
                refine mG_icmp_ne (tgt := 101) C dX9_sayingAs_94 rfl (fun h => ?_) (fun h => ?_)
                · have K := K.1 h
                  refine mG_iconst C dX9_sayingAs_101 ic0 ?_
                  refine mG_istore (lv' := [.ref 60, .int p0, .int p1, .int (1 : Int32), .int (0 : Int32)]) C dX9_sayingAs_102 (by decide) rfl ?_
                  refine mG_goto (tgt := 168) C dX9_sayingAs_104 rfl ?_
                  refine mG_iload C dX9_sayingAs_168 rfl ?_
                  refine mG_if_ne (tgt := 178) C dX9_sayingAs_170 rfl (fun h => absurd h (by decide)) (fun _ => ?_)
                  refine mG_bipush C dX9_sayingAs_173 bpm4 ?_
                  refine mG_goto (tgt := 187) C dX9_sayingAs_175 rfl ?_
                  exact mG_iret C F dX9_sayingAs_187 rfl rfl K
                · have K := K.2 h
                  refine mG_iconst C dX9_sayingAs_97 ic1 ?_
                  refine mG_goto (tgt := 102) C dX9_sayingAs_98 rfl ?_
                  refine mG_istore (lv' := [.ref 60, .int p0, .int p1, .int (1 : Int32), .int (1 : Int32)]) C dX9_sayingAs_102 (by decide) rfl ?_
                  refine mG_goto (tgt := 168) C dX9_sayingAs_104 rfl ?_
                  refine mG_iload C dX9_sayingAs_168 rfl ?_
                  refine mG_if_ne (tgt := 178) C dX9_sayingAs_170 rfl (fun _ => ?_) (fun h => absurd h (by decide))
                  refine mG_iload_n C dX9_sayingAs_178 rfl rfl ?_
                  refine mG_if_eq (tgt := 186) C dX9_sayingAs_179 rfl (fun h => absurd h (by decide)) (fun _ => ?_)
                  refine mG_iconst C dX9_sayingAs_182 ic1 ?_
                  refine mG_goto (tgt := 187) C dX9_sayingAs_183 rfl ?_
                  exact mG_iret C F dX9_sayingAs_187 rfl rfl K
              · have K := K.2 g2
                by_cases g3 : p1 = (3 : Int32)
                · have K := K.1 g3
                  refine mG_tableEq (off := 66) (tgt := 107) C dX9_sayingAs_41 g3 (by decide) (by decide) rfl rfl ?_
                  refine mG_iload_n C dX9_sayingAs_107 rfl rfl ?_
                  refine mG_if_ne (tgt := 115) C dX9_sayingAs_108 rfl (fun _ => ?_) (fun h => absurd h (by decide))
                  refine mG_iconst C dX9_sayingAs_115 ic0 ?_
                  refine mG_istore (lv' := [.ref 60, .int p0, .int p1, .int (1 : Int32), .int (0 : Int32)]) C dX9_sayingAs_116 (by decide) rfl ?_
                  refine mG_goto (tgt := 168) C dX9_sayingAs_118 rfl ?_
                  refine mG_iload C dX9_sayingAs_168 rfl ?_
                  refine mG_if_ne (tgt := 178) C dX9_sayingAs_170 rfl (fun h => absurd h (by decide)) (fun _ => ?_)
                  refine mG_bipush C dX9_sayingAs_173 bpm4 ?_
                  refine mG_goto (tgt := 187) C dX9_sayingAs_175 rfl ?_
                  exact mG_iret C F dX9_sayingAs_187 rfl rfl K
                · have K := K.2 g3
                  by_cases g4 : p1 = (4 : Int32)
                  · have K := K.1 g4
                    refine mG_tableEq (off := 80) (tgt := 121) C dX9_sayingAs_41 g4 (by decide) (by decide) rfl rfl ?_
                    refine mG_iload_n C dX9_sayingAs_121 rfl rfl ?_
                    refine mG_iconst C dX9_sayingAs_122 ic1 ?_
                    refine mG_icmp_ne (tgt := 130) C dX9_sayingAs_123 rfl (fun h => ?_) (fun h => ?_)
                    · have K := K.1 h
                      refine mG_iconst C dX9_sayingAs_130 ic0 ?_
                      refine mG_istore (lv' := [.ref 60, .int p0, .int p1, .int (1 : Int32), .int (0 : Int32)]) C dX9_sayingAs_131 (by decide) rfl ?_
                      refine mG_goto (tgt := 168) C dX9_sayingAs_133 rfl ?_
                      refine mG_iload C dX9_sayingAs_168 rfl ?_
                      refine mG_if_ne (tgt := 178) C dX9_sayingAs_170 rfl (fun h => absurd h (by decide)) (fun _ => ?_)
                      refine mG_bipush C dX9_sayingAs_173 bpm4 ?_
                      refine mG_goto (tgt := 187) C dX9_sayingAs_175 rfl ?_
                      exact mG_iret C F dX9_sayingAs_187 rfl rfl K
                    · have K := K.2 h
                      refine mG_iconst C dX9_sayingAs_126 ic1 ?_
                      refine mG_goto (tgt := 131) C dX9_sayingAs_127 rfl ?_
                      refine mG_istore (lv' := [.ref 60, .int p0, .int p1, .int (1 : Int32), .int (1 : Int32)]) C dX9_sayingAs_131 (by decide) rfl ?_
                      refine mG_goto (tgt := 168) C dX9_sayingAs_133 rfl ?_
                      refine mG_iload C dX9_sayingAs_168 rfl ?_
                      refine mG_if_ne (tgt := 178) C dX9_sayingAs_170 rfl (fun _ => ?_) (fun h => absurd h (by decide))
                      refine mG_iload_n C dX9_sayingAs_178 rfl rfl ?_
                      refine mG_if_eq (tgt := 186) C dX9_sayingAs_179 rfl (fun h => absurd h (by decide)) (fun _ => ?_)
                      refine mG_iconst C dX9_sayingAs_182 ic1 ?_
                      refine mG_goto (tgt := 187) C dX9_sayingAs_183 rfl ?_
                      exact mG_iret C F dX9_sayingAs_187 rfl rfl K
                  · have K := K.2 g4
                    by_cases g5 : p1 = (5 : Int32)
                    · have K := K.1 g5
                      refine mG_tableEq (off := 95) (tgt := 136) C dX9_sayingAs_41 g5 (by decide) (by decide) rfl rfl ?_
                      refine mG_iload_n C dX9_sayingAs_136 rfl rfl ?_
                      refine mG_iconst C dX9_sayingAs_137 ic2 ?_
                      refine mG_icmp_eq (tgt := 146) C dX9_sayingAs_138 rfl (fun h => ?_) (fun h => ?_)
                      · have K := K.1 h
                        refine mG_iconst C dX9_sayingAs_146 ic1 ?_
                        refine mG_goto (tgt := 151) C dX9_sayingAs_147 rfl ?_
                        refine mG_istore (lv' := [.ref 60, .int p0, .int p1, .int (1 : Int32), .int (1 : Int32)]) C dX9_sayingAs_151 (by decide) rfl ?_
                        refine mG_goto (tgt := 168) C dX9_sayingAs_153 rfl ?_
                        refine mG_iload C dX9_sayingAs_168 rfl ?_
                        refine mG_if_ne (tgt := 178) C dX9_sayingAs_170 rfl (fun _ => ?_) (fun h => absurd h (by decide))
                        refine mG_iload_n C dX9_sayingAs_178 rfl rfl ?_
                        refine mG_if_eq (tgt := 186) C dX9_sayingAs_179 rfl (fun h => absurd h (by decide)) (fun _ => ?_)
                        refine mG_iconst C dX9_sayingAs_182 ic1 ?_
                        refine mG_goto (tgt := 187) C dX9_sayingAs_183 rfl ?_
                        exact mG_iret C F dX9_sayingAs_187 rfl rfl K
                      · have K := K.2 h
                        refine mG_iload_n C dX9_sayingAs_141 rfl rfl ?_
                        refine mG_iconst C dX9_sayingAs_142 ic3 ?_
                        refine mG_icmp_ne (tgt := 150) C dX9_sayingAs_143 rfl (fun h => ?_) (fun h => ?_)
                        · have K := K.1 h
                          refine mG_iconst C dX9_sayingAs_150 ic0 ?_
                          refine mG_istore (lv' := [.ref 60, .int p0, .int p1, .int (1 : Int32), .int (0 : Int32)]) C dX9_sayingAs_151 (by decide) rfl ?_
                          refine mG_goto (tgt := 168) C dX9_sayingAs_153 rfl ?_
                          refine mG_iload C dX9_sayingAs_168 rfl ?_
                          refine mG_if_ne (tgt := 178) C dX9_sayingAs_170 rfl (fun h => absurd h (by decide)) (fun _ => ?_)
                          refine mG_bipush C dX9_sayingAs_173 bpm4 ?_
                          refine mG_goto (tgt := 187) C dX9_sayingAs_175 rfl ?_
                          exact mG_iret C F dX9_sayingAs_187 rfl rfl K
                        · have K := K.2 h
                          refine mG_iconst C dX9_sayingAs_146 ic1 ?_
                          refine mG_goto (tgt := 151) C dX9_sayingAs_147 rfl ?_
                          refine mG_istore (lv' := [.ref 60, .int p0, .int p1, .int (1 : Int32), .int (1 : Int32)]) C dX9_sayingAs_151 (by decide) rfl ?_
                          refine mG_goto (tgt := 168) C dX9_sayingAs_153 rfl ?_
                          refine mG_iload C dX9_sayingAs_168 rfl ?_
                          refine mG_if_ne (tgt := 178) C dX9_sayingAs_170 rfl (fun _ => ?_) (fun h => absurd h (by decide))
                          refine mG_iload_n C dX9_sayingAs_178 rfl rfl ?_
                          refine mG_if_eq (tgt := 186) C dX9_sayingAs_179 rfl (fun h => absurd h (by decide)) (fun _ => ?_)
                          refine mG_iconst C dX9_sayingAs_182 ic1 ?_
                          refine mG_goto (tgt := 187) C dX9_sayingAs_183 rfl ?_
                          exact mG_iret C F dX9_sayingAs_187 rfl rfl K
                    · have K := K.2 g5
                      have e0 := lv_neT g0 (show (0 : Int32).toInt = 0 by decide)
                      have e1 := lv_neT g1 (show (1 : Int32).toInt = 1 by decide)
                      have e2 := lv_neT g2 (show (2 : Int32).toInt = 2 by decide)
                      have e3 := lv_neT g3 (show (3 : Int32).toInt = 3 by decide)
                      have e4 := lv_neT g4 (show (4 : Int32).toInt = 4 by decide)
                      have e5 := lv_neT g5 (show (5 : Int32).toInt = 5 by decide)
                      refine mG_tableOut (tgt := 156) C dX9_sayingAs_41 (by omega) rfl ?_
                      refine mG_iload_n C dX9_sayingAs_156 rfl rfl ?_
                      refine mG_iconst C dX9_sayingAs_157 ic3 ?_
                      refine mG_icmp_ne (tgt := 165) C dX9_sayingAs_158 rfl (fun h => ?_) (fun h => ?_)
                      · have K := K.1 h
                        refine mG_iconst C dX9_sayingAs_165 ic0 ?_
                        refine mG_istore (lv' := [.ref 60, .int p0, .int p1, .int (1 : Int32), .int (0 : Int32)]) C dX9_sayingAs_166 (by decide) rfl ?_
                        refine mG_iload C dX9_sayingAs_168 rfl ?_
                        refine mG_if_ne (tgt := 178) C dX9_sayingAs_170 rfl (fun h => absurd h (by decide)) (fun _ => ?_)
                        refine mG_bipush C dX9_sayingAs_173 bpm4 ?_
                        refine mG_goto (tgt := 187) C dX9_sayingAs_175 rfl ?_
                        exact mG_iret C F dX9_sayingAs_187 rfl rfl K
                      · have K := K.2 h
                        refine mG_iconst C dX9_sayingAs_161 ic1 ?_
                        refine mG_goto (tgt := 166) C dX9_sayingAs_162 rfl ?_
                        refine mG_istore (lv' := [.ref 60, .int p0, .int p1, .int (1 : Int32), .int (1 : Int32)]) C dX9_sayingAs_166 (by decide) rfl ?_
                        refine mG_iload C dX9_sayingAs_168 rfl ?_
                        refine mG_if_ne (tgt := 178) C dX9_sayingAs_170 rfl (fun _ => ?_) (fun h => absurd h (by decide))
                        refine mG_iload_n C dX9_sayingAs_178 rfl rfl ?_
                        refine mG_if_eq (tgt := 186) C dX9_sayingAs_179 rfl (fun h => absurd h (by decide)) (fun _ => ?_)
                        refine mG_iconst C dX9_sayingAs_182 ic1 ?_
                        refine mG_goto (tgt := 187) C dX9_sayingAs_183 rfl ?_
                        exact mG_iret C F dX9_sayingAs_187 rfl rfl K
    · have K := K.2 h
      refine mG_bipush C dX9_sayingAs_19 bpm3 ?_
      exact mG_iret C F dX9_sayingAs_21 rfl rfl K

set_option maxRecDepth 20000 in
set_option maxHeartbeats 4000000 in
theorem vX9_sieges_0 {X : mX} {E : mEnv} {Qm : Option Value → mW → Prop} (C : mCtx X E MX9_sieges) (F : mFin X E MX9_sieges Qm) {w : mW}  (p0 : Int32) (p1 : Int32) (p2 : Int32)
    (K : mMi E MX9_in [.int p0, .int (0 : Int32), .int (9999 : Int32)] w (fun v1 u1 =>
    ((v1 = 0 →
    (Qm (some (.int (-3 : Int32))) u1)) ∧ (¬ v1 = 0 →
    (mMi E MX9_in [.int p1, .int (0 : Int32), .int (9 : Int32)] u1 (fun v2 u2 =>
    ((v2 = 0 →
    (Qm (some (.int (-3 : Int32))) u2)) ∧ (¬ v2 = 0 →
    (mMi E MX9_in [.int p2, .int (0 : Int32), .int (2 : Int32)] u2 (fun v3 u3 =>
    ((¬ v3 = 0 →
    ((¬ (u3.1 60 0) = 0 →
    (mG X E MX9_sieges 49 [.ref 60, .int p0, .int p1, .int p2, .int (0 : Int32), .int (0 : Int32), .retAddr 0, .retAddr 0, .retAddr 0] [] u3)) ∧ ((u3.1 60 0) = 0 →
    (Qm (some (.int (-4 : Int32))) u3)))) ∧ (v3 = 0 →
    (Qm (some (.int (-3 : Int32))) u3))))))))))))) :
    mG X E MX9_sieges 0 [.ref 60, .int p0, .int p1, .int p2, .retAddr 0, .retAddr 0, .retAddr 0, .retAddr 0, .retAddr 0] [] w := by
  refine mG_iload_n C dX9_sieges_0 rfl rfl ?_
  refine mG_iconst C dX9_sieges_1 ic0 ?_
  refine mG_sipush C dX9_sieges_2 sp9999 ?_
  refine mG_Si (Z := MX9_in) (as := [.int p0, .int (0 : Int32), .int (9999 : Int32)]) (rest := []) C dX9_sieges_5 lk_956 zX9_in ⟨Nat.le_of_ble_eq_true rfl, Nat.le_of_ble_eq_true rfl⟩ rfl (Nat.le_of_ble_eq_true rfl) rfl K (fun v1 u1 K => ?_)
  refine mG_if_eq (tgt := 30) C dX9_sieges_8 rfl (fun h => ?_) (fun h => ?_)
  · have K := K.1 h
    refine mG_bipush C dX9_sieges_30 bpm3 ?_
    exact mG_iret C F dX9_sieges_32 rfl rfl K
  · have K := K.2 h
    refine mG_iload_n C dX9_sieges_11 rfl rfl ?_
    refine mG_iconst C dX9_sieges_12 ic0 ?_
    refine mG_bipush C dX9_sieges_13 bp9 ?_
    refine mG_Si (Z := MX9_in) (as := [.int p1, .int (0 : Int32), .int (9 : Int32)]) (rest := []) C dX9_sieges_15 lk_956 zX9_in ⟨Nat.le_of_ble_eq_true rfl, Nat.le_of_ble_eq_true rfl⟩ rfl (Nat.le_of_ble_eq_true rfl) rfl K (fun v2 u2 K => ?_)
    refine mG_if_eq (tgt := 30) C dX9_sieges_18 rfl (fun h => ?_) (fun h => ?_)
    · have K := K.1 h
      refine mG_bipush C dX9_sieges_30 bpm3 ?_
      exact mG_iret C F dX9_sieges_32 rfl rfl K
    · have K := K.2 h
      refine mG_iload_n C dX9_sieges_21 rfl rfl ?_
      refine mG_iconst C dX9_sieges_22 ic0 ?_
      refine mG_iconst C dX9_sieges_23 ic2 ?_
      refine mG_Si (Z := MX9_in) (as := [.int p2, .int (0 : Int32), .int (2 : Int32)]) (rest := []) C dX9_sieges_24 lk_956 zX9_in ⟨Nat.le_of_ble_eq_true rfl, Nat.le_of_ble_eq_true rfl⟩ rfl (Nat.le_of_ble_eq_true rfl) rfl K (fun v3 u3 K => ?_)
      refine mG_if_ne (tgt := 33) C dX9_sieges_27 rfl (fun h => ?_) (fun h => ?_)
      · have K := K.1 h
        refine mG_aload_n C dX9_sieges_33 rfl rfl ?_
        refine mG_getI C dX9_sieges_34 fl_833 sh60 rfl ?_
        refine mG_if_ne (tgt := 43) C dX9_sieges_37 rfl (fun h => ?_) (fun h => ?_)
        · have K := K.1 h
          refine mG_iconst C dX9_sieges_43 ic0 ?_
          refine mG_istore (lv' := [.ref 60, .int p0, .int p1, .int p2, .int (0 : Int32), .retAddr 0, .retAddr 0, .retAddr 0, .retAddr 0]) C dX9_sieges_44 (by decide) rfl ?_
          refine mG_iconst C dX9_sieges_46 ic0 ?_
          refine mG_istore (lv' := [.ref 60, .int p0, .int p1, .int p2, .int (0 : Int32), .int (0 : Int32), .retAddr 0, .retAddr 0, .retAddr 0]) C dX9_sieges_47 (by decide) rfl ?_
          exact K
        · have K := K.2 h
          refine mG_bipush C dX9_sieges_40 bpm4 ?_
          exact mG_iret C F dX9_sieges_42 rfl rfl K
      · have K := K.2 h
        refine mG_bipush C dX9_sieges_30 bpm3 ?_
        exact mG_iret C F dX9_sieges_32 rfl rfl K

set_option maxRecDepth 20000 in
set_option maxHeartbeats 4000000 in
theorem vX9_sieges_49 {X : mX} {E : mEnv} {Qm : Option Value → mW → Prop} (C : mCtx X E MX9_sieges) (F : mFin X E MX9_sieges Qm) {w : mW}  (x1 : Int32) (x2 : Int32) (x3 : Int32) (x4 : Int32) (x5 : Int32)
    (K : (x2 ≤ x5 →
    (Qm (some (.int x4)) w)) ∧ (¬ x2 ≤ x5 →
    (mMi E MX9_isSaved [.ref 60, .int (((((((7919 : Int64) * ((x1).toInt64)) + ((6151 : Int64) * ((x5).toInt64))) + (1 : Int64)) * ((((7919 : Int64) * ((x1).toInt64)) + ((6151 : Int64) * ((x5).toInt64))) + (1 : Int64))) - (((((7919 : Int64) * ((x1).toInt64)) + ((6151 : Int64) * ((x5).toInt64))) + (1 : Int64)) * ((((7919 : Int64) * ((x1).toInt64)) + ((6151 : Int64) * ((x5).toInt64))) + (1 : Int64))) / (65521 : Int64) * (65521 : Int64)).toInt32), .int x3] w (fun v1 u1 =>
    ((v1 = 0 →
    (mG X E MX9_sieges 49 [.ref 60, .int x1, .int x2, .int x3, .int (x4 + (0 : Int32)), .int (x5 + (1 : Int32)), .retAddr 0, .retAddr 0, .retAddr 0] [] u1)) ∧ (¬ v1 = 0 →
    (mG X E MX9_sieges 49 [.ref 60, .int x1, .int x2, .int x3, .int (x4 + (1 : Int32)), .int (x5 + (1 : Int32)), .retAddr 0, .retAddr 0, .retAddr 0] [] u1))))))) :
    mG X E MX9_sieges 49 [.ref 60, .int x1, .int x2, .int x3, .int x4, .int x5, .retAddr 0, .retAddr 0, .retAddr 0] [] w := by
  refine mG_iload C dX9_sieges_49 rfl ?_
  refine mG_iload_n C dX9_sieges_51 rfl rfl ?_
  refine mG_icmp_ge (tgt := 111) C dX9_sieges_52 rfl (fun h => ?_) (fun h => ?_)
  · have K := K.1 h
    refine mG_iload C dX9_sieges_111 rfl ?_
    exact mG_iret C F dX9_sieges_113 rfl rfl K
  · have K := K.2 h
    refine mG_ldc2 C dX9_sieges_55 kl_1212 ?_
    refine mG_iload_n C dX9_sieges_58 rfl rfl ?_
    refine mG_i2l C dX9_sieges_59 ?_
    refine mG_lmul C dX9_sieges_60 ?_
    refine mG_ldc2 C dX9_sieges_61 kl_1213 ?_
    refine mG_iload C dX9_sieges_64 rfl ?_
    refine mG_i2l C dX9_sieges_66 ?_
    refine mG_lmul C dX9_sieges_67 ?_
    refine mG_ladd C dX9_sieges_68 ?_
    refine mG_lconst (v := 1) C dX9_sieges_69 (by decide) ?_
    refine mG_ladd C dX9_sieges_70 ?_
    refine mG_lstore (lv' := [.ref 60, .int x1, .int x2, .int x3, .int x4, .int x5, .long ((((7919 : Int64) * ((x1).toInt64)) + ((6151 : Int64) * ((x5).toInt64))) + (1 : Int64)), .retAddr 0, .retAddr 0]) C dX9_sieges_71 (by decide) rfl ?_
    refine mG_lload C dX9_sieges_73 rfl ?_
    refine mG_lload C dX9_sieges_75 rfl ?_
    refine mG_lmul C dX9_sieges_77 ?_
    refine mG_ldc2 C dX9_sieges_78 kl_1214 ?_
    refine mG_lrem C dX9_sieges_81 (by decide) ?_
    refine mG_l2i C dX9_sieges_82 ?_
    refine mG_istore (lv' := [.ref 60, .int x1, .int x2, .int x3, .int x4, .int x5, .long ((((7919 : Int64) * ((x1).toInt64)) + ((6151 : Int64) * ((x5).toInt64))) + (1 : Int64)), .retAddr 0, .int (((((((7919 : Int64) * ((x1).toInt64)) + ((6151 : Int64) * ((x5).toInt64))) + (1 : Int64)) * ((((7919 : Int64) * ((x1).toInt64)) + ((6151 : Int64) * ((x5).toInt64))) + (1 : Int64))) - (((((7919 : Int64) * ((x1).toInt64)) + ((6151 : Int64) * ((x5).toInt64))) + (1 : Int64)) * ((((7919 : Int64) * ((x1).toInt64)) + ((6151 : Int64) * ((x5).toInt64))) + (1 : Int64))) / (65521 : Int64) * (65521 : Int64)).toInt32)]) C dX9_sieges_83 (by decide) rfl ?_
    refine mG_iload C dX9_sieges_85 rfl ?_
    refine mG_aload_n C dX9_sieges_87 rfl rfl ?_
    refine mG_iload C dX9_sieges_88 rfl ?_
    refine mG_iload_n C dX9_sieges_90 rfl rfl ?_
    refine mG_Vi (Z := MX9_isSaved) (as := [.int (((((((7919 : Int64) * ((x1).toInt64)) + ((6151 : Int64) * ((x5).toInt64))) + (1 : Int64)) * ((((7919 : Int64) * ((x1).toInt64)) + ((6151 : Int64) * ((x5).toInt64))) + (1 : Int64))) - (((((7919 : Int64) * ((x1).toInt64)) + ((6151 : Int64) * ((x5).toInt64))) + (1 : Int64)) * ((((7919 : Int64) * ((x1).toInt64)) + ((6151 : Int64) * ((x5).toInt64))) + (1 : Int64))) / (65521 : Int64) * (65521 : Int64)).toInt32), .int x3]) (rest := [.int x4]) C dX9_sieges_91 lk_1215 zX9_isSaved ⟨Nat.le_of_ble_eq_true rfl, Nat.le_of_ble_eq_true rfl⟩ sh60 rfl rfl (Nat.le_of_ble_eq_true rfl) rfl K (fun v1 u1 K => ?_)
    refine mG_if_eq (tgt := 101) C dX9_sieges_94 rfl (fun h => ?_) (fun h => ?_)
    · have K := K.1 h
      refine mG_iconst C dX9_sieges_101 ic0 ?_
      refine mG_iadd C dX9_sieges_102 ?_
      refine mG_istore (lv' := [.ref 60, .int x1, .int x2, .int x3, .int (x4 + (0 : Int32)), .int x5, .long ((((7919 : Int64) * ((x1).toInt64)) + ((6151 : Int64) * ((x5).toInt64))) + (1 : Int64)), .retAddr 0, .int (((((((7919 : Int64) * ((x1).toInt64)) + ((6151 : Int64) * ((x5).toInt64))) + (1 : Int64)) * ((((7919 : Int64) * ((x1).toInt64)) + ((6151 : Int64) * ((x5).toInt64))) + (1 : Int64))) - (((((7919 : Int64) * ((x1).toInt64)) + ((6151 : Int64) * ((x5).toInt64))) + (1 : Int64)) * ((((7919 : Int64) * ((x1).toInt64)) + ((6151 : Int64) * ((x5).toInt64))) + (1 : Int64))) / (65521 : Int64) * (65521 : Int64)).toInt32)]) C dX9_sieges_103 (by decide) rfl ?_
      refine mG_iincc (lv' := [.ref 60, .int x1, .int x2, .int x3, .int (x4 + (0 : Int32)), .int (x5 + (1 : Int32)), .long ((((7919 : Int64) * ((x1).toInt64)) + ((6151 : Int64) * ((x5).toInt64))) + (1 : Int64)), .retAddr 0, .int (((((((7919 : Int64) * ((x1).toInt64)) + ((6151 : Int64) * ((x5).toInt64))) + (1 : Int64)) * ((((7919 : Int64) * ((x1).toInt64)) + ((6151 : Int64) * ((x5).toInt64))) + (1 : Int64))) - (((((7919 : Int64) * ((x1).toInt64)) + ((6151 : Int64) * ((x5).toInt64))) + (1 : Int64)) * ((((7919 : Int64) * ((x1).toInt64)) + ((6151 : Int64) * ((x5).toInt64))) + (1 : Int64))) / (65521 : Int64) * (65521 : Int64)).toInt32)]) C dX9_sieges_105 rfl ic1 (by decide) rfl ?_
      refine mG_goto (tgt := 49) C dX9_sieges_108 rfl ?_
      exact mG_holes [6, 8] rfl K
    · have K := K.2 h
      refine mG_iconst C dX9_sieges_97 ic1 ?_
      refine mG_goto (tgt := 102) C dX9_sieges_98 rfl ?_
      refine mG_iadd C dX9_sieges_102 ?_
      refine mG_istore (lv' := [.ref 60, .int x1, .int x2, .int x3, .int (x4 + (1 : Int32)), .int x5, .long ((((7919 : Int64) * ((x1).toInt64)) + ((6151 : Int64) * ((x5).toInt64))) + (1 : Int64)), .retAddr 0, .int (((((((7919 : Int64) * ((x1).toInt64)) + ((6151 : Int64) * ((x5).toInt64))) + (1 : Int64)) * ((((7919 : Int64) * ((x1).toInt64)) + ((6151 : Int64) * ((x5).toInt64))) + (1 : Int64))) - (((((7919 : Int64) * ((x1).toInt64)) + ((6151 : Int64) * ((x5).toInt64))) + (1 : Int64)) * ((((7919 : Int64) * ((x1).toInt64)) + ((6151 : Int64) * ((x5).toInt64))) + (1 : Int64))) / (65521 : Int64) * (65521 : Int64)).toInt32)]) C dX9_sieges_103 (by decide) rfl ?_
      refine mG_iincc (lv' := [.ref 60, .int x1, .int x2, .int x3, .int (x4 + (1 : Int32)), .int (x5 + (1 : Int32)), .long ((((7919 : Int64) * ((x1).toInt64)) + ((6151 : Int64) * ((x5).toInt64))) + (1 : Int64)), .retAddr 0, .int (((((((7919 : Int64) * ((x1).toInt64)) + ((6151 : Int64) * ((x5).toInt64))) + (1 : Int64)) * ((((7919 : Int64) * ((x1).toInt64)) + ((6151 : Int64) * ((x5).toInt64))) + (1 : Int64))) - (((((7919 : Int64) * ((x1).toInt64)) + ((6151 : Int64) * ((x5).toInt64))) + (1 : Int64)) * ((((7919 : Int64) * ((x1).toInt64)) + ((6151 : Int64) * ((x5).toInt64))) + (1 : Int64))) / (65521 : Int64) * (65521 : Int64)).toInt32)]) C dX9_sieges_105 rfl ic1 (by decide) rfl ?_
      refine mG_goto (tgt := 49) C dX9_sieges_108 rfl ?_
      exact mG_holes [6, 8] rfl K

set_option maxRecDepth 20000 in
set_option maxHeartbeats 4000000 in
theorem vX9_so_0 {X : mX} {E : mEnv} {Qm : Option Value → mW → Prop} (C : mCtx X E MX9_so) (F : mFin X E MX9_so Qm) {w : mW}  (p0 : Int32) (p1 : Int32) (p2 : Int32) (p3 : Int32) (p4 : Int32)
    (K : mMi E MX9_barred [.ref 60, .int p0, .int p1, .int p2, .int p3, .int p4] w (fun v1 u1 =>
    ((0 ≤ v1 →
    (mMv E MX9_layTold [.ref 60, .int p0, .int p1, .int p2, .int p3, .int p4] u1 (fun u2 =>
    (mMi E MX9_everybody [.ref 60] u2 (fun v2 u3 =>
    (mMi E MX9_isSo [.ref 60, .ref 66, .int v2] u3 (fun v3 u4 =>
    ((v3 = 0 →
    (Qm (some (.int (0 : Int32))) u4)) ∧ (¬ v3 = 0 →
    (Qm (some (.int (1 : Int32))) u4)))))))))) ∧ (¬ 0 ≤ v1 →
    (Qm (some (.int v1)) u1))))) :
    mG X E MX9_so 0 [.ref 60, .int p0, .int p1, .int p2, .int p3, .int p4, .retAddr 0] [] w := by
  refine mG_aload_n C dX9_so_0 rfl rfl ?_
  refine mG_iload_n C dX9_so_1 rfl rfl ?_
  refine mG_iload_n C dX9_so_2 rfl rfl ?_
  refine mG_iload_n C dX9_so_3 rfl rfl ?_
  refine mG_iload C dX9_so_4 rfl ?_
  refine mG_iload C dX9_so_6 rfl ?_
  refine mG_Vi (Z := MX9_barred) (as := [.int p0, .int p1, .int p2, .int p3, .int p4]) (rest := []) C dX9_so_8 lk_1062 zX9_barred ⟨Nat.le_of_ble_eq_true rfl, Nat.le_of_ble_eq_true rfl⟩ sh60 rfl rfl (Nat.le_of_ble_eq_true rfl) rfl K (fun v1 u1 K => ?_)
  refine mG_istore (lv' := [.ref 60, .int p0, .int p1, .int p2, .int p3, .int p4, .int v1]) C dX9_so_11 (by decide) rfl ?_
  refine mG_iload C dX9_so_13 rfl ?_
  refine mG_if_ge (tgt := 21) C dX9_so_15 rfl (fun h => ?_) (fun h => ?_)
  · have K := K.1 h
    refine mG_aload_n C dX9_so_21 rfl rfl ?_
    refine mG_iload_n C dX9_so_22 rfl rfl ?_
    refine mG_iload_n C dX9_so_23 rfl rfl ?_
    refine mG_iload_n C dX9_so_24 rfl rfl ?_
    refine mG_iload C dX9_so_25 rfl ?_
    refine mG_iload C dX9_so_27 rfl ?_
    refine mG_Vv (Z := MX9_layTold) (as := [.int p0, .int p1, .int p2, .int p3, .int p4]) (rest := []) C dX9_so_29 lk_1066 zX9_layTold ⟨Nat.le_of_ble_eq_true rfl, Nat.le_of_ble_eq_true rfl⟩ sh60 rfl rfl (Nat.le_of_ble_eq_true rfl) rfl K (fun u2 K => ?_)
    refine mG_aload_n C dX9_so_32 rfl rfl ?_
    refine mG_aload_n C dX9_so_33 rfl rfl ?_
    refine mG_getR C dX9_so_34 fl_852 sh60 rfl ?_
    refine mG_aload_n C dX9_so_37 rfl rfl ?_
    refine mG_Vi (Z := MX9_everybody) (as := []) (rest := [.ref 66, .ref 60]) C dX9_so_38 lk_1074 zX9_everybody ⟨Nat.le_of_ble_eq_true rfl, Nat.le_of_ble_eq_true rfl⟩ sh60 rfl rfl (Nat.le_of_ble_eq_true rfl) rfl K (fun v2 u3 K => ?_)
    refine mG_Vi (Z := MX9_isSo) (as := [.ref 66, .int v2]) (rest := []) C dX9_so_41 lk_1078 zX9_isSo ⟨Nat.le_of_ble_eq_true rfl, Nat.le_of_ble_eq_true rfl⟩ sh60 rfl rfl (Nat.le_of_ble_eq_true rfl) rfl K (fun v3 u4 K => ?_)
    refine mG_if_eq (tgt := 51) C dX9_so_44 rfl (fun h => ?_) (fun h => ?_)
    · have K := K.1 h
      refine mG_iconst C dX9_so_51 ic0 ?_
      exact mG_iret C F dX9_so_52 rfl rfl K
    · have K := K.2 h
      refine mG_iconst C dX9_so_47 ic1 ?_
      refine mG_goto (tgt := 52) C dX9_so_48 rfl ?_
      exact mG_iret C F dX9_so_52 rfl rfl K
  · have K := K.2 h
    refine mG_iload C dX9_so_18 rfl ?_
    exact mG_iret C F dX9_so_20 rfl rfl K

set_option maxRecDepth 20000 in
set_option maxHeartbeats 4000000 in
theorem vX9_sortOf_0 {X : mX} {E : mEnv} {Qm : Option Value → mW → Prop} (C : mCtx X E MX9_sortOf) (F : mFin X E MX9_sortOf Qm) {w : mW} 
    (K : (¬ (lg_cmp (w.2 60 10) (149125 : Int64)) = 0 →
    ((¬ (lg_cmp (w.2 60 10) (1489 : Int64)) = 0 →
    ((¬ (lg_cmp (w.2 60 10) (1776129921 : Int64)) = 0 →
    ((¬ (lg_cmp (w.2 60 10) (1758676 : Int64)) = 0 →
    ((¬ (lg_cmp (w.2 60 10) (165590316 : Int64)) = 0 →
    ((¬ (lg_cmp (w.2 60 10) (1965486658967694 : Int64)) = 0 →
    ((¬ (lg_cmp (w.2 60 10) (1629833 : Int64)) = 0 →
    ((¬ (lg_cmp (w.2 60 10) (66175 : Int64)) = 0 →
    ((¬ (lg_cmp (w.2 60 10) (10497936 : Int64)) = 0 →
    (Qm (some (.int (-1 : Int32))) w)) ∧ ((lg_cmp (w.2 60 10) (10497936 : Int64)) = 0 →
    (Qm (some (.int (8 : Int32))) w)))) ∧ ((lg_cmp (w.2 60 10) (66175 : Int64)) = 0 →
    (Qm (some (.int (7 : Int32))) w)))) ∧ ((lg_cmp (w.2 60 10) (1629833 : Int64)) = 0 →
    (Qm (some (.int (6 : Int32))) w)))) ∧ ((lg_cmp (w.2 60 10) (1965486658967694 : Int64)) = 0 →
    (Qm (some (.int (5 : Int32))) w)))) ∧ ((lg_cmp (w.2 60 10) (165590316 : Int64)) = 0 →
    ((¬ (lg_cmp (w.2 60 10) (1965486658967694 : Int64)) = 0 →
    ((¬ (lg_cmp (w.2 60 10) (1629833 : Int64)) = 0 →
    ((¬ (lg_cmp (w.2 60 10) (66175 : Int64)) = 0 →
    ((¬ (lg_cmp (w.2 60 10) (10497936 : Int64)) = 0 →
    (Qm (some (.int (4 : Int32))) w)) ∧ ((lg_cmp (w.2 60 10) (10497936 : Int64)) = 0 →
    (Qm (some (.int (4 : Int32))) w)))) ∧ ((lg_cmp (w.2 60 10) (66175 : Int64)) = 0 →
    (Qm (some (.int (4 : Int32))) w)))) ∧ ((lg_cmp (w.2 60 10) (1629833 : Int64)) = 0 →
    (Qm (some (.int (4 : Int32))) w)))) ∧ ((lg_cmp (w.2 60 10) (1965486658967694 : Int64)) = 0 →
    (Qm (some (.int (4 : Int32))) w)))))) ∧ ((lg_cmp (w.2 60 10) (1758676 : Int64)) = 0 →
    ((¬ (lg_cmp (w.2 60 10) (1965486658967694 : Int64)) = 0 →
    ((¬ (lg_cmp (w.2 60 10) (1629833 : Int64)) = 0 →
    ((¬ (lg_cmp (w.2 60 10) (66175 : Int64)) = 0 →
    ((¬ (lg_cmp (w.2 60 10) (10497936 : Int64)) = 0 →
    (Qm (some (.int (3 : Int32))) w)) ∧ ((lg_cmp (w.2 60 10) (10497936 : Int64)) = 0 →
    (Qm (some (.int (3 : Int32))) w)))) ∧ ((lg_cmp (w.2 60 10) (66175 : Int64)) = 0 →
    (Qm (some (.int (3 : Int32))) w)))) ∧ ((lg_cmp (w.2 60 10) (1629833 : Int64)) = 0 →
    (Qm (some (.int (3 : Int32))) w)))) ∧ ((lg_cmp (w.2 60 10) (1965486658967694 : Int64)) = 0 →
    (Qm (some (.int (3 : Int32))) w)))))) ∧ ((lg_cmp (w.2 60 10) (1776129921 : Int64)) = 0 →
    ((¬ (lg_cmp (w.2 60 10) (1965486658967694 : Int64)) = 0 →
    ((¬ (lg_cmp (w.2 60 10) (1629833 : Int64)) = 0 →
    ((¬ (lg_cmp (w.2 60 10) (66175 : Int64)) = 0 →
    ((¬ (lg_cmp (w.2 60 10) (10497936 : Int64)) = 0 →
    (Qm (some (.int (2 : Int32))) w)) ∧ ((lg_cmp (w.2 60 10) (10497936 : Int64)) = 0 →
    (Qm (some (.int (2 : Int32))) w)))) ∧ ((lg_cmp (w.2 60 10) (66175 : Int64)) = 0 →
    (Qm (some (.int (2 : Int32))) w)))) ∧ ((lg_cmp (w.2 60 10) (1629833 : Int64)) = 0 →
    (Qm (some (.int (2 : Int32))) w)))) ∧ ((lg_cmp (w.2 60 10) (1965486658967694 : Int64)) = 0 →
    (Qm (some (.int (2 : Int32))) w)))))) ∧ ((lg_cmp (w.2 60 10) (1489 : Int64)) = 0 →
    ((¬ (lg_cmp (w.2 60 10) (1965486658967694 : Int64)) = 0 →
    ((¬ (lg_cmp (w.2 60 10) (1629833 : Int64)) = 0 →
    ((¬ (lg_cmp (w.2 60 10) (66175 : Int64)) = 0 →
    ((¬ (lg_cmp (w.2 60 10) (10497936 : Int64)) = 0 →
    (Qm (some (.int (1 : Int32))) w)) ∧ ((lg_cmp (w.2 60 10) (10497936 : Int64)) = 0 →
    (Qm (some (.int (1 : Int32))) w)))) ∧ ((lg_cmp (w.2 60 10) (66175 : Int64)) = 0 →
    (Qm (some (.int (1 : Int32))) w)))) ∧ ((lg_cmp (w.2 60 10) (1629833 : Int64)) = 0 →
    (Qm (some (.int (1 : Int32))) w)))) ∧ ((lg_cmp (w.2 60 10) (1965486658967694 : Int64)) = 0 →
    (Qm (some (.int (1 : Int32))) w)))))) ∧ ((lg_cmp (w.2 60 10) (149125 : Int64)) = 0 →
    ((¬ (lg_cmp (w.2 60 10) (1965486658967694 : Int64)) = 0 →
    ((¬ (lg_cmp (w.2 60 10) (1629833 : Int64)) = 0 →
    ((¬ (lg_cmp (w.2 60 10) (66175 : Int64)) = 0 →
    ((¬ (lg_cmp (w.2 60 10) (10497936 : Int64)) = 0 →
    (Qm (some (.int (0 : Int32))) w)) ∧ ((lg_cmp (w.2 60 10) (10497936 : Int64)) = 0 →
    (Qm (some (.int (0 : Int32))) w)))) ∧ ((lg_cmp (w.2 60 10) (66175 : Int64)) = 0 →
    (Qm (some (.int (0 : Int32))) w)))) ∧ ((lg_cmp (w.2 60 10) (1629833 : Int64)) = 0 →
    (Qm (some (.int (0 : Int32))) w)))) ∧ ((lg_cmp (w.2 60 10) (1965486658967694 : Int64)) = 0 →
    (Qm (some (.int (0 : Int32))) w))))) :
    mG X E MX9_sortOf 0 [.ref 60, .retAddr 0, .retAddr 0] [] w := by
  refine mG_aload_n C dX9_sortOf_0 rfl rfl ?_
  refine mG_getL C dX9_sortOf_1 fl_843 sh60 rfl ?_
  refine mG_ldc2 C dX9_sortOf_4 kl_989 ?_
  refine mG_lcmp C dX9_sortOf_7 ?_
  refine mG_if_ne (tgt := 15) C dX9_sortOf_8 rfl (fun h => ?_) (fun h => ?_)
  · have K := K.1 h
    refine mG_aload_n C dX9_sortOf_15 rfl rfl ?_
    refine mG_getL C dX9_sortOf_16 fl_843 sh60 rfl ?_
    refine mG_ldc2 C dX9_sortOf_19 kl_990 ?_
    refine mG_lcmp C dX9_sortOf_22 ?_
    refine mG_if_ne (tgt := 30) C dX9_sortOf_23 rfl (fun h => ?_) (fun h => ?_)
    · have K := K.1 h
      refine mG_aload_n C dX9_sortOf_30 rfl rfl ?_
      refine mG_getL C dX9_sortOf_31 fl_843 sh60 rfl ?_
      refine mG_ldc2 C dX9_sortOf_34 kl_991 ?_
      refine mG_lcmp C dX9_sortOf_37 ?_
      refine mG_if_ne (tgt := 45) C dX9_sortOf_38 rfl (fun h => ?_) (fun h => ?_)
      · have K := K.1 h
        refine mG_aload_n C dX9_sortOf_45 rfl rfl ?_
        refine mG_getL C dX9_sortOf_46 fl_843 sh60 rfl ?_
        refine mG_ldc2 C dX9_sortOf_49 kl_992 ?_
        refine mG_lcmp C dX9_sortOf_52 ?_
        refine mG_if_ne (tgt := 60) C dX9_sortOf_53 rfl (fun h => ?_) (fun h => ?_)
        · have K := K.1 h
          refine mG_aload_n C dX9_sortOf_60 rfl rfl ?_
          refine mG_getL C dX9_sortOf_61 fl_843 sh60 rfl ?_
          refine mG_ldc2 C dX9_sortOf_64 kl_993 ?_
          refine mG_lcmp C dX9_sortOf_67 ?_
          refine mG_if_ne (tgt := 75) C dX9_sortOf_68 rfl (fun h => ?_) (fun h => ?_)
          · have K := K.1 h
            refine mG_iconst C dX9_sortOf_75 icm1 ?_
            refine mG_istore_n (lv' := [.ref 60, .int (-1 : Int32), .retAddr 0]) C dX9_sortOf_76 rfl (by decide) rfl ?_
            refine mG_aload_n C dX9_sortOf_77 rfl rfl ?_
            refine mG_getL C dX9_sortOf_78 fl_843 sh60 rfl ?_
            refine mG_ldc2 C dX9_sortOf_81 kl_994 ?_
            refine mG_lcmp C dX9_sortOf_84 ?_
            refine mG_if_ne (tgt := 92) C dX9_sortOf_85 rfl (fun h => ?_) (fun h => ?_)
            · have K := K.1 h
              refine mG_aload_n C dX9_sortOf_92 rfl rfl ?_
              refine mG_getL C dX9_sortOf_93 fl_843 sh60 rfl ?_
              refine mG_ldc2 C dX9_sortOf_96 kl_995 ?_
              refine mG_lcmp C dX9_sortOf_99 ?_
              refine mG_if_ne (tgt := 108) C dX9_sortOf_100 rfl (fun h => ?_) (fun h => ?_)
              · have K := K.1 h
                refine mG_aload_n C dX9_sortOf_108 rfl rfl ?_
                refine mG_getL C dX9_sortOf_109 fl_843 sh60 rfl ?_
                refine mG_ldc2 C dX9_sortOf_112 kl_996 ?_
                refine mG_lcmp C dX9_sortOf_115 ?_
                refine mG_if_ne (tgt := 124) C dX9_sortOf_116 rfl (fun h => ?_) (fun h => ?_)
                · have K := K.1 h
                  refine mG_aload_n C dX9_sortOf_124 rfl rfl ?_
                  refine mG_getL C dX9_sortOf_125 fl_843 sh60 rfl ?_
                  refine mG_ldc2 C dX9_sortOf_128 kl_997 ?_
                  refine mG_lcmp C dX9_sortOf_131 ?_
                  refine mG_if_ne (tgt := 140) C dX9_sortOf_132 rfl (fun h => ?_) (fun h => ?_)
                  · have K := K.1 h
                    refine mG_iconst C dX9_sortOf_140 icm1 ?_
                    refine mG_istore_n (lv' := [.ref 60, .int (-1 : Int32), .int (-1 : Int32)]) C dX9_sortOf_141 rfl (by decide) rfl ?_
                    refine mG_iload_n C dX9_sortOf_142 rfl rfl ?_
                    refine mG_iconst C dX9_sortOf_143 icm1 ?_
                    refine mG_icmp_ne (tgt := 151) C dX9_sortOf_144 rfl (fun h => absurd h (by decide)) (fun _ => ?_)
                    refine mG_iload_n C dX9_sortOf_147 rfl rfl ?_
                    refine mG_goto (tgt := 152) C dX9_sortOf_148 rfl ?_
                    exact mG_iret C F dX9_sortOf_152 rfl rfl K
                  · have K := K.2 h
                    refine mG_bipush C dX9_sortOf_135 bp8 ?_
                    refine mG_goto (tgt := 141) C dX9_sortOf_137 rfl ?_
                    refine mG_istore_n (lv' := [.ref 60, .int (-1 : Int32), .int (8 : Int32)]) C dX9_sortOf_141 rfl (by decide) rfl ?_
                    refine mG_iload_n C dX9_sortOf_142 rfl rfl ?_
                    refine mG_iconst C dX9_sortOf_143 icm1 ?_
                    refine mG_icmp_ne (tgt := 151) C dX9_sortOf_144 rfl (fun h => absurd h (by decide)) (fun _ => ?_)
                    refine mG_iload_n C dX9_sortOf_147 rfl rfl ?_
                    refine mG_goto (tgt := 152) C dX9_sortOf_148 rfl ?_
                    exact mG_iret C F dX9_sortOf_152 rfl rfl K
                · have K := K.2 h
                  refine mG_bipush C dX9_sortOf_119 bp7 ?_
                  refine mG_goto (tgt := 141) C dX9_sortOf_121 rfl ?_
                  refine mG_istore_n (lv' := [.ref 60, .int (-1 : Int32), .int (7 : Int32)]) C dX9_sortOf_141 rfl (by decide) rfl ?_
                  refine mG_iload_n C dX9_sortOf_142 rfl rfl ?_
                  refine mG_iconst C dX9_sortOf_143 icm1 ?_
                  refine mG_icmp_ne (tgt := 151) C dX9_sortOf_144 rfl (fun h => absurd h (by decide)) (fun _ => ?_)
                  refine mG_iload_n C dX9_sortOf_147 rfl rfl ?_
                  refine mG_goto (tgt := 152) C dX9_sortOf_148 rfl ?_
                  exact mG_iret C F dX9_sortOf_152 rfl rfl K
              · have K := K.2 h
                refine mG_bipush C dX9_sortOf_103 bp6 ?_
                refine mG_goto (tgt := 141) C dX9_sortOf_105 rfl ?_
                refine mG_istore_n (lv' := [.ref 60, .int (-1 : Int32), .int (6 : Int32)]) C dX9_sortOf_141 rfl (by decide) rfl ?_
                refine mG_iload_n C dX9_sortOf_142 rfl rfl ?_
                refine mG_iconst C dX9_sortOf_143 icm1 ?_
                refine mG_icmp_ne (tgt := 151) C dX9_sortOf_144 rfl (fun h => absurd h (by decide)) (fun _ => ?_)
                refine mG_iload_n C dX9_sortOf_147 rfl rfl ?_
                refine mG_goto (tgt := 152) C dX9_sortOf_148 rfl ?_
                exact mG_iret C F dX9_sortOf_152 rfl rfl K
            · have K := K.2 h
              refine mG_iconst C dX9_sortOf_88 ic5 ?_
              refine mG_goto (tgt := 141) C dX9_sortOf_89 rfl ?_
              refine mG_istore_n (lv' := [.ref 60, .int (-1 : Int32), .int (5 : Int32)]) C dX9_sortOf_141 rfl (by decide) rfl ?_
              refine mG_iload_n C dX9_sortOf_142 rfl rfl ?_
              refine mG_iconst C dX9_sortOf_143 icm1 ?_
              refine mG_icmp_ne (tgt := 151) C dX9_sortOf_144 rfl (fun h => absurd h (by decide)) (fun _ => ?_)
              refine mG_iload_n C dX9_sortOf_147 rfl rfl ?_
              refine mG_goto (tgt := 152) C dX9_sortOf_148 rfl ?_
              exact mG_iret C F dX9_sortOf_152 rfl rfl K
          · have K := K.2 h
            refine mG_iconst C dX9_sortOf_71 ic4 ?_
            refine mG_goto (tgt := 76) C dX9_sortOf_72 rfl ?_
            refine mG_istore_n (lv' := [.ref 60, .int (4 : Int32), .retAddr 0]) C dX9_sortOf_76 rfl (by decide) rfl ?_
            refine mG_aload_n C dX9_sortOf_77 rfl rfl ?_
            refine mG_getL C dX9_sortOf_78 fl_843 sh60 rfl ?_
            refine mG_ldc2 C dX9_sortOf_81 kl_994 ?_
            refine mG_lcmp C dX9_sortOf_84 ?_
            refine mG_if_ne (tgt := 92) C dX9_sortOf_85 rfl (fun h => ?_) (fun h => ?_)
            · have K := K.1 h
              refine mG_aload_n C dX9_sortOf_92 rfl rfl ?_
              refine mG_getL C dX9_sortOf_93 fl_843 sh60 rfl ?_
              refine mG_ldc2 C dX9_sortOf_96 kl_995 ?_
              refine mG_lcmp C dX9_sortOf_99 ?_
              refine mG_if_ne (tgt := 108) C dX9_sortOf_100 rfl (fun h => ?_) (fun h => ?_)
              · have K := K.1 h
                refine mG_aload_n C dX9_sortOf_108 rfl rfl ?_
                refine mG_getL C dX9_sortOf_109 fl_843 sh60 rfl ?_
                refine mG_ldc2 C dX9_sortOf_112 kl_996 ?_
                refine mG_lcmp C dX9_sortOf_115 ?_
                refine mG_if_ne (tgt := 124) C dX9_sortOf_116 rfl (fun h => ?_) (fun h => ?_)
                · have K := K.1 h
                  refine mG_aload_n C dX9_sortOf_124 rfl rfl ?_
                  refine mG_getL C dX9_sortOf_125 fl_843 sh60 rfl ?_
                  refine mG_ldc2 C dX9_sortOf_128 kl_997 ?_
                  refine mG_lcmp C dX9_sortOf_131 ?_
                  refine mG_if_ne (tgt := 140) C dX9_sortOf_132 rfl (fun h => ?_) (fun h => ?_)
                  · have K := K.1 h
                    refine mG_iconst C dX9_sortOf_140 icm1 ?_
                    refine mG_istore_n (lv' := [.ref 60, .int (4 : Int32), .int (-1 : Int32)]) C dX9_sortOf_141 rfl (by decide) rfl ?_
                    refine mG_iload_n C dX9_sortOf_142 rfl rfl ?_
                    refine mG_iconst C dX9_sortOf_143 icm1 ?_
                    refine mG_icmp_ne (tgt := 151) C dX9_sortOf_144 rfl (fun _ => ?_) (fun h => absurd h (by decide))
                    refine mG_iload_n C dX9_sortOf_151 rfl rfl ?_
                    exact mG_iret C F dX9_sortOf_152 rfl rfl K
                  · have K := K.2 h
                    refine mG_bipush C dX9_sortOf_135 bp8 ?_
                    refine mG_goto (tgt := 141) C dX9_sortOf_137 rfl ?_
                    refine mG_istore_n (lv' := [.ref 60, .int (4 : Int32), .int (8 : Int32)]) C dX9_sortOf_141 rfl (by decide) rfl ?_
                    refine mG_iload_n C dX9_sortOf_142 rfl rfl ?_
                    refine mG_iconst C dX9_sortOf_143 icm1 ?_
                    refine mG_icmp_ne (tgt := 151) C dX9_sortOf_144 rfl (fun _ => ?_) (fun h => absurd h (by decide))
                    refine mG_iload_n C dX9_sortOf_151 rfl rfl ?_
                    exact mG_iret C F dX9_sortOf_152 rfl rfl K
                · have K := K.2 h
                  refine mG_bipush C dX9_sortOf_119 bp7 ?_
                  refine mG_goto (tgt := 141) C dX9_sortOf_121 rfl ?_
                  refine mG_istore_n (lv' := [.ref 60, .int (4 : Int32), .int (7 : Int32)]) C dX9_sortOf_141 rfl (by decide) rfl ?_
                  refine mG_iload_n C dX9_sortOf_142 rfl rfl ?_
                  refine mG_iconst C dX9_sortOf_143 icm1 ?_
                  refine mG_icmp_ne (tgt := 151) C dX9_sortOf_144 rfl (fun _ => ?_) (fun h => absurd h (by decide))
                  refine mG_iload_n C dX9_sortOf_151 rfl rfl ?_
                  exact mG_iret C F dX9_sortOf_152 rfl rfl K
              · have K := K.2 h
                refine mG_bipush C dX9_sortOf_103 bp6 ?_
                refine mG_goto (tgt := 141) C dX9_sortOf_105 rfl ?_
                refine mG_istore_n (lv' := [.ref 60, .int (4 : Int32), .int (6 : Int32)]) C dX9_sortOf_141 rfl (by decide) rfl ?_
                refine mG_iload_n C dX9_sortOf_142 rfl rfl ?_
                refine mG_iconst C dX9_sortOf_143 icm1 ?_
                refine mG_icmp_ne (tgt := 151) C dX9_sortOf_144 rfl (fun _ => ?_) (fun h => absurd h (by decide))
                refine mG_iload_n C dX9_sortOf_151 rfl rfl ?_
                exact mG_iret C F dX9_sortOf_152 rfl rfl K
            · have K := K.2 h
              refine mG_iconst C dX9_sortOf_88 ic5 ?_
              refine mG_goto (tgt := 141) C dX9_sortOf_89 rfl ?_
              refine mG_istore_n (lv' := [.ref 60, .int (4 : Int32), .int (5 : Int32)]) C dX9_sortOf_141 rfl (by decide) rfl ?_
              refine mG_iload_n C dX9_sortOf_142 rfl rfl ?_
              refine mG_iconst C dX9_sortOf_143 icm1 ?_
              refine mG_icmp_ne (tgt := 151) C dX9_sortOf_144 rfl (fun _ => ?_) (fun h => absurd h (by decide))
              refine mG_iload_n C dX9_sortOf_151 rfl rfl ?_
              exact mG_iret C F dX9_sortOf_152 rfl rfl K
        · have K := K.2 h
          refine mG_iconst C dX9_sortOf_56 ic3 ?_
          refine mG_goto (tgt := 76) C dX9_sortOf_57 rfl ?_
          refine mG_istore_n (lv' := [.ref 60, .int (3 : Int32), .retAddr 0]) C dX9_sortOf_76 rfl (by decide) rfl ?_
          refine mG_aload_n C dX9_sortOf_77 rfl rfl ?_
          refine mG_getL C dX9_sortOf_78 fl_843 sh60 rfl ?_
          refine mG_ldc2 C dX9_sortOf_81 kl_994 ?_
          refine mG_lcmp C dX9_sortOf_84 ?_
          refine mG_if_ne (tgt := 92) C dX9_sortOf_85 rfl (fun h => ?_) (fun h => ?_)
          · have K := K.1 h
            refine mG_aload_n C dX9_sortOf_92 rfl rfl ?_
            refine mG_getL C dX9_sortOf_93 fl_843 sh60 rfl ?_
            refine mG_ldc2 C dX9_sortOf_96 kl_995 ?_
            refine mG_lcmp C dX9_sortOf_99 ?_
            refine mG_if_ne (tgt := 108) C dX9_sortOf_100 rfl (fun h => ?_) (fun h => ?_)
            · have K := K.1 h
              refine mG_aload_n C dX9_sortOf_108 rfl rfl ?_
              refine mG_getL C dX9_sortOf_109 fl_843 sh60 rfl ?_
              refine mG_ldc2 C dX9_sortOf_112 kl_996 ?_
              refine mG_lcmp C dX9_sortOf_115 ?_
              refine mG_if_ne (tgt := 124) C dX9_sortOf_116 rfl (fun h => ?_) (fun h => ?_)
              · have K := K.1 h
                refine mG_aload_n C dX9_sortOf_124 rfl rfl ?_
                refine mG_getL C dX9_sortOf_125 fl_843 sh60 rfl ?_
                refine mG_ldc2 C dX9_sortOf_128 kl_997 ?_
                refine mG_lcmp C dX9_sortOf_131 ?_
                refine mG_if_ne (tgt := 140) C dX9_sortOf_132 rfl (fun h => ?_) (fun h => ?_)
                · have K := K.1 h
                  refine mG_iconst C dX9_sortOf_140 icm1 ?_
                  refine mG_istore_n (lv' := [.ref 60, .int (3 : Int32), .int (-1 : Int32)]) C dX9_sortOf_141 rfl (by decide) rfl ?_
                  refine mG_iload_n C dX9_sortOf_142 rfl rfl ?_
                  refine mG_iconst C dX9_sortOf_143 icm1 ?_
                  refine mG_icmp_ne (tgt := 151) C dX9_sortOf_144 rfl (fun _ => ?_) (fun h => absurd h (by decide))
                  refine mG_iload_n C dX9_sortOf_151 rfl rfl ?_
                  exact mG_iret C F dX9_sortOf_152 rfl rfl K
                · have K := K.2 h
                  refine mG_bipush C dX9_sortOf_135 bp8 ?_
                  refine mG_goto (tgt := 141) C dX9_sortOf_137 rfl ?_
                  refine mG_istore_n (lv' := [.ref 60, .int (3 : Int32), .int (8 : Int32)]) C dX9_sortOf_141 rfl (by decide) rfl ?_
                  refine mG_iload_n C dX9_sortOf_142 rfl rfl ?_
                  refine mG_iconst C dX9_sortOf_143 icm1 ?_
                  refine mG_icmp_ne (tgt := 151) C dX9_sortOf_144 rfl (fun _ => ?_) (fun h => absurd h (by decide))
                  refine mG_iload_n C dX9_sortOf_151 rfl rfl ?_
                  exact mG_iret C F dX9_sortOf_152 rfl rfl K
              · have K := K.2 h
                refine mG_bipush C dX9_sortOf_119 bp7 ?_
                refine mG_goto (tgt := 141) C dX9_sortOf_121 rfl ?_
                refine mG_istore_n (lv' := [.ref 60, .int (3 : Int32), .int (7 : Int32)]) C dX9_sortOf_141 rfl (by decide) rfl ?_
                refine mG_iload_n C dX9_sortOf_142 rfl rfl ?_
                refine mG_iconst C dX9_sortOf_143 icm1 ?_
                refine mG_icmp_ne (tgt := 151) C dX9_sortOf_144 rfl (fun _ => ?_) (fun h => absurd h (by decide))
                refine mG_iload_n C dX9_sortOf_151 rfl rfl ?_
                exact mG_iret C F dX9_sortOf_152 rfl rfl K
            · have K := K.2 h
              refine mG_bipush C dX9_sortOf_103 bp6 ?_
              refine mG_goto (tgt := 141) C dX9_sortOf_105 rfl ?_
              refine mG_istore_n (lv' := [.ref 60, .int (3 : Int32), .int (6 : Int32)]) C dX9_sortOf_141 rfl (by decide) rfl ?_
              refine mG_iload_n C dX9_sortOf_142 rfl rfl ?_
              refine mG_iconst C dX9_sortOf_143 icm1 ?_
              refine mG_icmp_ne (tgt := 151) C dX9_sortOf_144 rfl (fun _ => ?_) (fun h => absurd h (by decide))
              refine mG_iload_n C dX9_sortOf_151 rfl rfl ?_
              exact mG_iret C F dX9_sortOf_152 rfl rfl K
          · have K := K.2 h
            refine mG_iconst C dX9_sortOf_88 ic5 ?_
            refine mG_goto (tgt := 141) C dX9_sortOf_89 rfl ?_
            refine mG_istore_n (lv' := [.ref 60, .int (3 : Int32), .int (5 : Int32)]) C dX9_sortOf_141 rfl (by decide) rfl ?_
            refine mG_iload_n C dX9_sortOf_142 rfl rfl ?_
            refine mG_iconst C dX9_sortOf_143 icm1 ?_
            refine mG_icmp_ne (tgt := 151) C dX9_sortOf_144 rfl (fun _ => ?_) (fun h => absurd h (by decide))
            refine mG_iload_n C dX9_sortOf_151 rfl rfl ?_
            exact mG_iret C F dX9_sortOf_152 rfl rfl K
      · have K := K.2 h
        refine mG_iconst C dX9_sortOf_41 ic2 ?_
        refine mG_goto (tgt := 76) C dX9_sortOf_42 rfl ?_
        refine mG_istore_n (lv' := [.ref 60, .int (2 : Int32), .retAddr 0]) C dX9_sortOf_76 rfl (by decide) rfl ?_
        refine mG_aload_n C dX9_sortOf_77 rfl rfl ?_
        refine mG_getL C dX9_sortOf_78 fl_843 sh60 rfl ?_
        refine mG_ldc2 C dX9_sortOf_81 kl_994 ?_
        refine mG_lcmp C dX9_sortOf_84 ?_
        refine mG_if_ne (tgt := 92) C dX9_sortOf_85 rfl (fun h => ?_) (fun h => ?_)
        · have K := K.1 h
          refine mG_aload_n C dX9_sortOf_92 rfl rfl ?_
          refine mG_getL C dX9_sortOf_93 fl_843 sh60 rfl ?_
          refine mG_ldc2 C dX9_sortOf_96 kl_995 ?_
          refine mG_lcmp C dX9_sortOf_99 ?_
          refine mG_if_ne (tgt := 108) C dX9_sortOf_100 rfl (fun h => ?_) (fun h => ?_)
          · have K := K.1 h
            refine mG_aload_n C dX9_sortOf_108 rfl rfl ?_
            refine mG_getL C dX9_sortOf_109 fl_843 sh60 rfl ?_
            refine mG_ldc2 C dX9_sortOf_112 kl_996 ?_
            refine mG_lcmp C dX9_sortOf_115 ?_
            refine mG_if_ne (tgt := 124) C dX9_sortOf_116 rfl (fun h => ?_) (fun h => ?_)
            · have K := K.1 h
              refine mG_aload_n C dX9_sortOf_124 rfl rfl ?_
              refine mG_getL C dX9_sortOf_125 fl_843 sh60 rfl ?_
              refine mG_ldc2 C dX9_sortOf_128 kl_997 ?_
              refine mG_lcmp C dX9_sortOf_131 ?_
              refine mG_if_ne (tgt := 140) C dX9_sortOf_132 rfl (fun h => ?_) (fun h => ?_)
              · have K := K.1 h
                refine mG_iconst C dX9_sortOf_140 icm1 ?_
                refine mG_istore_n (lv' := [.ref 60, .int (2 : Int32), .int (-1 : Int32)]) C dX9_sortOf_141 rfl (by decide) rfl ?_
                refine mG_iload_n C dX9_sortOf_142 rfl rfl ?_
                refine mG_iconst C dX9_sortOf_143 icm1 ?_
                refine mG_icmp_ne (tgt := 151) C dX9_sortOf_144 rfl (fun _ => ?_) (fun h => absurd h (by decide))
                refine mG_iload_n C dX9_sortOf_151 rfl rfl ?_
                exact mG_iret C F dX9_sortOf_152 rfl rfl K
              · have K := K.2 h
                refine mG_bipush C dX9_sortOf_135 bp8 ?_
                refine mG_goto (tgt := 141) C dX9_sortOf_137 rfl ?_
                refine mG_istore_n (lv' := [.ref 60, .int (2 : Int32), .int (8 : Int32)]) C dX9_sortOf_141 rfl (by decide) rfl ?_
                refine mG_iload_n C dX9_sortOf_142 rfl rfl ?_
                refine mG_iconst C dX9_sortOf_143 icm1 ?_
                refine mG_icmp_ne (tgt := 151) C dX9_sortOf_144 rfl (fun _ => ?_) (fun h => absurd h (by decide))
                refine mG_iload_n C dX9_sortOf_151 rfl rfl ?_
                exact mG_iret C F dX9_sortOf_152 rfl rfl K
            · have K := K.2 h
              refine mG_bipush C dX9_sortOf_119 bp7 ?_
              refine mG_goto (tgt := 141) C dX9_sortOf_121 rfl ?_
              refine mG_istore_n (lv' := [.ref 60, .int (2 : Int32), .int (7 : Int32)]) C dX9_sortOf_141 rfl (by decide) rfl ?_
              refine mG_iload_n C dX9_sortOf_142 rfl rfl ?_
              refine mG_iconst C dX9_sortOf_143 icm1 ?_
              refine mG_icmp_ne (tgt := 151) C dX9_sortOf_144 rfl (fun _ => ?_) (fun h => absurd h (by decide))
              refine mG_iload_n C dX9_sortOf_151 rfl rfl ?_
              exact mG_iret C F dX9_sortOf_152 rfl rfl K
          · have K := K.2 h
            refine mG_bipush C dX9_sortOf_103 bp6 ?_
            refine mG_goto (tgt := 141) C dX9_sortOf_105 rfl ?_
            refine mG_istore_n (lv' := [.ref 60, .int (2 : Int32), .int (6 : Int32)]) C dX9_sortOf_141 rfl (by decide) rfl ?_
            refine mG_iload_n C dX9_sortOf_142 rfl rfl ?_
            refine mG_iconst C dX9_sortOf_143 icm1 ?_
            refine mG_icmp_ne (tgt := 151) C dX9_sortOf_144 rfl (fun _ => ?_) (fun h => absurd h (by decide))
            refine mG_iload_n C dX9_sortOf_151 rfl rfl ?_
            exact mG_iret C F dX9_sortOf_152 rfl rfl K
        · have K := K.2 h
          refine mG_iconst C dX9_sortOf_88 ic5 ?_
          refine mG_goto (tgt := 141) C dX9_sortOf_89 rfl ?_
          refine mG_istore_n (lv' := [.ref 60, .int (2 : Int32), .int (5 : Int32)]) C dX9_sortOf_141 rfl (by decide) rfl ?_
          refine mG_iload_n C dX9_sortOf_142 rfl rfl ?_
          refine mG_iconst C dX9_sortOf_143 icm1 ?_
          refine mG_icmp_ne (tgt := 151) C dX9_sortOf_144 rfl (fun _ => ?_) (fun h => absurd h (by decide))
          refine mG_iload_n C dX9_sortOf_151 rfl rfl ?_
          exact mG_iret C F dX9_sortOf_152 rfl rfl K
    · have K := K.2 h
      refine mG_iconst C dX9_sortOf_26 ic1 ?_
      refine mG_goto (tgt := 76) C dX9_sortOf_27 rfl ?_
      refine mG_istore_n (lv' := [.ref 60, .int (1 : Int32), .retAddr 0]) C dX9_sortOf_76 rfl (by decide) rfl ?_
      refine mG_aload_n C dX9_sortOf_77 rfl rfl ?_
      refine mG_getL C dX9_sortOf_78 fl_843 sh60 rfl ?_
      refine mG_ldc2 C dX9_sortOf_81 kl_994 ?_
      refine mG_lcmp C dX9_sortOf_84 ?_
      refine mG_if_ne (tgt := 92) C dX9_sortOf_85 rfl (fun h => ?_) (fun h => ?_)
      · have K := K.1 h
        refine mG_aload_n C dX9_sortOf_92 rfl rfl ?_
        refine mG_getL C dX9_sortOf_93 fl_843 sh60 rfl ?_
        refine mG_ldc2 C dX9_sortOf_96 kl_995 ?_
        refine mG_lcmp C dX9_sortOf_99 ?_
        refine mG_if_ne (tgt := 108) C dX9_sortOf_100 rfl (fun h => ?_) (fun h => ?_)
        · have K := K.1 h
          refine mG_aload_n C dX9_sortOf_108 rfl rfl ?_
          refine mG_getL C dX9_sortOf_109 fl_843 sh60 rfl ?_
          refine mG_ldc2 C dX9_sortOf_112 kl_996 ?_
          refine mG_lcmp C dX9_sortOf_115 ?_
          refine mG_if_ne (tgt := 124) C dX9_sortOf_116 rfl (fun h => ?_) (fun h => ?_)
          · have K := K.1 h
            refine mG_aload_n C dX9_sortOf_124 rfl rfl ?_
            refine mG_getL C dX9_sortOf_125 fl_843 sh60 rfl ?_
            refine mG_ldc2 C dX9_sortOf_128 kl_997 ?_
            refine mG_lcmp C dX9_sortOf_131 ?_
            refine mG_if_ne (tgt := 140) C dX9_sortOf_132 rfl (fun h => ?_) (fun h => ?_)
            · have K := K.1 h
              refine mG_iconst C dX9_sortOf_140 icm1 ?_
              refine mG_istore_n (lv' := [.ref 60, .int (1 : Int32), .int (-1 : Int32)]) C dX9_sortOf_141 rfl (by decide) rfl ?_
              refine mG_iload_n C dX9_sortOf_142 rfl rfl ?_
              refine mG_iconst C dX9_sortOf_143 icm1 ?_
              refine mG_icmp_ne (tgt := 151) C dX9_sortOf_144 rfl (fun _ => ?_) (fun h => absurd h (by decide))
              refine mG_iload_n C dX9_sortOf_151 rfl rfl ?_
              exact mG_iret C F dX9_sortOf_152 rfl rfl K
            · have K := K.2 h
              refine mG_bipush C dX9_sortOf_135 bp8 ?_
              refine mG_goto (tgt := 141) C dX9_sortOf_137 rfl ?_
              refine mG_istore_n (lv' := [.ref 60, .int (1 : Int32), .int (8 : Int32)]) C dX9_sortOf_141 rfl (by decide) rfl ?_
              refine mG_iload_n C dX9_sortOf_142 rfl rfl ?_
              refine mG_iconst C dX9_sortOf_143 icm1 ?_
              refine mG_icmp_ne (tgt := 151) C dX9_sortOf_144 rfl (fun _ => ?_) (fun h => absurd h (by decide))
              refine mG_iload_n C dX9_sortOf_151 rfl rfl ?_
              exact mG_iret C F dX9_sortOf_152 rfl rfl K
          · have K := K.2 h
            refine mG_bipush C dX9_sortOf_119 bp7 ?_
            refine mG_goto (tgt := 141) C dX9_sortOf_121 rfl ?_
            refine mG_istore_n (lv' := [.ref 60, .int (1 : Int32), .int (7 : Int32)]) C dX9_sortOf_141 rfl (by decide) rfl ?_
            refine mG_iload_n C dX9_sortOf_142 rfl rfl ?_
            refine mG_iconst C dX9_sortOf_143 icm1 ?_
            refine mG_icmp_ne (tgt := 151) C dX9_sortOf_144 rfl (fun _ => ?_) (fun h => absurd h (by decide))
            refine mG_iload_n C dX9_sortOf_151 rfl rfl ?_
            exact mG_iret C F dX9_sortOf_152 rfl rfl K
        · have K := K.2 h
          refine mG_bipush C dX9_sortOf_103 bp6 ?_
          refine mG_goto (tgt := 141) C dX9_sortOf_105 rfl ?_
          refine mG_istore_n (lv' := [.ref 60, .int (1 : Int32), .int (6 : Int32)]) C dX9_sortOf_141 rfl (by decide) rfl ?_
          refine mG_iload_n C dX9_sortOf_142 rfl rfl ?_
          refine mG_iconst C dX9_sortOf_143 icm1 ?_
          refine mG_icmp_ne (tgt := 151) C dX9_sortOf_144 rfl (fun _ => ?_) (fun h => absurd h (by decide))
          refine mG_iload_n C dX9_sortOf_151 rfl rfl ?_
          exact mG_iret C F dX9_sortOf_152 rfl rfl K
      · have K := K.2 h
        refine mG_iconst C dX9_sortOf_88 ic5 ?_
        refine mG_goto (tgt := 141) C dX9_sortOf_89 rfl ?_
        refine mG_istore_n (lv' := [.ref 60, .int (1 : Int32), .int (5 : Int32)]) C dX9_sortOf_141 rfl (by decide) rfl ?_
        refine mG_iload_n C dX9_sortOf_142 rfl rfl ?_
        refine mG_iconst C dX9_sortOf_143 icm1 ?_
        refine mG_icmp_ne (tgt := 151) C dX9_sortOf_144 rfl (fun _ => ?_) (fun h => absurd h (by decide))
        refine mG_iload_n C dX9_sortOf_151 rfl rfl ?_
        exact mG_iret C F dX9_sortOf_152 rfl rfl K
  · have K := K.2 h
    refine mG_iconst C dX9_sortOf_11 ic0 ?_
    refine mG_goto (tgt := 76) C dX9_sortOf_12 rfl ?_
    refine mG_istore_n (lv' := [.ref 60, .int (0 : Int32), .retAddr 0]) C dX9_sortOf_76 rfl (by decide) rfl ?_
    refine mG_aload_n C dX9_sortOf_77 rfl rfl ?_
    refine mG_getL C dX9_sortOf_78 fl_843 sh60 rfl ?_
    refine mG_ldc2 C dX9_sortOf_81 kl_994 ?_
    refine mG_lcmp C dX9_sortOf_84 ?_
    refine mG_if_ne (tgt := 92) C dX9_sortOf_85 rfl (fun h => ?_) (fun h => ?_)
    · have K := K.1 h
      refine mG_aload_n C dX9_sortOf_92 rfl rfl ?_
      refine mG_getL C dX9_sortOf_93 fl_843 sh60 rfl ?_
      refine mG_ldc2 C dX9_sortOf_96 kl_995 ?_
      refine mG_lcmp C dX9_sortOf_99 ?_
      refine mG_if_ne (tgt := 108) C dX9_sortOf_100 rfl (fun h => ?_) (fun h => ?_)
      · have K := K.1 h
        refine mG_aload_n C dX9_sortOf_108 rfl rfl ?_
        refine mG_getL C dX9_sortOf_109 fl_843 sh60 rfl ?_
        refine mG_ldc2 C dX9_sortOf_112 kl_996 ?_
        refine mG_lcmp C dX9_sortOf_115 ?_
        refine mG_if_ne (tgt := 124) C dX9_sortOf_116 rfl (fun h => ?_) (fun h => ?_)
        · have K := K.1 h
          refine mG_aload_n C dX9_sortOf_124 rfl rfl ?_
          refine mG_getL C dX9_sortOf_125 fl_843 sh60 rfl ?_
          refine mG_ldc2 C dX9_sortOf_128 kl_997 ?_
          refine mG_lcmp C dX9_sortOf_131 ?_
          refine mG_if_ne (tgt := 140) C dX9_sortOf_132 rfl (fun h => ?_) (fun h => ?_)
          · have K := K.1 h
            refine mG_iconst C dX9_sortOf_140 icm1 ?_
            refine mG_istore_n (lv' := [.ref 60, .int (0 : Int32), .int (-1 : Int32)]) C dX9_sortOf_141 rfl (by decide) rfl ?_
            refine mG_iload_n C dX9_sortOf_142 rfl rfl ?_
            refine mG_iconst C dX9_sortOf_143 icm1 ?_
            refine mG_icmp_ne (tgt := 151) C dX9_sortOf_144 rfl (fun _ => ?_) (fun h => absurd h (by decide))
            refine mG_iload_n C dX9_sortOf_151 rfl rfl ?_
            exact mG_iret C F dX9_sortOf_152 rfl rfl K
          · have K := K.2 h
            refine mG_bipush C dX9_sortOf_135 bp8 ?_
            refine mG_goto (tgt := 141) C dX9_sortOf_137 rfl ?_
            refine mG_istore_n (lv' := [.ref 60, .int (0 : Int32), .int (8 : Int32)]) C dX9_sortOf_141 rfl (by decide) rfl ?_
            refine mG_iload_n C dX9_sortOf_142 rfl rfl ?_
            refine mG_iconst C dX9_sortOf_143 icm1 ?_
            refine mG_icmp_ne (tgt := 151) C dX9_sortOf_144 rfl (fun _ => ?_) (fun h => absurd h (by decide))
            refine mG_iload_n C dX9_sortOf_151 rfl rfl ?_
            exact mG_iret C F dX9_sortOf_152 rfl rfl K
        · have K := K.2 h
          refine mG_bipush C dX9_sortOf_119 bp7 ?_
          refine mG_goto (tgt := 141) C dX9_sortOf_121 rfl ?_
          refine mG_istore_n (lv' := [.ref 60, .int (0 : Int32), .int (7 : Int32)]) C dX9_sortOf_141 rfl (by decide) rfl ?_
          refine mG_iload_n C dX9_sortOf_142 rfl rfl ?_
          refine mG_iconst C dX9_sortOf_143 icm1 ?_
          refine mG_icmp_ne (tgt := 151) C dX9_sortOf_144 rfl (fun _ => ?_) (fun h => absurd h (by decide))
          refine mG_iload_n C dX9_sortOf_151 rfl rfl ?_
          exact mG_iret C F dX9_sortOf_152 rfl rfl K
      · have K := K.2 h
        refine mG_bipush C dX9_sortOf_103 bp6 ?_
        refine mG_goto (tgt := 141) C dX9_sortOf_105 rfl ?_
        refine mG_istore_n (lv' := [.ref 60, .int (0 : Int32), .int (6 : Int32)]) C dX9_sortOf_141 rfl (by decide) rfl ?_
        refine mG_iload_n C dX9_sortOf_142 rfl rfl ?_
        refine mG_iconst C dX9_sortOf_143 icm1 ?_
        refine mG_icmp_ne (tgt := 151) C dX9_sortOf_144 rfl (fun _ => ?_) (fun h => absurd h (by decide))
        refine mG_iload_n C dX9_sortOf_151 rfl rfl ?_
        exact mG_iret C F dX9_sortOf_152 rfl rfl K
    · have K := K.2 h
      refine mG_iconst C dX9_sortOf_88 ic5 ?_
      refine mG_goto (tgt := 141) C dX9_sortOf_89 rfl ?_
      refine mG_istore_n (lv' := [.ref 60, .int (0 : Int32), .int (5 : Int32)]) C dX9_sortOf_141 rfl (by decide) rfl ?_
      refine mG_iload_n C dX9_sortOf_142 rfl rfl ?_
      refine mG_iconst C dX9_sortOf_143 icm1 ?_
      refine mG_icmp_ne (tgt := 151) C dX9_sortOf_144 rfl (fun _ => ?_) (fun h => absurd h (by decide))
      refine mG_iload_n C dX9_sortOf_151 rfl rfl ?_
      exact mG_iret C F dX9_sortOf_152 rfl rfl K

set_option maxRecDepth 20000 in
set_option maxHeartbeats 4000000 in
theorem vX9_sumBy_0 {X : mX} {E : mEnv} {Qm : Option Value → mW → Prop} (C : mCtx X E MX9_sumBy) (F : mFin X E MX9_sumBy Qm) {w : mW}  (p0 : Int32) (p1 : Int32) (p2 : Int32) (p3 : Int32) (p4 : Int32)
    (K : mMv E MX9_copy [.ref 66, .int (0 : Int32), .ref 67, .int (0 : Int32)] w (fun u1 =>
    ((p4 ≤ (1 : Int32) →
    (vp_in (((2 : Int32) + ((6 : Int32) * p0)) + p2) 32 ∧
    (∀ w1 : mW, w1 = (mPI u1 67 (((2 : Int32) + ((6 : Int32) * p0)) + p2).toNatClampNeg ((1 : Int32) - p3)) →
    ((¬ (p4 - p4 / (2 : Int32) * (2 : Int32)) = (1 : Int32) →
    (vp_in (((2 : Int32) + ((6 : Int32) * p1)) + p2) 32 ∧
    (∀ w2 : mW, w2 = (mPI w1 67 (((2 : Int32) + ((6 : Int32) * p1)) + p2).toNatClampNeg ((1 : Int32) - p3)) →
    (mMv E MX9_pass [.ref 60, .ref 67] w2 (fun u2 =>
    (mMi E MX9_sumOf [.ref 60, .int (u2.1 67 0)] u2 (fun v1 u3 =>
    (Qm (some (.int v1)) u3)))))))) ∧ ((p4 - p4 / (2 : Int32) * (2 : Int32)) = (1 : Int32) →
    (vp_in (((2 : Int32) + ((6 : Int32) * p1)) + p2) 32 ∧
    (∀ w3 : mW, w3 = (mPI w1 67 (((2 : Int32) + ((6 : Int32) * p1)) + p2).toNatClampNeg p3) →
    (mMv E MX9_pass [.ref 60, .ref 67] w3 (fun u4 =>
    (mMi E MX9_sumOf [.ref 60, .int (u4.1 67 0)] u4 (fun v2 u5 =>
    (Qm (some (.int v2)) u5)))))))))))) ∧ (¬ p4 ≤ (1 : Int32) →
    (vp_in (((2 : Int32) + ((6 : Int32) * p0)) + p2) 32 ∧
    (∀ w4 : mW, w4 = (mPI u1 67 (((2 : Int32) + ((6 : Int32) * p0)) + p2).toNatClampNeg p3) →
    ((¬ (p4 - p4 / (2 : Int32) * (2 : Int32)) = (1 : Int32) →
    (vp_in (((2 : Int32) + ((6 : Int32) * p1)) + p2) 32 ∧
    (∀ w5 : mW, w5 = (mPI w4 67 (((2 : Int32) + ((6 : Int32) * p1)) + p2).toNatClampNeg ((1 : Int32) - p3)) →
    (mMv E MX9_pass [.ref 60, .ref 67] w5 (fun u6 =>
    (mMi E MX9_sumOf [.ref 60, .int (u6.1 67 0)] u6 (fun v3 u7 =>
    (Qm (some (.int v3)) u7)))))))) ∧ ((p4 - p4 / (2 : Int32) * (2 : Int32)) = (1 : Int32) →
    (vp_in (((2 : Int32) + ((6 : Int32) * p1)) + p2) 32 ∧
    (∀ w6 : mW, w6 = (mPI w4 67 (((2 : Int32) + ((6 : Int32) * p1)) + p2).toNatClampNeg p3) →
    (mMv E MX9_pass [.ref 60, .ref 67] w6 (fun u8 =>
    (mMi E MX9_sumOf [.ref 60, .int (u8.1 67 0)] u8 (fun v4 u9 =>
    (Qm (some (.int v4)) u9))))))))))))))) :
    mG X E MX9_sumBy 0 [.ref 60, .int p0, .int p1, .int p2, .int p3, .int p4] [] w := by
  refine mG_aload_n C dX9_sumBy_0 rfl rfl ?_
  refine mG_getR C dX9_sumBy_1 fl_852 sh60 rfl ?_
  refine mG_iconst C dX9_sumBy_4 ic0 ?_
  refine mG_aload_n C dX9_sumBy_5 rfl rfl ?_
  refine mG_getR C dX9_sumBy_6 fl_853 sh60 rfl ?_
  refine mG_iconst C dX9_sumBy_9 ic0 ?_
  refine mG_Sv (Z := MX9_copy) (as := [.ref 66, .int (0 : Int32), .ref 67, .int (0 : Int32)]) (rest := []) C dX9_sumBy_10 lk_1082 zX9_copy ⟨Nat.le_of_ble_eq_true rfl, Nat.le_of_ble_eq_true rfl⟩ rfl (Nat.le_of_ble_eq_true rfl) rfl K (fun u1 K => ?_)
  refine mG_aload_n C dX9_sumBy_13 rfl rfl ?_
  refine mG_getR C dX9_sumBy_14 fl_853 sh60 rfl ?_
  refine mG_iconst C dX9_sumBy_17 ic2 ?_
  refine mG_bipush C dX9_sumBy_18 bp6 ?_
  refine mG_iload_n C dX9_sumBy_20 rfl rfl ?_
  refine mG_imul C dX9_sumBy_21 ?_
  refine mG_iadd C dX9_sumBy_22 ?_
  refine mG_iload_n C dX9_sumBy_23 rfl rfl ?_
  refine mG_iadd C dX9_sumBy_24 ?_
  refine mG_iload C dX9_sumBy_25 rfl ?_
  refine mG_iconst C dX9_sumBy_27 ic1 ?_
  refine mG_icmp_le (tgt := 36) C dX9_sumBy_28 rfl (fun h => ?_) (fun h => ?_)
  · have K := K.1 h
    refine mG_iconst C dX9_sumBy_36 ic1 ?_
    refine mG_iload C dX9_sumBy_37 rfl ?_
    refine mG_isub C dX9_sumBy_39 ?_
    obtain ⟨h1, K⟩ := K
    refine mG_iast C dX9_sumBy_40 sh67 h1 ?_
    refine mG_nm (fun w1 ew1 => ?_)
    have K := K w1 ew1
    refine mG_aload_n C dX9_sumBy_41 rfl rfl ?_
    refine mG_getR C dX9_sumBy_42 fl_853 sh60 rfl ?_
    refine mG_iconst C dX9_sumBy_45 ic2 ?_
    refine mG_bipush C dX9_sumBy_46 bp6 ?_
    refine mG_iload_n C dX9_sumBy_48 rfl rfl ?_
    refine mG_imul C dX9_sumBy_49 ?_
    refine mG_iadd C dX9_sumBy_50 ?_
    refine mG_iload_n C dX9_sumBy_51 rfl rfl ?_
    refine mG_iadd C dX9_sumBy_52 ?_
    refine mG_iload C dX9_sumBy_53 rfl ?_
    refine mG_iconst C dX9_sumBy_55 ic2 ?_
    refine mG_irem C dX9_sumBy_56 (by decide) ?_
    refine mG_iconst C dX9_sumBy_57 ic1 ?_
    refine mG_icmp_ne (tgt := 66) C dX9_sumBy_58 rfl (fun h => ?_) (fun h => ?_)
    · have K := K.1 h
      refine mG_iconst C dX9_sumBy_66 ic1 ?_
      refine mG_iload C dX9_sumBy_67 rfl ?_
      refine mG_isub C dX9_sumBy_69 ?_
      obtain ⟨h2, K⟩ := K
      refine mG_iast C dX9_sumBy_70 sh67 h2 ?_
      refine mG_nm (fun w2 ew2 => ?_)
      have K := K w2 ew2
      refine mG_aload_n C dX9_sumBy_71 rfl rfl ?_
      refine mG_aload_n C dX9_sumBy_72 rfl rfl ?_
      refine mG_getR C dX9_sumBy_73 fl_853 sh60 rfl ?_
      refine mG_Vv (Z := MX9_pass) (as := [.ref 67]) (rest := []) C dX9_sumBy_76 lk_1096 zX9_pass ⟨Nat.le_of_ble_eq_true rfl, Nat.le_of_ble_eq_true rfl⟩ sh60 rfl rfl (Nat.le_of_ble_eq_true rfl) rfl K (fun u2 K => ?_)
      refine mG_aload_n C dX9_sumBy_79 rfl rfl ?_
      refine mG_aload_n C dX9_sumBy_80 rfl rfl ?_
      refine mG_getR C dX9_sumBy_81 fl_853 sh60 rfl ?_
      refine mG_iconst C dX9_sumBy_84 ic0 ?_
      refine mG_ialdv C dX9_sumBy_85 sh67 (by unfold vp_in; decide) (by first | rfl | simp [mPI, mPL]) ?_
      refine mG_Vi (Z := MX9_sumOf) (as := [.int (u2.1 67 0)]) (rest := []) C dX9_sumBy_86 lk_1119 zX9_sumOf ⟨Nat.le_of_ble_eq_true rfl, Nat.le_of_ble_eq_true rfl⟩ sh60 rfl rfl (Nat.le_of_ble_eq_true rfl) rfl K (fun v1 u3 K => ?_)
      exact mG_iret C F dX9_sumBy_89 rfl rfl K
    · have K := K.2 h
      refine mG_iload C dX9_sumBy_61 rfl ?_
      refine mG_goto (tgt := 70) C dX9_sumBy_63 rfl ?_
      obtain ⟨h3, K⟩ := K
      refine mG_iast C dX9_sumBy_70 sh67 h3 ?_
      refine mG_nm (fun w3 ew3 => ?_)
      have K := K w3 ew3
      refine mG_aload_n C dX9_sumBy_71 rfl rfl ?_
      refine mG_aload_n C dX9_sumBy_72 rfl rfl ?_
      refine mG_getR C dX9_sumBy_73 fl_853 sh60 rfl ?_
      refine mG_Vv (Z := MX9_pass) (as := [.ref 67]) (rest := []) C dX9_sumBy_76 lk_1096 zX9_pass ⟨Nat.le_of_ble_eq_true rfl, Nat.le_of_ble_eq_true rfl⟩ sh60 rfl rfl (Nat.le_of_ble_eq_true rfl) rfl K (fun u4 K => ?_)
      refine mG_aload_n C dX9_sumBy_79 rfl rfl ?_
      refine mG_aload_n C dX9_sumBy_80 rfl rfl ?_
      refine mG_getR C dX9_sumBy_81 fl_853 sh60 rfl ?_
      refine mG_iconst C dX9_sumBy_84 ic0 ?_
      refine mG_ialdv C dX9_sumBy_85 sh67 (by unfold vp_in; decide) (by first | rfl | simp [mPI, mPL]) ?_
      refine mG_Vi (Z := MX9_sumOf) (as := [.int (u4.1 67 0)]) (rest := []) C dX9_sumBy_86 lk_1119 zX9_sumOf ⟨Nat.le_of_ble_eq_true rfl, Nat.le_of_ble_eq_true rfl⟩ sh60 rfl rfl (Nat.le_of_ble_eq_true rfl) rfl K (fun v2 u5 K => ?_)
      exact mG_iret C F dX9_sumBy_89 rfl rfl K
  · have K := K.2 h
    refine mG_iload C dX9_sumBy_31 rfl ?_
    refine mG_goto (tgt := 40) C dX9_sumBy_33 rfl ?_
    obtain ⟨h4, K⟩ := K
    refine mG_iast C dX9_sumBy_40 sh67 h4 ?_
    refine mG_nm (fun w4 ew4 => ?_)
    have K := K w4 ew4
    refine mG_aload_n C dX9_sumBy_41 rfl rfl ?_
    refine mG_getR C dX9_sumBy_42 fl_853 sh60 rfl ?_
    refine mG_iconst C dX9_sumBy_45 ic2 ?_
    refine mG_bipush C dX9_sumBy_46 bp6 ?_
    refine mG_iload_n C dX9_sumBy_48 rfl rfl ?_
    refine mG_imul C dX9_sumBy_49 ?_
    refine mG_iadd C dX9_sumBy_50 ?_
    refine mG_iload_n C dX9_sumBy_51 rfl rfl ?_
    refine mG_iadd C dX9_sumBy_52 ?_
    refine mG_iload C dX9_sumBy_53 rfl ?_
    refine mG_iconst C dX9_sumBy_55 ic2 ?_
    refine mG_irem C dX9_sumBy_56 (by decide) ?_
    refine mG_iconst C dX9_sumBy_57 ic1 ?_
    refine mG_icmp_ne (tgt := 66) C dX9_sumBy_58 rfl (fun h => ?_) (fun h => ?_)
    · have K := K.1 h
      refine mG_iconst C dX9_sumBy_66 ic1 ?_
      refine mG_iload C dX9_sumBy_67 rfl ?_
      refine mG_isub C dX9_sumBy_69 ?_
      obtain ⟨h5, K⟩ := K
      refine mG_iast C dX9_sumBy_70 sh67 h5 ?_
      refine mG_nm (fun w5 ew5 => ?_)
      have K := K w5 ew5
      refine mG_aload_n C dX9_sumBy_71 rfl rfl ?_
      refine mG_aload_n C dX9_sumBy_72 rfl rfl ?_
      refine mG_getR C dX9_sumBy_73 fl_853 sh60 rfl ?_
      refine mG_Vv (Z := MX9_pass) (as := [.ref 67]) (rest := []) C dX9_sumBy_76 lk_1096 zX9_pass ⟨Nat.le_of_ble_eq_true rfl, Nat.le_of_ble_eq_true rfl⟩ sh60 rfl rfl (Nat.le_of_ble_eq_true rfl) rfl K (fun u6 K => ?_)
      refine mG_aload_n C dX9_sumBy_79 rfl rfl ?_
      refine mG_aload_n C dX9_sumBy_80 rfl rfl ?_
      refine mG_getR C dX9_sumBy_81 fl_853 sh60 rfl ?_
      refine mG_iconst C dX9_sumBy_84 ic0 ?_
      refine mG_ialdv C dX9_sumBy_85 sh67 (by unfold vp_in; decide) (by first | rfl | simp [mPI, mPL]) ?_
      refine mG_Vi (Z := MX9_sumOf) (as := [.int (u6.1 67 0)]) (rest := []) C dX9_sumBy_86 lk_1119 zX9_sumOf ⟨Nat.le_of_ble_eq_true rfl, Nat.le_of_ble_eq_true rfl⟩ sh60 rfl rfl (Nat.le_of_ble_eq_true rfl) rfl K (fun v3 u7 K => ?_)
      exact mG_iret C F dX9_sumBy_89 rfl rfl K
    · have K := K.2 h
      refine mG_iload C dX9_sumBy_61 rfl ?_
      refine mG_goto (tgt := 70) C dX9_sumBy_63 rfl ?_
      obtain ⟨h6, K⟩ := K
      refine mG_iast C dX9_sumBy_70 sh67 h6 ?_
      refine mG_nm (fun w6 ew6 => ?_)
      have K := K w6 ew6
      refine mG_aload_n C dX9_sumBy_71 rfl rfl ?_
      refine mG_aload_n C dX9_sumBy_72 rfl rfl ?_
      refine mG_getR C dX9_sumBy_73 fl_853 sh60 rfl ?_
      refine mG_Vv (Z := MX9_pass) (as := [.ref 67]) (rest := []) C dX9_sumBy_76 lk_1096 zX9_pass ⟨Nat.le_of_ble_eq_true rfl, Nat.le_of_ble_eq_true rfl⟩ sh60 rfl rfl (Nat.le_of_ble_eq_true rfl) rfl K (fun u8 K => ?_)
      refine mG_aload_n C dX9_sumBy_79 rfl rfl ?_
      refine mG_aload_n C dX9_sumBy_80 rfl rfl ?_
      refine mG_getR C dX9_sumBy_81 fl_853 sh60 rfl ?_
      refine mG_iconst C dX9_sumBy_84 ic0 ?_
      refine mG_ialdv C dX9_sumBy_85 sh67 (by unfold vp_in; decide) (by first | rfl | simp [mPI, mPL]) ?_
      refine mG_Vi (Z := MX9_sumOf) (as := [.int (u8.1 67 0)]) (rest := []) C dX9_sumBy_86 lk_1119 zX9_sumOf ⟨Nat.le_of_ble_eq_true rfl, Nat.le_of_ble_eq_true rfl⟩ sh60 rfl rfl (Nat.le_of_ble_eq_true rfl) rfl K (fun v4 u9 K => ?_)
      exact mG_iret C F dX9_sumBy_89 rfl rfl K

set_option maxRecDepth 20000 in
set_option maxHeartbeats 4000000 in
theorem vX9_sumOf_0 {X : mX} {E : mEnv} {Qm : Option Value → mW → Prop} (C : mCtx X E MX9_sumOf) (F : mFin X E MX9_sumOf Qm) {w : mW}  (p0 : Int32)
    (K : mG X E MX9_sumOf 4 [.ref 60, .int p0, .int (0 : Int32), .int (0 : Int32), .retAddr 0] [] w) :
    mG X E MX9_sumOf 0 [.ref 60, .int p0, .retAddr 0, .retAddr 0, .retAddr 0] [] w := by
  refine mG_iconst C dX9_sumOf_0 ic0 ?_
  refine mG_istore_n (lv' := [.ref 60, .int p0, .int (0 : Int32), .retAddr 0, .retAddr 0]) C dX9_sumOf_1 rfl (by decide) rfl ?_
  refine mG_iconst C dX9_sumOf_2 ic0 ?_
  refine mG_istore_n (lv' := [.ref 60, .int p0, .int (0 : Int32), .int (0 : Int32), .retAddr 0]) C dX9_sumOf_3 rfl (by decide) rfl ?_
  exact K

set_option maxRecDepth 20000 in
set_option maxHeartbeats 4000000 in
theorem vX9_sumOf_4 {X : mX} {E : mEnv} {Qm : Option Value → mW → Prop} (C : mCtx X E MX9_sumOf) (F : mFin X E MX9_sumOf Qm) {w : mW}  (x1 : Int32) (x2 : Int32) (x3 : Int32)
    (K : ((w.1 60 0) ≤ x3 →
    (Qm (some (.int x2)) w)) ∧ (¬ (w.1 60 0) ≤ x3 →
    (mMi E MX9_has [.int x1, .int x3] w (fun v1 u1 =>
    ((v1 = 0 →
    (vp_in ((3 : Int32) * x3) 18 ∧
    ((¬ (u1.1 61 (((3 : Int32) * x3).toNatClampNeg)) = 0 →
    (mG X E MX9_sumOf 4 [.ref 60, .int x1, .int (x2 + (-(0 : Int32))), .int (x3 + (1 : Int32)), .retAddr 0] [] u1)) ∧ ((u1.1 61 (((3 : Int32) * x3).toNatClampNeg)) = 0 →
    (mG X E MX9_sumOf 4 [.ref 60, .int x1, .int (x2 + (0 : Int32)), .int (x3 + (1 : Int32)), .retAddr 0] [] u1))))) ∧ (¬ v1 = 0 →
    (vp_in (((3 : Int32) * x3) + (1 : Int32)) 18 ∧
    (vp_in ((3 : Int32) * x3) 18 ∧
    ((¬ (u1.1 61 (((3 : Int32) * x3).toNatClampNeg)) = 0 →
    (mG X E MX9_sumOf 4 [.ref 60, .int x1, .int (x2 + (-(u1.1 61 ((((3 : Int32) * x3) + (1 : Int32)).toNatClampNeg)))), .int (x3 + (1 : Int32)), .retAddr 0] [] u1)) ∧ ((u1.1 61 (((3 : Int32) * x3).toNatClampNeg)) = 0 →
    (mG X E MX9_sumOf 4 [.ref 60, .int x1, .int (x2 + (u1.1 61 ((((3 : Int32) * x3) + (1 : Int32)).toNatClampNeg))), .int (x3 + (1 : Int32)), .retAddr 0] [] u1))))))))))) :
    mG X E MX9_sumOf 4 [.ref 60, .int x1, .int x2, .int x3, .retAddr 0] [] w := by
  refine mG_iload_n C dX9_sumOf_4 rfl rfl ?_
  refine mG_aload_n C dX9_sumOf_5 rfl rfl ?_
  refine mG_getI C dX9_sumOf_6 fl_833 sh60 rfl ?_
  refine mG_icmp_ge (tgt := 64) C dX9_sumOf_9 rfl (fun h => ?_) (fun h => ?_)
  · have K := K.1 h
    refine mG_iload_n C dX9_sumOf_64 rfl rfl ?_
    exact mG_iret C F dX9_sumOf_65 rfl rfl K
  · have K := K.2 h
    refine mG_iload_n C dX9_sumOf_12 rfl rfl ?_
    refine mG_iload_n C dX9_sumOf_13 rfl rfl ?_
    refine mG_Si (Z := MX9_has) (as := [.int x1, .int x3]) (rest := []) C dX9_sumOf_14 lk_1089 zX9_has ⟨Nat.le_of_ble_eq_true rfl, Nat.le_of_ble_eq_true rfl⟩ rfl (Nat.le_of_ble_eq_true rfl) rfl K (fun v1 u1 K => ?_)
    refine mG_if_eq (tgt := 33) C dX9_sumOf_17 rfl (fun h => ?_) (fun h => ?_)
    · have K := K.1 h
      refine mG_iconst C dX9_sumOf_33 ic0 ?_
      refine mG_istore (lv' := [.ref 60, .int x1, .int x2, .int x3, .int (0 : Int32)]) C dX9_sumOf_34 (by decide) rfl ?_
      refine mG_iload_n C dX9_sumOf_36 rfl rfl ?_
      refine mG_aload_n C dX9_sumOf_37 rfl rfl ?_
      refine mG_getR C dX9_sumOf_38 fl_834 sh60 rfl ?_
      refine mG_iconst C dX9_sumOf_41 ic3 ?_
      refine mG_iload_n C dX9_sumOf_42 rfl rfl ?_
      refine mG_imul C dX9_sumOf_43 ?_
      obtain ⟨h1, K⟩ := K
      refine mG_iald C dX9_sumOf_44 sh61 h1 ?_
      refine mG_if_ne (tgt := 53) C dX9_sumOf_45 rfl (fun h => ?_) (fun h => ?_)
      · have K := K.1 h
        refine mG_iload C dX9_sumOf_53 rfl ?_
        refine mG_ineg C dX9_sumOf_55 ?_
        refine mG_iadd C dX9_sumOf_56 ?_
        refine mG_istore_n (lv' := [.ref 60, .int x1, .int (x2 + (-(0 : Int32))), .int x3, .int (0 : Int32)]) C dX9_sumOf_57 rfl (by decide) rfl ?_
        refine mG_iincc (lv' := [.ref 60, .int x1, .int (x2 + (-(0 : Int32))), .int (x3 + (1 : Int32)), .int (0 : Int32)]) C dX9_sumOf_58 rfl ic1 (by decide) rfl ?_
        refine mG_goto (tgt := 4) C dX9_sumOf_61 rfl ?_
        exact mG_holes [4] rfl K
      · have K := K.2 h
        refine mG_iload C dX9_sumOf_48 rfl ?_
        refine mG_goto (tgt := 56) C dX9_sumOf_50 rfl ?_
        refine mG_iadd C dX9_sumOf_56 ?_
        refine mG_istore_n (lv' := [.ref 60, .int x1, .int (x2 + (0 : Int32)), .int x3, .int (0 : Int32)]) C dX9_sumOf_57 rfl (by decide) rfl ?_
        refine mG_iincc (lv' := [.ref 60, .int x1, .int (x2 + (0 : Int32)), .int (x3 + (1 : Int32)), .int (0 : Int32)]) C dX9_sumOf_58 rfl ic1 (by decide) rfl ?_
        refine mG_goto (tgt := 4) C dX9_sumOf_61 rfl ?_
        exact mG_holes [4] rfl K
    · have K := K.2 h
      refine mG_aload_n C dX9_sumOf_20 rfl rfl ?_
      refine mG_getR C dX9_sumOf_21 fl_834 sh60 rfl ?_
      refine mG_iconst C dX9_sumOf_24 ic3 ?_
      refine mG_iload_n C dX9_sumOf_25 rfl rfl ?_
      refine mG_imul C dX9_sumOf_26 ?_
      refine mG_iconst C dX9_sumOf_27 ic1 ?_
      refine mG_iadd C dX9_sumOf_28 ?_
      obtain ⟨h2, K⟩ := K
      refine mG_iald C dX9_sumOf_29 sh61 h2 ?_
      refine mG_goto (tgt := 34) C dX9_sumOf_30 rfl ?_
      refine mG_istore (lv' := [.ref 60, .int x1, .int x2, .int x3, .int (u1.1 61 ((((3 : Int32) * x3) + (1 : Int32)).toNatClampNeg))]) C dX9_sumOf_34 (by decide) rfl ?_
      refine mG_iload_n C dX9_sumOf_36 rfl rfl ?_
      refine mG_aload_n C dX9_sumOf_37 rfl rfl ?_
      refine mG_getR C dX9_sumOf_38 fl_834 sh60 rfl ?_
      refine mG_iconst C dX9_sumOf_41 ic3 ?_
      refine mG_iload_n C dX9_sumOf_42 rfl rfl ?_
      refine mG_imul C dX9_sumOf_43 ?_
      obtain ⟨h3, K⟩ := K
      refine mG_iald C dX9_sumOf_44 sh61 h3 ?_
      refine mG_if_ne (tgt := 53) C dX9_sumOf_45 rfl (fun h => ?_) (fun h => ?_)
      · have K := K.1 h
        refine mG_iload C dX9_sumOf_53 rfl ?_
        refine mG_ineg C dX9_sumOf_55 ?_
        refine mG_iadd C dX9_sumOf_56 ?_
        refine mG_istore_n (lv' := [.ref 60, .int x1, .int (x2 + (-(u1.1 61 ((((3 : Int32) * x3) + (1 : Int32)).toNatClampNeg)))), .int x3, .int (u1.1 61 ((((3 : Int32) * x3) + (1 : Int32)).toNatClampNeg))]) C dX9_sumOf_57 rfl (by decide) rfl ?_
        refine mG_iincc (lv' := [.ref 60, .int x1, .int (x2 + (-(u1.1 61 ((((3 : Int32) * x3) + (1 : Int32)).toNatClampNeg)))), .int (x3 + (1 : Int32)), .int (u1.1 61 ((((3 : Int32) * x3) + (1 : Int32)).toNatClampNeg))]) C dX9_sumOf_58 rfl ic1 (by decide) rfl ?_
        refine mG_goto (tgt := 4) C dX9_sumOf_61 rfl ?_
        exact mG_holes [4] rfl K
      · have K := K.2 h
        refine mG_iload C dX9_sumOf_48 rfl ?_
        refine mG_goto (tgt := 56) C dX9_sumOf_50 rfl ?_
        refine mG_iadd C dX9_sumOf_56 ?_
        refine mG_istore_n (lv' := [.ref 60, .int x1, .int (x2 + (u1.1 61 ((((3 : Int32) * x3) + (1 : Int32)).toNatClampNeg))), .int x3, .int (u1.1 61 ((((3 : Int32) * x3) + (1 : Int32)).toNatClampNeg))]) C dX9_sumOf_57 rfl (by decide) rfl ?_
        refine mG_iincc (lv' := [.ref 60, .int x1, .int (x2 + (u1.1 61 ((((3 : Int32) * x3) + (1 : Int32)).toNatClampNeg))), .int (x3 + (1 : Int32)), .int (u1.1 61 ((((3 : Int32) * x3) + (1 : Int32)).toNatClampNeg))]) C dX9_sumOf_58 rfl ic1 (by decide) rfl ?_
        refine mG_goto (tgt := 4) C dX9_sumOf_61 rfl ?_
        exact mG_holes [4] rfl K

set_option maxRecDepth 20000 in
set_option maxHeartbeats 4000000 in
theorem vX9_sure_0 {X : mX} {E : mEnv} {Qm : Option Value → mW → Prop} (C : mCtx X E MX9_sure) (F : mFin X E MX9_sure Qm) {w : mW}  (p0 : Int32)
    (K : mMi E MX9_in [.int p0, .int (0 : Int32), .int (1 : Int32)] w (fun v1 u1 =>
    ((¬ v1 = 0 →
    (mMv E MX9_layCanBe [.ref 60] u1 (fun u2 =>
    (mG X E MX9_sure 23 [.ref 60, .int p0, .int (0 : Int32), .int (0 : Int32), .int (1 : Int32), .retAddr 0, .retAddr 0, .retAddr 0, .retAddr 0] [] u2)))) ∧ (v1 = 0 →
    (Qm (some (.int (-3 : Int32))) u1))))) :
    mG X E MX9_sure 0 [.ref 60, .int p0, .retAddr 0, .retAddr 0, .retAddr 0, .retAddr 0, .retAddr 0, .retAddr 0, .retAddr 0] [] w := by
  refine mG_iload_n C dX9_sure_0 rfl rfl ?_
  refine mG_iconst C dX9_sure_1 ic0 ?_
  refine mG_iconst C dX9_sure_2 ic1 ?_
  refine mG_Si (Z := MX9_in) (as := [.int p0, .int (0 : Int32), .int (1 : Int32)]) (rest := []) C dX9_sure_3 lk_956 zX9_in ⟨Nat.le_of_ble_eq_true rfl, Nat.le_of_ble_eq_true rfl⟩ rfl (Nat.le_of_ble_eq_true rfl) rfl K (fun v1 u1 K => ?_)
  refine mG_if_ne (tgt := 12) C dX9_sure_6 rfl (fun h => ?_) (fun h => ?_)
  · have K := K.1 h
    refine mG_aload_n C dX9_sure_12 rfl rfl ?_
    refine mG_Vv (Z := MX9_layCanBe) (as := []) (rest := []) C dX9_sure_13 lk_1187 zX9_layCanBe ⟨Nat.le_of_ble_eq_true rfl, Nat.le_of_ble_eq_true rfl⟩ sh60 rfl rfl (Nat.le_of_ble_eq_true rfl) rfl K (fun u2 K => ?_)
    refine mG_iconst C dX9_sure_16 ic0 ?_
    refine mG_istore_n (lv' := [.ref 60, .int p0, .int (0 : Int32), .retAddr 0, .retAddr 0, .retAddr 0, .retAddr 0, .retAddr 0, .retAddr 0]) C dX9_sure_17 rfl (by decide) rfl ?_
    refine mG_iconst C dX9_sure_18 ic0 ?_
    refine mG_istore_n (lv' := [.ref 60, .int p0, .int (0 : Int32), .int (0 : Int32), .retAddr 0, .retAddr 0, .retAddr 0, .retAddr 0, .retAddr 0]) C dX9_sure_19 rfl (by decide) rfl ?_
    refine mG_iconst C dX9_sure_20 ic1 ?_
    refine mG_istore (lv' := [.ref 60, .int p0, .int (0 : Int32), .int (0 : Int32), .int (1 : Int32), .retAddr 0, .retAddr 0, .retAddr 0, .retAddr 0]) C dX9_sure_21 (by decide) rfl ?_
    exact K
  · have K := K.2 h
    refine mG_bipush C dX9_sure_9 bpm3 ?_
    exact mG_iret C F dX9_sure_11 rfl rfl K

set_option maxRecDepth 20000 in
set_option maxHeartbeats 4000000 in
theorem vX9_sure_23 {X : mX} {E : mEnv} {Qm : Option Value → mW → Prop} (C : mCtx X E MX9_sure) (F : mFin X E MX9_sure Qm) {w : mW}  (x1 : Int32) (x2 : Int32) (x3 : Int32) (x4 : Int32)
    (K : (((1 : Int32) <<< ((w.1 60 28) &&& 31)) ≤ x4 →
    ((¬ x1 = 0 →
    (Qm (some (.int x2)) w)) ∧ (x1 = 0 →
    (Qm (some (.int x3)) w)))) ∧ (¬ ((1 : Int32) <<< ((w.1 60 28) &&& 31)) ≤ x4 →
    (mG X E MX9_sure 42 [.ref 60, .int x1, .int x2, .int x3, .int x4, .int (99999 : Int32), .int (0 : Int32), .retAddr 0, .retAddr 0] [] w))) :
    mG X E MX9_sure 23 [.ref 60, .int x1, .int x2, .int x3, .int x4, .retAddr 0, .retAddr 0, .retAddr 0, .retAddr 0] [] w := by
  refine mG_iload C dX9_sure_23 rfl ?_
  refine mG_iconst C dX9_sure_25 ic1 ?_
  refine mG_aload_n C dX9_sure_26 rfl rfl ?_
  refine mG_getI C dX9_sure_27 fl_861 sh60 rfl ?_
  refine mG_ishl C dX9_sure_30 ?_
  refine mG_icmp_ge (tgt := 174) C dX9_sure_31 rfl (fun h => ?_) (fun h => ?_)
  · have K := K.1 h
    refine mG_iload_n C dX9_sure_174 rfl rfl ?_
    refine mG_if_ne (tgt := 182) C dX9_sure_175 rfl (fun h => ?_) (fun h => ?_)
    · have K := K.1 h
      refine mG_iload_n C dX9_sure_182 rfl rfl ?_
      exact mG_iret C F dX9_sure_183 rfl rfl K
    · have K := K.2 h
      refine mG_iload_n C dX9_sure_178 rfl rfl ?_
      refine mG_goto (tgt := 183) C dX9_sure_179 rfl ?_
      exact mG_iret C F dX9_sure_183 rfl rfl K
  · have K := K.2 h
    refine mG_ldcw C dX9_sure_34 kc_1191_280 ?_
    refine mG_istore (lv' := [.ref 60, .int x1, .int x2, .int x3, .int x4, .int (99999 : Int32), .retAddr 0, .retAddr 0, .retAddr 0]) C dX9_sure_37 (by decide) rfl ?_
    refine mG_iconst C dX9_sure_39 ic0 ?_
    refine mG_istore (lv' := [.ref 60, .int x1, .int x2, .int x3, .int x4, .int (99999 : Int32), .int (0 : Int32), .retAddr 0, .retAddr 0]) C dX9_sure_40 (by decide) rfl ?_
    exact K

set_option maxRecDepth 20000 in
set_option maxHeartbeats 4000000 in
theorem vX9_sure_42 {X : mX} {E : mEnv} {Qm : Option Value → mW → Prop} (C : mCtx X E MX9_sure) (F : mFin X E MX9_sure Qm) {w : mW}  (x1 : Int32) (x2 : Int32) (x3 : Int32) (x4 : Int32) (x5 : Int32) (x6 : Int32)
    (K : ((64 : Int32) ≤ x6 →
    ((x5 ≤ x3 →
    (mG X E MX9_sure 23 [.ref 60, .int x1, .int x2, .int x3, .int (x4 + (1 : Int32)), .retAddr 0, .retAddr 0, .retAddr 0, .retAddr 0] [] w)) ∧ (¬ x5 ≤ x3 →
    (mG X E MX9_sure 23 [.ref 60, .int x1, .int x4, .int x5, .int (x4 + (1 : Int32)), .retAddr 0, .retAddr 0, .retAddr 0, .retAddr 0] [] w)))) ∧ (¬ (64 : Int32) ≤ x6 →
    (mG X E MX9_sure 55 [.ref 60, .int x1, .int x2, .int x3, .int x4, .int x5, .int x6, .int (0 : Int32), .int (0 : Int32)] [] w))) :
    mG X E MX9_sure 42 [.ref 60, .int x1, .int x2, .int x3, .int x4, .int x5, .int x6, .retAddr 0, .retAddr 0] [] w := by
  refine mG_iload C dX9_sure_42 rfl ?_
  refine mG_bipush C dX9_sure_44 bp64 ?_
  refine mG_icmp_ge (tgt := 156) C dX9_sure_46 rfl (fun h => ?_) (fun h => ?_)
  · have K := K.1 h
    refine mG_iload C dX9_sure_156 rfl ?_
    refine mG_iload_n C dX9_sure_158 rfl rfl ?_
    refine mG_icmp_le (tgt := 168) C dX9_sure_159 rfl (fun h => ?_) (fun h => ?_)
    · have K := K.1 h
      refine mG_iincc (lv' := [.ref 60, .int x1, .int x2, .int x3, .int (x4 + (1 : Int32)), .int x5, .int x6, .retAddr 0, .retAddr 0]) C dX9_sure_168 rfl ic1 (by decide) rfl ?_
      refine mG_goto (tgt := 23) C dX9_sure_171 rfl ?_
      exact mG_holes [5, 6] rfl K
    · have K := K.2 h
      refine mG_iload C dX9_sure_162 rfl ?_
      refine mG_istore_n (lv' := [.ref 60, .int x1, .int x2, .int x5, .int x4, .int x5, .int x6, .retAddr 0, .retAddr 0]) C dX9_sure_164 rfl (by decide) rfl ?_
      refine mG_iload C dX9_sure_165 rfl ?_
      refine mG_istore_n (lv' := [.ref 60, .int x1, .int x4, .int x5, .int x4, .int x5, .int x6, .retAddr 0, .retAddr 0]) C dX9_sure_167 rfl (by decide) rfl ?_
      refine mG_iincc (lv' := [.ref 60, .int x1, .int x4, .int x5, .int (x4 + (1 : Int32)), .int x5, .int x6, .retAddr 0, .retAddr 0]) C dX9_sure_168 rfl ic1 (by decide) rfl ?_
      refine mG_goto (tgt := 23) C dX9_sure_171 rfl ?_
      exact mG_holes [5, 6] rfl K
  · have K := K.2 h
    refine mG_iconst C dX9_sure_49 ic0 ?_
    refine mG_istore (lv' := [.ref 60, .int x1, .int x2, .int x3, .int x4, .int x5, .int x6, .int (0 : Int32), .retAddr 0]) C dX9_sure_50 (by decide) rfl ?_
    refine mG_iconst C dX9_sure_52 ic0 ?_
    refine mG_istore (lv' := [.ref 60, .int x1, .int x2, .int x3, .int x4, .int x5, .int x6, .int (0 : Int32), .int (0 : Int32)]) C dX9_sure_53 (by decide) rfl ?_
    exact K

set_option maxRecDepth 20000 in
set_option maxHeartbeats 4000000 in
theorem vX9_sure_55 {X : mX} {E : mEnv} {Qm : Option Value → mW → Prop} (C : mCtx X E MX9_sure) (F : mFin X E MX9_sure Qm) {w : mW}  (x1 : Int32) (x2 : Int32) (x3 : Int32) (x4 : Int32) (x5 : Int32) (x6 : Int32) (x7 : Int32) (x8 : Int32)
    (K : ((w.1 60 28) ≤ x8 →
    (vp_in x6 64 ∧
    (((w.1 74 x6.toNatClampNeg) = 0 →
    (mG X E MX9_sure 42 [.ref 60, .int x1, .int x2, .int x3, .int x4, .int x5, .int (x6 + (1 : Int32)), .retAddr 0, .retAddr 0] [] w)) ∧ (¬ (w.1 74 x6.toNatClampNeg) = 0 →
    ((x5 ≤ x7 →
    (mG X E MX9_sure 42 [.ref 60, .int x1, .int x2, .int x3, .int x4, .int x5, .int (x6 + (1 : Int32)), .retAddr 0, .retAddr 0] [] w)) ∧ (¬ x5 ≤ x7 →
    (mG X E MX9_sure 42 [.ref 60, .int x1, .int x2, .int x3, .int x4, .int x7, .int (x6 + (1 : Int32)), .retAddr 0, .retAddr 0] [] w))))))) ∧ (¬ (w.1 60 28) ≤ x8 →
    (mMi E MX9_has [.int x4, .int x8] w (fun v1 u1 =>
    ((v1 = 0 →
    (mG X E MX9_sure 55 [.ref 60, .int x1, .int x2, .int x3, .int x4, .int x5, .int x6, .int (x7 + (0 : Int32)), .int (x8 + (1 : Int32))] [] u1)) ∧ (¬ v1 = 0 →
    (vp_in ((2 : Int32) * x8) 10 ∧
    (mMi E MX9_has [.int x6, .int (u1.1 73 (((2 : Int32) * x8).toNatClampNeg))] u1 (fun v2 u2 =>
    ((v2 = 0 →
    (vp_in (((2 : Int32) * x8) + (1 : Int32)) 10 ∧
    (mG X E MX9_sure 55 [.ref 60, .int x1, .int x2, .int x3, .int x4, .int x5, .int x6, .int (x7 + ((0 : Int32) - (u2.1 73 ((((2 : Int32) * x8) + (1 : Int32)).toNatClampNeg)))), .int (x8 + (1 : Int32))] [] u2))) ∧ (¬ v2 = 0 →
    (vp_in (((2 : Int32) * x8) + (1 : Int32)) 10 ∧
    (mG X E MX9_sure 55 [.ref 60, .int x1, .int x2, .int x3, .int x4, .int x5, .int x6, .int (x7 + ((100 : Int32) - (u2.1 73 ((((2 : Int32) * x8) + (1 : Int32)).toNatClampNeg)))), .int (x8 + (1 : Int32))] [] u2))))))))))))) :
    mG X E MX9_sure 55 [.ref 60, .int x1, .int x2, .int x3, .int x4, .int x5, .int x6, .int x7, .int x8] [] w := by
  refine mG_iload C dX9_sure_55 rfl ?_
  refine mG_aload_n C dX9_sure_57 rfl rfl ?_
  refine mG_getI C dX9_sure_58 fl_861 sh60 rfl ?_
  refine mG_icmp_ge (tgt := 124) C dX9_sure_61 rfl (fun h => ?_) (fun h => ?_)
  · have K := K.1 h
    refine mG_aload_n C dX9_sure_124 rfl rfl ?_
    refine mG_getR C dX9_sure_125 fl_870 sh60 rfl ?_
    refine mG_iload C dX9_sure_128 rfl ?_
    obtain ⟨h1, K⟩ := K
    refine mG_zald C dX9_sure_130 sh74 h1 ?_
    refine mG_if_eq (tgt := 146) C dX9_sure_131 rfl (fun h => ?_) (fun h => ?_)
    · have K := K.1 h
      refine mG_iload C dX9_sure_146 rfl ?_
      refine mG_istore (lv' := [.ref 60, .int x1, .int x2, .int x3, .int x4, .int x5, .int x6, .int x7, .int x8]) C dX9_sure_148 (by decide) rfl ?_
      refine mG_iincc (lv' := [.ref 60, .int x1, .int x2, .int x3, .int x4, .int x5, .int (x6 + (1 : Int32)), .int x7, .int x8]) C dX9_sure_150 rfl ic1 (by decide) rfl ?_
      refine mG_goto (tgt := 42) C dX9_sure_153 rfl ?_
      exact mG_holes [7, 8] rfl K
    · have K := K.2 h
      refine mG_iload C dX9_sure_134 rfl ?_
      refine mG_iload C dX9_sure_136 rfl ?_
      refine mG_icmp_ge (tgt := 146) C dX9_sure_138 rfl (fun h => ?_) (fun h => ?_)
      · have K := K.1 h
        refine mG_iload C dX9_sure_146 rfl ?_
        refine mG_istore (lv' := [.ref 60, .int x1, .int x2, .int x3, .int x4, .int x5, .int x6, .int x7, .int x8]) C dX9_sure_148 (by decide) rfl ?_
        refine mG_iincc (lv' := [.ref 60, .int x1, .int x2, .int x3, .int x4, .int x5, .int (x6 + (1 : Int32)), .int x7, .int x8]) C dX9_sure_150 rfl ic1 (by decide) rfl ?_
        refine mG_goto (tgt := 42) C dX9_sure_153 rfl ?_
        exact mG_holes [7, 8] rfl K
      · have K := K.2 h
        refine mG_iload C dX9_sure_141 rfl ?_
        refine mG_goto (tgt := 148) C dX9_sure_143 rfl ?_
        refine mG_istore (lv' := [.ref 60, .int x1, .int x2, .int x3, .int x4, .int x7, .int x6, .int x7, .int x8]) C dX9_sure_148 (by decide) rfl ?_
        refine mG_iincc (lv' := [.ref 60, .int x1, .int x2, .int x3, .int x4, .int x7, .int (x6 + (1 : Int32)), .int x7, .int x8]) C dX9_sure_150 rfl ic1 (by decide) rfl ?_
        refine mG_goto (tgt := 42) C dX9_sure_153 rfl ?_
        exact mG_holes [7, 8] rfl K
  · have K := K.2 h
    refine mG_iload C dX9_sure_64 rfl ?_
    refine mG_iload C dX9_sure_66 rfl ?_
    refine mG_iload C dX9_sure_68 rfl ?_
    refine mG_Si (Z := MX9_has) (as := [.int x4, .int x8]) (rest := [.int x7]) C dX9_sure_70 lk_1089 zX9_has ⟨Nat.le_of_ble_eq_true rfl, Nat.le_of_ble_eq_true rfl⟩ rfl (Nat.le_of_ble_eq_true rfl) rfl K (fun v1 u1 K => ?_)
    refine mG_if_eq (tgt := 114) C dX9_sure_73 rfl (fun h => ?_) (fun h => ?_)
    · have K := K.1 h
      refine mG_iconst C dX9_sure_114 ic0 ?_
      refine mG_iadd C dX9_sure_115 ?_
      refine mG_istore (lv' := [.ref 60, .int x1, .int x2, .int x3, .int x4, .int x5, .int x6, .int (x7 + (0 : Int32)), .int x8]) C dX9_sure_116 (by decide) rfl ?_
      refine mG_iincc (lv' := [.ref 60, .int x1, .int x2, .int x3, .int x4, .int x5, .int x6, .int (x7 + (0 : Int32)), .int (x8 + (1 : Int32))]) C dX9_sure_118 rfl ic1 (by decide) rfl ?_
      refine mG_goto (tgt := 55) C dX9_sure_121 rfl ?_
      exact K
    · have K := K.2 h
      refine mG_iload C dX9_sure_76 rfl ?_
      refine mG_aload_n C dX9_sure_78 rfl rfl ?_
      refine mG_getR C dX9_sure_79 fl_860 sh60 rfl ?_
      refine mG_iconst C dX9_sure_82 ic2 ?_
      refine mG_iload C dX9_sure_83 rfl ?_
      refine mG_imul C dX9_sure_85 ?_
      obtain ⟨h2, K⟩ := K
      refine mG_iald C dX9_sure_86 sh73 h2 ?_
      refine mG_Si (Z := MX9_has) (as := [.int x6, .int (u1.1 73 (((2 : Int32) * x8).toNatClampNeg))]) (rest := [.int x7]) C dX9_sure_87 lk_1089 zX9_has ⟨Nat.le_of_ble_eq_true rfl, Nat.le_of_ble_eq_true rfl⟩ rfl (Nat.le_of_ble_eq_true rfl) rfl K (fun v2 u2 K => ?_)
      refine mG_if_eq (tgt := 98) C dX9_sure_90 rfl (fun h => ?_) (fun h => ?_)
      · have K := K.1 h
        refine mG_iconst C dX9_sure_98 ic0 ?_
        refine mG_aload_n C dX9_sure_99 rfl rfl ?_
        refine mG_getR C dX9_sure_100 fl_860 sh60 rfl ?_
        refine mG_iconst C dX9_sure_103 ic2 ?_
        refine mG_iload C dX9_sure_104 rfl ?_
        refine mG_imul C dX9_sure_106 ?_
        refine mG_iconst C dX9_sure_107 ic1 ?_
        refine mG_iadd C dX9_sure_108 ?_
        obtain ⟨h3, K⟩ := K
        refine mG_iald C dX9_sure_109 sh73 h3 ?_
        refine mG_isub C dX9_sure_110 ?_
        refine mG_goto (tgt := 115) C dX9_sure_111 rfl ?_
        refine mG_iadd C dX9_sure_115 ?_
        refine mG_istore (lv' := [.ref 60, .int x1, .int x2, .int x3, .int x4, .int x5, .int x6, .int (x7 + ((0 : Int32) - (u2.1 73 ((((2 : Int32) * x8) + (1 : Int32)).toNatClampNeg)))), .int x8]) C dX9_sure_116 (by decide) rfl ?_
        refine mG_iincc (lv' := [.ref 60, .int x1, .int x2, .int x3, .int x4, .int x5, .int x6, .int (x7 + ((0 : Int32) - (u2.1 73 ((((2 : Int32) * x8) + (1 : Int32)).toNatClampNeg)))), .int (x8 + (1 : Int32))]) C dX9_sure_118 rfl ic1 (by decide) rfl ?_
        refine mG_goto (tgt := 55) C dX9_sure_121 rfl ?_
        exact K
      · have K := K.2 h
        refine mG_bipush C dX9_sure_93 bp100 ?_
        refine mG_goto (tgt := 99) C dX9_sure_95 rfl ?_
        refine mG_aload_n C dX9_sure_99 rfl rfl ?_
        refine mG_getR C dX9_sure_100 fl_860 sh60 rfl ?_
        refine mG_iconst C dX9_sure_103 ic2 ?_
        refine mG_iload C dX9_sure_104 rfl ?_
        refine mG_imul C dX9_sure_106 ?_
        refine mG_iconst C dX9_sure_107 ic1 ?_
        refine mG_iadd C dX9_sure_108 ?_
        obtain ⟨h4, K⟩ := K
        refine mG_iald C dX9_sure_109 sh73 h4 ?_
        refine mG_isub C dX9_sure_110 ?_
        refine mG_goto (tgt := 115) C dX9_sure_111 rfl ?_
        refine mG_iadd C dX9_sure_115 ?_
        refine mG_istore (lv' := [.ref 60, .int x1, .int x2, .int x3, .int x4, .int x5, .int x6, .int (x7 + ((100 : Int32) - (u2.1 73 ((((2 : Int32) * x8) + (1 : Int32)).toNatClampNeg)))), .int x8]) C dX9_sure_116 (by decide) rfl ?_
        refine mG_iincc (lv' := [.ref 60, .int x1, .int x2, .int x3, .int x4, .int x5, .int x6, .int (x7 + ((100 : Int32) - (u2.1 73 ((((2 : Int32) * x8) + (1 : Int32)).toNatClampNeg)))), .int (x8 + (1 : Int32))]) C dX9_sure_118 rfl ic1 (by decide) rfl ?_
        refine mG_goto (tgt := 55) C dX9_sure_121 rfl ?_
        exact K

set_option maxRecDepth 20000 in
set_option maxHeartbeats 4000000 in
theorem vX9_trusts_0 {X : mX} {E : mEnv} {Qm : Option Value → mW → Prop} (C : mCtx X E MX9_trusts) (F : mFin X E MX9_trusts Qm) {w : mW}  (p0 : Int32)
    (K : mMi E MX9_kindOf [.ref 60, .int p0] w (fun v1 u1 =>
    ((v1 = (1 : Int32) →
    (Qm (some (.int (1 : Int32))) u1)) ∧ (¬ v1 = (1 : Int32) →
    (mMi E MX9_kindOf [.ref 60, .int p0] u1 (fun v2 u2 =>
    ((¬ v2 = (2 : Int32) →
    (Qm (some (.int (0 : Int32))) u2)) ∧ (v2 = (2 : Int32) →
    (vp_in (((6 : Int32) * p0) + (5 : Int32)) 30 ∧
    ((¬ ((u2.1 62 ((((6 : Int32) * p0) + (5 : Int32)).toNatClampNeg)) - (u2.1 62 ((((6 : Int32) * p0) + (5 : Int32)).toNatClampNeg)) / (2 : Int32) * (2 : Int32)) = (1 : Int32) →
    (Qm (some (.int (0 : Int32))) u2)) ∧ (((u2.1 62 ((((6 : Int32) * p0) + (5 : Int32)).toNatClampNeg)) - (u2.1 62 ((((6 : Int32) * p0) + (5 : Int32)).toNatClampNeg)) / (2 : Int32) * (2 : Int32)) = (1 : Int32) →
    (Qm (some (.int (1 : Int32))) u2)))))))))))) :
    mG X E MX9_trusts 0 [.ref 60, .int p0] [] w := by
  refine mG_aload_n C dX9_trusts_0 rfl rfl ?_
  refine mG_iload_n C dX9_trusts_1 rfl rfl ?_
  refine mG_Vi (Z := MX9_kindOf) (as := [.int p0]) (rest := []) C dX9_trusts_2 lk_1046 zX9_kindOf ⟨Nat.le_of_ble_eq_true rfl, Nat.le_of_ble_eq_true rfl⟩ sh60 rfl rfl (Nat.le_of_ble_eq_true rfl) rfl K (fun v1 u1 K => ?_)
  refine mG_iconst C dX9_trusts_5 ic1 ?_
  refine mG_icmp_eq (tgt := 35) C dX9_trusts_6 rfl (fun h => ?_) (fun h => ?_)
  · have K := K.1 h
    refine mG_iconst C dX9_trusts_35 ic1 ?_
    refine mG_goto (tgt := 40) C dX9_trusts_36 rfl ?_
    exact mG_iret C F dX9_trusts_40 rfl (by decide) K
  · have K := K.2 h
    refine mG_aload_n C dX9_trusts_9 rfl rfl ?_
    refine mG_iload_n C dX9_trusts_10 rfl rfl ?_
    refine mG_Vi (Z := MX9_kindOf) (as := [.int p0]) (rest := []) C dX9_trusts_11 lk_1046 zX9_kindOf ⟨Nat.le_of_ble_eq_true rfl, Nat.le_of_ble_eq_true rfl⟩ sh60 rfl rfl (Nat.le_of_ble_eq_true rfl) rfl K (fun v2 u2 K => ?_)
    refine mG_iconst C dX9_trusts_14 ic2 ?_
    refine mG_icmp_ne (tgt := 39) C dX9_trusts_15 rfl (fun h => ?_) (fun h => ?_)
    · have K := K.1 h
      refine mG_iconst C dX9_trusts_39 ic0 ?_
      exact mG_iret C F dX9_trusts_40 rfl (by decide) K
    · have K := K.2 h
      refine mG_aload_n C dX9_trusts_18 rfl rfl ?_
      refine mG_getR C dX9_trusts_19 fl_836 sh60 rfl ?_
      refine mG_bipush C dX9_trusts_22 bp6 ?_
      refine mG_iload_n C dX9_trusts_24 rfl rfl ?_
      refine mG_imul C dX9_trusts_25 ?_
      refine mG_iconst C dX9_trusts_26 ic5 ?_
      refine mG_iadd C dX9_trusts_27 ?_
      obtain ⟨h1, K⟩ := K
      refine mG_iald C dX9_trusts_28 sh62 h1 ?_
      refine mG_iconst C dX9_trusts_29 ic2 ?_
      refine mG_irem C dX9_trusts_30 (by decide) ?_
      refine mG_iconst C dX9_trusts_31 ic1 ?_
      refine mG_icmp_ne (tgt := 39) C dX9_trusts_32 rfl (fun h => ?_) (fun h => ?_)
      · have K := K.1 h
        refine mG_iconst C dX9_trusts_39 ic0 ?_
        exact mG_iret C F dX9_trusts_40 rfl (by decide) K
      · have K := K.2 h
        refine mG_iconst C dX9_trusts_35 ic1 ?_
        refine mG_goto (tgt := 40) C dX9_trusts_36 rfl ?_
        exact mG_iret C F dX9_trusts_40 rfl (by decide) K

set_option maxRecDepth 20000 in
set_option maxHeartbeats 4000000 in
theorem vX9_undo_0 {X : mX} {E : mEnv} {Qm : Option Value → mW → Prop} (C : mCtx X E MX9_undo) (F : mFin X E MX9_undo Qm) {w : mW} 
    (K : (¬ (w.1 60 26) = 0 →
    (mMv E MX9_copy [.ref 72, .int ((32 : Int32) * ((w.1 60 26) - (1 : Int32))), .ref 66, .int (0 : Int32)] (mPI w 60 26 ((w.1 60 26) - (1 : Int32))) (fun u1 =>
    (Qm (some (.int (u1.1 60 26))) u1)))) ∧ ((w.1 60 26) = 0 →
    (Qm (some (.int (-4 : Int32))) w))) :
    mG X E MX9_undo 0 [.ref 60] [] w := by
  refine mG_aload_n C dX9_undo_0 rfl rfl ?_
  refine mG_getI C dX9_undo_1 fl_859 sh60 rfl ?_
  refine mG_if_ne (tgt := 10) C dX9_undo_4 rfl (fun h => ?_) (fun h => ?_)
  · have K := K.1 h
    refine mG_aload_n C dX9_undo_10 rfl rfl ?_
    refine mG_dup C dX9_undo_11 rfl ?_
    refine mG_getI C dX9_undo_12 fl_859 sh60 rfl ?_
    refine mG_iconst C dX9_undo_15 ic1 ?_
    refine mG_isub C dX9_undo_16 ?_
    refine mG_putI C dX9_undo_17 fp_859 sh60 rfl ?_
    refine mG_aload_n C dX9_undo_20 rfl rfl ?_
    refine mG_getR C dX9_undo_21 fl_858 sh60 rfl ?_
    refine mG_bipush C dX9_undo_24 bp32 ?_
    refine mG_aload_n C dX9_undo_26 rfl rfl ?_
    refine mG_getIv C dX9_undo_27 fl_859 sh60 rfl (by first | rfl | simp [mPI, mPL]) ?_
    refine mG_imul C dX9_undo_30 ?_
    refine mG_aload_n C dX9_undo_31 rfl rfl ?_
    refine mG_getR C dX9_undo_32 fl_852 sh60 rfl ?_
    refine mG_iconst C dX9_undo_35 ic0 ?_
    refine mG_Sv (Z := MX9_copy) (as := [.ref 72, .int ((32 : Int32) * ((w.1 60 26) - (1 : Int32))), .ref 66, .int (0 : Int32)]) (rest := []) C dX9_undo_36 lk_1082 zX9_copy ⟨Nat.le_of_ble_eq_true rfl, Nat.le_of_ble_eq_true rfl⟩ rfl (Nat.le_of_ble_eq_true rfl) rfl K (fun u1 K => ?_)
    refine mG_aload_n C dX9_undo_39 rfl rfl ?_
    refine mG_getI C dX9_undo_40 fl_859 sh60 rfl ?_
    exact mG_iret C F dX9_undo_43 rfl rfl K
  · have K := K.2 h
    refine mG_bipush C dX9_undo_7 bpm4 ?_
    exact mG_iret C F dX9_undo_9 rfl rfl K

set_option maxRecDepth 20000 in
set_option maxHeartbeats 4000000 in
theorem vX9_worthOf_0 {X : mX} {E : mEnv} {Qm : Option Value → mW → Prop} (C : mCtx X E MX9_worthOf) (F : mFin X E MX9_worthOf Qm) {w : mW} {a0 : Nat} (ha0 : mSh[a0]? = some (.inl (0, 32, []))) (p1 : Int32)
    (K : (¬ p1 = (1 : Int32) →
    (mMi E MX9_mostNext [.ref 60, .ref a0] w (fun v1 u1 =>
    (Qm (some (.int v1)) u1)))) ∧ (p1 = (1 : Int32) →
    (mMi E MX9_sumOf [.ref 60, .int (w.1 a0 0)] w (fun v2 u2 =>
    (Qm (some (.int v2)) u2))))) :
    mG X E MX9_worthOf 0 [.ref 60, .ref a0, .int p1] [] w := by
  refine mG_iload_n C dX9_worthOf_0 rfl rfl ?_
  refine mG_iconst C dX9_worthOf_1 ic1 ?_
  refine mG_icmp_ne (tgt := 15) C dX9_worthOf_2 rfl (fun h => ?_) (fun h => ?_)
  · have K := K.1 h
    refine mG_aload_n C dX9_worthOf_15 rfl rfl ?_
    refine mG_aload_n C dX9_worthOf_16 rfl rfl ?_
    refine mG_Vi (Z := MX9_mostNext) (as := [.ref a0]) (rest := []) C dX9_worthOf_17 lk_1200 zX9_mostNext ⟨Nat.le_of_ble_eq_true rfl, Nat.le_of_ble_eq_true rfl⟩ sh60 rfl rfl (Nat.le_of_ble_eq_true rfl) rfl K (fun v1 u1 K => ?_)
    exact mG_iret C F dX9_worthOf_20 rfl rfl K
  · have K := K.2 h
    refine mG_aload_n C dX9_worthOf_5 rfl rfl ?_
    refine mG_aload_n C dX9_worthOf_6 rfl rfl ?_
    refine mG_iconst C dX9_worthOf_7 ic0 ?_
    refine mG_ialdv C dX9_worthOf_8 ha0 (by unfold vp_in; decide) (by first | rfl | simp [mPI, mPL]) ?_
    refine mG_Vi (Z := MX9_sumOf) (as := [.int (w.1 a0 0)]) (rest := []) C dX9_worthOf_9 lk_1119 zX9_sumOf ⟨Nat.le_of_ble_eq_true rfl, Nat.le_of_ble_eq_true rfl⟩ sh60 rfl rfl (Nat.le_of_ble_eq_true rfl) rfl K (fun v2 u2 K => ?_)
    refine mG_goto (tgt := 20) C dX9_worthOf_12 rfl ?_
    exact mG_iret C F dX9_worthOf_20 rfl rfl K

set_option maxRecDepth 20000 in
set_option maxHeartbeats 4000000 in
theorem vX9_write_0 {X : mX} {E : mEnv} {Qm : Option Value → mW → Prop} (C : mCtx X E MX9_write) (F : mFin X E MX9_write Qm) {w : mW}  (p0 : Int32)
    (K : mMi E MX9_in [.int p0, .int (0 : Int32), .int (255 : Int32)] w (fun v1 u1 =>
    ((¬ v1 = 0 →
    ((¬ (u1.1 60 6) = (160 : Int32) →
    (vp_in (u1.1 60 6) 160 ∧
    (∀ w1 : mW, w1 = (mPI u1 64 (u1.1 60 6).toNatClampNeg p0) →
    (Qm (some (.int ((w1.1 60 6) + (1 : Int32)))) (mPI w1 60 6 ((w1.1 60 6) + (1 : Int32))))))) ∧ ((u1.1 60 6) = (160 : Int32) →
    (Qm (some (.int (-5 : Int32))) u1)))) ∧ (v1 = 0 →
    (Qm (some (.int (-3 : Int32))) u1))))) :
    mG X E MX9_write 0 [.ref 60, .int p0] [] w := by
  refine mG_iload_n C dX9_write_0 rfl rfl ?_
  refine mG_iconst C dX9_write_1 ic0 ?_
  refine mG_sipush C dX9_write_2 sp255 ?_
  refine mG_Si (Z := MX9_in) (as := [.int p0, .int (0 : Int32), .int (255 : Int32)]) (rest := []) C dX9_write_5 lk_956 zX9_in ⟨Nat.le_of_ble_eq_true rfl, Nat.le_of_ble_eq_true rfl⟩ rfl (Nat.le_of_ble_eq_true rfl) rfl K (fun v1 u1 K => ?_)
  refine mG_if_ne (tgt := 14) C dX9_write_8 rfl (fun h => ?_) (fun h => ?_)
  · have K := K.1 h
    refine mG_aload_n C dX9_write_14 rfl rfl ?_
    refine mG_getI C dX9_write_15 fl_839 sh60 rfl ?_
    refine mG_sipush C dX9_write_18 sp160 ?_
    refine mG_icmp_ne (tgt := 27) C dX9_write_21 rfl (fun h => ?_) (fun h => ?_)
    · have K := K.1 h
      refine mG_aload_n C dX9_write_27 rfl rfl ?_
      refine mG_getR C dX9_write_28 fl_840 sh60 rfl ?_
      refine mG_aload_n C dX9_write_31 rfl rfl ?_
      refine mG_getI C dX9_write_32 fl_839 sh60 rfl ?_
      refine mG_iload_n C dX9_write_35 rfl rfl ?_
      obtain ⟨h1, K⟩ := K
      refine mG_iast C dX9_write_36 sh64 h1 ?_
      refine mG_nm (fun w1 ew1 => ?_)
      have K := K w1 ew1
      refine mG_aload_n C dX9_write_37 rfl rfl ?_
      refine mG_dup C dX9_write_38 rfl ?_
      refine mG_getI C dX9_write_39 fl_839 sh60 rfl ?_
      refine mG_iconst C dX9_write_42 ic1 ?_
      refine mG_iadd C dX9_write_43 ?_
      refine mG_putI C dX9_write_44 fp_839 sh60 rfl ?_
      refine mG_aload_n C dX9_write_47 rfl rfl ?_
      refine mG_getIv C dX9_write_48 fl_839 sh60 rfl (by first | rfl | simp [mPI, mPL]) ?_
      exact mG_iret C F dX9_write_51 rfl rfl K
    · have K := K.2 h
      refine mG_bipush C dX9_write_24 bpm5 ?_
      exact mG_iret C F dX9_write_26 rfl rfl K
  · have K := K.2 h
    refine mG_bipush C dX9_write_11 bpm3 ?_
    exact mG_iret C F dX9_write_13 rfl rfl K
