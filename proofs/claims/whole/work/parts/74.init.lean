/-! ===== CONSTRUCTORS, one by one ===== -/
theorem to_in : Cond.instanceMethod objectInit ∈ mTb := mTm 24 (by decide +kernel) (by decide +kernel)
theorem to_co : Cond.code objectInit ⟨#[0xb1]⟩ 1 none ∈ mTb := mTm 25 (by decide +kernel) (by decide +kernel)
theorem ta_int : Cond.arrayClass .int ∈ mTb := mTm 74 (by decide +kernel) (by decide +kernel)
theorem ta_boolean : Cond.arrayClass .boolean ∈ mTb := mTm 951 (by decide +kernel) (by decide +kernel)
theorem ta_long : Cond.arrayClass .long ∈ mTb := mTm 155 (by decide +kernel) (by decide +kernel)
def MX0_init : mD := (⟨"NeverBelieved$Bets", "<init>", "()V"⟩, prog_2_method_1_code, 1, none, { frames := 1, cells := 2, slots := 10, locals := 20 })
theorem zX0_init : nCal MX0_init 0 := ⟨mTm 160 (by decide +kernel) (by decide +kernel), ti_5, ⟨(by decide +kernel), (by decide +kernel), (by decide +kernel)⟩, mTm 159 (by decide +kernel) (by decide +kernel), rfl, rfl⟩
def df_0 : List Value := [.int 0, .null, .null, .int 0, .int 0]
theorem dfX0 : ∀ j, j < 5 → defaultValue (tyX0 j) = vp_V df_0 j := by
  intro j hj
  match j, hj with
  | 0, _ => rfl
  | 1, _ => rfl
  | 2, _ => rfl
  | 3, _ => rfl
  | 4, _ => rfl
  | j + 5, h => omega
def MX1_init : mD := (⟨"NeverBelieved$City", "<init>", "()V"⟩, prog_3_method_1_code, 1, none, { frames := 1, cells := 20, slots := 83, locals := 20 })
theorem zX1_init : nCal MX1_init 0 := ⟨mTm 30 (by decide +kernel) (by decide +kernel), ti_2, ⟨(by decide +kernel), (by decide +kernel), (by decide +kernel)⟩, mTm 29 (by decide +kernel) (by decide +kernel), rfl, rfl⟩
def df_1 : List Value := [.int 0, .int 0, .int 0, .int 0, .int 0, .null, .null, .null]
theorem dfX1 : ∀ j, j < 8 → defaultValue (tyX1 j) = vp_V df_1 j := by
  intro j hj
  match j, hj with
  | 0, _ => rfl
  | 1, _ => rfl
  | 2, _ => rfl
  | 3, _ => rfl
  | 4, _ => rfl
  | 5, _ => rfl
  | 6, _ => rfl
  | 7, _ => rfl
  | j + 8, h => omega
def MX2_init : mD := (⟨"NeverBelieved$Days", "<init>", "()V"⟩, prog_4_method_1_code, 1, none, { frames := 1, cells := 3, slots := 30, locals := 20 })
theorem zX2_init : nCal MX2_init 0 := ⟨mTm 120 (by decide +kernel) (by decide +kernel), ti_4, ⟨(by decide +kernel), (by decide +kernel), (by decide +kernel)⟩, mTm 119 (by decide +kernel) (by decide +kernel), rfl, rfl⟩
def df_2 : List Value := [.int 0, .int 0, .int 0, .long 0, .int 0, .int 0, .null, .null, .null]
theorem dfX2 : ∀ j, j < 9 → defaultValue (tyX2 j) = vp_V df_2 j := by
  intro j hj
  match j, hj with
  | 0, _ => rfl
  | 1, _ => rfl
  | 2, _ => rfl
  | 3, _ => rfl
  | 4, _ => rfl
  | 5, _ => rfl
  | 6, _ => rfl
  | 7, _ => rfl
  | 8, _ => rfl
  | j + 9, h => omega
def MX3_init : mD := (⟨"NeverBelieved$Foresight", "<init>", "(LNeverBelieved$City;)V"⟩, prog_5_method_1_code, 2, none, { frames := 2, cells := 5, slots := 79, locals := 50 })
theorem zX3_init : nCal MX3_init 1 := ⟨mTm 185 (by decide +kernel) (by decide +kernel), ti_6, ⟨(by decide +kernel), (by decide +kernel), (by decide +kernel)⟩, mTm 184 (by decide +kernel) (by decide +kernel), rfl, rfl⟩
def df_3 : List Value := [.null, .null, .int 0, .long 0, .null, .null, .null, .null, .int 0, .int 0, .int 0]
theorem dfX3 : ∀ j, j < 11 → defaultValue (tyX3 j) = vp_V df_3 j := by
  intro j hj
  match j, hj with
  | 0, _ => rfl
  | 1, _ => rfl
  | 2, _ => rfl
  | 3, _ => rfl
  | 4, _ => rfl
  | 5, _ => rfl
  | 6, _ => rfl
  | 7, _ => rfl
  | 8, _ => rfl
  | 9, _ => rfl
  | 10, _ => rfl
  | j + 11, h => omega
def MX5_init : mD := (⟨"NeverBelieved$Scroll", "<init>", "()V"⟩, prog_7_method_1_code, 1, none, { frames := 1, cells := 16, slots := 258, locals := 20 })
theorem zX5_init : nCal MX5_init 0 := ⟨mTm 79 (by decide +kernel) (by decide +kernel), ti_3, ⟨(by decide +kernel), (by decide +kernel), (by decide +kernel)⟩, mTm 78 (by decide +kernel) (by decide +kernel), rfl, rfl⟩
def df_5 : List Value := [.null, .int 0, .null, .int 0, .int 0, .int 0, .int 0, .int 0, .int 0, .int 0]
theorem dfX5 : ∀ j, j < 10 → defaultValue (tyX5 j) = vp_V df_5 j := by
  intro j hj
  match j, hj with
  | 0, _ => rfl
  | 1, _ => rfl
  | 2, _ => rfl
  | 3, _ => rfl
  | 4, _ => rfl
  | 5, _ => rfl
  | 6, _ => rfl
  | 7, _ => rfl
  | 8, _ => rfl
  | 9, _ => rfl
  | j + 10, h => omega
def MX6_init : mD := (⟨"NeverBelieved$Seer", "<init>", "(LNeverBelieved$City;LNeverBelieved$Foresight;LNeverBelieved$Foresight;)V"⟩, prog_8_method_1_code, 4, none, { frames := 1, cells := 1, slots := 4, locals := 20 })
theorem zX6_init : nCal MX6_init 3 := ⟨mTm 250 (by decide +kernel) (by decide +kernel), ti_8, ⟨(by decide +kernel), (by decide +kernel), (by decide +kernel)⟩, mTm 249 (by decide +kernel) (by decide +kernel), rfl, rfl⟩
def df_6 : List Value := [.null, .null, .null, .int 0, .int 0, .int 0, .int 0, .int 0, .null]
theorem dfX6 : ∀ j, j < 9 → defaultValue (tyX6 j) = vp_V df_6 j := by
  intro j hj
  match j, hj with
  | 0, _ => rfl
  | 1, _ => rfl
  | 2, _ => rfl
  | 3, _ => rfl
  | 4, _ => rfl
  | 5, _ => rfl
  | 6, _ => rfl
  | 7, _ => rfl
  | 8, _ => rfl
  | j + 9, h => omega
def MX7_init : mD := (⟨"NeverBelieved$Sentence", "<init>", "()V"⟩, prog_9_method_1_code, 1, none, { frames := 1, cells := 0, slots := 0, locals := 20 })
theorem zX7_init : nCal MX7_init 0 := ⟨mTm 191 (by decide +kernel) (by decide +kernel), ti_7, ⟨(by decide +kernel), (by decide +kernel), (by decide +kernel)⟩, mTm 190 (by decide +kernel) (by decide +kernel), rfl, rfl⟩
def df_7 : List Value := [.int 0, .int 0, .int 0, .int 0, .int 0]
theorem dfX7 : ∀ j, j < 5 → defaultValue (tyX7 j) = vp_V df_7 j := by
  intro j hj
  match j, hj with
  | 0, _ => rfl
  | 1, _ => rfl
  | 2, _ => rfl
  | 3, _ => rfl
  | 4, _ => rfl
  | j + 5, h => omega
def MX8_init : mD := (⟨"NeverBelieved", "<init>", "()V"⟩, prog_1_method_1_code, 1, none, { frames := 3, cells := 59, slots := 606, locals := 100 })
theorem zX8_init : nCal MX8_init 0 := ⟨mTm 22 (by decide +kernel) (by decide +kernel), ti_1, ⟨(by decide +kernel), (by decide +kernel), (by decide +kernel)⟩, mTm 21 (by decide +kernel) (by decide +kernel), rfl, rfl⟩
def df_8 : List Value := [.null, .null, .null, .null, .null, .null]
theorem dfX8 : ∀ j, j < 6 → defaultValue (tyX8 j) = vp_V df_8 j := by
  intro j hj
  match j, hj with
  | 0, _ => rfl
  | 1, _ => rfl
  | 2, _ => rfl
  | 3, _ => rfl
  | 4, _ => rfl
  | 5, _ => rfl
  | j + 6, h => omega
def MX9_init : mD := (⟨"NeverBelievedModel", "<init>", "()V"⟩, prog_11_method_1_code, 1, none, { frames := 2, cells := 15, slots := 872, locals := 50 })
theorem zX9_init : nCal MX9_init 0 := ⟨mTm 827 (by decide +kernel) (by decide +kernel), ti_9, ⟨(by decide +kernel), (by decide +kernel), (by decide +kernel)⟩, mTm 826 (by decide +kernel) (by decide +kernel), rfl, rfl⟩
def df_9 : List Value := [.int 0, .null, .int 0, .null, .int 0, .null, .int 0, .null, .int 0, .int 0, .long 0, .int 0, .int 0, .int 0, .int 0, .int 0, .int 0, .int 0, .null, .null, .null, .null, .null, .null, .null, .null, .int 0, .null, .int 0, .int 0, .int 0, .int 0, .int 0, .int 0, .int 0, .int 0, .int 0, .null, .null]
theorem dfX9 : ∀ j, j < 39 → defaultValue (tyX9 j) = vp_V df_9 j := by
  intro j hj
  match j, hj with
  | 0, _ => rfl
  | 1, _ => rfl
  | 2, _ => rfl
  | 3, _ => rfl
  | 4, _ => rfl
  | 5, _ => rfl
  | 6, _ => rfl
  | 7, _ => rfl
  | 8, _ => rfl
  | 9, _ => rfl
  | 10, _ => rfl
  | 11, _ => rfl
  | 12, _ => rfl
  | 13, _ => rfl
  | 14, _ => rfl
  | 15, _ => rfl
  | 16, _ => rfl
  | 17, _ => rfl
  | 18, _ => rfl
  | 19, _ => rfl
  | 20, _ => rfl
  | 21, _ => rfl
  | 22, _ => rfl
  | 23, _ => rfl
  | 24, _ => rfl
  | 25, _ => rfl
  | 26, _ => rfl
  | 27, _ => rfl
  | 28, _ => rfl
  | 29, _ => rfl
  | 30, _ => rfl
  | 31, _ => rfl
  | 32, _ => rfl
  | 33, _ => rfl
  | 34, _ => rfl
  | 35, _ => rfl
  | 36, _ => rfl
  | 37, _ => rfl
  | 38, _ => rfl
  | j + 39, h => omega
theorem nSwap {α : Type} (a b c : List α) : ((a ++ b) ++ c).Perm ((a ++ c) ++ b) := by
  rw [List.append_assoc, List.append_assoc]
  exact List.Perm.append_left a List.perm_append_comm
theorem lko_0 : Cond.methodLink "NeverBelieved$Bets" 1 objectInit ∈ mTb := mTm 161 (by decide +kernel) (by decide +kernel)
theorem nf_0_1 : nFld "NeverBelieved$Bets" 9 0 1 (.array .int) := ⟨TX0, 5, tyX0, rfl, by decide, uX0, mTm 164 (by decide +kernel) (by decide +kernel), tyX0_ok, nmX0, rfl, rfl, rfl⟩
theorem nf_0_2 : nFld "NeverBelieved$Bets" 13 0 2 (.array .int) := ⟨TX0, 5, tyX0, rfl, by decide, uX0, mTm 165 (by decide +kernel) (by decide +kernel), tyX0_ok, nmX0, rfl, rfl, rfl⟩
def bX0 (V : nV) (b : Nat) (wz : va_W) : Prop := ∃ (q1 q2 : Nat), wz = ([(b, .inr (0, [.int 0, .ref q1, .ref q2, .int 0, .int 0]))] : va_W) ++ ([(q1, .inl (V.2 0, 5, .inl (fun _ => 0)))] : va_W) ++ ([(q2, .inl (V.2 0, 5, .inl (fun _ => 0)))] : va_W)
theorem k_X0_init {V : nV} {b : Nat} : nM V MX0_init (fun _ _ => True) [.ref b] [(b, .inr (0, df_0))] (bX0 V b) := by
  refine nM_intro (by decide) (by exact Nat.le_of_ble_eq_true rfl) rfl (fun X C F _ => ?_)
  refine nG_aload_n C dX0_init_0 rfl rfl ?_
  refine nG_obj C dX0_init_1 lko_0 to_in to_co (by exact Nat.le_of_ble_eq_true rfl) (by exact Nat.le_of_ble_eq_true rfl) ?_
  refine nG_aload_n C dX0_init_4 rfl rfl ?_
  refine nG_iconst (v := 5) C dX0_init_5 (by decide) ?_
  refine nG_newI (N := 5) C dX0_init_6 ta_int (by decide) (by decide) (by exact Nat.le_of_ble_eq_true rfl) (by exact Nat.le_of_ble_eq_true rfl) (by exact Nat.le_of_ble_eq_true rfl) (fun q1 => ?_)
  refine nG_putF (q0 := 0) (a := b) (r := q1) (ws' := ([(b, .inr (0, [.int 0, .ref q1, .null, .int 0, .int 0]))] : va_W) ++ ([(q1, .inl (V.2 0, 5, .inl (fun _ => 0)))] : va_W)) C dX0_init_8 rfl nf_0_1 rfl (by exact Nat.le_of_ble_eq_true rfl) rfl rfl rfl ?_
  refine nG_aload_n C dX0_init_11 rfl rfl ?_
  refine nG_iconst (v := 5) C dX0_init_12 (by decide) ?_
  refine nG_newI (N := 5) C dX0_init_13 ta_int (by decide) (by decide) (by exact Nat.le_of_ble_eq_true rfl) (by exact Nat.le_of_ble_eq_true rfl) (by exact Nat.le_of_ble_eq_true rfl) (fun q2 => ?_)
  refine nG_putF (q0 := 0) (a := b) (r := q2) (ws' := ([(b, .inr (0, [.int 0, .ref q1, .ref q2, .int 0, .int 0]))] : va_W) ++ ([(q1, .inl (V.2 0, 5, .inl (fun _ => 0)))] : va_W) ++ ([(q2, .inl (V.2 0, 5, .inl (fun _ => 0)))] : va_W)) C dX0_init_15 rfl nf_0_2 rfl (by exact Nat.le_of_ble_eq_true rfl) rfl rfl rfl ?_
  exact nG_vret C F dX0_init_18 (by exact Nat.le_of_ble_eq_true rfl) (by exact Nat.le_of_ble_eq_true rfl) ⟨q1, q2, rfl⟩
theorem lko_1 : Cond.methodLink "NeverBelieved$City" 1 objectInit ∈ mTb := mTm 31 (by decide +kernel) (by decide +kernel)
theorem nf_1_5 : nFld "NeverBelieved$City" 11 1 5 (.array (.array .int)) := ⟨TX1, 8, tyX1, rfl, by decide, uX1, mTm 51 (by decide +kernel) (by decide +kernel), tyX1_ok, nmX1, rfl, rfl, rfl⟩
theorem nf_1_6 : nFld "NeverBelieved$City" 14 1 6 (.array (.array .int)) := ⟨TX1, 8, tyX1, rfl, by decide, uX1, mTm 53 (by decide +kernel) (by decide +kernel), tyX1_ok, nmX1, rfl, rfl, rfl⟩
theorem nf_1_7 : nFld "NeverBelieved$City" 17 1 7 (.array (.array .int)) := ⟨TX1, 8, tyX1, rfl, by decide, uX1, mTm 55 (by decide +kernel) (by decide +kernel), tyX1_ok, nmX1, rfl, rfl, rfl⟩
def bX1 (V : nV) (b : Nat) (wz : va_W) : Prop := ∃ (q1 q2 q3 : Nat), wz = ([(b, .inr (1, [.int 0, .int 0, .int 0, .int 0, .int 0, .ref q1, .ref q2, .ref q3]))] : va_W) ++ mm_ws q1 (V.2 3) (V.2 0) 6 2 ++ mm_ws q2 (V.2 3) (V.2 0) 5 6 ++ mm_ws q3 (V.2 3) (V.2 0) 6 4
theorem k_X1_init {V : nV} {b : Nat} : nM V MX1_init (fun _ _ => True) [.ref b] [(b, .inr (1, df_1))] (bX1 V b) := by
  refine nM_intro (by decide) (by exact Nat.le_of_ble_eq_true rfl) rfl (fun X C F _ => ?_)
  refine nG_aload_n C dX1_init_0 rfl rfl ?_
  refine nG_obj C dX1_init_1 lko_1 to_in to_co (by exact Nat.le_of_ble_eq_true rfl) (by exact Nat.le_of_ble_eq_true rfl) ?_
  refine nG_aload_n C dX1_init_4 rfl rfl ?_
  refine nG_bipush (v := 6) C dX1_init_5 (by decide) ?_
  refine nG_iconst (v := 2) C dX1_init_7 (by decide) ?_
  refine nG_newR (N := 6) (M := 2) C dX1_init_8 (mTm 32 (by decide +kernel) (by decide +kernel)) (by decide) (by decide) (by decide) (by decide) (by exact Nat.le_of_ble_eq_true rfl) (by exact Nat.le_of_ble_eq_true rfl) (by exact Nat.le_of_ble_eq_true rfl) (by exact Nat.le_of_ble_eq_true rfl) (fun q1 => ?_)
  refine nG_putF (q0 := 0) (a := b) (r := q1) (ws' := ([(b, .inr (1, [.int 0, .int 0, .int 0, .int 0, .int 0, .ref q1, .null, .null]))] : va_W) ++ mm_ws q1 (V.2 3) (V.2 0) 6 2) C dX1_init_12 rfl nf_1_5 rfl (by exact Nat.le_of_ble_eq_true rfl) rfl rfl rfl ?_
  refine nG_aload_n C dX1_init_15 rfl rfl ?_
  refine nG_iconst (v := 5) C dX1_init_16 (by decide) ?_
  refine nG_bipush (v := 6) C dX1_init_17 (by decide) ?_
  refine nG_newR (N := 5) (M := 6) C dX1_init_19 (mTm 32 (by decide +kernel) (by decide +kernel)) (by decide) (by decide) (by decide) (by decide) (by exact Nat.le_of_ble_eq_true rfl) (by exact Nat.le_of_ble_eq_true rfl) (by exact Nat.le_of_ble_eq_true rfl) (by exact Nat.le_of_ble_eq_true rfl) (fun q2 => ?_)
  refine nG_putF (q0 := 0) (a := b) (r := q2) (ws' := ([(b, .inr (1, [.int 0, .int 0, .int 0, .int 0, .int 0, .ref q1, .ref q2, .null]))] : va_W) ++ mm_ws q1 (V.2 3) (V.2 0) 6 2 ++ mm_ws q2 (V.2 3) (V.2 0) 5 6) C dX1_init_23 rfl nf_1_6 rfl (by exact Nat.le_of_ble_eq_true rfl) rfl rfl rfl ?_
  refine nG_aload_n C dX1_init_26 rfl rfl ?_
  refine nG_bipush (v := 6) C dX1_init_27 (by decide) ?_
  refine nG_iconst (v := 4) C dX1_init_29 (by decide) ?_
  refine nG_newR (N := 6) (M := 4) C dX1_init_30 (mTm 32 (by decide +kernel) (by decide +kernel)) (by decide) (by decide) (by decide) (by decide) (by exact Nat.le_of_ble_eq_true rfl) (by exact Nat.le_of_ble_eq_true rfl) (by exact Nat.le_of_ble_eq_true rfl) (by exact Nat.le_of_ble_eq_true rfl) (fun q3 => ?_)
  refine nG_putF (q0 := 0) (a := b) (r := q3) (ws' := ([(b, .inr (1, [.int 0, .int 0, .int 0, .int 0, .int 0, .ref q1, .ref q2, .ref q3]))] : va_W) ++ mm_ws q1 (V.2 3) (V.2 0) 6 2 ++ mm_ws q2 (V.2 3) (V.2 0) 5 6 ++ mm_ws q3 (V.2 3) (V.2 0) 6 4) C dX1_init_34 rfl nf_1_7 rfl (by exact Nat.le_of_ble_eq_true rfl) rfl rfl rfl ?_
  exact nG_vret C F dX1_init_37 (by exact Nat.le_of_ble_eq_true rfl) (by exact Nat.le_of_ble_eq_true rfl) ⟨q1, q2, q3, rfl⟩
theorem lko_2 : Cond.methodLink "NeverBelieved$Days" 1 objectInit ∈ mTb := mTm 121 (by decide +kernel) (by decide +kernel)
theorem nf_2_6 : nFld "NeverBelieved$Days" 9 2 6 (.array .int) := ⟨TX2, 9, tyX2, rfl, by decide, uX2, mTm 133 (by decide +kernel) (by decide +kernel), tyX2_ok, nmX2, rfl, rfl, rfl⟩
theorem nf_2_7 : nFld "NeverBelieved$Days" 13 2 7 (.array .long) := ⟨TX2, 9, tyX2, rfl, by decide, uX2, mTm 134 (by decide +kernel) (by decide +kernel), tyX2_ok, nmX2, rfl, rfl, rfl⟩
theorem nf_2_8 : nFld "NeverBelieved$Days" 17 2 8 (.array .int) := ⟨TX2, 9, tyX2, rfl, by decide, uX2, mTm 135 (by decide +kernel) (by decide +kernel), tyX2_ok, nmX2, rfl, rfl, rfl⟩
def bX2 (V : nV) (b : Nat) (wz : va_W) : Prop := ∃ (q1 q2 q3 : Nat), wz = ([(b, .inr (2, [.int 0, .int 0, .int 0, .long 0, .int 0, .int 0, .ref q1, .ref q2, .ref q3]))] : va_W) ++ ([(q1, .inl (V.2 0, 10, .inl (fun _ => 0)))] : va_W) ++ ([(q2, .inl (V.2 2, 10, .inr (.inl (fun _ => 0))))] : va_W) ++ ([(q3, .inl (V.2 0, 10, .inl (fun _ => 0)))] : va_W)
theorem k_X2_init {V : nV} {b : Nat} : nM V MX2_init (fun _ _ => True) [.ref b] [(b, .inr (2, df_2))] (bX2 V b) := by
  refine nM_intro (by decide) (by exact Nat.le_of_ble_eq_true rfl) rfl (fun X C F _ => ?_)
  refine nG_aload_n C dX2_init_0 rfl rfl ?_
  refine nG_obj C dX2_init_1 lko_2 to_in to_co (by exact Nat.le_of_ble_eq_true rfl) (by exact Nat.le_of_ble_eq_true rfl) ?_
  refine nG_aload_n C dX2_init_4 rfl rfl ?_
  refine nG_bipush (v := 10) C dX2_init_5 (by decide) ?_
  refine nG_newI (N := 10) C dX2_init_7 ta_int (by decide) (by decide) (by exact Nat.le_of_ble_eq_true rfl) (by exact Nat.le_of_ble_eq_true rfl) (by exact Nat.le_of_ble_eq_true rfl) (fun q1 => ?_)
  refine nG_putF (q0 := 0) (a := b) (r := q1) (ws' := ([(b, .inr (2, [.int 0, .int 0, .int 0, .long 0, .int 0, .int 0, .ref q1, .null, .null]))] : va_W) ++ ([(q1, .inl (V.2 0, 10, .inl (fun _ => 0)))] : va_W)) C dX2_init_9 rfl nf_2_6 rfl (by exact Nat.le_of_ble_eq_true rfl) rfl rfl rfl ?_
  refine nG_aload_n C dX2_init_12 rfl rfl ?_
  refine nG_bipush (v := 10) C dX2_init_13 (by decide) ?_
  refine nG_newL (N := 10) C dX2_init_15 ta_long (by decide) (by decide) (by exact Nat.le_of_ble_eq_true rfl) (by exact Nat.le_of_ble_eq_true rfl) (by exact Nat.le_of_ble_eq_true rfl) (fun q2 => ?_)
  refine nG_putF (q0 := 0) (a := b) (r := q2) (ws' := ([(b, .inr (2, [.int 0, .int 0, .int 0, .long 0, .int 0, .int 0, .ref q1, .ref q2, .null]))] : va_W) ++ ([(q1, .inl (V.2 0, 10, .inl (fun _ => 0)))] : va_W) ++ ([(q2, .inl (V.2 2, 10, .inr (.inl (fun _ => 0))))] : va_W)) C dX2_init_17 rfl nf_2_7 rfl (by exact Nat.le_of_ble_eq_true rfl) rfl rfl rfl ?_
  refine nG_aload_n C dX2_init_20 rfl rfl ?_
  refine nG_bipush (v := 10) C dX2_init_21 (by decide) ?_
  refine nG_newI (N := 10) C dX2_init_23 ta_int (by decide) (by decide) (by exact Nat.le_of_ble_eq_true rfl) (by exact Nat.le_of_ble_eq_true rfl) (by exact Nat.le_of_ble_eq_true rfl) (fun q3 => ?_)
  refine nG_putF (q0 := 0) (a := b) (r := q3) (ws' := ([(b, .inr (2, [.int 0, .int 0, .int 0, .long 0, .int 0, .int 0, .ref q1, .ref q2, .ref q3]))] : va_W) ++ ([(q1, .inl (V.2 0, 10, .inl (fun _ => 0)))] : va_W) ++ ([(q2, .inl (V.2 2, 10, .inr (.inl (fun _ => 0))))] : va_W) ++ ([(q3, .inl (V.2 0, 10, .inl (fun _ => 0)))] : va_W)) C dX2_init_25 rfl nf_2_8 rfl (by exact Nat.le_of_ble_eq_true rfl) rfl rfl rfl ?_
  exact nG_vret C F dX2_init_28 (by exact Nat.le_of_ble_eq_true rfl) (by exact Nat.le_of_ble_eq_true rfl) ⟨q1, q2, q3, rfl⟩
theorem lko_7 : Cond.methodLink "NeverBelieved$Sentence" 3 objectInit ∈ mTb := mTm 192 (by decide +kernel) (by decide +kernel)
def bX7 (V : nV) (b : Nat) (wz : va_W) : Prop := wz = ([(b, .inr (6, [.int 0, .int 0, .int 0, .int 0, .int 0]))] : va_W)
theorem k_X7_init {V : nV} {b : Nat} : nM V MX7_init (fun _ _ => True) [.ref b] [(b, .inr (6, df_7))] (bX7 V b) := by
  refine nM_intro (by decide) (by exact Nat.le_of_ble_eq_true rfl) rfl (fun X C F _ => ?_)
  refine nG_aload_n C dX7_init_0 rfl rfl ?_
  refine nG_obj C dX7_init_1 lko_7 to_in to_co (by exact Nat.le_of_ble_eq_true rfl) (by exact Nat.le_of_ble_eq_true rfl) ?_
  exact nG_vret C F dX7_init_4 (by exact Nat.le_of_ble_eq_true rfl) (by exact Nat.le_of_ble_eq_true rfl) rfl
theorem lko_3 : Cond.methodLink "NeverBelieved$Foresight" 1 objectInit ∈ mTb := mTm 186 (by decide +kernel) (by decide +kernel)
theorem nf_3_1 : nFld "NeverBelieved$Foresight" 10 3 1 (.object "NeverBelieved$Sentence") := ⟨TX3, 11, tyX3, rfl, by decide, uX3, mTm 211 (by decide +kernel) (by decide +kernel), tyX3_ok, nmX3, rfl, rfl, rfl⟩
theorem nf_3_4 : nFld "NeverBelieved$Foresight" 18 3 4 (.array .int) := ⟨TX3, 11, tyX3, rfl, by decide, uX3, mTm 216 (by decide +kernel) (by decide +kernel), tyX3_ok, nmX3, rfl, rfl, rfl⟩
theorem nf_3_5 : nFld "NeverBelieved$Foresight" 22 3 5 (.array .int) := ⟨TX3, 11, tyX3, rfl, by decide, uX3, mTm 217 (by decide +kernel) (by decide +kernel), tyX3_ok, nmX3, rfl, rfl, rfl⟩
theorem nf_3_6 : nFld "NeverBelieved$Foresight" 25 3 6 (.array .int) := ⟨TX3, 11, tyX3, rfl, by decide, uX3, mTm 218 (by decide +kernel) (by decide +kernel), tyX3_ok, nmX3, rfl, rfl, rfl⟩
theorem nf_3_7 : nFld "NeverBelieved$Foresight" 28 3 7 (.array .int) := ⟨TX3, 11, tyX3, rfl, by decide, uX3, mTm 219 (by decide +kernel) (by decide +kernel), tyX3_ok, nmX3, rfl, rfl, rfl⟩
theorem nf_3_0 : nFld "NeverBelieved$Foresight" 31 3 0 (.object "NeverBelieved$City") := ⟨TX3, 11, tyX3, rfl, by decide, uX3, mTm 210 (by decide +kernel) (by decide +kernel), tyX3_ok, nmX3, rfl, rfl, rfl⟩
def bX3 (V : nV) (b c0 : Nat) (wz : va_W) : Prop := ∃ (o1 q2 q3 q4 q5 : Nat), ∃ (w1 : va_W), bX7 V o1 w1 ∧ wz = ([(b, .inr (3, [.ref c0, .ref o1, .int 0, .long 0, .ref q2, .ref q3, .ref q4, .ref q5, .int 0, .int 0, .int 0]))] : va_W) ++ w1 ++ ([(q2, .inl (V.2 0, 32, .inl (fun _ => 0)))] : va_W) ++ ([(q3, .inl (V.2 0, 32, .inl (fun _ => 0)))] : va_W) ++ ([(q4, .inl (V.2 0, 5, .inl (fun _ => 0)))] : va_W) ++ ([(q5, .inl (V.2 0, 5, .inl (fun _ => 0)))] : va_W)
theorem k_X3_init {V : nV} {b : Nat} (c0 : Nat) : nM V MX3_init (fun _ _ => True) [.ref b, .ref c0] [(b, .inr (3, df_3))] (bX3 V b c0) := by
  refine nM_intro (by decide) (by exact Nat.le_of_ble_eq_true rfl) rfl (fun X C F _ => ?_)
  refine nG_aload_n C dX3_init_0 rfl rfl ?_
  refine nG_obj C dX3_init_1 lko_3 to_in to_co (by exact Nat.le_of_ble_eq_true rfl) (by exact Nat.le_of_ble_eq_true rfl) ?_
  refine nG_aload_n C dX3_init_4 rfl rfl ?_
  refine nG_new (ci := 6) (Cn := "NeverBelieved$Sentence") (T := TX7) (N := 5) (ty := tyX7) (fs := df_7) C dX3_init_5 uX7 tyX7_ok (mTm 187 (by decide +kernel) (by decide +kernel)) (mTm 188 (by decide +kernel) (by decide +kernel)) ti_7 rfl dfX7 (by exact Nat.le_of_ble_eq_true rfl) (by exact Nat.le_of_ble_eq_true rfl) (fun o1 => ?_)
  refine nG_dup C dX3_init_8 rfl ?_
  refine nG_callA (Z := MX7_init) (b := o1) (as := []) (rest := [.ref o1, .ref b]) (wr := ([(b, .inr (3, [.null, .null, .int 0, .long 0, .null, .null, .null, .null, .int 0, .int 0, .int 0]))] : va_W)) C dX3_init_9 (Or.inr (List.mem_of_getElem? (i := 4) rfl)) zX7_init ⟨(by exact Nat.le_of_ble_eq_true rfl), (by exact Nat.le_of_ble_eq_true rfl)⟩ (by exact Nat.le_of_ble_eq_true rfl) (by exact Nat.le_of_ble_eq_true rfl) rfl (by exact Nat.le_of_ble_eq_true rfl) rfl (k_X7_init) (fun _ _ _ _ _ _ => trivial) nE2_true (fun w1 hw1 => ?_)
  refine nG_putF (q0 := 0) (a := b) (r := o1) (ws' := ([(b, .inr (3, [.null, .ref o1, .int 0, .long 0, .null, .null, .null, .null, .int 0, .int 0, .int 0]))] : va_W) ++ w1) C dX3_init_12 rfl nf_3_1 rfl (by exact Nat.le_of_ble_eq_true rfl) rfl rfl rfl ?_
  refine nG_aload_n C dX3_init_15 rfl rfl ?_
  refine nG_bipush (v := 32) C dX3_init_16 (by decide) ?_
  refine nG_newI (N := 32) C dX3_init_18 ta_int (by decide) (by decide) (by exact Nat.le_of_ble_eq_true rfl) (by exact Nat.le_of_ble_eq_true rfl) (by exact Nat.le_of_ble_eq_true rfl) (fun q2 => ?_)
  refine nG_putF (q0 := 0) (a := b) (r := q2) (ws' := ([(b, .inr (3, [.null, .ref o1, .int 0, .long 0, .ref q2, .null, .null, .null, .int 0, .int 0, .int 0]))] : va_W) ++ w1 ++ ([(q2, .inl (V.2 0, 32, .inl (fun _ => 0)))] : va_W)) C dX3_init_20 rfl nf_3_4 rfl (by exact Nat.le_of_ble_eq_true rfl) rfl rfl rfl ?_
  refine nG_aload_n C dX3_init_23 rfl rfl ?_
  refine nG_bipush (v := 32) C dX3_init_24 (by decide) ?_
  refine nG_newI (N := 32) C dX3_init_26 ta_int (by decide) (by decide) (by exact Nat.le_of_ble_eq_true rfl) (by exact Nat.le_of_ble_eq_true rfl) (by exact Nat.le_of_ble_eq_true rfl) (fun q3 => ?_)
  refine nG_putF (q0 := 0) (a := b) (r := q3) (ws' := ([(b, .inr (3, [.null, .ref o1, .int 0, .long 0, .ref q2, .ref q3, .null, .null, .int 0, .int 0, .int 0]))] : va_W) ++ w1 ++ ([(q2, .inl (V.2 0, 32, .inl (fun _ => 0)))] : va_W) ++ ([(q3, .inl (V.2 0, 32, .inl (fun _ => 0)))] : va_W)) C dX3_init_28 rfl nf_3_5 rfl (by exact Nat.le_of_ble_eq_true rfl) rfl rfl rfl ?_
  refine nG_aload_n C dX3_init_31 rfl rfl ?_
  refine nG_iconst (v := 5) C dX3_init_32 (by decide) ?_
  refine nG_newI (N := 5) C dX3_init_33 ta_int (by decide) (by decide) (by exact Nat.le_of_ble_eq_true rfl) (by exact Nat.le_of_ble_eq_true rfl) (by exact Nat.le_of_ble_eq_true rfl) (fun q4 => ?_)
  refine nG_putF (q0 := 0) (a := b) (r := q4) (ws' := ([(b, .inr (3, [.null, .ref o1, .int 0, .long 0, .ref q2, .ref q3, .ref q4, .null, .int 0, .int 0, .int 0]))] : va_W) ++ w1 ++ ([(q2, .inl (V.2 0, 32, .inl (fun _ => 0)))] : va_W) ++ ([(q3, .inl (V.2 0, 32, .inl (fun _ => 0)))] : va_W) ++ ([(q4, .inl (V.2 0, 5, .inl (fun _ => 0)))] : va_W)) C dX3_init_35 rfl nf_3_6 rfl (by exact Nat.le_of_ble_eq_true rfl) rfl rfl rfl ?_
  refine nG_aload_n C dX3_init_38 rfl rfl ?_
  refine nG_iconst (v := 5) C dX3_init_39 (by decide) ?_
  refine nG_newI (N := 5) C dX3_init_40 ta_int (by decide) (by decide) (by exact Nat.le_of_ble_eq_true rfl) (by exact Nat.le_of_ble_eq_true rfl) (by exact Nat.le_of_ble_eq_true rfl) (fun q5 => ?_)
  refine nG_putF (q0 := 0) (a := b) (r := q5) (ws' := ([(b, .inr (3, [.null, .ref o1, .int 0, .long 0, .ref q2, .ref q3, .ref q4, .ref q5, .int 0, .int 0, .int 0]))] : va_W) ++ w1 ++ ([(q2, .inl (V.2 0, 32, .inl (fun _ => 0)))] : va_W) ++ ([(q3, .inl (V.2 0, 32, .inl (fun _ => 0)))] : va_W) ++ ([(q4, .inl (V.2 0, 5, .inl (fun _ => 0)))] : va_W) ++ ([(q5, .inl (V.2 0, 5, .inl (fun _ => 0)))] : va_W)) C dX3_init_42 rfl nf_3_7 rfl (by exact Nat.le_of_ble_eq_true rfl) rfl rfl rfl ?_
  refine nG_aload_n C dX3_init_45 rfl rfl ?_
  refine nG_aload_n C dX3_init_46 rfl rfl ?_
  refine nG_putF (q0 := 0) (a := b) (r := c0) (ws' := ([(b, .inr (3, [.ref c0, .ref o1, .int 0, .long 0, .ref q2, .ref q3, .ref q4, .ref q5, .int 0, .int 0, .int 0]))] : va_W) ++ w1 ++ ([(q2, .inl (V.2 0, 32, .inl (fun _ => 0)))] : va_W) ++ ([(q3, .inl (V.2 0, 32, .inl (fun _ => 0)))] : va_W) ++ ([(q4, .inl (V.2 0, 5, .inl (fun _ => 0)))] : va_W) ++ ([(q5, .inl (V.2 0, 5, .inl (fun _ => 0)))] : va_W)) C dX3_init_47 rfl nf_3_0 rfl (by exact Nat.le_of_ble_eq_true rfl) rfl rfl rfl ?_
  exact nG_vret C F dX3_init_50 (by exact Nat.le_of_ble_eq_true rfl) (by exact Nat.le_of_ble_eq_true rfl) ⟨o1, q2, q3, q4, q5, w1, hw1, rfl⟩
theorem lko_5 : Cond.methodLink "NeverBelieved$Scroll" 3 objectInit ∈ mTb := mTm 80 (by decide +kernel) (by decide +kernel)
theorem nf_5_0 : nFld "NeverBelieved$Scroll" 11 4 0 (.array .int) := ⟨TX5, 10, tyX5, rfl, by decide, uX5, mTm 82 (by decide +kernel) (by decide +kernel), tyX5_ok, nmX5, rfl, rfl, rfl⟩
theorem nf_5_2 : nFld "NeverBelieved$Scroll" 17 4 2 (.array (.array .int)) := ⟨TX5, 10, tyX5, rfl, by decide, uX5, mTm 85 (by decide +kernel) (by decide +kernel), tyX5_ok, nmX5, rfl, rfl, rfl⟩
def bX5 (V : nV) (b : Nat) (wz : va_W) : Prop := ∃ (q1 q2 : Nat), wz = ([(b, .inr (4, [.ref q1, .int 0, .ref q2, .int 0, .int 0, .int 0, .int 0, .int 0, .int 0, .int 0]))] : va_W) ++ ([(q1, .inl (V.2 0, 160, .inl (fun _ => 0)))] : va_W) ++ mm_ws q2 (V.2 3) (V.2 0) 14 6
theorem k_X5_init {V : nV} {b : Nat} : nM V MX5_init (fun _ _ => True) [.ref b] [(b, .inr (4, df_5))] (bX5 V b) := by
  refine nM_intro (by decide) (by exact Nat.le_of_ble_eq_true rfl) rfl (fun X C F _ => ?_)
  refine nG_aload_n C dX5_init_0 rfl rfl ?_
  refine nG_obj C dX5_init_1 lko_5 to_in to_co (by exact Nat.le_of_ble_eq_true rfl) (by exact Nat.le_of_ble_eq_true rfl) ?_
  refine nG_aload_n C dX5_init_4 rfl rfl ?_
  refine nG_sipush (v := 160) C dX5_init_5 (by decide) ?_
  refine nG_newI (N := 160) C dX5_init_8 ta_int (by decide) (by decide) (by exact Nat.le_of_ble_eq_true rfl) (by exact Nat.le_of_ble_eq_true rfl) (by exact Nat.le_of_ble_eq_true rfl) (fun q1 => ?_)
  refine nG_putF (q0 := 0) (a := b) (r := q1) (ws' := ([(b, .inr (4, [.ref q1, .int 0, .null, .int 0, .int 0, .int 0, .int 0, .int 0, .int 0, .int 0]))] : va_W) ++ ([(q1, .inl (V.2 0, 160, .inl (fun _ => 0)))] : va_W)) C dX5_init_10 rfl nf_5_0 rfl (by exact Nat.le_of_ble_eq_true rfl) rfl rfl rfl ?_
  refine nG_aload_n C dX5_init_13 rfl rfl ?_
  refine nG_bipush (v := 14) C dX5_init_14 (by decide) ?_
  refine nG_bipush (v := 6) C dX5_init_16 (by decide) ?_
  refine nG_newR (N := 14) (M := 6) C dX5_init_18 (mTm 81 (by decide +kernel) (by decide +kernel)) (by decide) (by decide) (by decide) (by decide) (by exact Nat.le_of_ble_eq_true rfl) (by exact Nat.le_of_ble_eq_true rfl) (by exact Nat.le_of_ble_eq_true rfl) (by exact Nat.le_of_ble_eq_true rfl) (fun q2 => ?_)
  refine nG_putF (q0 := 0) (a := b) (r := q2) (ws' := ([(b, .inr (4, [.ref q1, .int 0, .ref q2, .int 0, .int 0, .int 0, .int 0, .int 0, .int 0, .int 0]))] : va_W) ++ ([(q1, .inl (V.2 0, 160, .inl (fun _ => 0)))] : va_W) ++ mm_ws q2 (V.2 3) (V.2 0) 14 6) C dX5_init_22 rfl nf_5_2 rfl (by exact Nat.le_of_ble_eq_true rfl) rfl rfl rfl ?_
  exact nG_vret C F dX5_init_25 (by exact Nat.le_of_ble_eq_true rfl) (by exact Nat.le_of_ble_eq_true rfl) ⟨q1, q2, rfl⟩
theorem lko_6 : Cond.methodLink "NeverBelieved$Seer" 3 objectInit ∈ mTb := mTm 251 (by decide +kernel) (by decide +kernel)
theorem nf_6_8 : nFld "NeverBelieved$Seer" 9 5 8 (.array .int) := ⟨TX6, 9, tyX6, rfl, by decide, uX6, mTm 265 (by decide +kernel) (by decide +kernel), tyX6_ok, nmX6, rfl, rfl, rfl⟩
theorem nf_6_0 : nFld "NeverBelieved$Seer" 15 5 0 (.object "NeverBelieved$City") := ⟨TX6, 9, tyX6, rfl, by decide, uX6, mTm 252 (by decide +kernel) (by decide +kernel), tyX6_ok, nmX6, rfl, rfl, rfl⟩
theorem nf_6_1 : nFld "NeverBelieved$Seer" 19 5 1 (.object "NeverBelieved$Foresight") := ⟨TX6, 9, tyX6, rfl, by decide, uX6, mTm 253 (by decide +kernel) (by decide +kernel), tyX6_ok, nmX6, rfl, rfl, rfl⟩
theorem nf_6_2 : nFld "NeverBelieved$Seer" 23 5 2 (.object "NeverBelieved$Foresight") := ⟨TX6, 9, tyX6, rfl, by decide, uX6, mTm 254 (by decide +kernel) (by decide +kernel), tyX6_ok, nmX6, rfl, rfl, rfl⟩
def bX6 (V : nV) (b c0 c1 c2 : Nat) (wz : va_W) : Prop := ∃ (q1 : Nat), wz = ([(b, .inr (5, [.ref c0, .ref c1, .ref c2, .int 0, .int 0, .int 0, .int 0, .int 0, .ref q1]))] : va_W) ++ ([(q1, .inl (V.2 0, 4, .inl (fun _ => 0)))] : va_W)
theorem k_X6_init {V : nV} {b : Nat} (c0 c1 c2 : Nat) : nM V MX6_init (fun _ _ => True) [.ref b, .ref c0, .ref c1, .ref c2] [(b, .inr (5, df_6))] (bX6 V b c0 c1 c2) := by
  refine nM_intro (by decide) (by exact Nat.le_of_ble_eq_true rfl) rfl (fun X C F _ => ?_)
  refine nG_aload_n C dX6_init_0 rfl rfl ?_
  refine nG_obj C dX6_init_1 lko_6 to_in to_co (by exact Nat.le_of_ble_eq_true rfl) (by exact Nat.le_of_ble_eq_true rfl) ?_
  refine nG_aload_n C dX6_init_4 rfl rfl ?_
  refine nG_iconst (v := 4) C dX6_init_5 (by decide) ?_
  refine nG_newI (N := 4) C dX6_init_6 ta_int (by decide) (by decide) (by exact Nat.le_of_ble_eq_true rfl) (by exact Nat.le_of_ble_eq_true rfl) (by exact Nat.le_of_ble_eq_true rfl) (fun q1 => ?_)
  refine nG_putF (q0 := 0) (a := b) (r := q1) (ws' := ([(b, .inr (5, [.null, .null, .null, .int 0, .int 0, .int 0, .int 0, .int 0, .ref q1]))] : va_W) ++ ([(q1, .inl (V.2 0, 4, .inl (fun _ => 0)))] : va_W)) C dX6_init_8 rfl nf_6_8 rfl (by exact Nat.le_of_ble_eq_true rfl) rfl rfl rfl ?_
  refine nG_aload_n C dX6_init_11 rfl rfl ?_
  refine nG_aload_n C dX6_init_12 rfl rfl ?_
  refine nG_putF (q0 := 0) (a := b) (r := c0) (ws' := ([(b, .inr (5, [.ref c0, .null, .null, .int 0, .int 0, .int 0, .int 0, .int 0, .ref q1]))] : va_W) ++ ([(q1, .inl (V.2 0, 4, .inl (fun _ => 0)))] : va_W)) C dX6_init_13 rfl nf_6_0 rfl (by exact Nat.le_of_ble_eq_true rfl) rfl rfl rfl ?_
  refine nG_aload_n C dX6_init_16 rfl rfl ?_
  refine nG_aload_n C dX6_init_17 rfl rfl ?_
  refine nG_putF (q0 := 0) (a := b) (r := c1) (ws' := ([(b, .inr (5, [.ref c0, .ref c1, .null, .int 0, .int 0, .int 0, .int 0, .int 0, .ref q1]))] : va_W) ++ ([(q1, .inl (V.2 0, 4, .inl (fun _ => 0)))] : va_W)) C dX6_init_18 rfl nf_6_1 rfl (by exact Nat.le_of_ble_eq_true rfl) rfl rfl rfl ?_
  refine nG_aload_n C dX6_init_21 rfl rfl ?_
  refine nG_aload_n C dX6_init_22 rfl rfl ?_
  refine nG_putF (q0 := 0) (a := b) (r := c2) (ws' := ([(b, .inr (5, [.ref c0, .ref c1, .ref c2, .int 0, .int 0, .int 0, .int 0, .int 0, .ref q1]))] : va_W) ++ ([(q1, .inl (V.2 0, 4, .inl (fun _ => 0)))] : va_W)) C dX6_init_23 rfl nf_6_2 rfl (by exact Nat.le_of_ble_eq_true rfl) rfl rfl rfl ?_
  exact nG_vret C F dX6_init_26 (by exact Nat.le_of_ble_eq_true rfl) (by exact Nat.le_of_ble_eq_true rfl) ⟨q1, rfl⟩
theorem lko_8 : Cond.methodLink "NeverBelieved" 1 objectInit ∈ mTb := mTm 23 (by decide +kernel) (by decide +kernel)
theorem nf_8_0 : nFld "NeverBelieved" 10 7 0 (.object "NeverBelieved$City") := ⟨TX8, 6, tyX8, rfl, by decide, uX8, mTm 285 (by decide +kernel) (by decide +kernel), tyX8_ok, nmX8, rfl, rfl, rfl⟩
theorem nf_8_1 : nFld "NeverBelieved" 19 7 1 (.object "NeverBelieved$Scroll") := ⟨TX8, 6, tyX8, rfl, by decide, uX8, mTm 286 (by decide +kernel) (by decide +kernel), tyX8_ok, nmX8, rfl, rfl, rfl⟩
theorem nf_8_2 : nFld "NeverBelieved" 26 7 2 (.object "NeverBelieved$Days") := ⟨TX8, 6, tyX8, rfl, by decide, uX8, mTm 287 (by decide +kernel) (by decide +kernel), tyX8_ok, nmX8, rfl, rfl, rfl⟩
theorem nf_8_3 : nFld "NeverBelieved" 33 7 3 (.object "NeverBelieved$Bets") := ⟨TX8, 6, tyX8, rfl, by decide, uX8, mTm 288 (by decide +kernel) (by decide +kernel), tyX8_ok, nmX8, rfl, rfl, rfl⟩
theorem nf_8_4 : nFld "NeverBelieved" 42 7 4 (.object "NeverBelieved$Foresight") := ⟨TX8, 6, tyX8, rfl, by decide, uX8, mTm 289 (by decide +kernel) (by decide +kernel), tyX8_ok, nmX8, rfl, rfl, rfl⟩
theorem nf_8_5 : nFld "NeverBelieved" 51 7 5 (.object "NeverBelieved$Seer") := ⟨TX8, 6, tyX8, rfl, by decide, uX8, mTm 290 (by decide +kernel) (by decide +kernel), tyX8_ok, nmX8, rfl, rfl, rfl⟩
def bX8 (V : nV) (b : Nat) (wz : va_W) : Prop := ∃ (o1 o2 o3 o4 o5 o6 o7 : Nat), ∃ (w1 w2 w3 w4 w5 w7 w7s : va_W), bX1 V o1 w1 ∧ bX5 V o2 w2 ∧ bX2 V o3 w3 ∧ bX0 V o4 w4 ∧ bX3 V o5 o1 w5 ∧ bX3 V o7 o1 w7 ∧ bX6 V o6 o1 o5 o7 w7s ∧ wz = ([(b, .inr (7, [.ref o1, .ref o2, .ref o3, .ref o4, .ref o5, .ref o6]))] : va_W) ++ w1 ++ w2 ++ w3 ++ w4 ++ w5 ++ w7 ++ w7s
theorem k_X8_init {V : nV} {b : Nat} : nM V MX8_init (fun _ _ => True) [.ref b] [(b, .inr (7, df_8))] (bX8 V b) := by
  refine nM_intro (by decide) (by exact Nat.le_of_ble_eq_true rfl) rfl (fun X C F _ => ?_)
  refine nG_aload_n C dX8_init_0 rfl rfl ?_
  refine nG_obj C dX8_init_1 lko_8 to_in to_co (by exact Nat.le_of_ble_eq_true rfl) (by exact Nat.le_of_ble_eq_true rfl) ?_
  refine nG_aload_n C dX8_init_4 rfl rfl ?_
  refine nG_new (ci := 1) (Cn := "NeverBelieved$City") (T := TX1) (N := 8) (ty := tyX1) (fs := df_1) C dX8_init_5 uX1 tyX1_ok (mTm 26 (by decide +kernel) (by decide +kernel)) (mTm 27 (by decide +kernel) (by decide +kernel)) ti_2 rfl dfX1 (by exact Nat.le_of_ble_eq_true rfl) (by exact Nat.le_of_ble_eq_true rfl) (fun o1 => ?_)
  refine nG_dup C dX8_init_8 rfl ?_
  refine nG_callA (Z := MX1_init) (b := o1) (as := []) (rest := [.ref o1, .ref b]) (wr := ([(b, .inr (7, [.null, .null, .null, .null, .null, .null]))] : va_W)) C dX8_init_9 (Or.inr (List.mem_of_getElem? (i := 0) rfl)) zX1_init ⟨(by exact Nat.le_of_ble_eq_true rfl), (by exact Nat.le_of_ble_eq_true rfl)⟩ (by exact Nat.le_of_ble_eq_true rfl) (by exact Nat.le_of_ble_eq_true rfl) rfl (by exact Nat.le_of_ble_eq_true rfl) rfl (k_X1_init) (fun _ _ _ _ _ _ => trivial) nE2_true (fun w1 hw1 => ?_)
  refine nG_putF (q0 := 0) (a := b) (r := o1) (ws' := ([(b, .inr (7, [.ref o1, .null, .null, .null, .null, .null]))] : va_W) ++ w1) C dX8_init_12 rfl nf_8_0 rfl (by exact Nat.le_of_ble_eq_true rfl) rfl rfl rfl ?_
  refine nG_aload_n C dX8_init_15 rfl rfl ?_
  refine nG_new (ci := 4) (Cn := "NeverBelieved$Scroll") (T := TX5) (N := 10) (ty := tyX5) (fs := df_5) C dX8_init_16 uX5 tyX5_ok (mTm 75 (by decide +kernel) (by decide +kernel)) (mTm 76 (by decide +kernel) (by decide +kernel)) ti_3 rfl dfX5 (by exact Nat.le_of_ble_eq_true rfl) (by exact Nat.le_of_ble_eq_true rfl) (fun o2 => ?_)
  refine nG_dup C dX8_init_19 rfl ?_
  refine nG_callA (Z := MX5_init) (b := o2) (as := []) (rest := [.ref o2, .ref b]) (wr := ([(b, .inr (7, [.ref o1, .null, .null, .null, .null, .null]))] : va_W) ++ w1) C dX8_init_20 (Or.inr (List.mem_of_getElem? (i := 1) rfl)) zX5_init ⟨(by exact Nat.le_of_ble_eq_true rfl), (by exact Nat.le_of_ble_eq_true rfl)⟩ (by exact Nat.le_of_ble_eq_true rfl) (by exact Nat.le_of_ble_eq_true rfl) rfl (by exact Nat.le_of_ble_eq_true rfl) rfl (k_X5_init) (fun _ _ _ _ _ _ => trivial) nE2_true (fun w2 hw2 => ?_)
  refine nG_putF (q0 := 0) (a := b) (r := o2) (ws' := ([(b, .inr (7, [.ref o1, .ref o2, .null, .null, .null, .null]))] : va_W) ++ w1 ++ w2) C dX8_init_23 rfl nf_8_1 rfl (by exact Nat.le_of_ble_eq_true rfl) rfl rfl rfl ?_
  refine nG_aload_n C dX8_init_26 rfl rfl ?_
  refine nG_new (ci := 2) (Cn := "NeverBelieved$Days") (T := TX2) (N := 9) (ty := tyX2) (fs := df_2) C dX8_init_27 uX2 tyX2_ok (mTm 116 (by decide +kernel) (by decide +kernel)) (mTm 117 (by decide +kernel) (by decide +kernel)) ti_4 rfl dfX2 (by exact Nat.le_of_ble_eq_true rfl) (by exact Nat.le_of_ble_eq_true rfl) (fun o3 => ?_)
  refine nG_dup C dX8_init_30 rfl ?_
  refine nG_callA (Z := MX2_init) (b := o3) (as := []) (rest := [.ref o3, .ref b]) (wr := ([(b, .inr (7, [.ref o1, .ref o2, .null, .null, .null, .null]))] : va_W) ++ w1 ++ w2) C dX8_init_31 (Or.inr (List.mem_of_getElem? (i := 2) rfl)) zX2_init ⟨(by exact Nat.le_of_ble_eq_true rfl), (by exact Nat.le_of_ble_eq_true rfl)⟩ (by exact Nat.le_of_ble_eq_true rfl) (by exact Nat.le_of_ble_eq_true rfl) rfl (by exact Nat.le_of_ble_eq_true rfl) rfl (k_X2_init) (fun _ _ _ _ _ _ => trivial) nE2_true (fun w3 hw3 => ?_)
  refine nG_putF (q0 := 0) (a := b) (r := o3) (ws' := ([(b, .inr (7, [.ref o1, .ref o2, .ref o3, .null, .null, .null]))] : va_W) ++ w1 ++ w2 ++ w3) C dX8_init_34 rfl nf_8_2 rfl (by exact Nat.le_of_ble_eq_true rfl) rfl rfl rfl ?_
  refine nG_aload_n C dX8_init_37 rfl rfl ?_
  refine nG_new (ci := 0) (Cn := "NeverBelieved$Bets") (T := TX0) (N := 5) (ty := tyX0) (fs := df_0) C dX8_init_38 uX0 tyX0_ok (mTm 156 (by decide +kernel) (by decide +kernel)) (mTm 157 (by decide +kernel) (by decide +kernel)) ti_5 rfl dfX0 (by exact Nat.le_of_ble_eq_true rfl) (by exact Nat.le_of_ble_eq_true rfl) (fun o4 => ?_)
  refine nG_dup C dX8_init_41 rfl ?_
  refine nG_callA (Z := MX0_init) (b := o4) (as := []) (rest := [.ref o4, .ref b]) (wr := ([(b, .inr (7, [.ref o1, .ref o2, .ref o3, .null, .null, .null]))] : va_W) ++ w1 ++ w2 ++ w3) C dX8_init_42 (Or.inr (List.mem_of_getElem? (i := 3) rfl)) zX0_init ⟨(by exact Nat.le_of_ble_eq_true rfl), (by exact Nat.le_of_ble_eq_true rfl)⟩ (by exact Nat.le_of_ble_eq_true rfl) (by exact Nat.le_of_ble_eq_true rfl) rfl (by exact Nat.le_of_ble_eq_true rfl) rfl (k_X0_init) (fun _ _ _ _ _ _ => trivial) nE2_true (fun w4 hw4 => ?_)
  refine nG_putF (q0 := 0) (a := b) (r := o4) (ws' := ([(b, .inr (7, [.ref o1, .ref o2, .ref o3, .ref o4, .null, .null]))] : va_W) ++ w1 ++ w2 ++ w3 ++ w4) C dX8_init_45 rfl nf_8_3 rfl (by exact Nat.le_of_ble_eq_true rfl) rfl rfl rfl ?_
  refine nG_aload_n C dX8_init_48 rfl rfl ?_
  refine nG_new (ci := 3) (Cn := "NeverBelieved$Foresight") (T := TX3) (N := 11) (ty := tyX3) (fs := df_3) C dX8_init_49 uX3 tyX3_ok (mTm 181 (by decide +kernel) (by decide +kernel)) (mTm 182 (by decide +kernel) (by decide +kernel)) ti_6 rfl dfX3 (by exact Nat.le_of_ble_eq_true rfl) (by exact Nat.le_of_ble_eq_true rfl) (fun o5 => ?_)
  refine nG_dup C dX8_init_52 rfl ?_
  refine nG_aload_n C dX8_init_53 rfl rfl ?_
  refine nG_get (q0 := 0) (a := b) (v := .ref o1) C dX8_init_54 nf_8_0 rfl rfl ?_
  refine nG_callA (Z := MX3_init) (b := o5) (as := [.ref o1]) (rest := [.ref o5, .ref b]) (wr := ([(b, .inr (7, [.ref o1, .ref o2, .ref o3, .ref o4, .null, .null]))] : va_W) ++ w1 ++ w2 ++ w3 ++ w4) C dX8_init_57 (Or.inl (mTm 183 (by decide +kernel) (by decide +kernel))) zX3_init ⟨(by exact Nat.le_of_ble_eq_true rfl), (by exact Nat.le_of_ble_eq_true rfl)⟩ (by exact Nat.le_of_ble_eq_true rfl) (by exact Nat.le_of_ble_eq_true rfl) rfl (by exact Nat.le_of_ble_eq_true rfl) rfl (k_X3_init o1) (fun _ _ _ _ _ _ => trivial) nE2_true (fun w5 hw5 => ?_)
  refine nG_putF (q0 := 0) (a := b) (r := o5) (ws' := ([(b, .inr (7, [.ref o1, .ref o2, .ref o3, .ref o4, .ref o5, .null]))] : va_W) ++ w1 ++ w2 ++ w3 ++ w4 ++ w5) C dX8_init_60 rfl nf_8_4 rfl (by exact Nat.le_of_ble_eq_true rfl) rfl rfl rfl ?_
  refine nG_aload_n C dX8_init_63 rfl rfl ?_
  refine nG_new (ci := 5) (Cn := "NeverBelieved$Seer") (T := TX6) (N := 9) (ty := tyX6) (fs := df_6) C dX8_init_64 uX6 tyX6_ok (mTm 246 (by decide +kernel) (by decide +kernel)) (mTm 247 (by decide +kernel) (by decide +kernel)) ti_8 rfl dfX6 (by exact Nat.le_of_ble_eq_true rfl) (by exact Nat.le_of_ble_eq_true rfl) (fun o6 => ?_)
  refine nG_dup C dX8_init_67 rfl ?_
  refine nG_aload_n C dX8_init_68 rfl rfl ?_
  refine nG_get (q0 := 0) (a := b) (v := .ref o1) C dX8_init_69 nf_8_0 rfl rfl ?_
  refine nG_aload_n C dX8_init_72 rfl rfl ?_
  refine nG_get (q0 := 0) (a := b) (v := .ref o5) C dX8_init_73 nf_8_4 rfl rfl ?_
  refine nG_new (ci := 3) (Cn := "NeverBelieved$Foresight") (T := TX3) (N := 11) (ty := tyX3) (fs := df_3) C dX8_init_76 uX3 tyX3_ok (mTm 181 (by decide +kernel) (by decide +kernel)) (mTm 182 (by decide +kernel) (by decide +kernel)) ti_6 rfl dfX3 (by exact Nat.le_of_ble_eq_true rfl) (by exact Nat.le_of_ble_eq_true rfl) (fun o7 => ?_)
  refine nG_dup C dX8_init_79 rfl ?_
  refine nG_aload_n C dX8_init_80 rfl rfl ?_
  refine nG_get (q0 := 0) (a := b) (v := .ref o1) C dX8_init_81 nf_8_0 rfl rfl ?_
  refine nG_callA (Z := MX3_init) (b := o7) (as := [.ref o1]) (rest := [.ref o7, .ref o5, .ref o1, .ref o6, .ref o6, .ref b]) (wr := ([(b, .inr (7, [.ref o1, .ref o2, .ref o3, .ref o4, .ref o5, .null]))] : va_W) ++ w1 ++ w2 ++ w3 ++ w4 ++ w5 ++ ([(o6, .inr (5, df_6))] : va_W)) C dX8_init_84 (Or.inl (mTm 183 (by decide +kernel) (by decide +kernel))) zX3_init ⟨(by exact Nat.le_of_ble_eq_true rfl), (by exact Nat.le_of_ble_eq_true rfl)⟩ (by exact Nat.le_of_ble_eq_true rfl) (by exact Nat.le_of_ble_eq_true rfl) rfl (by exact Nat.le_of_ble_eq_true rfl) rfl (k_X3_init o1) (fun _ _ _ _ _ _ => trivial) nE2_true (fun w7 hw7 => ?_)
  refine nG_perm (ws' := ([(b, .inr (7, [.ref o1, .ref o2, .ref o3, .ref o4, .ref o5, .null]))] : va_W) ++ w1 ++ w2 ++ w3 ++ w4 ++ w5 ++ w7 ++ ([(o6, .inr (5, df_6))] : va_W)) (nSwap _ _ _) ?_
  refine nG_callA (Z := MX6_init) (b := o6) (as := [.ref o1, .ref o5, .ref o7]) (rest := [.ref o6, .ref b]) (wr := ([(b, .inr (7, [.ref o1, .ref o2, .ref o3, .ref o4, .ref o5, .null]))] : va_W) ++ w1 ++ w2 ++ w3 ++ w4 ++ w5 ++ w7) C dX8_init_87 (Or.inl (mTm 248 (by decide +kernel) (by decide +kernel))) zX6_init ⟨(by exact Nat.le_of_ble_eq_true rfl), (by exact Nat.le_of_ble_eq_true rfl)⟩ (by exact Nat.le_of_ble_eq_true rfl) (by exact Nat.le_of_ble_eq_true rfl) rfl (by exact Nat.le_of_ble_eq_true rfl) rfl (k_X6_init o1 o5 o7) (fun _ _ _ _ _ _ => trivial) nE2_true (fun w7s hw7s => ?_)
  refine nG_putF (q0 := 0) (a := b) (r := o6) (ws' := ([(b, .inr (7, [.ref o1, .ref o2, .ref o3, .ref o4, .ref o5, .ref o6]))] : va_W) ++ w1 ++ w2 ++ w3 ++ w4 ++ w5 ++ w7 ++ w7s) C dX8_init_90 rfl nf_8_5 rfl (by exact Nat.le_of_ble_eq_true rfl) rfl rfl rfl ?_
  exact nG_vret C F dX8_init_93 (by exact Nat.le_of_ble_eq_true rfl) (by exact Nat.le_of_ble_eq_true rfl) ⟨o1, o2, o3, o4, o5, o6, o7, w1, w2, w3, w4, w5, w7, w7s, hw1, hw2, hw3, hw4, hw5, hw7, hw7s, rfl⟩
