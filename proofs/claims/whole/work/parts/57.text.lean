/-! ===== CONTRACTS: constant texts ===== -/
section STR
variable {X : mX} {E : mEnv} {D : mD} {pc : Nat} {lv st : List Value} {w : mW}
theorem mG_sval (C : mCtx X E D) {k : Nat} (hd : decode D.2.1 pc = .ok (.getfield 9, 3)) (ho : D.1.cls = "java/lang/String") (hk : k < 13)
    (kk : mG X E D (pc + 3) lv (.ref (120 + k) :: st) w) : mG X E D pc lv (.ref (100 + k) :: st) w := by
  obtain ⟨p, l, e, R, s, m, args, below, meth, c, cells, slots, Q, A⟩ := X
  obtain ⟨hx, hb, hml, hown, hts, hK, hI, hA, hRO, hR, hcl, hsl⟩ := C
  intro H locs ls hP hS hl
  rw [ho] at hown
  exact vk_getf hx hb (hRO.2.1.1 k hk).2.2.1 hS hown (hts _ gs_1223) (fun _ h => h) hd (kk H locs ls hP hS hl)
theorem mG_scod (C : mCtx X E D) {k : Nat} (hd : decode D.2.1 pc = .ok (.getfield 15, 3)) (ho : D.1.cls = "java/lang/String") (hk : k < 13)
    (kk : mG X E D (pc + 3) lv (.int 0 :: st) w) : mG X E D pc lv (.ref (100 + k) :: st) w := by
  obtain ⟨p, l, e, R, s, m, args, below, meth, c, cells, slots, Q, A⟩ := X
  obtain ⟨hx, hb, hml, hown, hts, hK, hI, hA, hRO, hR, hcl, hsl⟩ := C
  intro H locs ls hP hS hl
  rw [ho] at hown
  exact vk_getf hx hb (hRO.2.1.1 k hk).2.1 hS hown (hts _ gs_1224) (fun _ h => h) hd (kk H locs ls hP hS hl)
theorem mG_slen (C : mCtx X E D) {k : Nat} (hd : decode D.2.1 pc = .ok (.arraylength, 1)) (hk : k < 13)
    (kk : mG X E D (pc + 1) lv (.int (nI (mStN.getD k 0)) :: st) w) : mG X E D pc lv (.ref (120 + k) :: st) w := by
  obtain ⟨p, l, e, R, s, m, args, below, meth, c, cells, slots, Q, A⟩ := X
  obtain ⟨hx, hb, hml, hown, hts, hK, hI, hA, hRO, hR, hcl, hsl⟩ := C
  intro H locs ls hP hS hl
  exact va_tlen hx hb (hRO.2.1.1 k hk).2.2.2 hS rfl hd (kk H locs ls hP hS hl)
theorem mG_sbl (C : mCtx X E D) {k : Nat} {i : Int32} (hd : decode D.2.1 pc = .ok (.baload, 1)) (hk : k < 13) (hin : vp_in i (mStN.getD k 0))
    (kk : mG X E D (pc + 1) lv (.int ((mStB.getD k []).getD i.toNatClampNeg 0) :: st) w) : mG X E D pc lv (.int i :: .ref (120 + k) :: st) w := by
  obtain ⟨p, l, e, R, s, m, args, below, meth, c, cells, slots, Q, A⟩ := X
  obtain ⟨hx, hb, hml, hown, hts, hK, hI, hA, hRO, hR, hcl, hsl⟩ := C
  intro H locs ls hP hS hl
  exact va_tb hx hb (hRO.2.1.1 k hk).2.2.2 hS hin rfl hd (kk H locs ls hP hS hl)
theorem mG_fmt (C : mCtx X E D) (hd : decode D.2.1 pc = .ok (.getstatic 1053, 3)) (ho : D.1.cls = "java/lang/String")
    (k1 : mG X E D (pc + 3) lv (.null :: st) w) (k2 : mG X E D (pc + 3) lv (.ref 143 :: st) w) : mG X E D pc lv st w := by
  obtain ⟨p, l, e, R, s, m, args, below, meth, c, cells, slots, Q, A⟩ := X
  obtain ⟨hx, hb, hml, hown, hts, hK, hI, hA, hRO, hR, hcl, hsl⟩ := C
  intro H locs ls hP hS hl
  rw [ho] at hown
  rcases hRO.2.2.2.2.2.2 with q | q
  · exact va_gets hx hb q hS hown (hts _ gs_379) (fun _ h => h) hd (k1 H locs ls hP hS hl)
  · exact va_gets hx hb q hS hown (hts _ gs_379) (fun _ h => h) hd (k2 H locs ls hP hS hl)
end STR
section STK
variable {E : mEnv} {w : mW}
theorem k_J0_coder {k : Nat} (hk : k < 13) : mMi E MJ0_coder_7d493 [.ref (100 + k)] w (fun v u => v = 0 ∧ u = w) := by
  unfold mMi
  refine mM_start rfl (Nat.le_of_ble_eq_true rfl) rfl (fun X C F => ?_)
  refine mG_gets C dJ0_coder_7d493_0 gs_363 (v := .int 1) (fun A U H h => h.2.2.2.2.2.1) ?_
  refine mG_if_eq C dJ0_coder_7d493_3 (tgt := 13) rfl (fun h => absurd h (by decide)) (fun _ => ?_)
  refine mG_aload_n C dJ0_coder_7d493_6 rfl rfl ?_
  refine mG_scod C dJ0_coder_7d493_7 rfl hk ?_
  refine mG_goto C dJ0_coder_7d493_10 (tgt := 14) rfl ?_
  exact mG_iret C F dJ0_coder_7d493_14 rfl rfl ⟨_, rfl, rfl, rfl⟩
theorem k_J0_isLatin1 {k : Nat} (hk : k < 13) : mMi E MJ0_isLatin1_aae02 [.ref (100 + k)] w (fun v u => v = 1 ∧ u = w) := by
  unfold mMi
  refine mM_start rfl (Nat.le_of_ble_eq_true rfl) rfl (fun X C F => ?_)
  refine mG_gets C dJ0_isLatin1_aae02_0 gs_363 (v := .int 1) (fun A U H h => h.2.2.2.2.2.1) ?_
  refine mG_if_eq C dJ0_isLatin1_aae02_3 (tgt := 17) rfl (fun h => absurd h (by decide)) (fun _ => ?_)
  refine mG_aload_n C dJ0_isLatin1_aae02_6 rfl rfl ?_
  refine mG_scod C dJ0_isLatin1_aae02_7 rfl hk ?_
  refine mG_if_ne C dJ0_isLatin1_aae02_10 (tgt := 17) rfl (fun h => absurd rfl h) (fun _ => ?_)
  refine mG_iconst C dJ0_isLatin1_aae02_13 (v := 1) rfl ?_
  refine mG_goto C dJ0_isLatin1_aae02_14 (tgt := 18) rfl ?_
  exact mG_iret C F dJ0_isLatin1_aae02_18 rfl rfl ⟨_, rfl, rfl, rfl⟩
theorem q_len0 : ∀ k : Nat, k < 13 → nI (mStN.getD k 0) >>> ((0 : Int32) &&& 31) = nI (mStN.getD k 0) := by decide
theorem k_J0_length {k : Nat} (hk : k < 13) : mMi E MJ0_length_8abf5 [.ref (100 + k)] w (fun v u => v = nI (mStN.getD k 0) ∧ u = w) := by
  unfold mMi
  refine mM_start rfl (Nat.le_of_ble_eq_true rfl) rfl (fun X C F => ?_)
  refine mG_aload_n C dJ0_length_8abf5_0 rfl rfl ?_
  refine mG_sval C dJ0_length_8abf5_1 rfl hk ?_
  refine mG_slen C dJ0_length_8abf5_4 hk ?_
  refine mG_aload_n C dJ0_length_8abf5_5 rfl rfl ?_
  refine mG_Ti (Z := MJ0_coder_7d493) (as := []) (rest := [.int (nI (mStN.getD k 0))]) C dJ0_length_8abf5_6 lk_359 zJ0_coder_7d493 ⟨Nat.le_of_ble_eq_true rfl, Nat.le_of_ble_eq_true rfl⟩ ⟨k, hk, rfl⟩ rfl rfl (Nat.le_of_ble_eq_true rfl) rfl (k_J0_coder hk) (fun v1 u1 K => ?_)
  obtain ⟨rfl, rfl⟩ := K
  refine mG_ishr C dJ0_length_8abf5_9 ?_
  exact mG_iret C F dJ0_length_8abf5_10 rfl rfl ⟨_, rfl, q_len0 k hk, rfl⟩
theorem k_J3_checkIndex {i n : Int32} (h0 : ¬ i < 0) (h1 : i < n) {x : Value} (hx : x = .null ∨ x = .ref 143) : mMi E MJ3_checkIndex_8e157 [.int i, .int n, x] w (fun v u => v = i ∧ u = w) := by
  unfold mMi
  have main : ∀ X : mX, mCtx X E MJ3_checkIndex_8e157 → mFin X E MJ3_checkIndex_8e157 (fun r u => ∃ v : Int32, r = some (.int v) ∧ v = i ∧ u = w) → mG X E MJ3_checkIndex_8e157 0 [.int i, .int n, x] [] w := by
    intro X C F
    refine mG_iload_n C dJ3_checkIndex_8e157_0 rfl rfl ?_
    refine mG_if_lt C dJ3_checkIndex_8e157_1 (tgt := 9) rfl (fun h => absurd h h0) (fun _ => ?_)
    refine mG_iload_n C dJ3_checkIndex_8e157_4 rfl rfl ?_
    refine mG_iload_n C dJ3_checkIndex_8e157_5 rfl rfl ?_
    refine mG_icmp_lt C dJ3_checkIndex_8e157_6 (tgt := 16) rfl (fun _ => ?_) (fun h => absurd h1 h)
    refine mG_iload_n C dJ3_checkIndex_8e157_16 rfl rfl ?_
    exact mG_iret C F dJ3_checkIndex_8e157_17 rfl rfl ⟨_, rfl, rfl, rfl⟩
  rcases hx with rfl | rfl
  · exact mM_start rfl (Nat.le_of_ble_eq_true rfl) rfl main
  · exact mM_start rfl (Nat.le_of_ble_eq_true rfl) rfl main
theorem k_J0_checkIndex {i n : Int32} (h0 : ¬ i < 0) (h1 : i < n) : mMv E MJ0_checkIndex_df160 [.int i, .int n] w (fun u => u = w) := by
  unfold mMv
  refine mM_start rfl (Nat.le_of_ble_eq_true rfl) rfl (fun X C F => ?_)
  refine mG_iload_n C dJ0_checkIndex_df160_0 rfl rfl ?_
  refine mG_iload_n C dJ0_checkIndex_df160_1 rfl rfl ?_
  have main : ∀ x : Value, x = .null ∨ x = .ref 143 → mG X E MJ0_checkIndex_df160 5 [.int i, .int n] [x, .int n, .int i] w := by
    intro x hx
    refine mG_Si (Z := MJ3_checkIndex_8e157) (as := [.int i, .int n, x]) (rest := []) C dJ0_checkIndex_df160_5 lk_381 zJ3_checkIndex_8e157 ⟨Nat.le_of_ble_eq_true rfl, Nat.le_of_ble_eq_true rfl⟩ rfl (Nat.le_of_ble_eq_true rfl) rfl (k_J3_checkIndex h0 h1 hx) (fun v1 u1 K => ?_)
    obtain ⟨rfl, rfl⟩ := K
    refine mG_pop C dJ0_checkIndex_df160_8 rfl ?_
    exact mG_vret C F dJ0_checkIndex_df160_9 rfl ⟨rfl, rfl⟩
  exact mG_fmt C dJ0_checkIndex_df160_2 rfl (main _ (Or.inl rfl)) (main _ (Or.inr rfl))
theorem q_chr : ∀ k : Nat, k < 13 → ∀ j : Nat, j < mStN.getD k 0 → (((((mStB.getD k []).getD j 0) &&& (Int16.ofInt 255).toInt32).toUInt32 % 65536).toInt32 = (mStB.getD k []).getD j 0 ∧ narrow .char (.int ((mStB.getD k []).getD j 0)) = .int ((mStB.getD k []).getD j 0)) := by decide +kernel
theorem q_n13 : ∀ k : Nat, k < 13 → mStN.getD k 0 < 12 := by decide
theorem k_J1_charAt {k i : Nat} (hk : k < 13) (hi : i < mStN.getD k 0) : mMi E MJ1_charAt_3b067 [.ref (120 + k), .int (nI i)] w (fun v u => v = (mStB.getD k []).getD i 0 ∧ u = w) := by
  have h12 := q_n13 k hk
  unfold mMi
  refine mM_start rfl (Nat.le_of_ble_eq_true rfl) rfl (fun X C F => ?_)
  refine mG_iload_n C dJ1_charAt_3b067_0 rfl rfl ?_
  refine mG_aload_n C dJ1_charAt_3b067_1 rfl rfl ?_
  refine mG_slen C dJ1_charAt_3b067_2 hk ?_
  refine mG_Sv (Z := MJ0_checkIndex_df160) (as := [.int (nI i), .int (nI (mStN.getD k 0))]) (rest := []) C dJ1_charAt_3b067_3 lk_376 zJ0_checkIndex_df160 ⟨Nat.le_of_ble_eq_true rfl, Nat.le_of_ble_eq_true rfl⟩ rfl (Nat.le_of_ble_eq_true rfl) rfl (k_J0_checkIndex (fun q => by rw [show (0 : Int32) = nI 0 from rfl, nI_ltI (by omega) (by omega)] at q; omega) (nI_lt hi (by omega))) (fun u1 K => ?_)
  subst K
  refine mG_aload_n C dJ1_charAt_3b067_6 rfl rfl ?_
  refine mG_iload_n C dJ1_charAt_3b067_7 rfl rfl ?_
  refine mG_sbl C dJ1_charAt_3b067_8 hk (vp_in_nI hi (by omega)) ?_
  rw [nI_clamp (by omega)]
  refine mG_sipush C dJ1_charAt_3b067_9 rfl ?_
  refine mG_iand C dJ1_charAt_3b067_12 ?_
  refine mG_i2c C dJ1_charAt_3b067_13 (q_chr k hk i hi).1 ?_
  exact mG_iret C F dJ1_charAt_3b067_14 rfl (q_chr k hk i hi).2 ⟨_, rfl, rfl, rfl⟩
theorem k_J0_charAt {k i : Nat} (hk : k < 13) (hi : i < mStN.getD k 0) : mMi E MJ0_charAt_5068e [.ref (100 + k), .int (nI i)] w (fun v u => v = (mStB.getD k []).getD i 0 ∧ u = w) := by
  unfold mMi
  refine mM_start rfl (Nat.le_of_ble_eq_true rfl) rfl (fun X C F => ?_)
  refine mG_aload_n C dJ0_charAt_5068e_0 rfl rfl ?_
  refine mG_Ti (Z := MJ0_isLatin1_aae02) (as := []) (rest := []) C dJ0_charAt_5068e_1 lk_369 zJ0_isLatin1_aae02 ⟨Nat.le_of_ble_eq_true rfl, Nat.le_of_ble_eq_true rfl⟩ ⟨k, hk, rfl⟩ rfl rfl (Nat.le_of_ble_eq_true rfl) rfl (k_J0_isLatin1 hk) (fun v1 u1 K => ?_)
  obtain ⟨rfl, rfl⟩ := K
  refine mG_if_eq C dJ0_charAt_5068e_4 (tgt := 16) rfl (fun h => absurd h (by decide)) (fun _ => ?_)
  refine mG_aload_n C dJ0_charAt_5068e_7 rfl rfl ?_
  refine mG_sval C dJ0_charAt_5068e_8 rfl hk ?_
  refine mG_iload_n C dJ0_charAt_5068e_11 rfl rfl ?_
  refine mG_Si (Z := MJ1_charAt_3b067) (as := [.ref (120 + k), .int (nI i)]) (rest := []) C dJ0_charAt_5068e_12 lk_373 zJ1_charAt_3b067 ⟨Nat.le_of_ble_eq_true rfl, Nat.le_of_ble_eq_true rfl⟩ rfl (Nat.le_of_ble_eq_true rfl) rfl (k_J1_charAt hk hi) (fun v1 u2 K => ?_)
  obtain ⟨rfl, rfl⟩ := K
  exact mG_iret C F dJ0_charAt_5068e_15 rfl (q_chr k hk i hi).2 ⟨_, rfl, rfl, rfl⟩
end STK
