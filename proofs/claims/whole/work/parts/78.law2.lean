/-! ===== THE LAW FROM ITS ENTRY ===== -/
theorem lw_ex {V : nV} {ro : Nat → Nat} {ws0 : va_W} (z : Nat) (U : State) (g : JFrame) (mk : MethodId) (a : Array Value) (h : nExR V ro ws0 z U) : nExR V ro ws0 z (U.calling g mk a) := mRO.same (u := U) (U := U.calling g mk a) rfl h
theorem nG_toW {X : mX} {V : nV} {D : mD} {k n pc : Nat} {lv st : List Value} {ad : Nat → Nat} {w : mW} {lv' st' : List Value} (hst : st'.map (mV ad) = st) (hlv : ∀ (k : Nat) (v : Value), lv'[k]? = some v → v ≠ .retAddr 0 → lv[k]? = some (mV ad v))
    (kk : mInj (ad, V.1, V.2) → nIn X ad → mG (nXk X k n) (ad, V.1, V.2) D pc lv' st' w) : nG X V D k n pc lv st (mWs (ad, V.1, V.2) w) := by
  refine nG_toM (ad := ad) (w := w) (lv' := lv') (st' := st') (fun i => i) (fun _ _ _ _ h => h) (fun i c _ hc => ?_) hst hlv kk
  exact ⟨mE (ad, V.1, V.2) w i c, mWs_get (ad, V.1, V.2) w hc, Or.inl rfl⟩
theorem lw_go {X : mX} {V : nV} {b a0 bm L k n : Nat} {xs : Nat → Int32} {ro : Nat → Nat} {wz : va_W} (hL : L ≤ 3584) (hb : ro 150 = b) (C : nCtx X V ML_law) (hRo : ∀ ad : Nat → Nat, (∀ i, 76 ≤ i → ad i = ro i) → nRo X (ad, V.1, V.2)) (S : ∀ ad : Nat → Nat, ad 150 = b → lScr (nXk X k n) (ad, V.1, V.2) L xs) (F : ∀ (ad : Nat → Nat) (lv : List Value) (u : mW), mG (nXk X k n) (ad, V.1, V.2) ML_law 996 lv [.int 1] u) (hk : k ≤ 600000) (hn : n ≤ 7302250) (hz : bX9 V bm a0 ro wz) : nG X V ML_law k n 16 [.ref b, .ref a0, .ref bm, .retAddr 0] [] wz := by
  obtain ⟨ad, u, hwz, hzI, h0, h60, hro⟩ := hz
  rw [hwz]
  have e150 : ad 150 = b := (hro 150 (by omega)).trans hb
  refine nG_toW (lv' := [.ref 150, .ref 0, .ref 60, .retAddr 0]) (st' := []) rfl ?_ (fun hI hA => ?_)
  · intro k v hk hv
    match k, hk with
    | 0, hk => cases hk; show some (Value.ref b) = some (Value.ref (ad 150)); rw [e150]
    | 1, hk => cases hk; show some (Value.ref a0) = some (Value.ref (ad 0)); rw [h0]
    | 2, hk => cases hk; show some (Value.ref bm) = some (Value.ref (ad 60)); rw [h60]
    | 3, hk => cases hk; exact absurd rfl hv
    | k + 4, hk => simp at hk
  have C' := C.m (k := k) (n := n) hI hA (hRo ad hro) hk hn
  refine mG_iconst C' dL_law_16 ic0 ?_
  refine mG_istore_n (lv' := [.ref 150, .ref 0, .ref 60, .int (nI 0)]) C' dL_law_17 rfl (by decide) rfl ?_
  exact lw_loop (L := L) (xs := xs) C' (S ad e150) hL (F ad) (L + 1) 0 u z0 (by omega) (by omega) hzI
set_option maxHeartbeats 4000000 in
theorem lw_entry0 {X : mX} {V : nV} {b L : Nat} {xs : Nat → Int32} {ro : Nat → Nat} (hL : L ≤ 3584) (hb : ro 150 = b) (C : nCtx X V ML_law) (hRo : ∀ ad : Nat → Nat, (∀ i, 76 ≤ i → ad i = ro i) → nRo X (ad, V.1, V.2)) (hE : ∀ wc, nE2 X wc (nExR V ro wc)) (S : ∀ (ad : Nat → Nat) (k n : Nat), ad 150 = b → lScr (nXk X k n) (ad, V.1, V.2) L xs) (F : ∀ (k n : Nat), k ≤ 600000 → n ≤ 7302250 → ∀ (ad : Nat → Nat) (lv : List Value) (u : mW), mG (nXk X k n) (ad, V.1, V.2) ML_law 996 lv [.int 1] u) : nG X V ML_law 0 0 0 [.ref b, .retAddr 0, .retAddr 0, .retAddr 0] [] [] := by
  refine nG_new (ci := 7) (Cn := "NeverBelieved") (T := TX8) (N := 6) (ty := tyX8) (fs := df_8) C dL_law_0 uX8 tyX8_ok (mTm 18 (by decide +kernel) (by decide +kernel)) (mTm 19 (by decide +kernel) (by decide +kernel)) ti_1 rfl dfX8 (by exact Nat.le_of_ble_eq_true rfl) (by exact Nat.le_of_ble_eq_true rfl) (fun a0 => ?_)
  refine nG_dup C dL_law_3 rfl ?_
  refine nG_callA (Z := MX8_init) (b := a0) (as := []) (rest := [.ref a0]) (wr := []) C dL_law_4 (Or.inl (mTm 20 (by decide +kernel) (by decide +kernel))) zX8_init ⟨(by exact Nat.le_of_ble_eq_true rfl), (by exact Nat.le_of_ble_eq_true rfl)⟩ (by exact Nat.le_of_ble_eq_true rfl) (by exact Nat.le_of_ble_eq_true rfl) rfl (by exact Nat.le_of_ble_eq_true rfl) rfl (k_X8_init) (fun _ _ _ _ _ _ => trivial) nE2_true (fun w60 hw => ?_)
  refine nG_astore_n (lv' := [.ref b, .ref a0, .retAddr 0, .retAddr 0]) C dL_law_7 rfl (by decide) rfl ?_
  refine nG_new (ci := 8) (Cn := "NeverBelievedModel") (T := TX9) (N := 39) (ty := tyX9) (fs := df_9) C dL_law_8 uX9 tyX9_ok (mTm 823 (by decide +kernel) (by decide +kernel)) (mTm 824 (by decide +kernel) (by decide +kernel)) ti_9 rfl dfX9 (by exact Nat.le_of_ble_eq_true rfl) (by exact Nat.le_of_ble_eq_true rfl) (fun bm => ?_)
  refine nG_dup C dL_law_11 rfl ?_
  refine nG_perm (ws' := ([] : va_W) ++ (([(bm, .inr (8, df_9))] : va_W) ++ w60)) (List.perm_append_comm) ?_
  refine nG_callA (Z := MX9_init) (b := bm) (as := []) (rest := [.ref bm]) (wr := []) C dL_law_12 (Or.inl (mTm 825 (by decide +kernel) (by decide +kernel))) zX9_init ⟨(by exact Nat.le_of_ble_eq_true rfl), (by exact Nat.le_of_ble_eq_true rfl)⟩ (by exact Nat.le_of_ble_eq_true rfl) (by exact Nat.le_of_ble_eq_true rfl) rfl (by exact Nat.le_of_ble_eq_true rfl) rfl (k_X9_init (ro := ro) (bX8_60 hw)) lw_ex (hE _) (fun wz hz => ?_)
  refine nG_astore_n (lv' := [.ref b, .ref a0, .ref bm, .retAddr 0]) C dL_law_15 rfl (by decide) rfl ?_
  exact lw_go hL hb C hRo (fun ad h => S ad _ _ h) (F _ _ (by exact Nat.le_of_ble_eq_true rfl) (by exact Nat.le_of_ble_eq_true rfl)) (by exact Nat.le_of_ble_eq_true rfl) (by exact Nat.le_of_ble_eq_true rfl) hz
