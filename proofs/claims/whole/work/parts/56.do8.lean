/-! ===== THE CLASS'S CALLS that change something ===== -/
def s60b : Nat → Nat → Prop := fun c _ => c < 60
theorem xSc60 : ∀ c k, xSc c k → s60b c k := fun c k h => by unfold xSc at h; unfold s60b; omega
def d39 : Nat → Nat → Prop := fun c _ => 39 ≤ c ∧ c ≤ 42
theorem d_put_fr (w : mW) {a : Nat} : mFr (fun c k => 40 ≤ c ∧ c ≤ 42 ∧ k = a) w (dPut w a) := ((mFr.pi (S := fun c k => 40 ≤ c ∧ c ≤ 42 ∧ k = a) ⟨by omega, by omega, rfl⟩).tr (mFr.pl (S := fun c k => 40 ≤ c ∧ c ≤ 42 ∧ k = a) ⟨by omega, by omega, rfl⟩)).tr (mFr.pi (S := fun c k => 40 ≤ c ∧ c ≤ 42 ∧ k = a) ⟨by omega, by omega, rfl⟩)
theorem d_put_at (w : mW) (a : Nat) : dat (dPut w a) a = (w.1 39 0, w.1 39 1, w.2 39 3) := by
  unfold dat dPut
  simp [mPI, mPL]
theorem d_put_ne (w : mW) {a b : Nat} (h : b ≠ a) : dat (dPut w a) b = dat w b := by
  unfold dat
  rw [(d_put_fr w 40 b (by omega)).1, (d_put_fr w 42 b (by omega)).1, (d_put_fr w 41 b (by omega)).2]
theorem dat_fr {w u : mW} {S : Nat → Nat → Prop} (f : mFr S w u) {a : Nat} (h : ∀ c, 40 ≤ c → c ≤ 42 → ¬ S c a) : dat u a = dat w a := by
  unfold dat
  rw [(f 40 a (h 40 (by omega) (by omega))).1, (f 42 a (h 42 (by omega) (by omega))).1, (f 41 a (h 41 (by omega) (by omega))).2]
theorem d_39_fr {w : mW} {k : Nat} {v : Int32} : mFr (fun c _ => c = 39) w (mPI w 39 k v) := mFr.pi (S := fun c _ => c = 39) rfl
theorem dX_remember {x : mT} {n : Nat} {H : Nat → mT} {K : Nat → Option mT} {w : mW} {nn : Nat} (h : (w.1 39 0 = x.1 ∧ w.1 39 1 = x.2.1 ∧ w.2 39 3 = x.2.2)) (hn : n ≤ 8) (h5 : nn < 8) (hh : ∀ i, i < n → dat w ((nn + 8 - i) % 8) = H i) (h4 : w.1 39 4 = q_ds (fun k => (K k).isSome) 2) (hK : ∀ k y, k < 2 → K k = some y → dat w (8 + k) = y) : dX x (min (n + 1) 8, fun i => if i = 0 then x else H (i - 1)) K (mPI (dPut (mPI w 39 5 (nI ((nn + 1) % 8))) ((nn + 1) % 8)) 39 2 (nI (min (n + 1) 8))) := by
  have e1 : ∀ b, dat (mPI w 39 5 (nI ((nn + 1) % 8))) b = dat w b := fun b => dat_fr d_39_fr (fun c _ _ q => by omega)
  have e2 : ∀ b, dat (mPI (dPut (mPI w 39 5 (nI ((nn + 1) % 8))) ((nn + 1) % 8)) 39 2 (nI (min (n + 1) 8))) b = dat (dPut (mPI w 39 5 (nI ((nn + 1) % 8))) ((nn + 1) % 8)) b := fun b => dat_fr d_39_fr (fun c _ _ q => by omega)
  have p : ∀ k, (dPut (mPI w 39 5 (nI ((nn + 1) % 8))) ((nn + 1) % 8)).1 39 k = (mPI w 39 5 (nI ((nn + 1) % 8))).1 39 k := fun k => (d_put_fr _ 39 k (by omega)).1
  have pl : ∀ k, (dPut (mPI w 39 5 (nI ((nn + 1) % 8))) ((nn + 1) % 8)).2 39 k = (mPI w 39 5 (nI ((nn + 1) % 8))).2 39 k := fun k => (d_put_fr _ 39 k (by omega)).2
  refine ⟨⟨?_, ?_, ?_⟩, ⟨mPI_at _ _ _ _, (nn + 1) % 8, Nat.mod_lt _ (by omega), ?_, fun i hi => ?_⟩, ?_, fun k y hk hy => ?_⟩
  · rw [mPI_col (by omega), p, mPI_col (by omega)]; exact h.1
  · rw [mPI_col (by omega), p, mPI_col (by omega)]; exact h.2.1
  · show (dPut (mPI w 39 5 (nI ((nn + 1) % 8))) ((nn + 1) % 8)).2 39 3 = x.2.2
    rw [pl]; exact h.2.2
  · rw [mPI_col (by omega), p, mPI_at]
  · have hi : i < min (n + 1) 8 := hi
    rw [e2]
    show dat (dPut (mPI w 39 5 (nI ((nn + 1) % 8))) ((nn + 1) % 8)) (((nn + 1) % 8 + 8 - i) % 8) = if i = 0 then x else H (i - 1)
    by_cases z : i = 0
    · rw [if_pos z, z, show ((nn + 1) % 8 + 8 - 0) % 8 = (nn + 1) % 8 by omega, d_put_at, mPI_col (by omega), mPI_col (by omega)]
      show (w.1 39 0, w.1 39 1, w.2 39 3) = x
      rw [h.1, h.2.1, h.2.2]
    · rw [if_neg z, d_put_ne _ (by omega), e1, show ((nn + 1) % 8 + 8 - i) % 8 = (nn + 8 - (i - 1)) % 8 by omega]
      exact hh (i - 1) (by omega)
  · rw [mPI_col (by omega), p, mPI_col (by omega)]; exact h4
  · rw [e2, d_put_ne _ (by omega), e1]; exact hK k y hk hy
theorem rem_fr {w : mW} {a b : Int32} {c : Nat} : mFr d39 w (mPI (dPut (mPI w 39 5 a) c) 39 2 b) := ((mFr.pi (S := d39) ⟨by omega, by omega⟩).tr ((d_put_fr _).mono (fun c k q => ⟨by omega, by omega⟩))).tr (mFr.pi (S := d39) ⟨by omega, by omega⟩)
section X8c
variable {E : mEnv} {w : mW} {Z : mZ}
/-- the other parts stay where only the days are touched -/
theorem zX_days (h : zX Z w) (hk : zOK Z) {u : mW} (f : mFr d39 w u) {x : mT} {hh : Nat × (Nat → mT)} {K : Nat → Option mT} (hd : dX x hh K u) : zX (Z.1, x, hh, K, Z.2.2.2.2) u :=
  ⟨h.1.fr hk.1 f (fun c k q => by unfold d39 at q; omega), hd, h.2.2.1.fr f (fun c k q => by unfold d39 at q; omega), h.2.2.2.fr f (fun c k q => by unfold d39 at q; omega)⟩
theorem d39b : ∀ c k, d39 c k → s60b c k := fun c k q => by unfold d39 at q; unfold s60b; omega
theorem x_write (hz : zOK Z) (h : zX Z w) (l : Int32) : mMi E MX8_write [.ref 0, .int l] w (fun v u => v = (o_write Z l).1 ∧ zX (o_write Z l).2 u ∧ mFr s60b w u) := by
  have hL := hz.2.2.2.2.2.1.1
  have ht := h.2.2.1
  unfold mMi
  refine mM_start rfl (Nat.le_of_ble_eq_true rfl) rfl (fun X C F => vX8_write_0 C F _ ?_)
  have no : ¬ (¬ l < 0 ∧ ¬ 255 < l) → ∃ v : Int32, (some (Value.int (-3)) : Option Value) = some (.int v) ∧ v = (o_write Z l).1 ∧ zX (o_write Z l).2 w ∧ mFr s60b w w := fun q => by
    have oo : o_write Z l = (-3, Z) := by rw [o_write, if_pos q]
    rw [oo]; exact ⟨_, rfl, rfl, h, mFr.rf⟩
  refine ⟨fun z => no (fun q => q.1 z), fun z => ⟨fun z2 => ?_, fun z2 => no (fun q => z2 (Int32.not_lt.mp q.2))⟩⟩
  have h1 : ¬ l < 0 ∧ ¬ 255 < l := ⟨z, Int32.not_lt.mpr z2⟩
  refine (k_X5_append hL ht.1 l).mono ?_
  rintro v u (⟨e, rfl, rfl⟩ | ⟨e, rfl, rfl⟩)
  · have oo : o_write Z l = (-5, Z) := by rw [o_write, if_neg (nn0 h1), if_pos e]
    rw [oo]; exact ⟨fun _ => ⟨_, rfl, rfl, h, mFr.rf⟩, fun q => absurd rfl q⟩
  · have oo : o_write Z l = (nI (Z.2.2.2.2.1.1 + 1), zT Z (Z.2.2.2.2.1.1 + 1) (fun i => if i = Z.2.2.2.2.1.1 then l else Z.2.2.2.2.1.2 i)) := by rw [o_write, if_neg (nn0 h1), if_neg (by omega)]
    rw [oo]
    refine ⟨fun q => absurd q (by decide), fun _ => ?_⟩
    have f1 : mFr (fun c k => c = 23 ∨ (c = 22 ∧ k = 1)) w (mPI (mPI w 23 Z.2.2.2.2.1.1 l) 22 1 (nI (Z.2.2.2.2.1.1 + 1))) := (mFr.pi (S := fun c k => c = 23 ∨ (c = 22 ∧ k = 1)) (Or.inl rfl)).tr (mFr.pi (S := fun c k => c = 23 ∨ (c = 22 ∧ k = 1)) (Or.inr ⟨rfl, rfl⟩))
    refine ⟨_, rfl, mPI_at _ _ _ _, ⟨h.1.fr hz.1 f1 (fun c k q => by omega), h.2.1.fr f1 (fun c k q => by omega), ⟨mPI_at _ _ _ _, fun i hi => ?_⟩, h.2.2.2.fr f1 (fun c k q => by omega)⟩, f1.mono (fun c k q => by unfold s60b; omega)⟩
    show (mPI (mPI w 23 Z.2.2.2.2.1.1 l) 22 1 (nI (Z.2.2.2.2.1.1 + 1))).1 23 i = if i = Z.2.2.2.2.1.1 then l else Z.2.2.2.2.1.2 i
    rw [mPI_row (by omega)]
    by_cases e : i = Z.2.2.2.2.1.1
    · rw [if_pos e, e, mPI_at]
    · rw [if_neg e, mPI_col e]; exact ht.2 i (by have : i < Z.2.2.2.2.1.1 + 1 := hi; omega)
theorem x_erase (hz : zOK Z) (h : zX Z w) : mMi E MX8_erase [.ref 0] w (fun v u => v = (o_erase Z).1 ∧ zX (o_erase Z).2 u ∧ mFr s60b w u) := by
  unfold mMi
  refine mM_start rfl (Nat.le_of_ble_eq_true rfl) rfl (fun X C F => vX8_erase_0 C F ?_)
  have f1 : mFr (fun c k => c = 22 ∧ k = 1) w (mPI w 22 1 0) := mFr.pi (S := fun c k => c = 22 ∧ k = 1) ⟨rfl, rfl⟩
  exact ⟨_, rfl, h.2.2.1.1, ⟨h.1.fr hz.1 f1 (fun c k q => by omega), h.2.1.fr f1 (fun c k q => by omega), ⟨mPI_at _ _ _ _, fun i hi => absurd hi (Nat.not_lt_zero _)⟩, h.2.2.2.fr f1 (fun c k q => by omega)⟩, f1.mono (fun c k q => by unfold s60b; omega)⟩
theorem x_say (hz : zOK Z) (h : zX Z w) (set k f b g c : Int32) : mMi E MX8_say [.ref 0, .int set, .int k, .int f, .int b, .int g, .int c] w (fun v u => v = (o_say Z set k f b g c).1 ∧ zX (o_say Z set k f b g c).2 u ∧ mFr s60b w u) := by
  unfold mMi
  refine mM_start rfl (Nat.le_of_ble_eq_true rfl) rfl (fun X C F => vX8_say_0 C F _ _ _ _ _ _ ?_)
  have no : ¬ (¬ set < 1 ∧ ¬ nI (2 ^ Z.1.1.2.1 - 1) < set) → ∃ v : Int32, (some (Value.int (-3)) : Option Value) = some (.int v) ∧ v = (o_say Z set k f b g c).1 ∧ zX (o_say Z set k f b g c).2 w ∧ mFr s60b w w := fun q => by
    have oo : o_say Z set k f b g c = (-3, Z) := by rw [o_say, if_pos q]
    rw [oo]; exact ⟨_, rfl, rfl, h, mFr.rf⟩
  refine ⟨fun z => no (fun q => q.1 z), fun z => k_X1_everyone.mono ?_⟩
  rintro v u ⟨rfl, rfl⟩
  rw [h.1.1.2.1, q_evb _ hz.1.2.1]
  refine ⟨fun z2 => ?_, fun z2 => no (fun q => z2 (Int32.not_lt.mp q.2))⟩
  have h1 : ¬ set < 1 ∧ ¬ nI (2 ^ Z.1.1.2.1 - 1) < set := ⟨z, Int32.not_lt.mpr z2⟩
  refine (k_X8_refusalOf h.1.1 _ _ _ _ _).mono ?_
  rintro v u ⟨rfl, rfl⟩
  rw [q_bar_0]
  refine ⟨fun h2 => ?_, fun h2 => ?_⟩
  · rw [h.2.1.1.1, h.2.1.1.2.2]
    refine f_hear h.1.1 hz.1 k f b g c h2 (fun u2 f2 hY hl hh => ?_)
    have hu := h.fr hz (f2.mono sSx) (fun c k q => Or.inl q)
    refine (k_X3_isSoSaidTo h46 hY hz.1 hl hh _).mono ?_
    rintro v u4 ⟨rfl, rfl⟩
    rw [q_b0]
    refine ⟨fun z => (k_X3_mindsIfSaidTo h46 hY hz.1 hl hh _).mono ?_, fun z => ?_⟩
    · have z := (Bool.not_eq_false _).mp z
      have oo : o_say Z set k f b g c = (q_who Z.2.1.2.2 (q_Ms Z.1 (q_Sx k f b g c) Z.2.1.2.2 set Z.1.1.2.1), zNow (zNote Z) (Z.2.1.1, Z.2.1.2.1, q_Ms Z.1 (q_Sx k f b g c) Z.2.1.2.2 set Z.1.1.2.1)) := by
        rw [o_say, if_neg (nn0 h1), if_neg (nn0 h2), if_neg (by rw [z]; decide)]
      rw [oo]
      rintro v u5 ⟨rfl, rfl⟩
      rw [hu.2.1.1.2.2]
      refine (k_X4_whoDiffer _ _).mono ?_
      rintro v u6 ⟨rfl, rfl⟩
      obtain ⟨d1, ⟨d2, nn, d3, d4, d5⟩, d6, d7⟩ := hu.2.1
      refine (k_X2_remember d3 hz.2.2.2.1.1 d4 d2).mono ?_
      rintro u7 rfl
      have dd := dX_remember (K := Z.2.2.2.1) d1 hz.2.2.2.1.1 d3 d5 d6 d7
      generalize hu7 : mPI (dPut (mPI u6 39 5 (nI ((nn + 1) % 8))) ((nn + 1) % 8)) 39 2 (nI (min (Z.2.2.1.1 + 1) 8)) = u7 at dd
      have f7 : mFr d39 u6 u7 := by rw [← hu7]; exact rem_fr
      have f8 : ∀ N : Int64, mFr d39 u6 (mPL u7 39 3 N) := fun N => f7.tr (mFr.pl (S := d39) ⟨by omega, by omega⟩)
      refine ⟨_, rfl, rfl, zX_days hu hz (f8 _) (x := (Z.2.1.1, Z.2.1.2.1, q_Ms Z.1 (q_Sx k f b g c) Z.2.1.2.2 set Z.1.1.2.1)) ?_, (f2.mono (fun c k q => xSc60 c k (sSx c k q))).tr ((f8 _).mono d39b)⟩
      obtain ⟨a1, ⟨a2, mm, a3, a4, a5⟩, a6, a7⟩ := dd
      have ed : ∀ b (N : Int64), dat (mPL u7 39 3 N) b = dat u7 b := fun b N => dat_fr (mFr.pl (S := fun c _ => c = 39) rfl) (fun c _ _ q => by omega)
      exact ⟨⟨a1.1, a1.2.1, mPL_at _ _ _ _⟩, ⟨a2, mm, a3, a4, fun i hi => (ed _ _).trans (a5 i hi)⟩, a6, fun k y hk hy => (ed _ _).trans (a7 k y hk hy)⟩
    · have oo : o_say Z set k f b g c = (-4, Z) := by rw [o_say, if_neg (nn0 h1), if_neg (nn0 h2), if_pos z]
      rw [oo]; exact ⟨_, rfl, rfl, hu, f2.mono (fun c k q => xSc60 c k (sSx c k q))⟩
  · have oo : o_say Z set k f b g c = (q_bar Z.1.1.1 k f b g c, Z) := by rw [o_say, if_neg (nn0 h1), if_pos h2]
    rw [oo]; exact ⟨_, rfl, rfl, h, mFr.rf⟩
theorem x_night (hz : zOK Z) (h : zX Z w) : mMi E MX8_night [.ref 0] w (fun v u => v = (o_night Z).1 ∧ zX (o_night Z).2 u ∧ mFr s60b w u) := by
  unfold mMi
  refine mM_start rfl (Nat.le_of_ble_eq_true rfl) rfl (fun X C F => vX8_night_0 C F ?_)
  obtain ⟨n, hn, en⟩ := hz.2.2.1.2.1
  have e9 : Z.2.1.2.1 < 999 ↔ ¬ Z.2.1.2.1 = 999 := by
    rw [en, show (999 : Int32) = nI 999 from rfl, nI_ltI (by omega) (by omega), nI_eq (by omega) (by omega)]; omega
  rw [h.2.1.1.2.1, e9]
  refine ⟨fun h1 => ?_, fun h1 => ?_⟩
  · have oo : o_night Z = (q_s0 Z.1 Z.2.1.2.2 Z.2.1.1 + 9999, zNow (zNote Z) (q_dawn Z.1 (q_dd Z.1 Z.2.1.2.2) Z.2.1.1, Z.2.1.2.1 + 1, Z.2.1.2.2)) := by rw [o_night, if_neg h1]
    rw [oo]
    obtain ⟨d1, ⟨d2, nn, d3, d4, d5⟩, d6, d7⟩ := h.2.1
    refine (k_X2_remember d3 hz.2.2.2.1.1 d4 d2).mono ?_
    rintro u7 rfl
    have dd := dX_remember (K := Z.2.2.2.1) d1 hz.2.2.2.1.1 d3 d5 d6 d7
    generalize hu7 : mPI (dPut (mPI w 39 5 (nI ((nn + 1) % 8))) ((nn + 1) % 8)) 39 2 (nI (min (Z.2.2.1.1 + 1) 8)) = u7 at dd
    have f7 : mFr d39 w u7 := by rw [← hu7]; exact rem_fr
    have hY7 : cyX Z.1 u7 := h.1.1.fr hz.1 f7 (fun c k q => by unfold d39 at q; omega)
    obtain ⟨a1, ⟨a2, mm, a3, a4, a5⟩, a6, a7⟩ := dd
    rw [a1.1, a1.2.2]
    refine (k_X1_doers hY7 hz.1 _).mono ?_
    rintro v u8 ⟨rfl, rfl⟩
    refine (k_X1_dawn hY7 hz.1 _ _).mono ?_
    rintro v u8 ⟨rfl, rfl⟩
    rw [q_dawn_dd hz.1, a1.2.1]
    have f8 : ∀ x y : Int32, mFr d39 u8 (mPI (mPI u8 39 0 x) 39 1 y) := fun x y => (mFr.pi (S := d39) ⟨by omega, by omega⟩).tr (mFr.pi (S := d39) ⟨by omega, by omega⟩)
    refine (k_X1_sumOf (hY7.fr hz.1 (f8 _ _) (fun c k q => by unfold d39 at q; omega)) hz.1 _).mono ?_
    rintro v u9 ⟨rfl, rfl⟩
    refine ⟨_, rfl, rfl, zX_days h hz (f7.tr (f8 _ _)) (x := (q_dawn Z.1 (q_dd Z.1 Z.2.1.2.2) Z.2.1.1, Z.2.1.2.1 + 1, Z.2.1.2.2)) ?_, (f7.tr (f8 _ _)).mono d39b⟩
    have ed : ∀ b (x y : Int32), dat (mPI (mPI u8 39 0 x) 39 1 y) b = dat u8 b := fun b x y => dat_fr (d_39_fr.tr d_39_fr) (fun c _ _ q => by omega)
    refine ⟨⟨?_, mPI_at _ _ _ _, a1.2.2⟩, ⟨?_, mm, a3, ?_, fun i hi => (ed _ _ _).trans (a5 i hi)⟩, ?_, fun k y hk hy => (ed _ _ _).trans (a7 k y hk hy)⟩
    · rw [mPI_col (by omega), mPI_at]
    · rw [mPI_col (by omega), mPI_col (by omega)]; exact a2
    · rw [mPI_col (by omega), mPI_col (by omega)]; exact a4
    · rw [mPI_col (by omega), mPI_col (by omega)]; exact a6
  · have oo : o_night Z = (-5, Z) := by rw [o_night, if_pos (Classical.not_not.mp h1)]
    rw [oo]; exact ⟨_, rfl, rfl, h, mFr.rf⟩
theorem take_fr {w : mW} {a : Nat} : mFr (fun c k => c = 39 ∧ (k = 0 ∨ k = 1 ∨ k = 3)) w (dTake w a) := ((mFr.pi (S := fun c k => c = 39 ∧ (k = 0 ∨ k = 1 ∨ k = 3)) (by omega)).tr (mFr.pl (S := fun c k => c = 39 ∧ (k = 0 ∨ k = 1 ∨ k = 3)) (by omega))).tr (mFr.pi (S := fun c k => c = 39 ∧ (k = 0 ∨ k = 1 ∨ k = 3)) (by omega))
theorem take_at (w : mW) (a : Nat) : (dTake w a).1 39 0 = (dat w a).1 ∧ (dTake w a).1 39 1 = (dat w a).2.1 ∧ (dTake w a).2 39 3 = (dat w a).2.2 := by
  unfold dat dTake
  simp [mPI, mPL]
theorem x_undo (hz : zOK Z) (h : zX Z w) : mMi E MX8_undo [.ref 0] w (fun v u => v = (o_undo Z).1 ∧ zX (o_undo Z).2 u ∧ mFr s60b w u) := by
  unfold mMi
  refine mM_start rfl (Nat.le_of_ble_eq_true rfl) rfl (fun X C F => vX8_undo_0 C F ?_)
  obtain ⟨d1, ⟨d2, nn, d3, d4, d5⟩, d6, d7⟩ := h.2.1
  have h8 := hz.2.2.2.1.1
  refine (k_X2_stepBack d3 h8 d4 d2).mono ?_
  rintro v u (⟨e, rfl, rfl⟩ | ⟨e, rfl, rfl⟩)
  · have oo : o_undo Z = (-4, Z) := by rw [o_undo, if_pos e]
    rw [oo]; exact ⟨fun _ => ⟨_, rfl, rfl, h, mFr.rf⟩, fun q => absurd rfl q⟩
  · have oo : o_undo Z = (nI (Z.2.2.1.1 - 1), (Z.1, Z.2.2.1.2 0, (Z.2.2.1.1 - 1, fun i => Z.2.2.1.2 (i + 1)), Z.2.2.2)) := by rw [o_undo, if_neg (by omega)]
    rw [oo]
    refine ⟨fun q => absurd q (by decide), fun _ => ?_⟩
    have f1 : mFr (fun c _ => c = 39) w (mPI (mPI (dTake w nn) 39 5 (nI ((nn + 7) % 8))) 39 2 (nI (Z.2.2.1.1 - 1))) := ((take_fr.mono (fun c k q => q.1)).tr d_39_fr).tr d_39_fr
    have ed : ∀ b, dat (mPI (mPI (dTake w nn) 39 5 (nI ((nn + 7) % 8))) 39 2 (nI (Z.2.2.1.1 - 1))) b = dat w b := fun b => dat_fr f1 (fun c _ _ q => by omega)
    have e0 : dat w nn = Z.2.2.1.2 0 := by have := d5 0 e; rw [show (nn + 8 - 0) % 8 = nn by omega] at this; exact this
    refine ⟨_, rfl, mPI_at _ _ _ _, zX_days h hz (f1.mono (fun c k q => by unfold d39; omega)) ⟨⟨?_, ?_, ?_⟩, ⟨mPI_at _ _ _ _, (nn + 7) % 8, Nat.mod_lt _ (by omega), ?_, fun i hi => ?_⟩, ?_, fun k y hk hy => (ed _).trans (d7 k y hk hy)⟩, f1.mono (fun c k q => by unfold s60b; omega)⟩
    · rw [mPI_col (by omega), mPI_col (by omega), (take_at w nn).1, e0]
    · rw [mPI_col (by omega), mPI_col (by omega), (take_at w nn).2.1, e0]
    · show (dTake w nn).2 39 3 = _
      rw [(take_at w nn).2.2, e0]
    · rw [mPI_col (by omega), mPI_at]
    · have hi : i < Z.2.2.1.1 - 1 := hi
      rw [ed, show ((nn + 7) % 8 + 8 - i) % 8 = (nn + 8 - (i + 1)) % 8 by omega]
      exact d5 (i + 1) (by omega)
    · rw [mPI_col (by omega), mPI_col (by omega), (take_fr 39 4 (by omega)).1]; exact d6
theorem q_ds2 (d : Nat → Bool) {a : Nat} (ha : a < 2) : q_ds d 2 ||| ((1 : Int32) <<< (nI a &&& 31)) = q_ds (fun i => if i = a then true else d i) 2 := by
  apply q_ext
  intro k hk
  rw [q_g_or, q_g_ds _ 2 (by omega) k hk, q_g_ds _ 2 (by omega) k hk, q_g_sh1 a (by omega) k hk]
  by_cases e : k = a
  · subst e; simp [ha]
  · simp [e]
theorem x_keep (hz : zOK Z) (h : zX Z w) (k : Int32) : mMi E MX8_keep [.ref 0, .int k] w (fun v u => v = (o_keep Z k).1 ∧ zX (o_keep Z k).2 u ∧ mFr s60b w u) := by
  unfold mMi
  refine mM_start rfl (Nat.le_of_ble_eq_true rfl) rfl (fun X C F => vX8_keep_0 C F _ ?_)
  obtain ⟨d1, ⟨d2, nn, d3, d4, d5⟩, d6, d7⟩ := h.2.1
  refine (k_X8_isBit _).mono ?_
  rintro v u ⟨rfl, rfl⟩
  rw [q_b0]
  refine ⟨fun h1 => ?_, fun h1 => ?_⟩
  · have h1 := b_t h1
    have oo : o_keep Z k = (Z.2.1.2.1, (Z.1, Z.2.1, Z.2.2.1, (fun i => if nI i = k then some Z.2.1 else Z.2.2.2.1 i), Z.2.2.2.2)) := by rw [o_keep, if_neg (nn0 h1)]
    rw [oo]
    obtain ⟨a, ha, rfl⟩ := i_bit_of h1
    rw [show (8 : Int32) + nI a = nI (8 + a) from q_k 8 a]
    refine (k_X2_put (by omega)).mono ?_
    rintro u2 rfl
    have p : ∀ k, (dPut u (8 + a)).1 39 k = u.1 39 k := fun k => (d_put_fr _ 39 k (by omega)).1
    rw [p, p, d6, q_ds2 _ ha]
    have ed : ∀ b (x : Int32), dat (mPI (dPut u (8 + a)) 39 4 x) b = dat (dPut u (8 + a)) b := fun b x => dat_fr d_39_fr (fun c _ _ q => by omega)
    have f1 : ∀ x : Int32, mFr d39 u (mPI (dPut u (8 + a)) 39 4 x) := fun x => ((d_put_fr _).mono (fun c k q => ⟨by omega, by omega⟩)).tr (mFr.pi (S := d39) ⟨by omega, by omega⟩)
    refine ⟨_, rfl, d1.2.1, zX_days h hz (f1 _) ⟨⟨?_, ?_, ?_⟩, ⟨?_, nn, d3, ?_, fun i hi => ?_⟩, ?_, fun i y hi hy => ?_⟩, (f1 _).mono d39b⟩
    · rw [mPI_col (by omega), p]; exact d1.1
    · rw [mPI_col (by omega), p]; exact d1.2.1
    · show (dPut u (8 + a)).2 39 3 = _
      rw [(d_put_fr _ 39 3 (by omega)).2]; exact d1.2.2
    · rw [mPI_col (by omega), p]; exact d2
    · rw [mPI_col (by omega), p]; exact d4
    · rw [ed, d_put_ne _ (by omega)]; exact d5 i hi
    · rw [mPI_at]
      refine q_ds_congr 2 (fun i hi => ?_)
      dsimp only
      by_cases e : i = a
      · rw [if_pos e, if_pos (by rw [e])]; rfl
      · rw [if_neg e, if_neg (fun q => e ((nI_eq (by omega) (by omega)).mp q))]
    · dsimp only at hy
      rw [ed]
      by_cases e : i = a
      · rw [if_pos (by rw [e])] at hy
        rw [e, d_put_at, ← Option.some.inj hy, d1.1, d1.2.1, d1.2.2]
      · rw [if_neg (fun q => e ((nI_eq (by omega) (by omega)).mp q))] at hy
        rw [d_put_ne _ (by omega)]
        exact d7 i y hi hy
  · have oo : o_keep Z k = (-2, Z) := by rw [o_keep, if_pos (of_decide_eq_false h1)]
    rw [oo]; exact ⟨_, rfl, rfl, h, mFr.rf⟩
theorem x_back (hz : zOK Z) (h : zX Z w) (k : Int32) : mMi E MX8_back [.ref 0, .int k] w (fun v u => v = (o_back Z k).1 ∧ zX (o_back Z k).2 u ∧ mFr s60b w u) := by
  unfold mMi
  refine mM_start rfl (Nat.le_of_ble_eq_true rfl) rfl (fun X C F => vX8_back_0 C F _ ?_)
  obtain ⟨d1, ⟨d2, nn, d3, d4, d5⟩, d6, d7⟩ := h.2.1
  refine (k_X8_isBit _).mono ?_
  rintro v u ⟨rfl, rfl⟩
  rw [q_b0]
  refine ⟨fun h1 => ?_, fun h1 => ?_⟩
  · have h1 := b_t h1
    obtain ⟨a, ha, rfl⟩ := i_bit_of h1
    have oo : o_back Z (nI a) = match Z.2.2.2.1 a with
      | none => (-4, Z)
      | some x => (x.2.1, (Z.1, x, (0, Z.2.2.1.2), Z.2.2.2)) := by rw [o_back, if_neg (nn0 h1), nI_clamp (by omega)]; rfl
    have eb : ((q_ds (fun k => (Z.2.2.2.1 k).isSome) 2) >>> (nI a &&& 31)) &&& 1 = 0 ↔ (Z.2.2.2.1 a).isSome = false := by
      have := q_bt_eq (q_ds (fun k => (Z.2.2.2.1 k).isSome) 2) (k := a) (by omega)
      unfold q_bt at this
      rw [this, q_g_ds _ 2 (by omega) a (by omega), decide_eq_true ha, Bool.true_and]
      cases (Z.2.2.2.1 a).isSome <;> decide
    rw [d6, eb, oo, show (8 : Int32) + nI a = nI (8 + a) from q_k 8 a]
    refine ⟨fun z => ?_, fun z => ?_⟩
    · cases ek : Z.2.2.2.1 a with
      | none => rw [ek] at z; exact absurd rfl z
      | some y =>
        have hy := d7 a y ha ek
        refine (k_X2_take (by omega)).mono ?_
        rintro u2 rfl
        have f1 : mFr (fun c _ => c = 39) u (mPI (dTake u (8 + a)) 39 2 0) := (take_fr.mono (fun c k q => q.1)).tr d_39_fr
        have ed : ∀ b, dat (mPI (dTake u (8 + a)) 39 2 0) b = dat u b := fun b => dat_fr f1 (fun c _ _ q => by omega)
        refine ⟨_, rfl, ?_, zX_days h hz (f1.mono (fun c k q => by unfold d39; omega)) ⟨⟨?_, ?_, ?_⟩, ⟨mPI_at _ _ _ _, nn, d3, ?_, fun i hi => absurd hi (Nat.not_lt_zero _)⟩, ?_, fun k y hk hy => (ed _).trans (d7 k y hk hy)⟩, f1.mono (fun c k q => by unfold s60b; omega)⟩
        · rw [(take_at u (8 + a)).2.1, hy]
        · rw [mPI_col (by omega), (take_at u (8 + a)).1, hy]
        · rw [mPI_col (by omega), (take_at u (8 + a)).2.1, hy]
        · show (dTake u (8 + a)).2 39 3 = _
          rw [(take_at u (8 + a)).2.2, hy]
        · rw [mPI_col (by omega), (take_fr 39 5 (by omega)).1]; exact d4
        · rw [mPI_col (by omega), (take_fr 39 4 (by omega)).1]; exact d6
    · cases ek : Z.2.2.2.1 a with
      | none => exact ⟨_, rfl, rfl, h, mFr.rf⟩
      | some y => rw [ek] at z; exact absurd (show true = false from z) (by decide)
  · have oo : o_back Z k = (-2, Z) := by rw [o_back, if_pos (of_decide_eq_false h1)]
    rw [oo]; exact ⟨_, rfl, rfl, h, mFr.rf⟩
theorem x_bet (hz : zOK Z) (h : zX Z w) (f price : Int32) : mMi E MX8_bet [.ref 0, .int f, .int price] w (fun v u => v = (o_bet Z f price).1 ∧ zX (o_bet Z f price).2 u ∧ mFr s60b w u) := by
  have hb := h.2.2.2
  have hB := hz.2.2.2.2.2.2.1
  unfold mMi
  refine mM_start rfl (Nat.le_of_ble_eq_true rfl) rfl (fun X C F => vX8_bet_0 C F _ _ ?_)
  refine (k_X1_hasFact f).mono ?_
  rintro v u ⟨rfl, rfl⟩
  rw [q_b0, h.1.1.1]
  refine ⟨fun h1 => ?_, fun h1 => ?_⟩
  · have h1 := b_t h1
    have no : ¬ (¬ price < 0 ∧ ¬ 99 < price) → ∃ v : Int32, (some (Value.int (-3)) : Option Value) = some (.int v) ∧ v = (o_bet Z f price).1 ∧ zX (o_bet Z f price).2 u ∧ mFr s60b u u := fun q => by
      have oo : o_bet Z f price = (-3, Z) := by rw [o_bet, if_neg (nn0 h1), if_pos q]
      rw [oo]; exact ⟨_, rfl, rfl, h, mFr.rf⟩
    refine ⟨fun z => no (fun q => q.1 z), fun z => ⟨fun z2 => ?_, fun z2 => no (fun q => z2 (Int32.not_lt.mp q.2))⟩⟩
    have h2 : ¬ price < 0 ∧ ¬ 99 < price := ⟨z, Int32.not_lt.mpr z2⟩
    refine (k_X0_add hB hb.1 _ _).mono ?_
    rintro v u2 (⟨e, rfl, rfl⟩ | ⟨e, rfl, rfl⟩)
    · have oo : o_bet Z f price = (-5, Z) := by rw [o_bet, if_neg (nn0 h1), if_neg (nn0 h2), if_pos e]
      rw [oo]; exact ⟨fun _ => ⟨_, rfl, rfl, h, mFr.rf⟩, fun q => absurd rfl q⟩
    · have oo : o_bet Z f price = (nI (Z.2.2.2.2.2.1 + 1), zBet Z (Z.2.2.2.2.2.1 + 1) (fun i => if i = Z.2.2.2.2.2.1 then f else Z.2.2.2.2.2.2.1 i) (fun i => if i = Z.2.2.2.2.2.1 then price else Z.2.2.2.2.2.2.2 i)) := by rw [o_bet, if_neg (nn0 h1), if_neg (nn0 h2), if_neg (by omega)]
      rw [oo]
      refine ⟨fun q => absurd q (by decide), fun _ => ?_⟩
      have f2 : mFr (fun c _ => 43 ≤ c ∧ c ≤ 45) u (mPI (mPI (mPI u 44 Z.2.2.2.2.2.1 f) 45 Z.2.2.2.2.2.1 price) 43 0 (nI (Z.2.2.2.2.2.1 + 1))) := ((mFr.pi (S := fun c _ => 43 ≤ c ∧ c ≤ 45) (by omega)).tr (mFr.pi (S := fun c _ => 43 ≤ c ∧ c ≤ 45) (by omega))).tr (mFr.pi (S := fun c _ => 43 ≤ c ∧ c ≤ 45) (by omega))
      refine ⟨_, rfl, mPI_at _ _ _ _, ⟨h.1.fr hz.1 f2 (fun c k q => by omega), h.2.1.fr f2 (fun c k q => by omega), h.2.2.1.fr f2 (fun c k q => by omega), ⟨mPI_at _ _ _ _, fun i hi => ?_⟩⟩, f2.mono (fun c k q => by unfold s60b; omega)⟩
      have hi : i < Z.2.2.2.2.2.1 + 1 := hi
      dsimp only [zBet]
      rw [mPI_row (show (44 : Nat) ≠ 43 by omega), mPI_row (show (44 : Nat) ≠ 45 by omega), mPI_row (show (45 : Nat) ≠ 43 by omega)]
      by_cases e : i = Z.2.2.2.2.2.1
      · rw [if_pos e, if_pos e, e]
        exact ⟨mPI_at _ _ _ _, mPI_at _ _ _ _⟩
      · rw [if_neg e, if_neg e]
        exact ⟨by rw [mPI_col e]; exact (hb.2 i (by omega)).1, by rw [mPI_col e, mPI_row (show (45 : Nat) ≠ 44 by omega)]; exact (hb.2 i (by omega)).2⟩
  · have oo : o_bet Z f price = (-2, Z) := by rw [o_bet, if_pos (of_decide_eq_false h1)]
    rw [oo]; exact ⟨_, rfl, rfl, h, mFr.rf⟩
theorem x_call (hz : zOK Z) (h : zX Z w) : mMi E MX8_call [.ref 0] w (fun v u => v = (o_call Z).1 ∧ zX (o_call Z).2 u ∧ mFr s60b w u) := by
  unfold mMi
  refine mM_start rfl (Nat.le_of_ble_eq_true rfl) rfl (fun X C F => vX8_call_0 C F ?_)
  have f1 : mFr (fun c k => c = 43 ∧ k = 0) w (mPI w 43 0 0) := mFr.pi (S := fun c k => c = 43 ∧ k = 0) ⟨rfl, rfl⟩
  exact ⟨_, rfl, h.2.2.2.1, ⟨h.1.fr hz.1 f1 (fun c k q => by omega), h.2.1.fr f1 (fun c k q => by omega), h.2.2.1.fr f1 (fun c k q => by omega), ⟨mPI_at _ _ _ _, fun i hi => absurd hi (Nat.not_lt_zero _)⟩⟩, f1.mono (fun c k q => by unfold s60b; omega)⟩
end X8c
