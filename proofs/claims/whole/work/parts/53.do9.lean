/-! ===== THE REFERENCE'S CALLS that change something ===== -/
def s60w : Nat → Nat → Prop := fun c _ => 60 ≤ c
theorem mSc60 : ∀ c k, mSc c k → s60w c k := fun c k h => by unfold mSc at h; unfold s60w; omega
theorem q_ds_up {d : Nat → Bool} {n : Nat} : ∀ m, n ≤ m → (∀ p, n ≤ p → p < m → d p = false) → q_ds d m = q_ds d n := by
  intro m
  induction m with
  | zero => intro h _; rw [show n = 0 by omega]
  | succ m ih =>
    intro h hd
    by_cases e : n = m + 1
    · rw [e]
    · rw [q_ds, if_neg (by rw [hd m (by omega) (by omega)]; decide), ih (by omega) (fun p h1 h2 => hd p h1 (by omega))]
section M9d
variable {E : mEnv} {w : mW} {Z : mZ}
theorem m_write (hz : zOK Z) (h : zM Z w) (l : Int32) : mMi E MX9_write [.ref 60, .int l] w (fun v u => v = (o_write Z l).1 ∧ zM (o_write Z l).2 u ∧ mFr s60w w u) := by
  have hL := hz.2.2.2.2.2.1.1
  have ht := h.2.2.2.2.1
  unfold mMi
  refine mM_start rfl (Nat.le_of_ble_eq_true rfl) rfl (fun X C F => vX9_write_0 C F _ ?_)
  refine (k_X9_in _ _ _).mono ?_
  rintro v u ⟨rfl, rfl⟩
  rw [q_b0, ht.1]
  have e160 : nI Z.2.2.2.2.1.1 = 160 ↔ Z.2.2.2.2.1.1 = 160 := nI_eq (b := 160) (by omega) (by omega)
  rw [e160]
  refine ⟨fun h1 => ?_, fun h1 => ?_⟩
  · have h1 := b_t h1
    refine ⟨fun h2 => ⟨vp_in_nI (by omega) (by omega), ?_⟩, fun h2 => ?_⟩
    · rw [nI_clamp (by omega)]
      rintro w1 rfl
      have oo : o_write Z l = (nI (Z.2.2.2.2.1.1 + 1), zT Z (Z.2.2.2.2.1.1 + 1) (fun i => if i = Z.2.2.2.2.1.1 then l else Z.2.2.2.2.1.2 i)) := by rw [o_write, if_neg (nn0 h1), if_neg h2]
      rw [oo, mPI_row (by omega), ht.1, nI_1]
      have f1 : mFr (fun c k => c = 64 ∨ (c = 60 ∧ k = 6)) u (mPI (mPI u 64 Z.2.2.2.2.1.1 l) 60 6 (nI (Z.2.2.2.2.1.1 + 1))) := (mFr.pi (S := fun c k => c = 64 ∨ (c = 60 ∧ k = 6)) (Or.inl rfl)).tr (mFr.pi (S := fun c k => c = 64 ∨ (c = 60 ∧ k = 6)) (Or.inr ⟨rfl, rfl⟩))
      refine ⟨_, rfl, rfl, ⟨h.1.fr f1 (fun c k q => by unfold mCy; omega), h.2.1.fr (fun k _ => (f1 66 k (by omega)).1), h.2.2.1.fr f1 (fun c k q => by omega), h.2.2.2.1.fr f1 (fun c k q => by omega), ⟨mPI_at _ _ _ _, fun i hi => ?_⟩, h.2.2.2.2.2.fr f1 (fun c k q => by omega)⟩, f1.mono (fun c k q => by unfold s60w; omega)⟩
      show (mPI (mPI u 64 Z.2.2.2.2.1.1 l) 60 6 (nI (Z.2.2.2.2.1.1 + 1))).1 64 i = if i = Z.2.2.2.2.1.1 then l else Z.2.2.2.2.1.2 i
      rw [mPI_row (by omega)]
      by_cases e : i = Z.2.2.2.2.1.1
      · rw [if_pos e, e, mPI_at]
      · rw [if_neg e, mPI_col e]; exact ht.2 i (by have : i < Z.2.2.2.2.1.1 + 1 := hi; omega)
    · have oo : o_write Z l = (-5, Z) := by rw [o_write, if_neg (nn0 h1), if_pos h2]
      rw [oo]; exact ⟨_, rfl, rfl, h, mFr.rf⟩
  · have oo : o_write Z l = (-3, Z) := by rw [o_write, if_pos (of_decide_eq_false h1)]
    rw [oo]; exact ⟨_, rfl, rfl, h, mFr.rf⟩
theorem m_erase (h : zM Z w) : mMi E MX9_erase [.ref 60] w (fun v u => v = (o_erase Z).1 ∧ zM (o_erase Z).2 u ∧ mFr s60w w u) := by
  have ht := h.2.2.2.2.1
  unfold mMi
  refine mM_start rfl (Nat.le_of_ble_eq_true rfl) rfl (fun X C F => vX9_erase_0 C F ?_)
  have f1 : mFr (fun c k => c = 60 ∧ k = 6) w (mPI w 60 6 0) := mFr.pi (S := fun c k => c = 60 ∧ k = 6) ⟨rfl, rfl⟩
  exact ⟨_, rfl, ht.1, ⟨h.1.fr f1 (fun c k q => by unfold mCy; omega), h.2.1.fr (fun k _ => (f1 66 k (by omega)).1), h.2.2.1.fr f1 (fun c k q => by omega), h.2.2.2.1.fr f1 (fun c k q => by omega), ⟨mPI_at _ _ _ _, fun i hi => absurd hi (Nat.not_lt_zero _)⟩, h.2.2.2.2.2.fr f1 (fun c k q => by omega)⟩, f1.mono (fun c k q => by unfold s60w; omega)⟩
def nS : Nat → Nat → Prop := fun c k => c = 72 ∨ (c = 60 ∧ k = 26)
theorem m_note_fin {u0 : mW} {n : Nat} (hn : n < 8) {H : Nat → mT} {x : mT} (hs : snT (u0.1 66) x) (hh : ∀ i, i < n → snT (fun k => u0.1 72 (32 * (n - 1 - i) + k)) (H i)) (h26 : u0.1 60 26 = nI n) {Q : Option Value → mW → Prop} (hQ : ∀ u, mFr nS u0 u → hMo (n + 1, fun i => if i = 0 then x else H (i - 1)) u → Q none u) : mMv E MX9_copy [.ref 66, .int 0, .ref 72, .int (32 * nI n)] u0 (fun u1 => Q none (mPI u1 60 26 (u1.1 60 26 + 1))) := by
  rw [show (32 : Int32) * nI n = nI (32 * n) from pk_mul 32 n]
  refine (k_X9_copy (x := 0) sh66 sh72 (by omega) (by omega) (by omega) (by omega) (by omega)).mono ?_
  rintro u1 ⟨f1, r1⟩
  rw [(f1 60 26 (by omega)).1, h26, nI_1]
  have f2 : mFr nS u0 (mPI u1 60 26 (nI (n + 1))) := (f1.mono (fun c k q => Or.inl q.1)).tr (mFr.pi (S := nS) (Or.inr ⟨rfl, rfl⟩))
  refine hQ _ f2 ⟨mPI_at _ _ _ _, fun i hi => ?_⟩
  have hi : i < n + 1 := hi
  show snT (fun k => (mPI u1 60 26 (nI (n + 1))).1 72 (32 * (n + 1 - 1 - i) + k)) (if i = 0 then x else H (i - 1))
  rw [mPI_row (by omega)]
  by_cases e : i = 0
  · rw [if_pos e]
    refine hs.fr (fun k hk => ?_)
    rw [e, show 32 * (n + 1 - 1 - 0) + k = 32 * n + k by omega, r1 k hk, Nat.zero_add]
  · rw [if_neg e]
    refine (hh (i - 1) (by omega)).fr (fun k hk => ?_)
    rw [show 32 * (n + 1 - 1 - i) + k = 32 * (n - 1 - (i - 1)) + k by omega]
    exact (f1 72 _ (by omega)).1
theorem m_note (hz : zOK Z) (h : zM Z w) : mMv E MX9_note [.ref 60] w (fun u => zM (zNote Z) u ∧ mFr nS w u) := by
  have hh := h.2.2.1
  have h8 := hz.2.2.2.1.1
  have out : ∀ u, mFr nS w u → hMo (zNote Z).2.2.1 u → zM (zNote Z) u := fun u fu hu => ⟨h.1.fr fu (fun c k q => by unfold nS at q; unfold mCy; omega), h.2.1.fr (fun k _ => (fu 66 k (by unfold nS; omega)).1), hu, h.2.2.2.1.fr fu (fun c k q => by unfold nS at q; omega), h.2.2.2.2.1.fr fu (fun c k q => by unfold nS at q; omega), h.2.2.2.2.2.fr fu (fun c k q => by unfold nS at q; omega)⟩
  unfold mMv
  refine mM_start rfl (Nat.le_of_ble_eq_true rfl) rfl (fun X C F => vX9_note_0 C F ?_)
  rw [hh.1]
  have e8 : nI Z.2.2.1.1 = 8 ↔ Z.2.2.1.1 = 8 := nI_eq (b := 8) (by omega) (by omega)
  rw [e8]
  refine ⟨fun h1 => ?_, fun h1 => ?_⟩
  · refine m_note_fin (Q := fun r u => r = none ∧ zM (zNote Z) u ∧ mFr nS w u) (n := Z.2.2.1.1) (by omega) h.2.1 hh.2 hh.1 (fun u fu hu => ⟨rfl, out u fu ?_, fu⟩)
    show hMo (min (Z.2.2.1.1 + 1) 8, _) u
    rw [show min (Z.2.2.1.1 + 1) 8 = Z.2.2.1.1 + 1 by omega]
    exact hu
  · have loop : ∀ k i : Nat, i + k = 224 → ∀ u, mFr (fun c _ => c = 72) w u → (∀ j, j < i → u.1 72 j = w.1 72 (j + 32)) → (∀ j, i ≤ j → u.1 72 j = w.1 72 j) → mG X E MX9_note 11 [.ref 60, .int (nI i)] [] u := by
      intro k
      induction k with
      | zero =>
        intro i hi u fu lo hi2
        refine vX9_note_11 C F _ ?_
        rw [show (u.1 60 26) = nI 8 by rw [(fu 60 26 (by omega)).1, hh.1, h1], show (nI 8 : Int32) - 1 = nI 7 from rfl]
        refine ⟨fun _ => ?_, fun q => absurd (show (224 : Int32) ≤ nI i by rw [show (224 : Int32) = nI 224 from rfl]; exact nI_le (by omega) (by omega)) q⟩
        have g1 : mFr nS w (mPI u 60 26 (nI 7)) := (fu.mono (fun c k q => Or.inl q)).tr (mFr.pi (S := nS) (Or.inr ⟨rfl, rfl⟩))
        refine m_note_fin (Q := fun r u => r = none ∧ zM (zNote Z) u ∧ mFr nS w u) (n := 7) (H := Z.2.2.1.2) (x := Z.2.1) (by omega) (h.2.1.fr (fun k _ => (g1 66 k (by unfold nS; omega)).1)) (fun i hi3 => ?_) (mPI_at _ _ _ _) (fun u2 fu2 hu => ⟨rfl, out u2 (g1.tr fu2) ?_, g1.tr fu2⟩)
        · refine (hh.2 i (by omega)).fr (fun k hk => ?_)
          rw [mPI_row (by omega), h1, lo _ (by omega), show 32 * (7 - 1 - i) + k + 32 = 32 * (8 - 1 - i) + k by omega]
        · show hMo (min (Z.2.2.1.1 + 1) 8, _) u2
          rw [h1]
          exact hu
      | succ k ih =>
        intro i hi u fu lo hi2
        refine vX9_note_11 C F _ ?_
        rw [show (224 : Int32) = nI 224 from rfl, show nI i + 32 = nI (i + 32) from q_k i 32, nI_clamp (by omega), nI_clamp (by omega), nI_1]
        refine ⟨fun q => absurd q (nI_ge (by omega) (by omega)), fun _ => ⟨vp_in_nI (by omega) (by omega), vp_in_nI (by omega) (by omega), ?_⟩⟩
        rintro w1 rfl
        refine ih (i + 1) (by omega) _ (fu.tr (mFr.pi (S := fun c _ => c = 72) rfl)) (fun j hj => ?_) (fun j hj => ?_)
        · by_cases e : j = i
          · subst e; rw [mPI_at]; exact hi2 _ (by omega)
          · rw [mPI_col e]; exact lo j (by omega)
        · rw [mPI_col (by omega)]; exact hi2 j (by omega)
    exact loop 224 0 (by omega) w mFr.rf (fun j hj => absurd hj (by omega)) (fun j _ => rfl)
theorem m_say (hz : zOK Z) (h : zM Z w) (set k f b g c : Int32) : mMi E MX9_say [.ref 60, .int set, .int k, .int f, .int b, .int g, .int c] w (fun v u => v = (o_say Z set k f b g c).1 ∧ zM (o_say Z set k f b g c).2 u ∧ mFr s60w w u) := by
  have h5 := hz.1.2.1
  have hM := hz.2.2.1.2.2
  unfold mMi
  refine mM_start rfl (Nat.le_of_ble_eq_true rfl) rfl (fun X C F => vX9_say_0 C F _ _ _ _ _ _ ?_)
  refine k_X9_everybody.mono ?_
  rintro v u3 ⟨rfl, rfl⟩
  rw [h.1.2.1, q_evb _ hz.1.2.1]
  refine (k_X9_in _ _ _).mono ?_
  rintro v u ⟨rfl, rfl⟩
  rw [q_b0]
  refine ⟨fun h1 => ?_, fun h1 => ?_⟩
  · have h1 := b_t h1
    refine (k_X9_barred h.1 hz.1 _ _ _ _ _).mono ?_
    rintro v u ⟨rfl, rfl⟩
    refine ⟨fun h2 => (k_X9_layTold _ _ _ _ _).mono ?_, fun h2 => ?_⟩
    · rintro u2 ⟨f2, hS⟩
      obtain ⟨m, e, hok, hv⟩ := bar_ok hz.1.1 h2
      have f2m : mFr mSc u u2 := f2.mono (fun c k q => lSc c k (lS_s60 c k q))
      have g2 := h.fr f2m (fun c k q => Or.inl q)
      refine (k_X9_isSo sh66 (by omega) g2.1 hz.1 hM g2.now hok (hS.trans e.symm) _).mono ?_
      rintro v u4 ⟨rfl, f4⟩
      have f4m : mFr mSc u2 u4 := f4.mono (fun c k q => lSc c k (lS_c68 c k q))
      have g4 := g2.fr f4m (fun c k q => Or.inl q)
      have hS4 : q_Sm u4 = q_toS m := (q_Sm_fr f4 c68_s).trans (hS.trans e.symm)
      rw [q_b0, e]
      refine ⟨fun z => ?_, fun z => ?_⟩
      · have z := (Bool.not_eq_false _).mp z
        have oo : o_say Z set k f b g c = (q_who Z.2.1.2.2 (q_Ms Z.1 (q_Sx k f b g c) Z.2.1.2.2 set Z.1.1.2.1), zNow (zNote Z) (Z.2.1.1, Z.2.1.2.1, q_Ms Z.1 (q_Sx k f b g c) Z.2.1.2.2 set Z.1.1.2.1)) := by
          rw [o_say, if_neg (nn0 h1), if_neg (nn0 h2), if_neg (by rw [z]; decide)]
        rw [oo]
        refine (m_note hz g4).mono ?_
        rintro u5 ⟨g5, f5⟩
        have hS5 : q_Sm u5 = q_toS m := (q_Sm_fr f5 (fun c k q => by unfold nS at q; unfold s60; omega)).trans hS4
        have hn5 : snM (u5.1 66) Z.2.1.1 Z.2.1.2.1 Z.2.1.2.2 := g5.2.1
        refine (k_X9_copy (x := 0) (y := 0) sh66 sh67 (by omega) (by omega) (by omega) (by omega) (by omega)).mono ?_
        rintro u6 ⟨f6, r6⟩
        have c6 : mFr (cS 67) u5 u6 := f6.mono (fun c k h => by unfold cS; omega)
        have g6 := g5.fr c6 (fun c k q => Or.inl (lSc c k (lS_c67 c k q)))
        have hn6 : snM (u6.1 66) Z.2.1.1 Z.2.1.2.1 Z.2.1.2.2 := g6.2.1
        have ht6 : snM (u6.1 67) Z.2.1.1 Z.2.1.2.1 Z.2.1.2.2 := hn5.fr (fun k hk => by have := r6 k hk; simpa using this)
        refine (k_X9_hearAll sh66 g6.1 hz.1 hM hn6 hok ((q_Sm_fr c6 c67_s).trans hS5) set).mono ?_
        rintro u7 ⟨f7, hs7⟩
        have hY7 : cyM Z.1 u7 := g6.1.fr f7 (fun c k q => by unfold bS at q; unfold mCy; omega)
        have ht7 : snM (u7.1 67) Z.2.1.1 Z.2.1.2.1 Z.2.1.2.2 := ht6.keep f7 (fun k q => by unfold bS at q; omega)
        refine (k_X9_changed sh66 sh67 hY7 hz.1).mono ?_
        rintro v u8 ⟨rfl, rfl⟩
        rw [e] at hs7
        refine ⟨_, rfl, ?_, ⟨hY7, hs7, g6.2.2.1.fr f7 (fun c k q => by unfold bS at q; omega), g6.2.2.2.1.fr f7 (fun c k q => by unfold bS at q; omega), g6.2.2.2.2.1.fr f7 (fun c k q => by unfold bS at q; omega), g6.2.2.2.2.2.fr f7 (fun c k q => by unfold bS at q; omega)⟩, ?_⟩
        · unfold q_chg q_who
          rw [← e] at hs7 ⊢
          obtain ⟨o1, o2⟩ := q_Ms_ok (Y := Z.1) hM hok set Z.1.1.2.1 h5
          rw [q_ds_congr _ (fun p hp => q_df_Ms hz.1 hM hok hv set hs7 ht7 hp)]
          refine (q_ds_up 5 h5 (fun p h1 h2 => ?_)).symm
          rw [o2 p h2, if_neg (by omega)]; simp
        · have a1 : mFr s60w u u4 := (f2m.tr f4m).mono mSc60
          have a2 : mFr s60w u4 u5 := f5.mono (fun c k q => by unfold nS at q; unfold s60w; omega)
          have a3 : mFr s60w u5 u6 := c6.mono (fun c k q => by unfold cS at q; unfold s60w; omega)
          have a4 : mFr s60w u6 u8 := f7.mono (fun c k q => by unfold bS at q; unfold s60w; omega)
          exact ((a1.tr a2).tr a3).tr a4
      · have oo : o_say Z set k f b g c = (-4, Z) := by rw [o_say, if_neg (nn0 h1), if_neg (nn0 h2), if_pos z]
        rw [oo]; exact ⟨_, rfl, rfl, g4, (f2m.tr f4m).mono mSc60⟩
    · have oo : o_say Z set k f b g c = (q_bar Z.1.1.1 k f b g c, Z) := by rw [o_say, if_neg (nn0 h1), if_pos h2]
      rw [oo]; exact ⟨_, rfl, rfl, h, mFr.rf⟩
  · have oo : o_say Z set k f b g c = (-3, Z) := by rw [o_say, if_pos (of_decide_eq_false h1)]
    rw [oo]; exact ⟨_, rfl, rfl, h, mFr.rf⟩
theorem m_night (hz : zOK Z) (h : zM Z w) : mMi E MX9_night [.ref 60] w (fun v u => v = (o_night Z).1 ∧ zM (o_night Z).2 u ∧ mFr s60w w u) := by
  unfold mMi
  refine mM_start rfl (Nat.le_of_ble_eq_true rfl) rfl (fun X C F => vX9_night_0 C F ?_)
  rw [h.now.2.1]
  refine ⟨fun h1 => ?_, fun h1 => ?_⟩
  · have oo : o_night Z = (q_s0 Z.1 Z.2.1.2.2 Z.2.1.1 + 9999, zNow (zNote Z) (q_dawn Z.1 (q_dd Z.1 Z.2.1.2.2) Z.2.1.1, Z.2.1.2.1 + 1, Z.2.1.2.2)) := by rw [o_night, if_neg h1]
    rw [oo]
    refine (m_note hz h).mono ?_
    rintro u5 ⟨g5, f5⟩
    have hn5 : snM (u5.1 66) Z.2.1.1 Z.2.1.2.1 Z.2.1.2.2 := g5.2.1
    refine (k_X9_pass sh66 g5.1 hz.1 hn5).mono ?_
    rintro u6 ⟨f6, e0, e1⟩
    have hY6 : cyM Z.1 u6 := g5.1.fr f6 (fun c k q => by unfold aS at q; unfold mCy; omega)
    refine (k_X9_sumOf hY6 hz.1 _).mono ?_
    rintro v u7 ⟨rfl, rfl⟩
    refine ⟨_, rfl, ?_, ⟨hY6, ⟨e0, e1, fun p f hp hf => ?_⟩, g5.2.2.1.fr f6 (fun c k q => by unfold aS at q; omega), g5.2.2.2.1.fr f6 (fun c k q => by unfold aS at q; omega), g5.2.2.2.2.1.fr f6 (fun c k q => by unfold aS at q; omega), g5.2.2.2.2.2.fr f6 (fun c k q => by unfold aS at q; omega)⟩, (f5.mono (fun c k q => by unfold nS at q; unfold s60w; omega)).tr (f6.mono (fun c k q => by unfold aS at q; unfold s60w; omega))⟩
    · rw [e0]; rfl
    · rw [(f6 66 _ (by unfold aS; omega)).1]; exact hn5.2.2 p f hp hf
  · have oo : o_night Z = (-5, Z) := by rw [o_night, if_pos h1]
    rw [oo]; exact ⟨_, rfl, rfl, h, mFr.rf⟩
theorem m_undo (hz : zOK Z) (h : zM Z w) : mMi E MX9_undo [.ref 60] w (fun v u => v = (o_undo Z).1 ∧ zM (o_undo Z).2 u ∧ mFr s60w w u) := by
  have hh := h.2.2.1
  have h8 := hz.2.2.2.1.1
  unfold mMi
  refine mM_start rfl (Nat.le_of_ble_eq_true rfl) rfl (fun X C F => vX9_undo_0 C F ?_)
  have e0 : nI Z.2.2.1.1 = 0 ↔ Z.2.2.1.1 = 0 := nI_eq (b := 0) (by omega) (by omega)
  rw [hh.1, e0]
  refine ⟨fun h1 => ?_, fun h1 => ?_⟩
  · have oo : o_undo Z = (nI (Z.2.2.1.1 - 1), (Z.1, Z.2.2.1.2 0, (Z.2.2.1.1 - 1, fun i => Z.2.2.1.2 (i + 1)), Z.2.2.2)) := by rw [o_undo, if_neg h1]
    rw [oo]
    have em : nI Z.2.2.1.1 - 1 = nI (Z.2.2.1.1 - 1) := by
      have : ∀ n : Nat, n ≤ 8 → ¬ n = 0 → nI n - 1 = nI (n - 1) := by decide
      exact this _ h8 h1
    rw [em, show (32 : Int32) * nI (Z.2.2.1.1 - 1) = nI (32 * (Z.2.2.1.1 - 1)) from pk_mul 32 _]
    refine (k_X9_copy (y := 0) sh72 sh66 (by omega) (by omega) (by omega) (by omega) (by omega)).mono ?_
    rintro u1 ⟨f1, r1⟩
    have f2 : mFr (fun c k => c = 66 ∨ (c = 60 ∧ k = 26)) w u1 := (mFr.pi (S := fun c k => c = 66 ∨ (c = 60 ∧ k = 26)) (Or.inr ⟨rfl, rfl⟩)).tr (f1.mono (fun c k q => Or.inl q.1))
    have e26 : u1.1 60 26 = nI (Z.2.2.1.1 - 1) := by rw [(f1 60 26 (by omega)).1, mPI_at]
    refine ⟨_, rfl, e26, ⟨h.1.fr f2 (fun c k q => by unfold mCy; omega), ?_, ⟨e26, fun i hi => ?_⟩, h.2.2.2.1.fr f2 (fun c k q => by omega), h.2.2.2.2.1.fr f2 (fun c k q => by omega), h.2.2.2.2.2.fr f2 (fun c k q => by omega)⟩, f2.mono (fun c k q => by unfold s60w; omega)⟩
    · refine (hh.2 0 (by omega)).fr (fun k hk => ?_)
      have := r1 k hk
      rw [Nat.zero_add] at this
      rw [this, mPI_row (by omega)]
      rfl
    · have hi : i < Z.2.2.1.1 - 1 := hi
      refine (hh.2 (i + 1) (by omega)).fr (fun k hk => ?_)
      show u1.1 72 (32 * (Z.2.2.1.1 - 1 - 1 - i) + k) = w.1 72 (32 * (Z.2.2.1.1 - 1 - (i + 1)) + k)
      rw [(f2 72 _ (by omega)).1, show Z.2.2.1.1 - 1 - 1 - i = Z.2.2.1.1 - 1 - (i + 1) by omega]
  · have oo : o_undo Z = (-4, Z) := by rw [o_undo, if_pos h1]
    rw [oo]; exact ⟨_, rfl, rfl, h, mFr.rf⟩
theorem m_keep (h : zM Z w) (k : Int32) : mMi E MX9_keep [.ref 60, .int k] w (fun v u => v = (o_keep Z k).1 ∧ zM (o_keep Z k).2 u ∧ mFr s60w w u) := by
  have hK := h.2.2.2.1
  unfold mMi
  refine mM_start rfl (Nat.le_of_ble_eq_true rfl) rfl (fun X C F => vX9_keep_0 C F _ ?_)
  refine (k_X9_in _ _ _).mono ?_
  rintro v u ⟨rfl, rfl⟩
  rw [q_b0]
  refine ⟨fun h1 => ?_, fun h1 => ?_⟩
  · have h1 := (q_bit k).mp (b_t h1)
    have oo : o_keep Z k = (Z.2.1.2.1, (Z.1, Z.2.1, Z.2.2.1, (fun i => if nI i = k then some Z.2.1 else Z.2.2.2.1 i), Z.2.2.2.2)) := by rw [o_keep, if_neg (nn0 h1)]
    rw [oo]
    obtain ⟨a, ha, rfl⟩ := i_bit_of h1
    rw [show (32 : Int32) * nI a = nI (32 * a) from pk_mul 32 _, nI_clamp (by omega)]
    refine (k_X9_copy (x := 0) sh66 sh70 (by omega) (by omega) (by omega) (by omega) (by omega)).mono ?_
    rintro u1 ⟨f1, r1⟩
    refine ⟨vp_in_nI (by omega) (by omega), ?_⟩
    rintro w1 rfl
    have f2 : mFr (fun c k => c = 70 ∨ c = 71) u (mPI u1 71 a 1) := (f1.mono (fun c k q => Or.inl q.1)).tr (mFr.pi (S := fun c k => c = 70 ∨ c = 71) (Or.inr rfl))
    refine ⟨_, rfl, ?_, ⟨h.1.fr f2 (fun c k q => by unfold mCy; omega), h.2.1.fr (fun k _ => (f2 66 k (by omega)).1), h.2.2.1.fr f2 (fun c k q => by omega), fun i hi => ⟨?_, fun y hy => ?_⟩, h.2.2.2.2.1.fr f2 (fun c k q => by omega), h.2.2.2.2.2.fr f2 (fun c k q => by omega)⟩, f2.mono (fun c k q => by unfold s60w; omega)⟩
    · rw [(f2 66 1 (by omega)).1]; exact h.now.2.1
    · show (mPI u1 71 a 1).1 71 i = q_b (if nI i = nI a then some Z.2.1 else Z.2.2.2.1 i).isSome
      by_cases e : i = a
      · rw [e, mPI_at, if_pos rfl]; rfl
      · rw [mPI_col e, if_neg (fun q => e ((nI_eq (by omega) (by omega)).mp q)), (f1 71 i (by omega)).1]; exact (hK i hi).1
    · have hy : (if nI i = nI a then some Z.2.1 else Z.2.2.2.1 i) = some y := hy
      show snT (fun j => (mPI u1 71 a 1).1 70 (32 * i + j)) y
      rw [mPI_row (by omega)]
      by_cases e : i = a
      · rw [if_pos (by rw [e])] at hy
        have hy := Option.some.inj hy
        rw [← hy, e]
        exact h.2.1.fr (fun j hj => by rw [r1 j hj, Nat.zero_add])
      · rw [if_neg (fun q => e ((nI_eq (by omega) (by omega)).mp q))] at hy
        exact ((hK i hi).2 y hy).fr (fun j hj => (f1 70 _ (by omega)).1)
  · have oo : o_keep Z k = (-2, Z) := by rw [o_keep, if_pos (fun q => of_decide_eq_false h1 ((q_bit k).mpr q))]
    rw [oo]; exact ⟨_, rfl, rfl, h, mFr.rf⟩
theorem m_back (h : zM Z w) (k : Int32) : mMi E MX9_back [.ref 60, .int k] w (fun v u => v = (o_back Z k).1 ∧ zM (o_back Z k).2 u ∧ mFr s60w w u) := by
  have hK := h.2.2.2.1
  unfold mMi
  refine mM_start rfl (Nat.le_of_ble_eq_true rfl) rfl (fun X C F => vX9_back_0 C F _ ?_)
  refine (k_X9_in _ _ _).mono ?_
  rintro v u ⟨rfl, rfl⟩
  rw [q_b0]
  refine ⟨fun h1 => ?_, fun h1 => ?_⟩
  · have h1 := (q_bit k).mp (b_t h1)
    obtain ⟨a, ha, rfl⟩ := i_bit_of h1
    have oo : o_back Z (nI a) = match Z.2.2.2.1 a with
      | none => (-4, Z)
      | some x => (x.2.1, (Z.1, x, (0, Z.2.2.1.2), Z.2.2.2)) := by rw [o_back, if_neg (nn0 h1), nI_clamp (by omega)]; rfl
    rw [show (32 : Int32) * nI a = nI (32 * a) from pk_mul 32 _, nI_clamp (by omega), (hK a ha).1, q_b0, oo]
    refine ⟨vp_in_nI (by omega) (by omega), fun z => ?_, fun z => ?_⟩
    · cases ek : Z.2.2.2.1 a with
      | none => rw [ek] at z; exact absurd rfl z
      | some y =>
        have hy := (hK a ha).2 y ek
        refine (k_X9_copy (y := 0) sh70 sh66 (by omega) (by omega) (by omega) (by omega) (by omega)).mono ?_
        rintro u1 ⟨f1, r1⟩
        have f2 : mFr (fun c k => c = 66 ∨ (c = 60 ∧ k = 26)) u (mPI u1 60 26 0) := (f1.mono (fun c k q => Or.inl q.1)).tr (mFr.pi (S := fun c k => c = 66 ∨ (c = 60 ∧ k = 26)) (Or.inr ⟨rfl, rfl⟩))
        have hs : snT (u1.1 66) y := hy.fr (fun k hk => by have := r1 k hk; rw [Nat.zero_add] at this; exact this)
        refine ⟨_, rfl, hs.2.1, ⟨h.1.fr f2 (fun c k q => by unfold mCy; omega), hs.fr (fun k _ => by rw [mPI_row (by omega)]), ⟨mPI_at _ _ _ _, fun i hi => absurd hi (Nat.not_lt_zero _)⟩, h.2.2.2.1.fr f2 (fun c k q => by omega), h.2.2.2.2.1.fr f2 (fun c k q => by omega), h.2.2.2.2.2.fr f2 (fun c k q => by omega)⟩, f2.mono (fun c k q => by unfold s60w; omega)⟩
    · cases ek : Z.2.2.2.1 a with
      | none => exact ⟨_, rfl, rfl, h, mFr.rf⟩
      | some y => rw [ek] at z; exact absurd (show true = false from z) (by decide)
  · have oo : o_back Z k = (-2, Z) := by rw [o_back, if_pos (fun q => of_decide_eq_false h1 ((q_bit k).mpr q))]
    rw [oo]; exact ⟨_, rfl, rfl, h, mFr.rf⟩
theorem m_bet (hz : zOK Z) (h : zM Z w) (f price : Int32) : mMi E MX9_bet [.ref 60, .int f, .int price] w (fun v u => v = (o_bet Z f price).1 ∧ zM (o_bet Z f price).2 u ∧ mFr s60w w u) := by
  have hb := h.2.2.2.2.2
  have hB := hz.2.2.2.2.2.2.1
  unfold mMi
  refine mM_start rfl (Nat.le_of_ble_eq_true rfl) rfl (fun X C F => vX9_bet_0 C F _ _ ?_)
  refine (k_X9_isFact h.1 hz.1 f).mono ?_
  rintro v u ⟨rfl, rfl⟩
  rw [q_b0]
  refine ⟨fun h1 => (k_X9_in _ _ _).mono ?_, fun h1 => ?_⟩
  · have h1 := b_t h1
    rintro v u ⟨rfl, rfl⟩
    rw [q_b0]
    have e5 : nI Z.2.2.2.2.2.1 = 5 ↔ Z.2.2.2.2.2.1 = 5 := nI_eq (b := 5) (by omega) (by omega)
    rw [hb.1, e5]
    refine ⟨fun h2 => ?_, fun h2 => ?_⟩
    · have h2 := b_t h2
      refine ⟨fun h3 => ?_, fun h3 => ?_⟩
      · have oo : o_bet Z f price = (nI (Z.2.2.2.2.2.1 + 1), zBet Z (Z.2.2.2.2.2.1 + 1) (fun i => if i = Z.2.2.2.2.2.1 then f else Z.2.2.2.2.2.2.1 i) (fun i => if i = Z.2.2.2.2.2.1 then price else Z.2.2.2.2.2.2.2 i)) := by rw [o_bet, if_neg (nn0 h1), if_neg (nn0 h2), if_neg h3]
        rw [oo, show (2 : Int32) * nI Z.2.2.2.2.2.1 = nI (2 * Z.2.2.2.2.2.1) from pk_mul 2 _, nI_clamp (by omega)]
        refine ⟨vp_in_nI (by omega) (by omega), ?_⟩
        rintro w1 rfl
        rw [mPI_row (by omega), hb.1, show (2 : Int32) * nI Z.2.2.2.2.2.1 = nI (2 * Z.2.2.2.2.2.1) from pk_mul 2 _, show nI (2 * Z.2.2.2.2.2.1) + 1 = nI (2 * Z.2.2.2.2.2.1 + 1) from q_k _ 1, nI_clamp (by omega)]
        refine ⟨vp_in_nI (by omega) (by omega), ?_⟩
        rintro w2 rfl
        rw [mPI_row (by omega), mPI_row (by omega), hb.1, nI_1]
        have f2 : mFr (fun c k => c = 73 ∨ (c = 60 ∧ k = 28)) u (mPI (mPI (mPI u 73 (2 * Z.2.2.2.2.2.1) f) 73 (2 * Z.2.2.2.2.2.1 + 1) price) 60 28 (nI (Z.2.2.2.2.2.1 + 1))) := ((mFr.pi (S := fun c k => c = 73 ∨ (c = 60 ∧ k = 28)) (Or.inl rfl)).tr (mFr.pi (S := fun c k => c = 73 ∨ (c = 60 ∧ k = 28)) (Or.inl rfl))).tr (mFr.pi (S := fun c k => c = 73 ∨ (c = 60 ∧ k = 28)) (Or.inr ⟨rfl, rfl⟩))
        refine ⟨_, rfl, rfl, ⟨h.1.fr f2 (fun c k q => by unfold mCy; omega), h.2.1.fr (fun k _ => (f2 66 k (by omega)).1), h.2.2.1.fr f2 (fun c k q => by omega), h.2.2.2.1.fr f2 (fun c k q => by omega), h.2.2.2.2.1.fr f2 (fun c k q => by omega), ⟨mPI_at _ _ _ _, fun i hi => ?_⟩⟩, f2.mono (fun c k q => by unfold s60w; omega)⟩
        have hi : i < Z.2.2.2.2.2.1 + 1 := hi
        dsimp only [zBet]
        rw [mPI_row (by omega)]
        by_cases e : i = Z.2.2.2.2.2.1
        · rw [if_pos e, if_pos e, e]
          exact ⟨by rw [mPI_col (by omega), mPI_at], by rw [mPI_at]⟩
        · rw [if_neg e, if_neg e, mPI_col (by omega), mPI_col (by omega), mPI_col (by omega), mPI_col (by omega)]
          exact hb.2 i (by omega)
      · have oo : o_bet Z f price = (-5, Z) := by rw [o_bet, if_neg (nn0 h1), if_neg (nn0 h2), if_pos h3]
        rw [oo]; exact ⟨_, rfl, rfl, h, mFr.rf⟩
    · have oo : o_bet Z f price = (-3, Z) := by rw [o_bet, if_neg (nn0 h1), if_pos (of_decide_eq_false h2)]
      rw [oo]; exact ⟨_, rfl, rfl, h, mFr.rf⟩
  · have oo : o_bet Z f price = (-2, Z) := by rw [o_bet, if_pos (of_decide_eq_false h1)]
    rw [oo]; exact ⟨_, rfl, rfl, h, mFr.rf⟩
theorem m_call (h : zM Z w) : mMi E MX9_call [.ref 60] w (fun v u => v = (o_call Z).1 ∧ zM (o_call Z).2 u ∧ mFr s60w w u) := by
  unfold mMi
  refine mM_start rfl (Nat.le_of_ble_eq_true rfl) rfl (fun X C F => vX9_call_0 C F ?_)
  have f1 : mFr (fun c k => c = 60 ∧ k = 28) w (mPI w 60 28 0) := mFr.pi (S := fun c k => c = 60 ∧ k = 28) ⟨rfl, rfl⟩
  exact ⟨_, rfl, h.2.2.2.2.2.1, ⟨h.1.fr f1 (fun c k q => by unfold mCy; omega), h.2.1.fr (fun k _ => (f1 66 k (by omega)).1), h.2.2.1.fr f1 (fun c k q => by omega), h.2.2.2.1.fr f1 (fun c k q => by omega), h.2.2.2.2.1.fr f1 (fun c k q => by omega), ⟨mPI_at _ _ _ _, fun i hi => absurd hi (Nat.not_lt_zero _)⟩⟩, f1.mono (fun c k q => by unfold s60w; omega)⟩
end M9d
