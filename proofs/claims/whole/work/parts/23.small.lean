/-! ===== CONTRACTS: the class's small methods ===== -/
section K4
variable {E : mEnv} {w : mW}
theorem k_X4_hold (m f b : Int32) : mMi E MX4_hold [.int m, .int f, .int b] w (fun v u => v = q_hd m f b ∧ u = w) := by
  unfold mMi
  refine mM_start rfl (Nat.le_of_ble_eq_true rfl) rfl (fun X C F => vX4_hold_0 C F m f b ?_)
  exact ⟨_, rfl, rfl, rfl⟩
theorem k_X4_holds (m f b : Int32) : mMi E MX4_holds [.int m, .int f, .int b] w (fun v u => v = q_b (decide (q_hs m f b)) ∧ u = w) := by
  unfold mMi
  refine mM_start rfl (Nat.le_of_ble_eq_true rfl) rfl (fun X C F => vX4_holds_0 C F m f b ?_)
  refine ⟨fun h => ⟨_, rfl, ?_, rfl⟩, fun h => ⟨fun h2 => ⟨_, rfl, ?_, rfl⟩, fun h2 => ⟨_, rfl, ?_, rfl⟩⟩⟩
  · rw [decide_eq_false (fun q => h q.1)]; rfl
  · rw [decide_eq_false (fun q => h2 q.2)]; rfl
  · rw [decide_eq_true (show q_hs m f b from ⟨h, h2⟩)]; rfl
theorem k_X4_mindOf (M : Int64) (p : Int32) : mMi E MX4_mindOf [.long M, .int p] w (fun v u => v = q_mo M p ∧ u = w) := by
  unfold mMi
  refine mM_start rfl (Nat.le_of_ble_eq_true rfl) rfl (fun X C F => vX4_mindOf_0 C F M p ?_)
  exact ⟨_, rfl, rfl, rfl⟩
theorem k_X4_withMind (M : Int64) (p m : Int32) : mMl E MX4_withMind [.long M, .int p, .int m] w (fun v u => v = q_wm M p m ∧ u = w) := by
  unfold mMl
  refine mM_start rfl (Nat.le_of_ble_eq_true rfl) rfl (fun X C F => vX4_withMind_0 C F M p m ?_)
  exact ⟨_, rfl, rfl, rfl⟩
theorem k_X1_become (t f b : Int32) : mMi E MX1_become [.int t, .int f, .int b] w (fun v u => v = q_bc t f b ∧ u = w) := by
  unfold mMi
  refine mM_start rfl (Nat.le_of_ble_eq_true rfl) rfl (fun X C F => vX1_become_0 C F t f b ?_)
  exact ⟨_, rfl, rfl, rfl⟩
theorem k_X1_hasFact (f : Int32) : mMi E MX1_hasFact [.ref 1, .int f] w (fun v u => v = q_b (decide (¬ f < 0 ∧ ¬ w.1 1 0 ≤ f)) ∧ u = w) := by
  unfold mMi
  refine mM_start rfl (Nat.le_of_ble_eq_true rfl) rfl (fun X C F => vX1_hasFact_0 C F f ?_)
  refine ⟨fun h => ⟨_, rfl, ?_, rfl⟩, fun h => ⟨fun h2 => ⟨_, rfl, ?_, rfl⟩, fun h2 => ⟨_, rfl, ?_, rfl⟩⟩⟩
  · rw [decide_eq_false (fun q => q.1 h)]; rfl
  · rw [decide_eq_false (fun q => q.2 h2)]; rfl
  · rw [decide_eq_true ⟨h, h2⟩]; rfl
theorem k_X1_hasOne (f : Int32) : mMi E MX1_hasOne [.ref 1, .int f] w (fun v u => v = q_b (decide (¬ f < 0 ∧ ¬ w.1 1 1 ≤ f)) ∧ u = w) := by
  unfold mMi
  refine mM_start rfl (Nat.le_of_ble_eq_true rfl) rfl (fun X C F => vX1_hasOne_0 C F f ?_)
  refine ⟨fun h => ⟨_, rfl, ?_, rfl⟩, fun h => ⟨fun h2 => ⟨_, rfl, ?_, rfl⟩, fun h2 => ⟨_, rfl, ?_, rfl⟩⟩⟩
  · rw [decide_eq_false (fun q => q.1 h)]; rfl
  · rw [decide_eq_false (fun q => q.2 h2)]; rfl
  · rw [decide_eq_true ⟨h, h2⟩]; rfl
theorem k_X1_everyone : mMi E MX1_everyone [.ref 1] w (fun v u => v = ((1 : Int32) <<< (w.1 1 1 &&& 31)) - 1 ∧ u = w) := by
  unfold mMi
  refine mM_start rfl (Nat.le_of_ble_eq_true rfl) rfl (fun X C F => vX1_everyone_0 C F ?_)
  exact ⟨_, rfl, rfl, rfl⟩
theorem k_X1_believesHer (p : Int32) (hp : vp_in p 5) : mMi E MX1_believesHer [.ref 1, .int p] w (fun v u => v = q_b (q_tr (w.1 (10 + p.toNatClampNeg))) ∧ u = w) := by
  unfold mMi
  refine mM_start rfl (Nat.le_of_ble_eq_true rfl) rfl (fun X C F => vX1_believesHer_0 C F p ?_)
  refine ⟨hp, fun h => ⟨_, rfl, ?_, rfl⟩, fun h => ⟨fun h2 => ⟨_, rfl, ?_, rfl⟩, fun h2 => ⟨fun h3 => ⟨_, rfl, ?_, rfl⟩, fun h3 => ⟨_, rfl, ?_, rfl⟩⟩⟩⟩
  · simp [q_tr, h, q_b]
  · simp [q_tr, h, h2, q_b]
  · simp [q_tr, h, h2, h3, q_b]
  · simp [q_tr, h, h2, h3, q_b]
theorem k_X1_doesDeed (p m : Int32) (hp : vp_in p 5) : mMi E MX1_doesDeed [.ref 1, .int p, .int m] w (fun v u => v = q_b (decide (q_hs m (w.1 (10 + p.toNatClampNeg) 1) (w.1 (10 + p.toNatClampNeg) 2))) ∧ u = w) := by
  unfold mMi
  refine mM_start rfl (Nat.le_of_ble_eq_true rfl) rfl (fun X C F => vX1_doesDeed_0 C F p m ?_)
  refine ⟨hp, hp, (k_X4_holds _ _ _).mono ?_⟩
  rintro v u ⟨rfl, rfl⟩
  exact ⟨q_b_nar _, _, rfl, rfl, rfl⟩
theorem k_X7_isKind (k : Int32) : mMi E MX7_isKind [.int k] w (fun v u => v = q_b (decide (¬ k < 0 ∧ ¬ 5 ≤ k)) ∧ u = w) := by
  unfold mMi
  refine mM_start rfl (Nat.le_of_ble_eq_true rfl) rfl (fun X C F => vX7_isKind_0 C F k ?_)
  refine ⟨fun h => ⟨_, rfl, ?_, rfl⟩, fun h => ⟨fun h2 => ⟨_, rfl, ?_, rfl⟩, fun h2 => ⟨_, rfl, ?_, rfl⟩⟩⟩
  · rw [decide_eq_false (fun q => q.1 h)]; rfl
  · rw [decide_eq_false (fun q => q.2 h2)]; rfl
  · rw [decide_eq_true ⟨h, h2⟩]; rfl
theorem k_X7_isPair (k : Int32) : mMi E MX7_isPair [.int k] w (fun v u => v = q_b (decide (k = 1 ∨ k = 2 ∨ k = 3)) ∧ u = w) := by
  unfold mMi
  refine mM_start rfl (Nat.le_of_ble_eq_true rfl) rfl (fun X C F => vX7_isPair_0 C F k ?_)
  refine ⟨fun h => ⟨_, rfl, ?_, rfl⟩, fun h => ⟨fun h2 => ⟨_, rfl, ?_, rfl⟩, fun h2 => ⟨fun h3 => ⟨_, rfl, ?_, rfl⟩, fun h3 => ⟨_, rfl, ?_, rfl⟩⟩⟩⟩
  · simp [h, q_b]
  · simp [h2, q_b]
  · simp [h, h2, h3, q_b]
  · simp [h3, q_b]
theorem k_X7_number {c : Nat} (hc : c = 47 ∨ c = 53) : mMi E MX7_number [.ref c] w (fun v u => v = 10000 * (q_S w c).1 + 1000 * (q_S w c).2.1 + 100 * (q_S w c).2.2.1 + 10 * (q_S w c).2.2.2.1 + (q_S w c).2.2.2.2 ∧ u = w) := by
  unfold mMi
  refine mM_start rfl (Nat.le_of_ble_eq_true rfl) rfl (fun X C F => vX7_number_0 C F hc ?_)
  exact ⟨_, rfl, rfl, rfl⟩
theorem k_X7_stands {c : Nat} (hc : c = 47 ∨ c = 53) (t : Int32) : mMi E MX7_stands [.ref c, .int t] w (fun v u => v = q_b (q_st (q_S w c) t) ∧ u = w) := by
  unfold mMi
  refine mM_start rfl (Nat.le_of_ble_eq_true rfl) rfl (fun X C F => vX7_stands_0 C F hc t ?_)
  refine ⟨fun h1 => ⟨fun h2 => ?_, fun h2 => ?_⟩, fun h1 => ⟨fun h2 => ?_, fun h2 => ?_⟩⟩ <;>
    (refine ⟨fun h3 => ⟨_, rfl, ?_, rfl⟩, fun h3 => ⟨fun h4 => ⟨_, rfl, ?_, rfl⟩, fun h4 => ⟨fun h5 => ⟨_, rfl, ?_, rfl⟩, fun h5 => ⟨_, rfl, ?_, rfl⟩⟩⟩⟩ <;> simp [q_st, q_S, q_bt, *, q_b])
theorem k_X7_oneAtLeast {c : Nat} (hc : c = 47 ∨ c = 53) (m x y : Int32) : mMi E MX7_oneAtLeast [.ref c, .int m, .int x, .int y] w (fun v u => v = q_al m (w.1 c 1) (w.1 c 3) x y ∧ u = w) := by
  unfold mMi
  refine mM_start rfl (Nat.le_of_ble_eq_true rfl) rfl (fun X C F => vX7_oneAtLeast_0 C F hc m x y ?_)
  refine (k_X4_holds _ _ _).mono ?_
  rintro v u ⟨rfl, rfl⟩
  rw [q_b0]
  unfold q_al
  refine ⟨fun h => (k_X4_holds _ _ _).mono ?_, fun h => (k_X4_hold _ _ _).mono ?_⟩
  · rintro v u ⟨rfl, rfl⟩
    rw [q_b0]
    refine ⟨fun h2 => ⟨_, rfl, ?_, rfl⟩, fun h2 => (k_X4_hold _ _ _).mono ?_⟩
    · rw [if_neg (of_decide_eq_false h), if_neg (of_decide_eq_false h2)]
    · rintro v u ⟨rfl, rfl⟩
      refine ⟨_, rfl, ?_, rfl⟩
      rw [if_neg (of_decide_eq_false h), if_pos (of_decide_eq_true ((Bool.not_eq_false _).mp h2))]
  · rintro v u ⟨rfl, rfl⟩
    refine ⟨_, rfl, ?_, rfl⟩
    rw [if_pos (of_decide_eq_true ((Bool.not_eq_false _).mp h))]
theorem k_X7_believed {c : Nat} (hc : c = 47 ∨ c = 53) (m : Int32) : mMi E MX7_believed [.ref c, .int m] w (fun v u => v = q_bv (q_S w c) m ∧ u = w) := by
  unfold mMi
  refine mM_start rfl (Nat.le_of_ble_eq_true rfl) rfl (fun X C F => vX7_believed_0 C F hc m ?_)
  simp only [q_bv, q_S]
  refine ⟨fun h => (k_X4_hold _ _ _).mono ?_, fun h => ⟨fun h2 => (k_X7_oneAtLeast hc _ _ _).mono ?_, fun h2 => ⟨fun h3 => (k_X7_oneAtLeast hc _ _ _).mono ?_, fun h3 => (k_X4_hold _ _ _).mono ?_⟩⟩⟩
  · rintro v u ⟨rfl, rfl⟩
    refine (k_X4_hold _ _ _).mono ?_
    rintro v u ⟨rfl, rfl⟩
    exact ⟨_, rfl, by simp [h], rfl⟩
  · rintro v u ⟨rfl, rfl⟩
    exact ⟨_, rfl, by simp [h2], rfl⟩
  · rintro v u ⟨rfl, rfl⟩
    exact ⟨_, rfl, by simp [h3], rfl⟩
  · rintro v u ⟨rfl, rfl⟩
    exact ⟨_, rfl, by simp [h, h2, h3], rfl⟩
theorem k_X7_doubted {c : Nat} (hc : c = 47 ∨ c = 53) (m : Int32) : mMi E MX7_doubted [.ref c, .int m] w (fun v u => v = q_db (q_S w c) m ∧ u = w) := by
  unfold mMi
  refine mM_start rfl (Nat.le_of_ble_eq_true rfl) rfl (fun X C F => vX7_doubted_0 C F hc m ?_)
  simp only [q_db, q_S]
  refine ⟨fun h => (k_X7_oneAtLeast hc _ _ _).mono ?_, fun h => ⟨fun h2 => (k_X4_hold _ _ _).mono ?_, fun h2 => ⟨fun h3 => (k_X4_hold _ _ _).mono ?_, fun h3 => (k_X4_hold _ _ _).mono ?_⟩⟩⟩
  · rintro v u ⟨rfl, rfl⟩
    exact ⟨_, rfl, by simp [h], rfl⟩
  · rintro v u ⟨rfl, rfl⟩
    refine (k_X4_hold _ _ _).mono ?_
    rintro v u ⟨rfl, rfl⟩
    exact ⟨_, rfl, by simp [h2], rfl⟩
  · rintro v u ⟨rfl, rfl⟩
    refine (k_X4_hold _ _ _).mono ?_
    rintro v u ⟨rfl, rfl⟩
    exact ⟨_, rfl, by simp [h3], rfl⟩
  · rintro v u ⟨rfl, rfl⟩
    exact ⟨_, rfl, by simp [h, h2, h3], rfl⟩
end K4
