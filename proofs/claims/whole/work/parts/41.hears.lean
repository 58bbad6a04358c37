/-! ===== CONTRACTS: the reference: hears ===== -/
theorem q_1m {b : Nat} (h : b < 2) : (1 : Int32) - nI b = nI (1 - b) := by
  have : ∀ b : Nat, b < 2 → (1 : Int32) - nI b = nI (1 - b) := by decide
  exact this b h
theorem q_01n {b : Nat} (h : b < 2) : nI b = 0 ∨ nI b = 1 := by
  have : ∀ b : Nat, b < 2 → nI b = 0 ∨ nI b = 1 := by decide
  exact this b h
theorem q_bel_al (m : Int32) {f g x y j : Nat} (hf : f < 6) (hg : g < 6) (hx : x < 2) (hy : y < 2) (hj : j < 6) : q_bel (q_al m (nI f) (nI g) (nI x) (nI y)) j = if q_bel m f = nI (1 - x) then (if j = g then nI y else q_bel m j) else if q_bel m g = nI (1 - y) then (if j = f then nI x else q_bel m j) else q_bel m j := by
  unfold q_al
  rw [q_1m hx, q_1m hy]
  simp only [q_hs_iff m (q_01n (show 1 - x < 2 by omega)) hf, q_hs_iff m (q_01n (show 1 - y < 2 by omega)) hg]
  split
  · exact q_bel_hd m (q_01n hy) hg hj
  · split
    · exact q_bel_hd m (q_01n hx) hf hj
    · rfl
/-- a sentence of numbers -/
def q_sok (n : mN5) : Prop := n.1 < 5 ∧ n.2.1 < 6 ∧ n.2.2.1 < 2 ∧ n.2.2.2.1 < 6 ∧ n.2.2.2.2 < 2 ∧ ((n.1 = 1 ∨ n.1 = 2 ∨ n.1 = 3) → ¬ n.2.2.2.1 = n.2.1)
section K9h
variable {E : mEnv} {w : mW}
theorem k_X9_hears {a p : Nat} (ha : mSh[a]? = some (.inl (0, 32, []))) (hp : p < 5) {m : Int32} (hs : ∀ j, j < 6 → w.1 a (2 + 6 * p + j) = q_bel m j) {n : mN5} (hn : q_sok n) (hS : q_Sm w = q_toS n) (z : Int32) (hz : z = 0 ∨ z = 1) :
    mMv E MX9_hears [.ref 60, .ref a, .int (nI p), .int z] w (fun u => mFr (fun c k => c = a ∧ 2 + 6 * p ≤ k ∧ k < 2 + 6 * p + 6) w u ∧ ∀ j, j < 6 → u.1 a (2 + 6 * p + j) = q_bel (if z = 0 then q_db (q_toS n) m else q_bv (q_toS n) m) j) := by
  obtain ⟨k, f, b, g, c⟩ := n
  obtain ⟨h1, h2, h3, h4, h5, h6⟩ := hn
  dsimp only at h1 h2 h3 h4 h5 h6
  have s0 : w.1 60 29 = nI k := congrArg (fun x => x.1) hS
  have s1 : w.1 60 30 = nI f := congrArg (fun x => x.2.1) hS
  have s2 : w.1 60 31 = nI b := congrArg (fun x => x.2.2.1) hS
  have s3 : w.1 60 32 = nI g := congrArg (fun x => x.2.2.2.1) hS
  have s4 : w.1 60 33 = nI c := congrArg (fun x => x.2.2.2.2) hS
  have hn60 : ¬ a = 60 := (q_arr ha).1
  have ef : (2 : Int32) + 6 * nI p + nI f = nI (2 + 6 * p + f) := by rw [q_6p, show (2 : Int32) + nI (6 * p) = nI (2 + 6 * p) from q_k 2 _, nI_add]
  have eg : (2 : Int32) + 6 * nI p + nI g = nI (2 + 6 * p + g) := by rw [q_6p, show (2 : Int32) + nI (6 * p) = nI (2 + 6 * p) from q_k 2 _, nI_add]
  have vf : vp_in (nI (2 + 6 * p + f)) 32 := vp_in_nI (by omega) (by omega)
  have vg : vp_in (nI (2 + 6 * p + g)) 32 := vp_in_nI (by omega) (by omega)
  have cf : (nI (2 + 6 * p + f)).toNatClampNeg = 2 + 6 * p + f := nI_clamp (by omega)
  have cg : (nI (2 + 6 * p + g)).toNatClampNeg = 2 + 6 * p + g := nI_clamp (by omega)
  have rf : w.1 a (2 + 6 * p + f) = q_bel m f := hs f h2
  have rg : w.1 a (2 + 6 * p + g) = q_bel m g := hs g h4
  -- what is left of the goal at an end
  have none_ : ∀ x : Int32, (∀ j, j < 6 → q_bel m j = q_bel x j) → mFr (fun c k => c = a ∧ 2 + 6 * p ≤ k ∧ k < 2 + 6 * p + 6) w w ∧ ∀ j, j < 6 → w.1 a (2 + 6 * p + j) = q_bel x j := fun x hx => ⟨mFr.rf, fun j hj => by rw [hs j hj, hx j hj]⟩
  have one_ : ∀ (x v : Int32) (i : Nat), i < 6 → (∀ j, j < 6 → (if j = i then v else q_bel m j) = q_bel x j) → mFr (fun c k => c = a ∧ 2 + 6 * p ≤ k ∧ k < 2 + 6 * p + 6) w (mPI w a (2 + 6 * p + i) v) ∧ ∀ j, j < 6 → (mPI w a (2 + 6 * p + i) v).1 a (2 + 6 * p + j) = q_bel x j := by
    intro x v i hi hx
    refine ⟨mFr.pi (S := fun c k => c = a ∧ 2 + 6 * p ≤ k ∧ k < 2 + 6 * p + 6) ⟨rfl, by omega, by omega⟩, fun j hj => ?_⟩
    rw [← hx j hj]
    by_cases e : j = i
    · subst e; rw [mPI_at, if_pos rfl]
    · rw [mPI_col (by omega), if_neg e]; exact hs j hj
  have two_ : ∀ (x v v2 : Int32) (i i2 : Nat), i < 6 → i2 < 6 → (∀ j, j < 6 → (if j = i2 then v2 else if j = i then v else q_bel m j) = q_bel x j) → mFr (fun c k => c = a ∧ 2 + 6 * p ≤ k ∧ k < 2 + 6 * p + 6) w (mPI (mPI w a (2 + 6 * p + i) v) a (2 + 6 * p + i2) v2) ∧ ∀ j, j < 6 → (mPI (mPI w a (2 + 6 * p + i) v) a (2 + 6 * p + i2) v2).1 a (2 + 6 * p + j) = q_bel x j := by
    intro x v v2 i i2 hi hi2 hx
    refine ⟨(mFr.pi (S := fun c k => c = a ∧ 2 + 6 * p ≤ k ∧ k < 2 + 6 * p + 6) ⟨rfl, by omega, by omega⟩).tr (mFr.pi (S := fun c k => c = a ∧ 2 + 6 * p ≤ k ∧ k < 2 + 6 * p + 6) ⟨rfl, by omega, by omega⟩), fun j hj => ?_⟩
    rw [← hx j hj]
    by_cases e2 : j = i2
    · subst e2; rw [mPI_at, if_pos rfl]
    · rw [mPI_col (by omega), if_neg e2]
      by_cases e : j = i
      · subst e; rw [mPI_at, if_pos rfl]
      · rw [mPI_col (by omega), if_neg e]; exact hs j hj
  unfold mMv
  refine mM_start rfl (Nat.le_of_ble_eq_true rfl) rfl (fun X C F => vX9_hears_0 C F ha _ _ ?_)
  rw [s0, s1, s2, s3, s4, ef, eg, cf, cg, rf, rg, q_1m h3, q_1m h5]
  refine ⟨vf, vg, ?_⟩
  rcases hz with rfl | rfl <;> (match k, h1 with
    | 0, _ => ?_
    | 1, _ => ?_
    | 2, _ => ?_
    | 3, _ => ?_
    | 4, _ => ?_) <;> simp (config := { decide := true }) only [true_implies, false_implies, not_true_eq_false, not_false_eq_true, and_true, true_and, if_true, if_false]
  case inl.refine_1 =>
    refine ⟨vf, fun w1 e1 => ?_⟩
    rw [e1]
    refine one_ _ _ f h2 (fun j hj => ?_)
    rw [show q_db (q_toS (0, f, b, g, c)) m = q_hd m (nI f) (nI (1 - b)) by rw [← q_1m h3]; rfl, q_bel_hd _ (q_01n (by omega)) h2 hj]
  case inl.refine_2 =>
    have e : q_db (q_toS (1, f, b, g, c)) m = q_al m (nI f) (nI g) (nI (1 - b)) (nI (1 - c)) := by rw [← q_1m h3, ← q_1m h5]; rfl
    have ee : ∀ j, j < 6 → q_bel (q_db (q_toS (1, f, b, g, c)) m) j = if q_bel m f = nI b then (if j = g then nI (1 - c) else q_bel m j) else if q_bel m g = nI c then (if j = f then nI (1 - b) else q_bel m j) else q_bel m j := fun j hj => by
      rw [e, q_bel_al m h2 h4 (by omega) (by omega) hj, show 1 - (1 - b) = b by omega, show 1 - (1 - c) = c by omega]
    refine ⟨fun a1 => ⟨fun a2 => none_ _ (fun j hj => ?_), fun a2 => ⟨vf, fun w1 e1 => ?_⟩⟩, fun a1 => ⟨vg, fun w1 e1 => ?_⟩⟩
    · rw [ee j hj, if_neg a1, if_neg a2]
    · rw [e1]; exact one_ _ _ f h2 (fun j hj => by rw [ee j hj, if_neg a1, if_pos a2])
    · rw [e1]; exact one_ _ _ g h4 (fun j hj => by rw [ee j hj, if_pos a1])
  case inl.refine_3 =>
    refine ⟨vf, fun w1 e1 => ?_⟩
    have t3 : w1.1 60 32 = nI g := by rw [e1, mPI_row (Ne.symm hn60)]; exact s3
    have t4 : w1.1 60 33 = nI c := by rw [e1, mPI_row (Ne.symm hn60)]; exact s4
    rw [t3, t4, eg, cg, q_1m h5]
    refine ⟨vg, fun w2 e2 => ?_⟩
    rw [e2, e1]
    refine two_ _ _ _ f g h2 h4 (fun j hj => ?_)
    rw [show q_db (q_toS (2, f, b, g, c)) m = q_hd (q_hd m (nI f) (nI (1 - b))) (nI g) (nI (1 - c)) by rw [← q_1m h3, ← q_1m h5]; rfl, q_bel_hd _ (q_01n (by omega)) h4 hj, q_bel_hd _ (q_01n (by omega)) h2 hj]
  case inl.refine_4 =>
    refine ⟨vf, fun w1 e1 => ?_⟩
    have t3 : w1.1 60 32 = nI g := by rw [e1, mPI_row (Ne.symm hn60)]; exact s3
    have t4 : w1.1 60 33 = nI c := by rw [e1, mPI_row (Ne.symm hn60)]; exact s4
    rw [t3, t4, eg, cg, q_1m h5]
    refine ⟨vg, fun w2 e2 => ?_⟩
    rw [e2, e1]
    refine two_ _ _ _ f g h2 h4 (fun j hj => ?_)
    rw [show q_db (q_toS (3, f, b, g, c)) m = q_hd (q_hd m (nI f) (nI b)) (nI g) (nI (1 - c)) by rw [← q_1m h5]; rfl, q_bel_hd _ (q_01n (by omega)) h4 hj, q_bel_hd _ (q_01n (by omega)) h2 hj]
  case inl.refine_5 =>
    refine ⟨vf, fun w1 e1 => ?_⟩
    rw [e1]
    refine one_ _ _ f h2 (fun j hj => ?_)
    rw [show q_db (q_toS (4, f, b, g, c)) m = q_hd m (nI f) (nI (1 - b)) by rw [← q_1m h3]; rfl, q_bel_hd _ (q_01n (by omega)) h2 hj]
  case inr.refine_1 =>
    refine ⟨vf, fun w1 e1 => ?_⟩
    rw [e1]
    refine one_ _ _ f h2 (fun j hj => ?_)
    rw [show q_bv (q_toS (0, f, b, g, c)) m = q_hd m (nI f) (nI b) from rfl, q_bel_hd _ (q_01n h3) h2 hj]
  case inr.refine_2 =>
    refine ⟨vf, fun w1 e1 => ?_⟩
    have t3 : w1.1 60 32 = nI g := by rw [e1, mPI_row (Ne.symm hn60)]; exact s3
    have t4 : w1.1 60 33 = nI c := by rw [e1, mPI_row (Ne.symm hn60)]; exact s4
    rw [t3, t4, eg, cg]
    refine ⟨vg, fun w2 e2 => ?_⟩
    rw [e2, e1]
    refine two_ _ _ _ f g h2 h4 (fun j hj => ?_)
    rw [show q_bv (q_toS (1, f, b, g, c)) m = q_hd (q_hd m (nI f) (nI b)) (nI g) (nI c) from rfl, q_bel_hd _ (q_01n h5) h4 hj, q_bel_hd _ (q_01n h3) h2 hj]
  case inr.refine_3 =>
    have e : q_bv (q_toS (2, f, b, g, c)) m = q_al m (nI f) (nI g) (nI b) (nI c) := rfl
    have ee : ∀ j, j < 6 → q_bel (q_bv (q_toS (2, f, b, g, c)) m) j = if q_bel m f = nI (1 - b) then (if j = g then nI c else q_bel m j) else if q_bel m g = nI (1 - c) then (if j = f then nI b else q_bel m j) else q_bel m j := fun j hj => by
      rw [e, q_bel_al m h2 h4 h3 h5 hj]
    refine ⟨fun a1 => ⟨fun a2 => none_ _ (fun j hj => ?_), fun a2 => ⟨vf, fun w1 e1 => ?_⟩⟩, fun a1 => ⟨vg, fun w1 e1 => ?_⟩⟩
    · rw [ee j hj, if_neg a1, if_neg a2]
    · rw [e1]; exact one_ _ _ f h2 (fun j hj => by rw [ee j hj, if_neg a1, if_pos a2])
    · rw [e1]; exact one_ _ _ g h4 (fun j hj => by rw [ee j hj, if_pos a1])
  case inr.refine_4 =>
    have e : q_bv (q_toS (3, f, b, g, c)) m = q_al m (nI f) (nI g) (nI (1 - b)) (nI c) := by rw [← q_1m h3]; rfl
    have ee : ∀ j, j < 6 → q_bel (q_bv (q_toS (3, f, b, g, c)) m) j = if q_bel m f = nI b then (if j = g then nI c else q_bel m j) else if q_bel m g = nI (1 - c) then (if j = f then nI (1 - b) else q_bel m j) else q_bel m j := fun j hj => by
      rw [e, q_bel_al m h2 h4 (by omega) h5 hj, show 1 - (1 - b) = b by omega]
    refine ⟨fun a1 => ⟨fun a2 => none_ _ (fun j hj => ?_), fun a2 => ⟨vf, fun w1 e1 => ?_⟩⟩, fun a1 => ⟨vg, fun w1 e1 => ?_⟩⟩
    · rw [ee j hj, if_neg a1, if_neg a2]
    · rw [e1]; exact one_ _ _ f h2 (fun j hj => by rw [ee j hj, if_neg a1, if_pos a2])
    · rw [e1]; exact one_ _ _ g h4 (fun j hj => by rw [ee j hj, if_pos a1])
  case inr.refine_5 =>
    refine ⟨vf, fun w1 e1 => ?_⟩
    rw [e1]
    refine one_ _ _ f h2 (fun j hj => ?_)
    rw [show q_bv (q_toS (4, f, b, g, c)) m = q_hd m (nI f) (nI b) from rfl, q_bel_hd _ (q_01n h3) h2 hj]
end K9h
