/-! ===== CONTRACTS: the reference: isSo, sentences one by one ===== -/
/-- refusals of a sentence -/
def q_bar (n : Nat) (k f b g c : Int32) : Int32 := if ¬ (¬ k < 0 ∧ ¬ 4 < k) then -3 else if ¬ (¬ f < 0 ∧ ¬ nI n ≤ f) then -2 else if k = 0 ∨ k = 4 then (if b = 0 ∨ b = 1 then 0 else -3) else if ¬ (¬ g < 0 ∧ ¬ nI n ≤ g) then -2 else if g = f then -2 else if ¬ (b = 0 ∨ b = 1) then -3 else if c = 0 ∨ c = 1 then 0 else -3
theorem q_bit (b : Int32) : (¬ b < 0 ∧ ¬ 1 < b) ↔ (b = 0 ∨ b = 1) := by
  constructor
  · rintro ⟨h1, h2⟩
    obtain ⟨j, hj, rfl⟩ := nI_of h1
    have : ¬ 1 < j := fun q => h2 (show nI 1 < nI j from nI_lt q hj)
    rcases (show j = 0 ∨ j = 1 by omega) with rfl | rfl
    · exact Or.inl rfl
    · exact Or.inr rfl
  · rintro (rfl | rfl) <;> decide
section K9j
variable {E : mEnv} {w : mW} {Y : mY} {t d : Int32} {M : Int64}
theorem snM.fr {r s : Nat → Int32} (h : snM r t d M) (e : ∀ k, k < 32 → s k = r k) : snM s t d M := ⟨(e 0 (by omega)).trans h.1, (e 1 (by omega)).trans h.2.1, fun p f hp hf => (e _ (by omega)).trans (h.2.2 p f hp hf)⟩
/-- copied, heard, a night passed -/
theorem f_try {a b : Nat} (ha : mSh[a]? = some (.inl (0, 32, []))) (hb : mSh[b]? = some (.inl (0, 32, []))) (hab : a ≠ b) (hY : cyM Y w) (hk : cyOK Y) (hM : q_ok M) (hs : snM (w.1 a) t d M) {n : mN5} (hn : q_sok n) (hS : q_Sm w = q_toS n) (set : Int32) {Q : mW → Prop}
    (hQ : ∀ u, mFr (cS b) w u → u.1 b 0 = q_dawn Y (q_ad Y (q_toS n) M set) t → snM (u.1 b) (q_dawn Y (q_ad Y (q_toS n) M set) t) (d + 1) (q_Ms Y (q_toS n) M set Y.1.2.1) → Q u) :
    mMv E MX9_copy [.ref a, .int 0, .ref b, .int 0] w (fun u1 => mMv E MX9_hearAll [.ref 60, .ref b, .int set] u1 (fun u2 => mMv E MX9_pass [.ref 60, .ref b] u2 Q)) := by
  have hnb := q_arr hb
  have cC : ∀ c k, cS b c k → ¬ mCy c k := fun c k h => by unfold cS at h; unfold mCy; omega
  have cZ : ∀ c k, cS b c k → ¬ s60 c k := fun c k h => by unfold cS at h; unfold s60; omega
  refine (k_X9_copy (x := 0) (y := 0) ha hb hab (by omega) (by omega) (by omega) (by omega)).mono ?_
  rintro u1 ⟨f1, r1⟩
  have g1 : mFr (cS b) w u1 := f1.mono (fun c k h => by unfold cS; omega)
  have hs1 : snM (u1.1 b) t d M := hs.fr (fun k hk => by have := r1 k hk; simpa using this)
  have hY1 := hY.fr g1 cC
  refine (k_X9_hearAll hb hY1 hk hM hs1 hn ((q_Sm_fr g1 cZ).trans hS) set).mono ?_
  rintro u2 ⟨f2, hs2⟩
  have g2 : mFr (cS b) u1 u2 := f2.mono (fun c k h => by unfold bS at h; unfold cS; omega)
  have hY2 := hY1.fr g2 cC
  refine (k_X9_pass hb hY2 hk hs2).mono ?_
  rintro u3 ⟨f3, r3, r4⟩
  have g3 : mFr (cS b) u2 u3 := f3.mono (fun c k h => by unfold aS at h; unfold cS; omega)
  have e3 : u3.1 b 0 = q_dawn Y (q_ad Y (q_toS n) M set) t := by rw [r3]; exact q_dawn_congr (fun p hp => q_dd_Ms hk hM hn set hp)
  refine hQ u3 ((g1.tr g2).tr g3) e3 ⟨e3, r4, fun p f hp hf => ?_⟩
  rw [(f3 b _ (by unfold aS; omega)).1]
  exact hs2.2.2 p f hp hf
theorem f_try0 {a b : Nat} (ha : mSh[a]? = some (.inl (0, 32, []))) (hb : mSh[b]? = some (.inl (0, 32, []))) (hab : a ≠ b) (hY : cyM Y w) (hk : cyOK Y) (hs : snM (w.1 a) t d M) {Q : mW → Prop}
    (hQ : ∀ u, mFr (cS b) w u → u.1 b 0 = q_dawn Y (q_dd Y M) t → snM (u.1 b) (q_dawn Y (q_dd Y M) t) (d + 1) M → Q u) :
    mMv E MX9_copy [.ref a, .int 0, .ref b, .int 0] w (fun u1 => mMv E MX9_pass [.ref 60, .ref b] u1 Q) := by
  have hnb := q_arr hb
  have cC : ∀ c k, cS b c k → ¬ mCy c k := fun c k h => by unfold cS at h; unfold mCy; omega
  refine (k_X9_copy (x := 0) (y := 0) ha hb hab (by omega) (by omega) (by omega) (by omega)).mono ?_
  rintro u1 ⟨f1, r1⟩
  have g1 : mFr (cS b) w u1 := f1.mono (fun c k h => by unfold cS; omega)
  have hs1 : snM (u1.1 b) t d M := hs.fr (fun k hk => by have := r1 k hk; simpa using this)
  have hY1 := hY.fr g1 cC
  refine (k_X9_pass hb hY1 hk hs1).mono ?_
  rintro u3 ⟨f3, r3, r4⟩
  have g3 : mFr (cS b) u1 u3 := f3.mono (fun c k h => by unfold aS at h; unfold cS; omega)
  refine hQ u3 (g1.tr g3) r3 ⟨r3, r4, fun p f hp hf => ?_⟩
  rw [(f3 b _ (by unfold aS; omega)).1]
  exact hs1.2.2 p f hp hf
theorem k_X9_isSo {a : Nat} (ha : mSh[a]? = some (.inl (0, 32, []))) (ha68 : a ≠ 68) (hY : cyM Y w) (hk : cyOK Y) (hM : q_ok M) (hs : snM (w.1 a) t d M) {n : mN5} (hn : q_sok n) (hS : q_Sm w = q_toS n) (set : Int32) :
    mMi E MX9_isSo [.ref 60, .ref a, .int set] w (fun v u => v = q_b (q_so Y (q_toS n) M t set) ∧ mFr (cS 68) w u) := by
  have hn0 := hn
  obtain ⟨k, f, b, g, c⟩ := n
  obtain ⟨h1, h2, h3, h4, h5, h6⟩ := hn
  dsimp only at h1 h2 h3 h4 h5 h6
  have s0 : w.1 60 29 = nI k := congrArg (fun x => x.1) hS
  have s1 : w.1 60 30 = nI f := congrArg (fun x => x.2.1) hS
  have s2 : w.1 60 31 = nI b := congrArg (fun x => x.2.2.1) hS
  have s3 : w.1 60 32 = nI g := congrArg (fun x => x.2.2.2.1) hS
  have s4 : w.1 60 33 = nI c := congrArg (fun x => x.2.2.2.2) hS
  have d4 : k = 4 → mMv E MX9_copy [.ref a, .int 0, .ref 68, .int 0] w (fun u1 => mMv E MX9_hearAll [.ref 60, .ref 68, .int set] u1 (fun u2 => mMv E MX9_pass [.ref 60, .ref 68] u2 (fun u3 => (¬ ((u3.1 68 0 >>> (u3.1 60 30 &&& 31)) &&& 1) = u3.1 60 31 → ∃ v : Int32, (some (Value.int 0) : Option Value) = some (.int v) ∧ v = q_b (q_so Y (q_toS (k, f, b, g, c)) M t set) ∧ mFr (cS 68) w u3) ∧ (((u3.1 68 0 >>> (u3.1 60 30 &&& 31)) &&& 1) = u3.1 60 31 → ∃ v : Int32, (some (Value.int 1) : Option Value) = some (.int v) ∧ v = q_b (q_so Y (q_toS (k, f, b, g, c)) M t set) ∧ mFr (cS 68) w u3)))) := by
    rintro rfl
    refine f_try ha sh68 ha68 hY hk hM hs hn0 hS set (fun u fu e0 _ => ?_)
    have t1 : u.1 60 30 = nI f := by rw [(fu 60 30 (by unfold cS; omega)).1]; exact s1
    have t2 : u.1 60 31 = nI b := by rw [(fu 60 31 (by unfold cS; omega)).1]; exact s2
    rw [t1, t2, e0]
    have r : q_so Y (q_toS (4, f, b, g, c)) M t set = decide (q_bt (q_dawn Y (q_ad Y (q_toS (4, f, b, g, c)) M set) t) (nI f) = nI b) := rfl
    refine ⟨fun z => ⟨_, rfl, ?_, fu⟩, fun z => ⟨_, rfl, ?_, fu⟩⟩
    · rw [r, decide_eq_false (show ¬ q_bt _ _ = _ from z)]; rfl
    · rw [r, decide_eq_true (show q_bt _ _ = _ from z)]; rfl
  unfold mMi
  refine mM_start rfl (Nat.le_of_ble_eq_true rfl) rfl (fun X C F => vX9_isSo_0 C F ha _ ?_)
  rw [s0, s1, s2, s3, s4, hs.1]
  match k, h1 with
  | 0, _ =>
    have r : q_so Y (q_toS (0, f, b, g, c)) M t set = decide (q_bt t (nI f) = nI b) := rfl
    refine ⟨fun a1 => ⟨fun a2 => ⟨fun _ => ⟨_, rfl, ?_, mFr.rf⟩, fun z => absurd rfl z⟩, fun a2 => ⟨fun _ => ⟨_, rfl, ?_, mFr.rf⟩, fun z => absurd rfl z⟩⟩, fun a1 => ⟨fun a2 => ⟨fun _ => ⟨_, rfl, ?_, mFr.rf⟩, fun z => absurd rfl z⟩, fun a2 => ⟨fun _ => ⟨_, rfl, ?_, mFr.rf⟩, fun z => absurd rfl z⟩⟩⟩
    · rw [r, decide_eq_false (show ¬ q_bt _ _ = _ from a1)]; rfl
    · rw [r, decide_eq_false (show ¬ q_bt _ _ = _ from a1)]; rfl
    · rw [r, decide_eq_true (show q_bt _ _ = _ from a1)]; rfl
    · rw [r, decide_eq_true (show q_bt _ _ = _ from a1)]; rfl
  | 1, _ =>
    have r : q_so Y (q_toS (1, f, b, g, c)) M t set = (decide (q_bt t (nI f) = nI b) && decide (q_bt t (nI g) = nI c)) := rfl
    refine ⟨fun a1 => ⟨fun a2 => ⟨fun z => absurd z (by decide), fun _ => ⟨fun _ => ⟨_, rfl, ?_, mFr.rf⟩, fun z => absurd rfl z⟩⟩, fun a2 => ⟨fun z => absurd z (by decide), fun _ => ⟨fun _ => ⟨_, rfl, ?_, mFr.rf⟩, fun z => absurd rfl z⟩⟩⟩, fun a1 => ⟨fun a2 => ⟨fun z => absurd z (by decide), fun _ => ⟨fun _ => ⟨_, rfl, ?_, mFr.rf⟩, fun z => absurd rfl z⟩⟩, fun a2 => ⟨fun z => absurd z (by decide), fun _ => ⟨fun _ => ⟨_, rfl, ?_, mFr.rf⟩, fun z => absurd rfl z⟩⟩⟩⟩
    · rw [r, decide_eq_false (show ¬ q_bt _ _ = _ from a1)]; rfl
    · rw [r, decide_eq_false (show ¬ q_bt _ _ = _ from a1)]; rfl
    · rw [r, decide_eq_false (show ¬ q_bt t (nI g) = _ from a2), Bool.and_false]; rfl
    · rw [r, decide_eq_true (show q_bt _ _ = _ from a1), decide_eq_true (show q_bt t (nI g) = _ from a2)]; rfl
  | 2, _ =>
    have r : q_so Y (q_toS (2, f, b, g, c)) M t set = (decide (q_bt t (nI f) = nI b) || decide (q_bt t (nI g) = nI c)) := rfl
    refine ⟨fun a1 => ⟨fun a2 => ⟨fun z => absurd z (by decide), fun _ => ⟨fun z => absurd z (by decide), fun _ => ⟨fun _ => ⟨_, rfl, ?_, mFr.rf⟩, fun z => absurd rfl z⟩⟩⟩, fun a2 => ⟨fun z => absurd z (by decide), fun _ => ⟨fun z => absurd z (by decide), fun _ => ⟨fun _ => ⟨_, rfl, ?_, mFr.rf⟩, fun z => absurd rfl z⟩⟩⟩⟩, fun a1 => ⟨fun a2 => ⟨fun z => absurd z (by decide), fun _ => ⟨fun z => absurd z (by decide), fun _ => ⟨fun _ => ⟨_, rfl, ?_, mFr.rf⟩, fun z => absurd rfl z⟩⟩⟩, fun a2 => ⟨fun z => absurd z (by decide), fun _ => ⟨fun z => absurd z (by decide), fun _ => ⟨fun _ => ⟨_, rfl, ?_, mFr.rf⟩, fun z => absurd rfl z⟩⟩⟩⟩⟩
    · rw [r, decide_eq_false (show ¬ q_bt _ _ = _ from a1), decide_eq_false (show ¬ q_bt t (nI g) = _ from a2)]; rfl
    · rw [r, decide_eq_true (show q_bt t (nI g) = _ from a2), Bool.or_true]; rfl
    · rw [r, decide_eq_true (show q_bt _ _ = _ from a1)]; rfl
    · rw [r, decide_eq_true (show q_bt _ _ = _ from a1)]; rfl
  | 3, _ =>
    have r : q_so Y (q_toS (3, f, b, g, c)) M t set = (!decide (q_bt t (nI f) = nI b) || decide (q_bt t (nI g) = nI c)) := rfl
    refine ⟨fun a1 => ⟨fun a2 => ⟨fun z => absurd z (by decide), fun _ => ⟨fun z => absurd z (by decide), fun _ => ⟨fun z => absurd z (by decide), fun _ => ⟨fun _ => ⟨_, rfl, ?_, mFr.rf⟩, fun z => absurd rfl z⟩⟩⟩⟩, fun a2 => ⟨fun z => absurd z (by decide), fun _ => ⟨fun z => absurd z (by decide), fun _ => ⟨fun z => absurd z (by decide), fun _ => ⟨fun _ => ⟨_, rfl, ?_, mFr.rf⟩, fun z => absurd rfl z⟩⟩⟩⟩⟩, fun a1 => ⟨fun a2 => ⟨fun z => absurd z (by decide), fun _ => ⟨fun z => absurd z (by decide), fun _ => ⟨fun z => absurd z (by decide), fun _ => ⟨fun _ => ⟨_, rfl, ?_, mFr.rf⟩, fun z => absurd rfl z⟩⟩⟩⟩, fun a2 => ⟨fun z => absurd z (by decide), fun _ => ⟨fun z => absurd z (by decide), fun _ => ⟨fun z => absurd z (by decide), fun _ => ⟨fun _ => ⟨_, rfl, ?_, mFr.rf⟩, fun z => absurd rfl z⟩⟩⟩⟩⟩⟩
    · rw [r, decide_eq_false (show ¬ q_bt _ _ = _ from a1)]; rfl
    · rw [r, decide_eq_false (show ¬ q_bt _ _ = _ from a1)]; rfl
    · rw [r, decide_eq_true (show q_bt _ _ = _ from a1), decide_eq_false (show ¬ q_bt t (nI g) = _ from a2)]; rfl
    · rw [r, decide_eq_true (show q_bt t (nI g) = _ from a2), Bool.or_true]; rfl
  | 4, _ =>
    have q := d4 rfl
    exact ⟨fun a1 => ⟨fun a2 => ⟨fun z => absurd z (by decide), fun _ => ⟨fun z => absurd z (by decide), fun _ => ⟨fun z => absurd z (by decide), fun _ => ⟨fun z => absurd z (by decide), fun _ => q⟩⟩⟩⟩, fun a2 => ⟨fun z => absurd z (by decide), fun _ => ⟨fun z => absurd z (by decide), fun _ => ⟨fun z => absurd z (by decide), fun _ => ⟨fun z => absurd z (by decide), fun _ => q⟩⟩⟩⟩⟩, fun a1 => ⟨fun a2 => ⟨fun z => absurd z (by decide), fun _ => ⟨fun z => absurd z (by decide), fun _ => ⟨fun z => absurd z (by decide), fun _ => ⟨fun z => absurd z (by decide), fun _ => q⟩⟩⟩⟩, fun a2 => ⟨fun z => absurd z (by decide), fun _ => ⟨fun z => absurd z (by decide), fun _ => ⟨fun z => absurd z (by decide), fun _ => ⟨fun z => absurd z (by decide), fun _ => q⟩⟩⟩⟩⟩⟩
theorem k_X9_barred (hY : cyM Y w) (hk : cyOK Y) (k f b g c : Int32) : mMi E MX9_barred [.ref 60, .int k, .int f, .int b, .int g, .int c] w (fun v u => v = q_bar Y.1.1 k f b g c ∧ u = w) := by
  unfold mMi
  refine mM_start rfl (Nat.le_of_ble_eq_true rfl) rfl (fun X C F => vX9_barred_0 C F k f b g c ?_)
  refine (k_X9_in _ _ _).mono ?_
  rintro v u ⟨rfl, rfl⟩
  rw [q_b0]
  have fin1 : (¬ k < 0 ∧ ¬ 4 < k) → (k = 0 ∨ k = 4) → mMi E MX9_isFact [.ref 60, .int f] u (fun v2 u2 => (v2 = 0 → ∃ v : Int32, (some (Value.int (-2)) : Option Value) = some (.int v) ∧ v = q_bar Y.1.1 k f b g c ∧ u2 = u) ∧ (¬ v2 = 0 → mMi E MX9_in [.int b, .int 0, .int 1] u2 (fun v3 u3 => (v3 = 0 → ∃ v : Int32, (some (Value.int (-3)) : Option Value) = some (.int v) ∧ v = q_bar Y.1.1 k f b g c ∧ u3 = u) ∧ (¬ v3 = 0 → ∃ v : Int32, (some (Value.int 0) : Option Value) = some (.int v) ∧ v = q_bar Y.1.1 k f b g c ∧ u3 = u)))) := by
    intro hkk hp
    refine (k_X9_isFact hY hk f).mono ?_
    rintro v u2 ⟨rfl, rfl⟩
    rw [q_b0]
    refine ⟨fun a1 => ⟨_, rfl, ?_, rfl⟩, fun a1 => (k_X9_in _ _ _).mono ?_⟩
    · rw [q_bar, if_neg (fun q => q hkk), if_pos (of_decide_eq_false a1)]
    · have a1 := of_decide_eq_true ((Bool.not_eq_false _).mp a1)
      rintro v u3 ⟨rfl, rfl⟩
      rw [q_b0]
      refine ⟨fun a2 => ⟨_, rfl, ?_, rfl⟩, fun a2 => ⟨_, rfl, ?_, rfl⟩⟩
      · rw [q_bar, if_neg (fun q => q hkk), if_neg (fun q => q a1), if_pos hp, if_neg (fun q => of_decide_eq_false a2 ((q_bit b).mpr q))]
      · rw [q_bar, if_neg (fun q => q hkk), if_neg (fun q => q a1), if_pos hp, if_pos ((q_bit b).mp (of_decide_eq_true ((Bool.not_eq_false _).mp a2)))]
  refine ⟨fun a0 => ?_, fun a0 => ⟨_, rfl, ?_, rfl⟩⟩
  · have hkk : ¬ k < 0 ∧ ¬ 4 < k := of_decide_eq_true ((Bool.not_eq_false _).mp a0)
    refine ⟨fun z => fin1 hkk (Or.inl z), fun z => ⟨fun z2 => ?_, fun z2 => fin1 hkk (Or.inr z2)⟩⟩
    have hp : ¬ (k = 0 ∨ k = 4) := fun q => q.elim z z2
    refine (k_X9_isFact hY hk f).mono ?_
    rintro v u2 ⟨rfl, rfl⟩
    rw [q_b0]
    refine ⟨fun a1 => ⟨_, rfl, ?_, rfl⟩, fun a1 => (k_X9_isFact hY hk g).mono ?_⟩
    · rw [q_bar, if_neg (fun q => q hkk), if_pos (of_decide_eq_false a1)]
    · have a1 := of_decide_eq_true ((Bool.not_eq_false _).mp a1)
      rintro v u3 ⟨rfl, rfl⟩
      rw [q_b0]
      refine ⟨fun a2 => ⟨_, rfl, ?_, rfl⟩, fun a2 => ⟨fun a3 => (k_X9_in _ _ _).mono ?_, fun a3 => ⟨_, rfl, ?_, rfl⟩⟩⟩
      · rw [q_bar, if_neg (fun q => q hkk), if_neg (fun q => q a1), if_neg hp, if_pos (of_decide_eq_false a2)]
      · have a2 := of_decide_eq_true ((Bool.not_eq_false _).mp a2)
        rintro v u4 ⟨rfl, rfl⟩
        rw [q_b0]
        refine ⟨fun a4 => ⟨_, rfl, ?_, rfl⟩, fun a4 => (k_X9_in _ _ _).mono ?_⟩
        · rw [q_bar, if_neg (fun q => q hkk), if_neg (fun q => q a1), if_neg hp, if_neg (fun q => q a2), if_neg a3, if_pos (fun q => of_decide_eq_false a4 ((q_bit b).mpr q))]
        · have a4 := (q_bit b).mp (of_decide_eq_true ((Bool.not_eq_false _).mp a4))
          rintro v u5 ⟨rfl, rfl⟩
          rw [q_b0]
          refine ⟨fun a5 => ⟨_, rfl, ?_, rfl⟩, fun a5 => ⟨_, rfl, ?_, rfl⟩⟩
          · rw [q_bar, if_neg (fun q => q hkk), if_neg (fun q => q a1), if_neg hp, if_neg (fun q => q a2), if_neg a3, if_neg (fun q => q a4), if_pos ((q_bit c).mp (of_decide_eq_true ((Bool.not_eq_false _).mp a5)))]
          · rw [q_bar, if_neg (fun q => q hkk), if_neg (fun q => q a1), if_neg hp, if_neg (fun q => q a2), if_neg a3, if_neg (fun q => q a4), if_neg (fun q => of_decide_eq_false a5 ((q_bit c).mpr q))]
      · have a2 := of_decide_eq_true ((Bool.not_eq_false _).mp a2)
        rw [q_bar, if_neg (fun q => q hkk), if_neg (fun q => q a1), if_neg hp, if_neg (fun q => q a2), if_pos a3]
  · rw [q_bar, if_pos (of_decide_eq_false a0)]
end K9j
