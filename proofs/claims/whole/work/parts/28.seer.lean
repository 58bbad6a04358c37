/-! ===== CONTRACTS: the Seer ===== -/
def q_fo {σ : Type} (v : Nat → Bool) (f : σ → Nat → σ) (s0 : σ) : Nat → σ
  | 0 => s0
  | i + 1 => if v i = true then f (q_fo v f s0 i) i else q_fo v f s0 i
def q_nm (S : mS) : Int32 := 10000 * S.1 + 1000 * S.2.1 + 100 * S.2.2.1 + 10 * S.2.2.2.1 + S.2.2.2.2
def q_sx (Y : mY) (S : mS) (M : Int64) (t set : Int32) : Int32 := q_sum Y.2.1 (q_dawn Y (q_ad Y S M set) t) Y.1.1
def q_s0 (Y : mY) (M : Int64) (t : Int32) : Int32 := q_sum Y.2.1 (q_dawn Y (q_dd Y M) t) Y.1.1
abbrev mT3 : Type := Int32 × Int32 × Int32
def q_bs (Y : mY) (M : Int64) (t : Int32) (S : mS) (st : mT3) : Nat → mT3
  | 0 => st
  | s + 1 => if q_so Y S M t (nI (s + 1)) = true ∧ (q_bs Y M t S st s).1 < q_sx Y S M t (nI (s + 1)) then (q_sx Y S M t (nI (s + 1)), q_nm S, nI (s + 1)) else q_bs Y M t S st s
def q_bst (Y : mY) (M : Int64) (t : Int32) (st : mT3) (S : mS) : mT3 := q_bs Y M t S st (2 ^ Y.1.2.1 - 1)
def q_best (Y : mY) (M : Int64) (t : Int32) : mT3 := q_fo (fun a => q_vs Y.1.1 (q_dc a)) (fun st a => q_bst Y M t st (q_toS (q_dc a))) (q_s0 Y M t, -1, 0) 720
theorem q_so_f {Y : mY} {S : mS} {M : Int64} {t : Int32} (h4 : ¬ S.1 = 4) (hs : q_st S t = false) (set : Int32) : q_so Y S M t set = false := by unfold q_so; rw [if_neg h4]; exact hs
theorem q_bs_f {Y : mY} {M : Int64} {t : Int32} {S : mS} {st : mT3} (h : ∀ set, q_so Y S M t set = false) : ∀ n, q_bs Y M t S st n = st := by
  intro n
  induction n with
  | zero => rfl
  | succ n ih => rw [q_bs, if_neg (fun q => by rw [h] at q; exact absurd q.1 (by decide))]; exact ih
theorem fLook.out {Y : mY} {b : Nat} {t : Int32} {M : Int64} {w u : mW} {T : Nat → Nat → Prop} (h : fLook Y b t M w) (f : mFr T w u) (hT : ∀ c k, T c k → ¬ fS b c k) : fLook Y b t M u := by
  obtain ⟨h1, h2, h3, h4⟩ := h
  have e : ∀ c k, b ≤ c → c ≤ b + 5 → u.1 c k = w.1 c k ∧ u.2 c k = w.2 c k := fun c k a1 a2 => f c k (fun q => hT c k q ⟨a1, a2⟩)
  refine ⟨by rw [(e _ _ (by omega) (by omega)).1]; exact h1, by rw [(e _ _ (by omega) (by omega)).2]; exact h2, by rw [(e _ _ (by omega) (by omega)).1]; exact h3, fun d hd => ?_⟩
  rw [(e _ _ (by omega) (by omega)).1, (e _ _ (by omega) (by omega)).1]
  exact h4 d hd
theorem fHear.out {Y : mY} {b : Nat} {S : mS} {M : Int64} {w u : mW} {T : Nat → Nat → Prop} (h : fHear Y b S M w) (f : mFr T w u) (hT : ∀ c k, T c k → ¬ fS b c k) : fHear Y b S M u := by
  obtain ⟨h1, h2, h3, h4⟩ := h
  have e : ∀ c k, b ≤ c → c ≤ b + 5 → u.1 c k = w.1 c k := fun c k a1 a2 => (f c k (fun q => hT c k q ⟨a1, a2⟩)).1
  refine ⟨?_, fun p hp => ?_, by rw [e _ _ (by omega) (by omega)]; exact h3, by rw [e _ _ (by omega) (by omega)]; exact h4⟩
  · rw [← h1]; unfold q_S; rw [e _ _ (by omega) (by omega), e _ _ (by omega) (by omega), e _ _ (by omega) (by omega), e _ _ (by omega) (by omega), e _ _ (by omega) (by omega)]
  · rw [e _ _ (by omega) (by omega), e _ _ (by omega) (by omega)]; exact h2 p hp
def sS : Nat → Nat → Prop := fun c _ => 46 ≤ c ∧ c ≤ 59
def s58 : Nat → Nat → Prop := fun c _ => c = 58
theorem s58F : ∀ c k, s58 c k → ¬ fS 46 c k := fun c k h => by unfold s58 at h; unfold fS; omega
theorem s58s : ∀ c k, s58 c k → sS c k := fun c k h => by unfold s58 at h; unfold sS; omega
theorem sS22 : ∀ c k, sS c k → 22 ≤ c := fun c k h => by unfold sS at h; omega
theorem gsS : ∀ c k, gS 46 c k → sS c k := fun c k h => by unfold gS at h; unfold sS; omega
theorem fsS : ∀ c k, fS 46 c k → sS c k := fun c k h => by unfold fS at h; unfold sS; omega
theorem g58 : ∀ c k, gS 46 c k → ¬ c = 58 := fun c k h => by unfold gS at h; omega
section K6
variable {E : mEnv} {w : mW} {Y : mY} {t : Int32} {M : Int64}
theorem h46 : (46 : Nat) = 46 ∨ (46 : Nat) = 52 := Or.inl rfl
theorem h47 : (47 : Nat) = 47 ∨ (47 : Nat) = 53 := Or.inl rfl
theorem q720 {a : Nat} (h : a < 2 ^ 31) : ((720 : Int32) ≤ nI a) = (720 ≤ a) := by rw [show (720 : Int32) = nI 720 from rfl, nI_leI (by omega) h]
/-- the Seer's three numbers -/
def q_3 (w : mW) : mT3 := (w.1 58 3, w.1 58 4, w.1 58 5)
theorem q_3_fr {u : mW} {T : Nat → Nat → Prop} (f : mFr T w u) (hT : ∀ c k, T c k → ¬ c = 58) : q_3 u = q_3 w := by
  have e : ∀ k, u.1 58 k = w.1 58 k := fun k => (f 58 k (fun q => hT _ _ q rfl)).1
  unfold q_3; rw [e, e, e]
theorem l_X6_best1 {X : mX} {Qm : Option Value → mW → Prop} (C : mCtx X E MX6_seekBest) (F : mFin X E MX6_seekBest Qm) (hk : cyOK Y) (S : mS) (st : mT3) (w0 : mW) (x5 : Int32)
    (hK : ∀ u, cyX Y u → fLook Y 46 t M u → mFr sS w0 u → q_3 u = q_bst Y M t st S → mG X E MX6_seekBest 45 [.ref 58, .retAddr 0, .retAddr 0, .retAddr 0, .int (nI (2 ^ Y.1.2.1)), .int (x5 + 1), .retAddr 0, .retAddr 0] [] u) :
    ∀ k j : Nat, j + k = 2 ^ Y.1.2.1 - 1 → ∀ w, cyX Y w → fLook Y 46 t M w → fHear Y 46 S M w → mFr sS w0 w → q_3 w = q_bs Y M t S st j →
      mG X E MX6_seekBest 78 [.ref 58, .retAddr 0, .retAddr 0, .retAddr 0, .int (nI (2 ^ Y.1.2.1)), .int x5, .int (nI (j + 1)), .retAddr 0] [] w := by
  have h32 := q_pow32 hk.2.1
  have hpos : 0 < 2 ^ Y.1.2.1 := Nat.pow_pos (by omega)
  intro k
  induction k with
  | zero =>
    intro j hj w hY hl hh hf h3
    refine vX6_seekBest_78 C F _ _ _ ?_
    refine ⟨fun _ => hK w hY hl hf ?_, fun h => absurd (nI_le (by omega) (by omega)) h⟩
    rw [h3, show j = 2 ^ Y.1.2.1 - 1 by omega]; rfl
  | succ k ih =>
    intro j hj w hY hl hh hf h3
    refine vX6_seekBest_78 C F _ _ _ ?_
    refine ⟨fun h => absurd h (nI_ge (by omega) (by omega)), fun _ => (k_X3_sumIfSaidTo h46 hY hk hl hh _).mono ?_⟩
    rintro v u ⟨rfl, rfl⟩
    have e3 : u.1 58 3 = (q_bs Y M t S st j).1 := by rw [← h3]; rfl
    rw [e3]
    refine ⟨fun hle => ?_, fun hle => (k_X3_isSoSaidTo h46 hY hk hl hh _).mono ?_⟩
    · rw [nI_1]
      refine ih (j + 1) (by omega) u hY hl hh hf ?_
      rw [h3, q_bs, if_neg (fun q => ?_)]
      exact absurd hle (Int32.not_le.mpr q.2)
    · rintro v u2 ⟨rfl, rfl⟩
      rw [q_b0]
      refine ⟨fun hs => ?_, fun hs => (k_X7_number h47).mono ?_⟩
      · rw [nI_1]
        refine ih (j + 1) (by omega) u2 hY hl hh hf ?_
        rw [h3, q_bs, if_neg (fun q => ?_)]
        rw [hs] at q
        exact absurd q.1 (by decide)
      · rintro v u3 ⟨rfl, rfl⟩
        rw [nI_1]
        have f1 : mFr s58 u2 (mPI (mPI (mPI u2 58 3 (q_sum Y.2.1 (q_dawn Y (q_ad Y S M (nI (j + 1))) t) Y.1.1)) 58 4 (10000 * (q_S (mPI u2 58 3 (q_sum Y.2.1 (q_dawn Y (q_ad Y S M (nI (j + 1))) t) Y.1.1)) 47).1 + 1000 * (q_S (mPI u2 58 3 (q_sum Y.2.1 (q_dawn Y (q_ad Y S M (nI (j + 1))) t) Y.1.1)) 47).2.1 + 100 * (q_S (mPI u2 58 3 (q_sum Y.2.1 (q_dawn Y (q_ad Y S M (nI (j + 1))) t) Y.1.1)) 47).2.2.1 + 10 * (q_S (mPI u2 58 3 (q_sum Y.2.1 (q_dawn Y (q_ad Y S M (nI (j + 1))) t) Y.1.1)) 47).2.2.2.1 + (q_S (mPI u2 58 3 (q_sum Y.2.1 (q_dawn Y (q_ad Y S M (nI (j + 1))) t) Y.1.1)) 47).2.2.2.2)) 58 5 (nI (j + 1))) := ((mFr.pi (S := s58) rfl).tr (mFr.pi (S := s58) rfl)).tr (mFr.pi (S := s58) rfl)
        have es : q_S (mPI u2 58 3 (q_sum Y.2.1 (q_dawn Y (q_ad Y S M (nI (j + 1))) t) Y.1.1)) 47 = S := by rw [← hh.1]; rfl
        rw [es] at f1 ⊢
        refine ih (j + 1) (by omega) _ (hY.fr hk f1 (fun c k h => sS22 c k (s58s c k h))) (hl.out f1 s58F) (hh.out f1 s58F) (hf.tr (f1.mono s58s)) ?_
        rw [q_bs, if_pos ⟨(Bool.not_eq_false _).mp hs, Int32.not_le.mp hle⟩]
        simp [q_3, mPI, q_nm, q_sx]
theorem l_X6_best {X : mX} {Qm : Option Value → mW → Prop} (C : mCtx X E MX6_seekBest) (F : mFin X E MX6_seekBest Qm) (hk : cyOK Y) (w0 : mW) (s0 : mT3)
    (hQ : ∀ u, mFr sS w0 u → q_3 u = q_fo (fun a => q_vs Y.1.1 (q_dc a)) (fun st a => q_bst Y M t st (q_toS (q_dc a))) s0 720 → Qm none u) :
    ∀ k a : Nat, a + k = 720 → ∀ w, cyX Y w → fLook Y 46 t M w → mFr sS w0 w → q_3 w = q_fo (fun a => q_vs Y.1.1 (q_dc a)) (fun st a => q_bst Y M t st (q_toS (q_dc a))) s0 a →
      mG X E MX6_seekBest 45 [.ref 58, .retAddr 0, .retAddr 0, .retAddr 0, .int (nI (2 ^ Y.1.2.1)), .int (nI a), .retAddr 0, .retAddr 0] [] w := by
  have hpos : 0 < 2 ^ Y.1.2.1 := Nat.pow_pos (by omega)
  intro k
  induction k with
  | zero =>
    intro a ha w hY hl hf h3
    refine vX6_seekBest_45 C F _ _ ?_
    rw [q720 (by omega)]
    exact ⟨fun _ => hQ w hf (by rw [h3, show a = 720 by omega]), fun h => absurd (by omega) h⟩
  | succ k ih =>
    intro a ha w hY hl hf h3
    refine vX6_seekBest_45 C F _ _ ?_
    rw [q720 (by omega)]
    refine ⟨fun h => absurd h (by omega), fun _ => (k_X3_comeTo h46 hY hk hl (by omega)).mono ?_⟩
    rintro v u ⟨ev, fg, sv⟩
    have hY1 := hY.fr hk fg (gS22 h46)
    have hl1 := hl.fr fg
    have hf1 := hf.tr (fg.mono gsS)
    have h31 : q_3 u = q_fo (fun a => q_vs Y.1.1 (q_dc a)) (fun st a => q_bst Y M t st (q_toS (q_dc a))) s0 a := (q_3_fr fg g58).trans h3
    refine ⟨fun hv => ?_, fun hv => ?_⟩
    · rw [ev, q_b0, Bool.not_eq_false] at hv
      rw [Bool.and_eq_true] at hv
      refine (k_X3_heard h46 hY1 hk hl1 sv).mono ?_
      rintro u1 ⟨fg1, hh⟩
      have h32 := (q_3_fr fg1 g58).trans h31
      refine l_X6_best1 C F hk (q_toS (q_dc a)) (q_3 u1) w0 (nI a) (fun u2 a1 a2 a3 a4 => ?_) (2 ^ Y.1.2.1 - 1) 0 (by omega) u1 (hY1.fr hk fg1 (gS22 h46)) (hl1.fr fg1) hh (hf1.tr (fg1.mono gsS)) rfl
      rw [nI_1]
      refine ih (a + 1) (by omega) u2 a1 a2 a3 ?_
      rw [a4, h32, q_fo, if_pos hv.1]
    · rw [ev, q_b0] at hv
      rw [nI_1]
      refine ih (a + 1) (by omega) u hY1 hl1 hf1 ?_
      rw [h31, q_fo]
      split
      · rename_i hvs
        rw [hvs, Bool.true_and, Bool.or_eq_false_iff] at hv
        rw [q_bst, q_bs_f (fun set => q_so_f ?_ hv.2 set)]
        intro h4
        have : a / 144 = 4 := (nI_eq (b := 4) (by omega) (by omega)).mp h4
        rw [this] at hv
        exact absurd hv.1 (by decide)
      · rfl
theorem k_X6_seekBest (hY : cyX Y w) (hk : cyOK Y) (t : Int32) (M : Int64) : mMv E MX6_seekBest [.ref 58, .int t, .long M] w (fun u => mFr sS w u ∧ q_3 u = q_best Y M t) := by
  unfold mMv
  refine mM_start rfl (Nat.le_of_ble_eq_true rfl) rfl (fun X C F => vX6_seekBest_0 C F t M ?_)
  refine (k_X3_look h46 hY hk t M).mono ?_
  rintro u ⟨ff, hl⟩
  have hY1 := hY.fr hk ff (fS22 h46)
  refine (k_X3_sum0 h46 hk hl).mono ?_
  rintro v u2 ⟨rfl, rfl⟩
  rw [hY1.2.1, q_pow _ hk.2.1]
  have f1 : ∀ v : Int32, mFr s58 u2 (mPI (mPI (mPI u2 58 3 v) 58 4 (-1)) 58 5 0) := fun v => ((mFr.pi (S := s58) rfl).tr (mFr.pi (S := s58) rfl)).tr (mFr.pi (S := s58) rfl)
  refine l_X6_best C F hk w _ (fun u a1 a2 => ⟨rfl, a1, a2⟩) 720 0 (by omega) _ (hY1.fr hk (f1 _) (fun c k h => sS22 c k (s58s c k h))) (hl.out (f1 _) s58F) ((ff.mono fsS).tr ((f1 _).mono s58s)) ?_
  simp [q_3, mPI, q_fo, q_s0]
end K6
