/-! ===== BOTH SIDES: fault ===== -/
section FA
variable {E : mEnv} {w : mW} {Z : mZ} {T : Nat → Int32} {L : Nat}
theorem k_X9_isRead (hL : L ≤ 160) (hs : tMo (L, T) w) {Y : mY} (hY : cyM Y w) (hk : cyOK Y) : mMi E MX9_isRead [.ref 60] w (fun v u => mFr iS9 w u ∧ (∀ s, p_all T L 14 Y.1 0 = .inl s → v = 0 ∧ u.1 60 13 = nI s) ∧ ∀ cs, p_all T L 14 Y.1 0 = .inr cs → v = 1 ∧ u.1 60 14 = nI cs.length ∧ ∀ m, m < cs.length → rowM (cs.getD m (0, [])) (6 * m) u) := by
  have it : ∀ c k, iS9 c k → ¬ c = 64 ∧ ¬ (c = 60 ∧ k = 6) := fun c k q => by unfold iS9 at q; omega
  have nTi : ∀ c k, nT c k → iS9 c k := fun c k q => by unfold nT at q; unfold iS9; omega
  unfold mMi
  refine mM_start rfl (Nat.le_of_ble_eq_true rfl) rfl (fun X C F => vX9_isRead_0 C F ?_)
  rw [hY.1, hY.2.1, hY.2.2.1]
  have loop : ∀ (f n : Nat) (c : mC3) (i : Nat) (acc : List mCl) (u : mW), n + (f + 1) = 14 → acc.length = n → mFr iS9 w u → i ≤ L → u.1 60 8 = nI i → u.1 60 14 = nI n → c3M c u → c.1 ≤ 6 → c.2.1 ≤ 5 → c.2.2 ≤ 6 → (∀ m, m < n → rowM (acc.getD m (0, [])) (6 * m) u ∧ (acc.getD m (0, [])).2.length ≤ 5) → (∀ s, p_all T L (f + 1) c i = .inl s → p_all T L 14 Y.1 0 = .inl s) → (∀ cs, p_all T L (f + 1) c i = .inr cs → p_all T L 14 Y.1 0 = .inr (acc ++ cs)) → mG X E MX9_isRead 36 [.ref 60, .int 1] [] u := by
    intro f
    induction f with
    | zero => ?_
    | succ f ih => ?_
    all_goals
      intro n c i acc u hn hacc fu hi a8 a14 hc c1 c2 c3 hrow g1 g2
      have hsu := hs.fr fu it
      rw [p_all_c] at g1 g2
      refine vX9_isRead_36 C F _ ?_
      rw [a14, q_6p]
      refine ⟨fun q => absurd q (by decide), fun _ => (k_X9_isLine hL hsu hi a8 hc c1 c2 c3 (by omega)).mono ?_⟩
      rintro v u2 ⟨f2, b1, b2⟩
      have fu2 : mFr iS9 w u2 := fu.tr (f2.mono (fun c k q => by unfold lS9 at q; unfold iS9; omega))
      cases hcl : p_cl T L c i with
      | inl s =>
        obtain ⟨rfl, e4⟩ := b1 s hcl
        rw [hcl] at g1
        have R := g1 s rfl
        refine ⟨fun q => absurd rfl q, fun _ => ⟨_, rfl, fu2, fun s' h => ?_, fun cs h => ?_⟩⟩
        · rw [R] at h; rw [← Sum.inl.inj h]; exact ⟨rfl, e4⟩
        · rw [R] at h; exact absurd h (by simp)
      | inr r =>
        obtain ⟨rfl, e5, er, hc2, hr2, hl2⟩ := b2 r hcl
        obtain ⟨rm, ec, -⟩ := p_cl_room hcl
        rw [hcl] at g1 g2
        dsimp only at g1 g2
        refine ⟨fun _ => ?_, fun q => absurd q (by decide)⟩
        have e3 : u2.1 60 14 = nI n := by rw [(f2 60 14 (by unfold lS9; omega)).1]; exact a14
        rw [e3, nI_1]
        have f3 : mFr (fun c k => c = 60 ∧ k = 14) u2 (mPI u2 60 14 (nI (n + 1))) := mFr.pi (S := fun c k => c = 60 ∧ k = 14) ⟨rfl, rfl⟩
        have fu3 : mFr iS9 w (mPI u2 60 14 (nI (n + 1))) := fu2.tr (f3.mono (fun c k q => by unfold iS9; omega))
        refine (k_X9_nextToken hL (hs.fr fu3 it) er (by rw [mPI_col (by omega)]; exact e5)).mono ?_
        rintro u4 ⟨f4, t8, t9, t10, t12⟩
        have fu4 : mFr iS9 w u4 := fu3.tr (f4.mono nTi)
        obtain ⟨y1, y2, y3, y4, y5⟩ := p_tok_ok T er
        have e34 : u4.1 60 14 = nI (n + 1) := by rw [(f4 60 14 (by unfold nT; omega)).1, mPI_at]
        have rows4 : ∀ m, m < n + 1 → rowM ((acc ++ [r.1]).getD m (0, [])) (6 * m) u4 ∧ ((acc ++ [r.1]).getD m (0, [])).2.length ≤ 5 := by
          intro m hm
          by_cases e : m = n
          · rw [e, show (acc ++ [r.1]).getD n (0, []) = r.1 by rw [List.getD_eq_getElem?_getD, List.getElem?_append_right (by omega), hacc, Nat.sub_self]; rfl]
            exact ⟨(hr2.fr hl2 f3 (fun k _ _ q => by omega)).fr hl2 f4 (fun k _ _ q => by unfold nT at q; omega), hl2⟩
          · rw [show (acc ++ [r.1]).getD m (0, []) = acc.getD m (0, []) by rw [List.getD_eq_getElem?_getD, List.getD_eq_getElem?_getD, List.getElem?_append_left (by omega)]]
            obtain ⟨h1, h2⟩ := hrow m (by omega)
            exact ⟨((h1.fr h2 f2 (fun k _ _ q => by unfold lS9 at q; omega)).fr h2 f3 (fun k _ _ q => by omega)).fr h2 f4 (fun k _ _ q => by unfold nT at q; omega), h2⟩
        have stop : p_all T L 14 Y.1 0 = .inl (p_tok T L r.2.2).1 → ¬ (p_tok T L r.2.2).2.2 = 0 → mG X E MX9_isRead 36 [.ref 60, .int 0] [] u4 := by
          intro R nz
          refine vX9_isRead_36 C F _ ?_
          rw [q_lcmp, t10, tv_m2 er]
          refine ⟨fun _ => ⟨fun q => absurd q nz, fun _ => k_X9_fails.mono ?_⟩, fun q => absurd rfl q⟩
          rintro v u5 ⟨rfl, rfl⟩
          refine ⟨fun _ => ⟨_, rfl, fu4.tr (mFr.pi (S := iS9) (Or.inl ⟨rfl, by omega, by omega⟩)), fun s' h => ?_, fun cs h => ?_⟩, fun q => absurd rfl q⟩
          · rw [R] at h; rw [← Sum.inl.inj h, mPI_at]; exact ⟨rfl, t9⟩
          · rw [R] at h; exact absurd h (by simp)
        rw [q_lcmp, t10, tv_m3 er, e34, show (14 : Int32) = nI 14 from rfl, nI_leI (by omega) (by omega)]
        by_cases z : (p_tok T L r.2.2).2.2 = 0
        · rw [if_pos z] at g2
          have R := g2 _ rfl
          refine ⟨fun _ => ?_, fun q => absurd z q.1⟩
          refine vX9_isRead_36 C F _ ?_
          rw [q_lcmp, t10, tv_m2 er]
          refine ⟨fun _ => ⟨fun _ => ⟨_, rfl, fu4, fun s' h => ?_, fun cs h => ?_⟩, fun q => absurd z q⟩, fun q => absurd rfl q⟩
          · rw [R] at h; exact absurd h (by simp)
          · rw [R] at h
            have h := Sum.inr.inj h
            subst h
            have el : (acc ++ [r.1]).length = n + 1 := by simp [hacc]
            exact ⟨rfl, by rw [el]; exact e34, fun m hm => (rows4 m (by omega)).1⟩
        · rw [if_neg z] at g1 g2
          by_cases s59 : T (p_tok T L r.2.2).1 = 59
          · rw [if_pos s59] at g1 g2
            refine ⟨fun q => absurd ⟨z, s59⟩ q, fun _ => ?_⟩
            first
              | (rw [if_pos rfl] at g1
                 exact ⟨fun _ => stop (g1 _ rfl) z, fun q => absurd (by omega) q⟩)
              | (rw [if_neg (by omega)] at g1 g2
                 have cc := p_room_cnt c1 c2 c3 rm
                 refine ⟨fun q => absurd q (by omega), fun _ => ih (n + 1) r.2.1 (p_tok T L r.2.2).2.1 (acc ++ [r.1]) u4 (by omega) (by simp [hacc]) fu4 y3 t8 e34 ?_ ?_ ?_ ?_ rows4 (fun s h => g1 s ?_) (fun cs h => ?_)⟩
                 · exact (hc2.fr f3 (fun c k q => by omega)).fr f4 (fun c k q => by unfold nT at q; omega)
                 · rw [ec]; exact cc.1
                 · rw [ec]; exact cc.2.1
                 · rw [ec]; exact cc.2.2
                 · rw [h]
                 · have := g2 (r.1 :: cs) (by rw [h])
                   rw [this, List.append_assoc]; rfl)
          · rw [if_neg s59] at g1
            exact ⟨fun _ => stop (g1 _ rfl) z, fun q => absurd q.2 s59⟩
  have f0 : ∀ (x1 x2 x3 x4 x5 : Int32), mFr iS9 w (mPI (mPI (mPI (mPI (mPI w 60 8 x1) 60 14 x2) 60 15 x3) 60 16 x4) 60 17 x5) := fun x1 x2 x3 x4 x5 => ((((mFr.pi (S := iS9) (Or.inl (by omega))).tr (mFr.pi (S := iS9) (Or.inl (by omega)))).tr (mFr.pi (S := iS9) (Or.inl (by omega)))).tr (mFr.pi (S := iS9) (Or.inl (by omega)))).tr (mFr.pi (S := iS9) (Or.inl (by omega)))
  refine loop 13 0 Y.1 0 [] _ (by omega) rfl (f0 _ _ _ _ _) (by omega) ?_ ?_ ⟨?_, ?_, mPI_at _ _ _ _⟩ hk.1 hk.2.1 hk.2.2.1 (fun m hm => absurd hm (by omega)) (fun s h => h) (fun cs h => h)
  · rw [mPI_col (by omega), mPI_col (by omega), mPI_col (by omega), mPI_col (by omega), mPI_at]; rfl
  · rw [mPI_col (by omega), mPI_col (by omega), mPI_col (by omega), mPI_at]; rfl
  · rw [mPI_col (by omega), mPI_col (by omega), mPI_at]
  · rw [mPI_col (by omega), mPI_at]
theorem iSm : ∀ c k, iS9 c k → mSc c k := fun c k q => by unfold iS9 at q; unfold mSc; omega
theorem fSx : ∀ c k, fS8 c k → xSc c k := fun c k q => by unfold fS8 at q; unfold xSc; omega
theorem m_fault (hz : zOK Z) (h : zM Z w) : mMi E MX9_fault [.ref 60] w (fun v u => v = r_fault Z ∧ mFr mSc w u) := by
  unfold mMi
  refine mM_start rfl (Nat.le_of_ble_eq_true rfl) rfl (fun X C F => vX9_fault_0 C F ?_)
  refine (k_X9_isRead hz.2.2.2.2.2.1.1 h.2.2.2.2.1 h.1 hz.1).mono ?_
  rintro v u ⟨f, a, b⟩
  unfold r_fault p_of
  cases hp : p_all Z.2.2.2.2.1.2 Z.2.2.2.2.1.1 14 Z.1.1 0 with
  | inl s =>
    obtain ⟨rfl, e⟩ := a s hp
    exact ⟨fun _ => ⟨_, rfl, e, f.mono iSm⟩, fun q => absurd rfl q⟩
  | inr cs =>
    obtain ⟨rfl, e⟩ := b cs hp
    exact ⟨fun q => absurd q (by decide), fun _ => ⟨_, rfl, rfl, f.mono iSm⟩⟩
theorem x_fault (hz : zOK Z) (h : zX Z w) : mMi E MX8_fault [.ref 0] w (fun v u => v = r_fault Z ∧ mFr xSc w u) := by
  unfold mMi
  refine mM_start rfl (Nat.le_of_ble_eq_true rfl) rfl (fun X C F => vX8_fault_0 C F ?_)
  refine (k_X5_firstFault hz.2.2.2.2.2.1.1 h.2.2.1 h.1.1 hz.1).mono ?_
  rintro v u ⟨f, a, b⟩
  unfold r_fault p_of
  cases hp : p_all Z.2.2.2.2.1.2 Z.2.2.2.2.1.1 14 Z.1.1 0 with
  | inl s => exact ⟨_, rfl, a s hp, f.mono fSx⟩
  | inr cs => exact ⟨_, rfl, (b cs hp).1, f.mono fSx⟩
end FA
