/-! ===== BOTH SIDES AT ONCE ===== -/
def zI (Z : mZ) (w : mW) : Prop := zOK Z ∧ zX Z w ∧ zM Z w
section ST
variable {E : mEnv} {w : mW} {Z : mZ}
theorem st_q {D1 D2 : mD} {as1 as2 : List Value} {R : Int32} (hI : zI Z w) (hx : mMi E D1 as1 w (fun v u => v = R ∧ mFr xSc w u)) (hm : ∀ u, zM Z u → mMi E D2 as2 u (fun v u' => v = R ∧ mFr mSc u u')) : mMi E D1 as1 w (fun v u => mMi E D2 as2 u (fun v' u' => v = v' ∧ ∃ Z', zI Z' u')) := by
  obtain ⟨h1, h2, h3⟩ := hI
  refine hx.mono ?_
  rintro v u ⟨rfl, f⟩
  have x2 := h2.fr h1 f (fun c k q => Or.inl q)
  have m2 := h3.fr f (fun c k q => Or.inr (xSc60 c k q))
  refine (hm u m2).mono ?_
  rintro v' u' ⟨rfl, f'⟩
  exact ⟨rfl, Z, h1, x2.fr h1 f' (fun c k q => Or.inr (mSc60 c k q)), m2.fr f' (fun c k q => Or.inl q)⟩
theorem st_o {D1 D2 : mD} {as1 as2 : List Value} {O : Int32 × mZ} (hI : zI Z w) (hO : zOK O.2) (hx : mMi E D1 as1 w (fun v u => v = O.1 ∧ zX O.2 u ∧ mFr s60b w u)) (hm : ∀ u, zM Z u → mMi E D2 as2 u (fun v u' => v = O.1 ∧ zM O.2 u' ∧ mFr s60w u u')) : mMi E D1 as1 w (fun v u => mMi E D2 as2 u (fun v' u' => v = v' ∧ ∃ Z', zI Z' u')) := by
  obtain ⟨h1, h2, h3⟩ := hI
  refine hx.mono ?_
  rintro v u ⟨rfl, x2, f⟩
  have m2 := h3.fr f (fun c k q => Or.inr q)
  refine (hm u m2).mono ?_
  rintro v' u' ⟨rfl, m3, f'⟩
  exact ⟨rfl, O.2, hO, x2.fr hO f' (fun c k q => Or.inr q), m3⟩
theorem ok_write (h : zOK Z) (l : Int32) : zOK (o_write Z l).2 := by
  unfold o_write
  split
  · exact h
  · rename_i h1
    split
    · exact h
    · rename_i h2
      have h1 := Classical.not_not.mp h1
      obtain ⟨a1, a2, a3, a4, a5, ⟨a6, a7⟩, a8⟩ := h
      refine ⟨a1, a2, a3, a4, a5, ⟨?_, fun i hi => ?_⟩, a8⟩
      · show Z.2.2.2.2.1.1 + 1 ≤ 160
        omega
      · have hi : i < Z.2.2.2.2.1.1 + 1 := hi
        show q_lt (if i = Z.2.2.2.2.1.1 then l else Z.2.2.2.2.1.2 i) 256
        by_cases e : i = Z.2.2.2.2.1.1
        · rw [if_pos e]
          obtain ⟨j, hj, rfl⟩ := i_in (m := 255) (by omega) h1
          exact ⟨j, by omega, rfl⟩
        · rw [if_neg e]; exact a7 i (by omega)
theorem ok_erase (h : zOK Z) : zOK (o_erase Z).2 := by
  obtain ⟨a1, a2, a3, a4, a5, -, a8⟩ := h
  exact ⟨a1, a2, a3, a4, a5, ⟨Nat.zero_le _, fun i hi => absurd hi (Nat.not_lt_zero _)⟩, a8⟩
theorem ok_note (h : zOK Z) {x : mT} (hx : tOK x) : zOK (zNow (zNote Z) x) := by
  obtain ⟨a1, a2, a3, ⟨a4, a5⟩, a6, a7, a8⟩ := h
  refine ⟨a1, a2, hx, ⟨?_, fun i hi => ?_⟩, a6, a7, a8⟩
  · show min (Z.2.2.1.1 + 1) 8 ≤ 8
    omega
  · have hi : i < min (Z.2.2.1.1 + 1) 8 := hi
    show tOK (if i = 0 then Z.2.1 else Z.2.2.1.2 (i - 1))
    by_cases e : i = 0
    · rw [if_pos e]; exact a3
    · rw [if_neg e]; exact a5 (i - 1) (by omega)
theorem ok_say (h : zOK Z) (set k f b g c : Int32) : zOK (o_say Z set k f b g c).2 := by
  unfold o_say
  split
  · exact h
  · split
    · exact h
    · rename_i h2
      split
      · exact h
      · obtain ⟨m, e, hok, hv⟩ := bar_ok h.1.1 (Classical.not_not.mp h2)
        refine ok_note h ⟨h.2.2.1.1, h.2.2.1.2.1, ?_⟩
        show q_ok (q_Ms Z.1 (q_Sx k f b g c) Z.2.1.2.2 set Z.1.1.2.1)
        rw [← e]
        exact (q_Ms_ok h.2.2.1.2.2 hok set _ h.1.2.1).1
theorem ok_night (h : zOK Z) : zOK (o_night Z).2 := by
  unfold o_night
  split
  · exact h
  · rename_i h1
    obtain ⟨n, hn, en⟩ := h.2.2.1.2.1
    refine ok_note h ⟨q_6b_dawn h.1 _ h.2.2.1.1, ⟨n + 1, ?_, ?_⟩, h.2.2.1.2.2⟩
    · rw [en, show (999 : Int32) = nI 999 from rfl, nI_eq (by omega) (by omega)] at h1; omega
    · show Z.2.1.2.1 + 1 = nI (n + 1)
      rw [en, nI_1]
theorem ok_undo (h : zOK Z) : zOK (o_undo Z).2 := by
  unfold o_undo
  split
  · exact h
  · obtain ⟨a1, a2, a3, ⟨a4, a5⟩, a6, a7, a8⟩ := h
    refine ⟨a1, a2, a5 0 (by omega), ⟨?_, fun i hi => ?_⟩, a6, a7, a8⟩
    · show Z.2.2.1.1 - 1 ≤ 8
      omega
    · have hi : i < Z.2.2.1.1 - 1 := hi
      exact a5 (i + 1) (by omega)
theorem ok_keep (h : zOK Z) (k : Int32) : zOK (o_keep Z k).2 := by
  unfold o_keep
  split
  · exact h
  · obtain ⟨a1, a2, a3, a4, a6, a7, a8⟩ := h
    refine ⟨a1, a2, a3, a4, fun i x hi hx => ?_, a7, a8⟩
    have hx : (if nI i = k then some Z.2.1 else Z.2.2.2.1 i) = some x := hx
    split at hx
    · rw [← Option.some.inj hx]; exact a3
    · exact a6 i x hi hx
theorem ok_back (h : zOK Z) (k : Int32) : zOK (o_back Z k).2 := by
  unfold o_back
  split
  · exact h
  · rename_i h1
    obtain ⟨a, ha, rfl⟩ := i_bit_of (Classical.not_not.mp h1)
    rw [nI_clamp (by omega)]
    cases ek : Z.2.2.2.1 a with
    | none => exact h
    | some y =>
      obtain ⟨a1, a2, a3, a4, a6, a7, a8⟩ := h
      exact ⟨a1, a2, a6 a y ha ek, ⟨Nat.zero_le _, fun i hi => absurd hi (Nat.not_lt_zero _)⟩, a6, a7, a8⟩
theorem ok_bet (h : zOK Z) (f price : Int32) : zOK (o_bet Z f price).2 := by
  unfold o_bet
  split
  · exact h
  · rename_i h1
    split
    · exact h
    · rename_i h2
      split
      · exact h
      · rename_i h3
        obtain ⟨a1, a2, a3, a4, a6, a7, ⟨a8, a9⟩⟩ := h
        refine ⟨a1, a2, a3, a4, a6, a7, ?_, fun i hi => ?_⟩
        · show Z.2.2.2.2.2.1 + 1 ≤ 5
          omega
        · have hi : i < Z.2.2.2.2.2.1 + 1 := hi
          show q_lt (if i = Z.2.2.2.2.2.1 then f else Z.2.2.2.2.2.2.1 i) 6 ∧ q_lt (if i = Z.2.2.2.2.2.1 then price else Z.2.2.2.2.2.2.2 i) 100
          by_cases e : i = Z.2.2.2.2.2.1
          · rw [if_pos e, if_pos e]
            obtain ⟨j, hj, rfl⟩ := i_fact_of a1 (Classical.not_not.mp h1)
            obtain ⟨q, hq, rfl⟩ := i_in (m := 99) (by omega) (Classical.not_not.mp h2)
            have := a1.1
            exact ⟨⟨j, by omega, rfl⟩, ⟨q, by omega, rfl⟩⟩
          · rw [if_neg e, if_neg e]; exact a9 i (by omega)
theorem ok_call (h : zOK Z) : zOK (o_call Z).2 := by
  obtain ⟨a1, a2, a3, a4, a6, a7, a8⟩ := h
  exact ⟨a1, a2, a3, a4, a6, a7, ⟨Nat.zero_le _, fun i hi => absurd hi (Nat.not_lt_zero _)⟩⟩
theorem q_6b_told {Y : mY} (h : Y.1.1 ≤ 6) : q_6b (y_told Y) := fun j h1 h2 => by
  unfold y_told
  rw [q_g_ds _ _ (by omega) j h2, decide_eq_false (by omega), Bool.false_and]
theorem ok_city (h : zOK Z) : zOK (o_city Z).2 := by
  have pok := p_all_ok (T := Z.2.2.2.2.1.2) (L := Z.2.2.2.2.1.1) 14 Z.1.1 0 (by omega)
  unfold o_city p_of
  cases hp : p_all Z.2.2.2.2.1.2 Z.2.2.2.2.1.1 14 Z.1.1 0 with
  | inl s => exact h
  | inr cs =>
    have hy := y_all_ok cs (Y := Z.1) ⟨h.1, h.2.1⟩ (pok.2 cs hp).1
    exact ⟨hy.1, hy.2, ⟨q_6b_told hy.1.1, ⟨0, Nat.zero_le _, rfl⟩, q_ok_0⟩, ⟨Nat.zero_le _, fun i hi => absurd hi (Nat.not_lt_zero _)⟩, fun k x hk hx => absurd hx (by simp), ⟨Nat.zero_le _, fun i hi => absurd hi (Nat.not_lt_zero _)⟩, ⟨Nat.zero_le _, fun i hi => absurd hi (Nat.not_lt_zero _)⟩⟩
end ST
