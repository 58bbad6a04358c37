/-! ===== BOTH SIDES: city ===== -/
def clOK (c : mC3) (cl : mCl) : Prop := p_room c cl.1 = true ∧ (∃ k : Nat, k < 9 ∧ cl.1 = nI k) ∧ cl.2.length = (p_max c cl.1).length ∧ ∀ j, j < cl.2.length → ∃ n : Nat, n < 100 ∧ cl.2.getD j 0 = nI n ∧ nI n ≤ (p_max c cl.1).getD j 0
def csOK : mC3 → List mCl → Prop
  | _, [] => True
  | c, cl :: r => clOK c cl ∧ csOK (p_cnt c cl.1) r
section PUR
variable {T : Nat → Int32} {L : Nat}
theorem p_ns_ok : ∀ (ms : List Int32) (i : Nat), i ≤ L → (∀ s, p_ns T L ms i = .inl s → s ≤ L) ∧ ∀ r, p_ns T L ms i = .inr r → r.2 ≤ L ∧ r.1.length = ms.length ∧ ∀ j, j < ms.length → ∃ n : Nat, n < 100 ∧ r.1.getD j 0 = nI n ∧ nI n ≤ ms.getD j 0 := by
  intro ms
  induction ms with
  | nil =>
    intro i hi
    refine ⟨fun s q => absurd q (by simp [p_ns]), fun r q => ?_⟩
    have q : Sum.inr ([], i) = Sum.inr r := q
    have q := Sum.inr.inj q
    subst q
    exact ⟨hi, rfl, fun j hj => absurd hj (by simp)⟩
  | cons m ms ih =>
    intro i hi
    obtain ⟨t1, t2, t3, -, -⟩ := p_tok_ok T hi
    rw [p_ns_c]
    by_cases z : p_num T (p_tok T L i) m = true
    · rw [if_pos z]
      obtain ⟨i1, i2⟩ := ih (p_tok T L i).2.1 t3
      have z2 : (p_tok T L i).2.2 = 2 ∧ (p_tok T L i).2.1 - (p_tok T L i).1 ≤ 2 := by
        apply Classical.byContradiction
        intro q
        rw [p_num_f q m] at z
        exact absurd z (by decide)
      rw [p_num_v z2] at z
      obtain ⟨n, hn, en⟩ := p_nb_tok hi z2
      rw [en] at z ⊢
      cases hp : p_ns T L ms (p_tok T L i).2.1 with
      | inl s =>
        refine ⟨fun s' q => ?_, fun r q => absurd q (by simp)⟩
        rw [← Sum.inl.inj q]; exact i1 s hp
      | inr r =>
        refine ⟨fun s' q => absurd q (by simp), fun r' q => ?_⟩
        have q := Sum.inr.inj q
        subst q
        obtain ⟨a1, a2, a3⟩ := i2 r hp
        refine ⟨a1, by simp [a2], fun j hj => ?_⟩
        cases j with
        | zero => exact ⟨n, hn, rfl, of_decide_eq_true z⟩
        | succ j => exact a3 j (by simp at hj; omega)
    · rw [if_neg z]
      refine ⟨fun s q => ?_, fun r q => absurd q (by simp)⟩
      rw [← Sum.inl.inj q]; omega
theorem p_cl_ok {c : mC3} {i : Nat} (hi : i ≤ L) : (∀ s, p_cl T L c i = .inl s → s ≤ L) ∧ ∀ r, p_cl T L c i = .inr r → r.2.2 ≤ L ∧ clOK c r.1 ∧ r.2.1 = p_cnt c r.1.1 := by
  obtain ⟨t1, t2, t3, -, -⟩ := p_tok_ok T hi
  refine ⟨fun s h => ?_, fun r h => ?_⟩
  · unfold p_cl at h
    by_cases z : p_wd T (p_tok T L i) = -1
    · rw [if_pos z] at h; rw [← Sum.inl.inj h]; omega
    · rw [if_neg z] at h
      by_cases z2 : p_room c (p_wd T (p_tok T L i)) = false
      · rw [if_pos z2] at h; rw [← Sum.inl.inj h]; omega
      · rw [if_neg z2] at h
        cases hn : p_ns T L (p_max c (p_wd T (p_tok T L i))) (p_tok T L i).2.1 with
        | inl s' => rw [hn] at h; rw [← Sum.inl.inj h]; exact (p_ns_ok _ _ t3).1 s' hn
        | inr q => rw [hn] at h; exact absurd h (by simp)
  · obtain ⟨a1, a2, a3, a4, q, a5, a6⟩ := p_cl_room h
    obtain ⟨b1, b2, b3⟩ := (p_ns_ok _ _ t3).2 _ a5
    refine ⟨by rw [a6]; exact b1, ⟨a1, ?_, b2, fun j hj => b3 j (by rw [← b2]; exact hj)⟩, a2⟩
    rw [a4]
    rw [a4] at a3
    exact (p_wd_in (T := T) (p_tok T L i)).resolve_left a3
theorem p_all_ok : ∀ (n : Nat) (c : mC3) (i : Nat), i ≤ L → (∀ s, p_all T L n c i = .inl s → s ≤ L) ∧ ∀ cs, p_all T L n c i = .inr cs → csOK c cs ∧ cs.length ≤ n := by
  intro n
  induction n with
  | zero =>
    intro c i hi
    refine ⟨fun s q => ?_, fun r q => absurd q (by simp [p_all])⟩
    have q : Sum.inl i = Sum.inl s := q
    rw [← Sum.inl.inj q]; exact hi
  | succ n ih =>
    intro c i hi
    obtain ⟨k1, k2⟩ := p_cl_ok (T := T) (c := c) hi
    rw [p_all_c]
    cases hc : p_cl T L c i with
    | inl s =>
      refine ⟨fun s' q => ?_, fun r q => absurd q (by simp)⟩
      rw [← Sum.inl.inj q]; exact k1 s hc
    | inr r =>
      obtain ⟨a1, a2, a3⟩ := k2 r hc
      obtain ⟨t1, t2, t3, -, -⟩ := p_tok_ok T a1
      dsimp only
      by_cases z : (p_tok T L r.2.2).2.2 = 0
      · rw [if_pos z]
        refine ⟨fun s' q => absurd q (by simp), fun cs q => ?_⟩
        rw [← Sum.inr.inj q]
        exact ⟨⟨a2, trivial⟩, by simp⟩
      · rw [if_neg z]
        by_cases s59 : T (p_tok T L r.2.2).1 = 59
        · rw [if_pos s59]
          by_cases n0 : n = 0
          · rw [if_pos n0]
            refine ⟨fun s' q => ?_, fun cs q => absurd q (by simp)⟩
            rw [← Sum.inl.inj q]; omega
          · rw [if_neg n0]
            obtain ⟨i1, i2⟩ := ih r.2.1 (p_tok T L r.2.2).2.1 t3
            cases hp : p_all T L n r.2.1 (p_tok T L r.2.2).2.1 with
            | inl s =>
              refine ⟨fun s' q => ?_, fun cs q => absurd q (by simp)⟩
              rw [← Sum.inl.inj q]; exact i1 s hp
            | inr cs =>
              refine ⟨fun s' q => absurd q (by simp), fun cs' q => ?_⟩
              rw [← Sum.inr.inj q]
              obtain ⟨j1, j2⟩ := i2 cs hp
              exact ⟨⟨a2, by rw [← a3]; exact j1⟩, by simp; omega⟩
        · rw [if_neg s59]
          refine ⟨fun s' q => ?_, fun cs q => absurd q (by simp)⟩
          rw [← Sum.inl.inj q]; omega
end PUR
def yOK (Y : mY) : Prop := cyOK Y ∧ ∀ f, f < Y.1.1 → q_01 (Y.2.1 f 2)
/-- the kinds of clauses -/
theorem cl_cases {c : mC3} {cl : mCl} (h : clOK c cl) : cl.1 = 0 ∨ cl.1 = 8 ∨ (cl.1 = 7 ∧ c.2.2 < 6) ∨ ((cl.1 = 1 ∨ cl.1 = 2) ∧ c.1 < 6) ∨ ((cl.1 = 3 ∨ cl.1 = 4 ∨ cl.1 = 5 ∨ cl.1 = 6) ∧ c.2.1 < 5) := by
  obtain ⟨r, ⟨k, hk, e⟩, -, -⟩ := h
  unfold p_room at r
  rw [e] at r ⊢
  match k, hk with
  | 0, _ => exact Or.inl rfl
  | 1, _ => exact Or.inr (Or.inr (Or.inr (Or.inl ⟨Or.inl rfl, of_decide_eq_true r⟩)))
  | 2, _ => exact Or.inr (Or.inr (Or.inr (Or.inl ⟨Or.inr rfl, of_decide_eq_true r⟩)))
  | 3, _ => exact Or.inr (Or.inr (Or.inr (Or.inr ⟨Or.inl rfl, of_decide_eq_true r⟩)))
  | 4, _ => exact Or.inr (Or.inr (Or.inr (Or.inr ⟨Or.inr (Or.inl rfl), of_decide_eq_true r⟩)))
  | 5, _ => exact Or.inr (Or.inr (Or.inr (Or.inr ⟨Or.inr (Or.inr (Or.inl rfl)), of_decide_eq_true r⟩)))
  | 6, _ => exact Or.inr (Or.inr (Or.inr (Or.inr ⟨Or.inr (Or.inr (Or.inr rfl)), of_decide_eq_true r⟩)))
  | 7, _ => exact Or.inr (Or.inr (Or.inl ⟨rfl, of_decide_eq_true r⟩))
  | 8, _ => exact Or.inr (Or.inl rfl)
theorem nb_lt {n m : Nat} (hn : n < 100) (hm : m < 100) (h : nI n ≤ nI m) : n ≤ m := (nI_leI (by omega) (by omega)).mp h
theorem nb_bit {n : Nat} (hn : n < 100) (h : nI n ≤ 1) : nI n = 0 ∨ nI n = 1 := q_01n (by have := nb_lt (m := 1) hn (by omega) h; omega)
theorem nb_fact {n c : Nat} (hn : n < 100) (hc : c ≤ 6) (h : nI n ≤ nI c - 1) : n < c := by
  have e := q_m1 hc (nI n)
  apply Classical.byContradiction
  intro q
  exact Int32.not_lt.mpr h (e.mpr (nI_le (by omega) (by omega)))
theorem y_add_cnt (Y : mY) {cl : mCl} (h : clOK Y.1 cl) : (y_add Y cl).1 = p_cnt Y.1 cl.1 := by
  unfold y_add p_cnt
  rcases cl_cases h with e | e | ⟨e, -⟩ | ⟨e | e, -⟩ | ⟨e | e | e | e, -⟩ <;> (rw [e]; rfl)
/-- a deed's numbers -/
theorem cl_deed {Y : mY} (hc : Y.1.1 ≤ 6) {cl : mCl} (h : clOK Y.1 cl) (hk : cl.1 = 3 ∨ cl.1 = 4 ∨ cl.1 = 5 ∨ cl.1 = 6 ∨ cl.1 = 7) : 4 ≤ cl.2.length ∧ q_lt (cl.2.getD 0 0) Y.1.1 ∧ q_01 (cl.2.getD 1 0) ∧ q_lt (cl.2.getD 2 0) Y.1.1 ∧ q_01 (cl.2.getD 3 0) ∧ (cl.1 = 5 → 5 ≤ cl.2.length ∧ q_lt (cl.2.getD 4 0) 4) := by
  obtain ⟨-, -, hl, hv⟩ := h
  have mx : ∃ tl : List Int32, p_max Y.1 cl.1 = (nI Y.1.1 - 1) :: 1 :: (nI Y.1.1 - 1) :: 1 :: tl ∧ (cl.1 = 5 → tl = [3]) := by
    rcases hk with e | e | e | e | e
    · exact ⟨[], by rw [e]; rfl, fun q => absurd (e.symm.trans q) (by decide)⟩
    · exact ⟨[], by rw [e]; rfl, fun q => absurd (e.symm.trans q) (by decide)⟩
    · exact ⟨[3], by rw [e]; rfl, fun _ => rfl⟩
    · exact ⟨[], by rw [e]; rfl, fun q => absurd (e.symm.trans q) (by decide)⟩
    · exact ⟨[], by rw [e]; rfl, fun q => absurd (e.symm.trans q) (by decide)⟩
  obtain ⟨tl, mx, m5⟩ := mx
  rw [mx] at hl hv
  have l4 : 4 ≤ cl.2.length := by rw [hl]; simp
  obtain ⟨n0, b0, e0, h0⟩ := hv 0 (by omega)
  obtain ⟨n1, b1, e1, h1⟩ := hv 1 (by omega)
  obtain ⟨n2, b2, e2, h2⟩ := hv 2 (by omega)
  obtain ⟨n3, b3, e3, h3⟩ := hv 3 (by omega)
  refine ⟨l4, ⟨n0, nb_fact b0 hc h0, e0⟩, ?_, ⟨n2, nb_fact b2 hc h2, e2⟩, ?_, fun q => ?_⟩
  · rw [e1]; exact nb_bit b1 h1
  · rw [e3]; exact nb_bit b3 h3
  · have tl3 := m5 q
    subst tl3
    have l5 : cl.2.length = 5 := by rw [hl]; rfl
    obtain ⟨n4, b4, e4, h4⟩ := hv 4 (by omega)
    exact ⟨by omega, n4, by have := nb_lt (m := 3) b4 (by omega) h4; omega, e4⟩
theorem cl_fact {Y : mY} {cl : mCl} (h : clOK Y.1 cl) (hk : cl.1 = 1 ∨ cl.1 = 2) : cl.2.length = 2 ∧ q_lt (cl.2.getD 0 0) 41 ∧ q_01 (cl.2.getD 1 0) := by
  obtain ⟨-, -, hl, hv⟩ := h
  have mx : p_max Y.1 cl.1 = [40, 1] := by rcases hk with e | e <;> (rw [e]; rfl)
  rw [mx] at hl hv
  have l2 : cl.2.length = 2 := hl
  obtain ⟨n0, b0, e0, h0⟩ := hv 0 (by omega)
  obtain ⟨n1, b1, e1, h1⟩ := hv 1 (by omega)
  exact ⟨l2, ⟨n0, by have := nb_lt (m := 40) b0 (by omega) h0; omega, e0⟩, by rw [e1]; exact nb_bit b1 h1⟩
theorem y_add_0 (Y : mY) {cl : mCl} (e : cl.1 = 0) : y_add Y cl = ((0, 0, 0), Y.2) := by unfold y_add; rw [if_pos e]
theorem y_add_8 (Y : mY) {cl : mCl} (e : cl.1 = 8) : y_add Y cl = ((Y.1.1, Y.1.2.1, 0), Y.2) := by unfold y_add; rw [if_neg (by rw [e]; decide), if_pos e]
theorem y_add_7 (Y : mY) {cl : mCl} (e : cl.1 = 7) : y_add Y cl = ((Y.1.1, Y.1.2.1, Y.1.2.2 + 1), Y.2.1, Y.2.2.1, y_put Y.2.2.2 Y.1.2.2 (fun k => cl.2.getD k 0)) := by unfold y_add; rw [if_neg (by rw [e]; decide), if_neg (by rw [e]; decide), if_pos e]
theorem y_add_f (Y : mY) {cl : mCl} (e : cl.1 = 1 ∨ cl.1 = 2) : y_add Y cl = ((Y.1.1 + 1, Y.1.2.1, Y.1.2.2), y_put Y.2.1 Y.1.1 (fun k => if k = 0 then cl.1 - 1 else cl.2.getD (k - 1) 0), Y.2.2.1, Y.2.2.2) := by
  unfold y_add
  have n0 : ¬ cl.1 = 0 := by rcases e with e | e <;> (rw [e]; decide)
  have n8 : ¬ cl.1 = 8 := by rcases e with e | e <;> (rw [e]; decide)
  have n7 : ¬ cl.1 = 7 := by rcases e with e | e <;> (rw [e]; decide)
  rw [if_neg n0, if_neg n8, if_neg n7, if_pos e]
theorem y_add_p (Y : mY) {cl : mCl} (e : cl.1 = 3 ∨ cl.1 = 4 ∨ cl.1 = 5 ∨ cl.1 = 6) : y_add Y cl = ((Y.1.1, Y.1.2.1 + 1, Y.1.2.2), Y.2.1, y_put Y.2.2.1 Y.1.2.1 (fun k => if k = 0 then cl.1 - 3 else if k = 5 then (if cl.1 = 5 then cl.2.getD 4 0 else 0) else cl.2.getD (k - 1) 0), Y.2.2.2) := by
  unfold y_add
  have n0 : ¬ cl.1 = 0 := by rcases e with e | e | e | e <;> (rw [e]; decide)
  have n8 : ¬ cl.1 = 8 := by rcases e with e | e | e | e <;> (rw [e]; decide)
  have n7 : ¬ cl.1 = 7 := by rcases e with e | e | e | e <;> (rw [e]; decide)
  have nf : ¬ (cl.1 = 1 ∨ cl.1 = 2) := by rcases e with e | e | e | e <;> (rw [e]; decide)
  rw [if_neg n0, if_neg n8, if_neg n7, if_neg nf]
theorem q_lt_up {x : Int32} {n m : Nat} (h : q_lt x n) (hm : n ≤ m) : q_lt x m := by
  obtain ⟨j, hj, e⟩ := h
  exact ⟨j, by omega, e⟩
theorem y_add_ok {Y : mY} (hY : yOK Y) {cl : mCl} (h : clOK Y.1 cl) : yOK (y_add Y cl) := by
  obtain ⟨⟨a1, a2, a3, a4, a5, a6⟩, a7⟩ := hY
  rcases cl_cases h with e | e | ⟨e, l⟩ | ⟨e, l⟩ | ⟨e, l⟩
  · rw [y_add_0 Y e]
    exact ⟨⟨Nat.zero_le _, Nat.zero_le _, Nat.zero_le _, fun f hf => absurd hf (Nat.not_lt_zero _), fun f hf => absurd hf (Nat.not_lt_zero _), fun f hf => absurd hf (Nat.not_lt_zero _)⟩, fun f hf => absurd hf (Nat.not_lt_zero _)⟩
  · rw [y_add_8 Y e]
    exact ⟨⟨a1, a2, Nat.zero_le _, a4, a5, fun f hf => absurd hf (Nat.not_lt_zero _)⟩, a7⟩
  · obtain ⟨d0, d1, d2, d3, d4, -⟩ := cl_deed a1 h (Or.inr (Or.inr (Or.inr (Or.inr e))))
    rw [y_add_7 Y e]
    refine ⟨⟨a1, a2, l, a4, a5, fun f hf => ?_⟩, a7⟩
    have hf : f < Y.1.2.2 + 1 := hf
    dsimp only [y_put]
    by_cases z : f = Y.1.2.2
    · rw [if_pos z, if_pos z, if_pos z, if_pos z]; exact ⟨d1, d2, d3, d4⟩
    · rw [if_neg z, if_neg z, if_neg z, if_neg z]; exact a6 f (by omega)
  · obtain ⟨d0, d1, d2⟩ := cl_fact h e
    rw [y_add_f Y e]
    refine ⟨⟨l, a2, a3, fun f hf => ?_, fun p hp => ?_, fun c hc => ?_⟩, fun f hf => ?_⟩
    · have hf : f < Y.1.1 + 1 := hf
      dsimp only [y_put]
      by_cases z : f = Y.1.1
      · rw [if_pos z, if_pos z, if_pos rfl, if_neg (by omega)]
        exact ⟨by rcases e with e | e <;> (rw [e]; first | exact Or.inl rfl | exact Or.inr rfl), d1⟩
      · rw [if_neg z, if_neg z]; exact a4 f (by omega)
    · obtain ⟨b1, b2, b3, b4, b5, b6⟩ := a5 p hp
      exact ⟨b1, q_lt_up b2 (Nat.le_succ _), b3, q_lt_up b4 (Nat.le_succ _), b5, b6⟩
    · obtain ⟨b1, b2, b3, b4⟩ := a6 c hc
      exact ⟨q_lt_up b1 (Nat.le_succ _), b2, q_lt_up b3 (Nat.le_succ _), b4⟩
    · have hf : f < Y.1.1 + 1 := hf
      dsimp only [y_put]
      by_cases z : f = Y.1.1
      · rw [if_pos z, if_neg (by omega)]; exact d2
      · rw [if_neg z]; exact a7 f (by omega)
  · obtain ⟨d0, d1, d2, d3, d4, d5⟩ := cl_deed a1 h (e.elim Or.inl (fun e => Or.inr (e.elim Or.inl (fun e => Or.inr (e.elim Or.inl (fun e => Or.inr (Or.inl e)))))))
    rw [y_add_p Y e]
    refine ⟨⟨a1, l, a3, a4, fun p hp => ?_, a6⟩, a7⟩
    have hp : p < Y.1.2.1 + 1 := hp
    dsimp only [y_put]
    by_cases z : p = Y.1.2.1
    · simp only [if_pos z]
      refine ⟨?_, d1, d2, d3, d4, ?_⟩
      · show q_lt (cl.1 - 3) 4
        rcases e with e | e | e | e
        · exact ⟨0, by omega, by rw [e]; rfl⟩
        · exact ⟨1, by omega, by rw [e]; rfl⟩
        · exact ⟨2, by omega, by rw [e]; rfl⟩
        · exact ⟨3, by omega, by rw [e]; rfl⟩
      · show q_lt (if cl.1 = 5 then cl.2.getD 4 0 else 0) 4
        by_cases k5 : cl.1 = 5
        · rw [if_pos k5]; exact (d5 k5).2
        · rw [if_neg k5]; exact ⟨0, by omega, rfl⟩
    · simp only [if_neg z]
      exact a5 p (by omega)
theorem y_all_ok : ∀ (cs : List mCl) {Y : mY}, yOK Y → csOK Y.1 cs → yOK (y_all Y cs) := by
  intro cs
  induction cs with
  | nil => intro Y h _; exact h
  | cons cl r ih =>
    intro Y h hc
    exact ih (Y := y_add Y cl) (y_add_ok h hc.1) (by rw [y_add_cnt Y hc.1]; exact hc.2)
