/-! ===== THE CLASS'S CELLS BEHIND ITS CONSTRUCTOR, in the fixed shape ===== -/
def n0 : mW := (fun _ _ => 0, fun _ _ => 0)
def b60 (V : nV) (a0 : Nat) (ws : va_W) : Prop := ∃ ad0 : Nat → Nat, ws.length = 60 ∧ ad0 0 = a0 ∧ ∀ (i : Nat) (c : mCell), i < 60 → mSh[i]? = some c → ∃ e, ws[i]? = some (ad0 i, e) ∧ nEqv e (mE (ad0, V.1, V.2) n0 i c)
/-- the cells that a cell names -/
def nRef (N : Nat) (c : mCell) : Bool := match c with
  | .inl (_, _, rs) => rs.all (fun r => decide (r < N))
  | .inr (_, fs) => fs.all (fun f => decide (f.1 < 2) || decide (f.2 < N))
theorem nRef60 : ∀ (i : Nat) (c : mCell), i < 60 → mSh[i]? = some c → nRef 60 c = true := by
  intro i c hi hc
  have h : (mSh.take 60).all (nRef 60) = true := by decide +kernel
  refine List.all_eq_true.mp h c (List.mem_of_getElem? (i := i) ?_)
  rw [List.getElem?_take, if_pos hi, hc]
theorem mE_ad {ad ad0 : Nat → Nat} {G : va_G} {S : Nat → ClassId} {w : mW} {i N : Nat} {c : mCell} (h : nRef N c = true) (he : ∀ j, j < N → ad j = ad0 j) : mE (ad, G, S) w i c = mE (ad0, G, S) w i c := by
  rcases c with ⟨t, n, rs⟩ | ⟨ci, fs⟩
  · have hr : ∀ j : Nat, (rs[j]?).map ad = (rs[j]?).map ad0 := by
      intro j
      cases hj : rs[j]? with
      | none => rfl
      | some r =>
        have := List.all_eq_true.mp h r (List.mem_of_getElem? hj)
        show some (ad r) = some (ad0 r)
        rw [he r (of_decide_eq_true this)]
    match t with
    | 0 => rfl
    | 1 => rfl
    | 2 => rfl
    | t + 3 =>
      show (Sum.inl (S 3, n, .inr (.inr (.inr (.inr (fun j => (rs[j]?).map ad))))) : va_E) = Sum.inl (S 3, n, .inr (.inr (.inr (.inr (fun j => (rs[j]?).map ad0)))))
      rw [funext hr]
  · show (Sum.inr (ci, mFs ad w i fs) : va_E) = Sum.inr (ci, mFs ad0 w i fs)
    have : mFs ad w i fs = mFs ad0 w i fs := by
      apply List.ext_getElem?
      intro j
      cases hj : fs[j]? with
      | none =>
        have hl : fs.length ≤ j := List.getElem?_eq_none_iff.mp hj
        rw [List.getElem?_eq_none_iff.mpr (by rw [mFs_len]; exact hl), List.getElem?_eq_none_iff.mpr (by rw [mFs_len]; exact hl)]
      | some f =>
        rw [mFs_get hj, mFs_get hj]
        have h1 := List.all_eq_true.mp h f (List.mem_of_getElem? hj)
        obtain ⟨t, r⟩ := f
        match t with
        | 0 => rfl
        | 1 => rfl
        | t + 2 =>
          show some (Value.ref (ad r)) = some (Value.ref (ad0 r))
          have h2 : r < N := by
            rcases Bool.or_eq_true_iff.mp h1 with q | q
            · have := of_decide_eq_true q
              exact absurd this (by show ¬ t + 2 < 2; omega)
            · exact of_decide_eq_true q
          rw [he r h2]
    rw [this]
set_option maxRecDepth 20000 in
set_option maxHeartbeats 4000000 in
theorem bX8_60 {V : nV} {b : Nat} {ws : va_W} (h : bX8 V b ws) : b60 V b ws := by
  obtain ⟨o1, o2, o3, o4, o5, o6, o7, w1, w2, w3, w4, w5, w7, w7s, ⟨x1, x2, x3, rfl⟩, ⟨y1, y2, rfl⟩, ⟨z1, z2, z3, rfl⟩, ⟨u1, u2, rfl⟩, ⟨s1, s2, s3, s4, s5, wA, rfl, rfl⟩, ⟨t1, t2, t3, t4, t5, wB, rfl, rfl⟩, ⟨v1, rfl⟩, rfl⟩ := h
  refine ⟨fun i => ([b, o1, x1, x1 + 1 + 0, x1 + 1 + 1, x1 + 1 + 2, x1 + 1 + 3, x1 + 1 + 4, x1 + 1 + 5, x2, x2 + 1 + 0, x2 + 1 + 1, x2 + 1 + 2, x2 + 1 + 3, x2 + 1 + 4, x3, x3 + 1 + 0, x3 + 1 + 1, x3 + 1 + 2, x3 + 1 + 3, x3 + 1 + 4, x3 + 1 + 5, o2, y1, y2, y2 + 1 + 0, y2 + 1 + 1, y2 + 1 + 2, y2 + 1 + 3, y2 + 1 + 4, y2 + 1 + 5, y2 + 1 + 6, y2 + 1 + 7, y2 + 1 + 8, y2 + 1 + 9, y2 + 1 + 10, y2 + 1 + 11, y2 + 1 + 12, y2 + 1 + 13, o3, z1, z2, z3, o4, u1, u2, o5, s1, s2, s3, s4, s5, o7, t1, t2, t3, t4, t5, o6, v1] : List Nat).getD i 0, rfl, rfl, ?_⟩
  intro i c hi hc
  match i, hi, hc with
  | 0, _, hc =>
    obtain rfl := Option.some.inj (hc.symm.trans sh0)
    exact ⟨_, rfl, Or.inl rfl⟩
  | 1, _, hc =>
    obtain rfl := Option.some.inj (hc.symm.trans sh1)
    exact ⟨_, rfl, Or.inl rfl⟩
  | 2, _, hc =>
    obtain rfl := Option.some.inj (hc.symm.trans sh2)
    refine ⟨_, rfl, Or.inr ⟨_, _, _, _, rfl, rfl, fun j hj => ?_⟩⟩
    match j, hj with
    | 0, _ => rfl
    | 1, _ => rfl
    | 2, _ => rfl
    | 3, _ => rfl
    | 4, _ => rfl
    | 5, _ => rfl
    | j + 6, h => omega
  | 3, _, hc =>
    obtain rfl := Option.some.inj (hc.symm.trans sh3)
    exact ⟨_, rfl, Or.inl rfl⟩
  | 4, _, hc =>
    obtain rfl := Option.some.inj (hc.symm.trans sh4)
    exact ⟨_, rfl, Or.inl rfl⟩
  | 5, _, hc =>
    obtain rfl := Option.some.inj (hc.symm.trans sh5)
    exact ⟨_, rfl, Or.inl rfl⟩
  | 6, _, hc =>
    obtain rfl := Option.some.inj (hc.symm.trans sh6)
    exact ⟨_, rfl, Or.inl rfl⟩
  | 7, _, hc =>
    obtain rfl := Option.some.inj (hc.symm.trans sh7)
    exact ⟨_, rfl, Or.inl rfl⟩
  | 8, _, hc =>
    obtain rfl := Option.some.inj (hc.symm.trans sh8)
    exact ⟨_, rfl, Or.inl rfl⟩
  | 9, _, hc =>
    obtain rfl := Option.some.inj (hc.symm.trans sh9)
    refine ⟨_, rfl, Or.inr ⟨_, _, _, _, rfl, rfl, fun j hj => ?_⟩⟩
    match j, hj with
    | 0, _ => rfl
    | 1, _ => rfl
    | 2, _ => rfl
    | 3, _ => rfl
    | 4, _ => rfl
    | j + 5, h => omega
  | 10, _, hc =>
    obtain rfl := Option.some.inj (hc.symm.trans sh10)
    exact ⟨_, rfl, Or.inl rfl⟩
  | 11, _, hc =>
    obtain rfl := Option.some.inj (hc.symm.trans sh11)
    exact ⟨_, rfl, Or.inl rfl⟩
  | 12, _, hc =>
    obtain rfl := Option.some.inj (hc.symm.trans sh12)
    exact ⟨_, rfl, Or.inl rfl⟩
  | 13, _, hc =>
    obtain rfl := Option.some.inj (hc.symm.trans sh13)
    exact ⟨_, rfl, Or.inl rfl⟩
  | 14, _, hc =>
    obtain rfl := Option.some.inj (hc.symm.trans sh14)
    exact ⟨_, rfl, Or.inl rfl⟩
  | 15, _, hc =>
    obtain rfl := Option.some.inj (hc.symm.trans sh15)
    refine ⟨_, rfl, Or.inr ⟨_, _, _, _, rfl, rfl, fun j hj => ?_⟩⟩
    match j, hj with
    | 0, _ => rfl
    | 1, _ => rfl
    | 2, _ => rfl
    | 3, _ => rfl
    | 4, _ => rfl
    | 5, _ => rfl
    | j + 6, h => omega
  | 16, _, hc =>
    obtain rfl := Option.some.inj (hc.symm.trans sh16)
    exact ⟨_, rfl, Or.inl rfl⟩
  | 17, _, hc =>
    obtain rfl := Option.some.inj (hc.symm.trans sh17)
    exact ⟨_, rfl, Or.inl rfl⟩
  | 18, _, hc =>
    obtain rfl := Option.some.inj (hc.symm.trans sh18)
    exact ⟨_, rfl, Or.inl rfl⟩
  | 19, _, hc =>
    obtain rfl := Option.some.inj (hc.symm.trans sh19)
    exact ⟨_, rfl, Or.inl rfl⟩
  | 20, _, hc =>
    obtain rfl := Option.some.inj (hc.symm.trans sh20)
    exact ⟨_, rfl, Or.inl rfl⟩
  | 21, _, hc =>
    obtain rfl := Option.some.inj (hc.symm.trans sh21)
    exact ⟨_, rfl, Or.inl rfl⟩
  | 22, _, hc =>
    obtain rfl := Option.some.inj (hc.symm.trans sh22)
    exact ⟨_, rfl, Or.inl rfl⟩
  | 23, _, hc =>
    obtain rfl := Option.some.inj (hc.symm.trans sh23)
    exact ⟨_, rfl, Or.inl rfl⟩
  | 24, _, hc =>
    obtain rfl := Option.some.inj (hc.symm.trans sh24)
    refine ⟨_, rfl, Or.inr ⟨_, _, _, _, rfl, rfl, fun j hj => ?_⟩⟩
    match j, hj with
    | 0, _ => rfl
    | 1, _ => rfl
    | 2, _ => rfl
    | 3, _ => rfl
    | 4, _ => rfl
    | 5, _ => rfl
    | 6, _ => rfl
    | 7, _ => rfl
    | 8, _ => rfl
    | 9, _ => rfl
    | 10, _ => rfl
    | 11, _ => rfl
    | 12, _ => rfl
    | 13, _ => rfl
    | j + 14, h => omega
  | 25, _, hc =>
    obtain rfl := Option.some.inj (hc.symm.trans sh25)
    exact ⟨_, rfl, Or.inl rfl⟩
  | 26, _, hc =>
    obtain rfl := Option.some.inj (hc.symm.trans sh26)
    exact ⟨_, rfl, Or.inl rfl⟩
  | 27, _, hc =>
    obtain rfl := Option.some.inj (hc.symm.trans sh27)
    exact ⟨_, rfl, Or.inl rfl⟩
  | 28, _, hc =>
    obtain rfl := Option.some.inj (hc.symm.trans sh28)
    exact ⟨_, rfl, Or.inl rfl⟩
  | 29, _, hc =>
    obtain rfl := Option.some.inj (hc.symm.trans sh29)
    exact ⟨_, rfl, Or.inl rfl⟩
  | 30, _, hc =>
    obtain rfl := Option.some.inj (hc.symm.trans sh30)
    exact ⟨_, rfl, Or.inl rfl⟩
  | 31, _, hc =>
    obtain rfl := Option.some.inj (hc.symm.trans sh31)
    exact ⟨_, rfl, Or.inl rfl⟩
  | 32, _, hc =>
    obtain rfl := Option.some.inj (hc.symm.trans sh32)
    exact ⟨_, rfl, Or.inl rfl⟩
  | 33, _, hc =>
    obtain rfl := Option.some.inj (hc.symm.trans sh33)
    exact ⟨_, rfl, Or.inl rfl⟩
  | 34, _, hc =>
    obtain rfl := Option.some.inj (hc.symm.trans sh34)
    exact ⟨_, rfl, Or.inl rfl⟩
  | 35, _, hc =>
    obtain rfl := Option.some.inj (hc.symm.trans sh35)
    exact ⟨_, rfl, Or.inl rfl⟩
  | 36, _, hc =>
    obtain rfl := Option.some.inj (hc.symm.trans sh36)
    exact ⟨_, rfl, Or.inl rfl⟩
  | 37, _, hc =>
    obtain rfl := Option.some.inj (hc.symm.trans sh37)
    exact ⟨_, rfl, Or.inl rfl⟩
  | 38, _, hc =>
    obtain rfl := Option.some.inj (hc.symm.trans sh38)
    exact ⟨_, rfl, Or.inl rfl⟩
  | 39, _, hc =>
    obtain rfl := Option.some.inj (hc.symm.trans sh39)
    exact ⟨_, rfl, Or.inl rfl⟩
  | 40, _, hc =>
    obtain rfl := Option.some.inj (hc.symm.trans sh40)
    exact ⟨_, rfl, Or.inl rfl⟩
  | 41, _, hc =>
    obtain rfl := Option.some.inj (hc.symm.trans sh41)
    exact ⟨_, rfl, Or.inl rfl⟩
  | 42, _, hc =>
    obtain rfl := Option.some.inj (hc.symm.trans sh42)
    exact ⟨_, rfl, Or.inl rfl⟩
  | 43, _, hc =>
    obtain rfl := Option.some.inj (hc.symm.trans sh43)
    exact ⟨_, rfl, Or.inl rfl⟩
  | 44, _, hc =>
    obtain rfl := Option.some.inj (hc.symm.trans sh44)
    exact ⟨_, rfl, Or.inl rfl⟩
  | 45, _, hc =>
    obtain rfl := Option.some.inj (hc.symm.trans sh45)
    exact ⟨_, rfl, Or.inl rfl⟩
  | 46, _, hc =>
    obtain rfl := Option.some.inj (hc.symm.trans sh46)
    exact ⟨_, rfl, Or.inl rfl⟩
  | 47, _, hc =>
    obtain rfl := Option.some.inj (hc.symm.trans sh47)
    exact ⟨_, rfl, Or.inl rfl⟩
  | 48, _, hc =>
    obtain rfl := Option.some.inj (hc.symm.trans sh48)
    exact ⟨_, rfl, Or.inl rfl⟩
  | 49, _, hc =>
    obtain rfl := Option.some.inj (hc.symm.trans sh49)
    exact ⟨_, rfl, Or.inl rfl⟩
  | 50, _, hc =>
    obtain rfl := Option.some.inj (hc.symm.trans sh50)
    exact ⟨_, rfl, Or.inl rfl⟩
  | 51, _, hc =>
    obtain rfl := Option.some.inj (hc.symm.trans sh51)
    exact ⟨_, rfl, Or.inl rfl⟩
  | 52, _, hc =>
    obtain rfl := Option.some.inj (hc.symm.trans sh52)
    exact ⟨_, rfl, Or.inl rfl⟩
  | 53, _, hc =>
    obtain rfl := Option.some.inj (hc.symm.trans sh53)
    exact ⟨_, rfl, Or.inl rfl⟩
  | 54, _, hc =>
    obtain rfl := Option.some.inj (hc.symm.trans sh54)
    exact ⟨_, rfl, Or.inl rfl⟩
  | 55, _, hc =>
    obtain rfl := Option.some.inj (hc.symm.trans sh55)
    exact ⟨_, rfl, Or.inl rfl⟩
  | 56, _, hc =>
    obtain rfl := Option.some.inj (hc.symm.trans sh56)
    exact ⟨_, rfl, Or.inl rfl⟩
  | 57, _, hc =>
    obtain rfl := Option.some.inj (hc.symm.trans sh57)
    exact ⟨_, rfl, Or.inl rfl⟩
  | 58, _, hc =>
    obtain rfl := Option.some.inj (hc.symm.trans sh58)
    exact ⟨_, rfl, Or.inl rfl⟩
  | 59, _, hc =>
    obtain rfl := Option.some.inj (hc.symm.trans sh59)
    exact ⟨_, rfl, Or.inl rfl⟩
  | i + 60, h, _ => omega
