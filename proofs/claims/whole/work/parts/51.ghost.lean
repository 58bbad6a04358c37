/-! ===== WHAT BOTH SIDES HOLD, in mathematical words ===== -/
/-- what is true, the day, what is believed -/
abbrev mT : Type := Int32 × Int32 × Int64
/-- the city; now; days that can be undone (newest first); kept; the text; the bets -/
abbrev mZ : Type := mY × mT × (Nat × (Nat → mT)) × (Nat → Option mT) × (Nat × (Nat → Int32)) × (Nat × (Nat → Int32) × (Nat → Int32))
def tOK (x : mT) : Prop := q_6b x.1 ∧ (∃ n : Nat, n ≤ 999 ∧ x.2.1 = nI n) ∧ q_ok x.2.2
def zOK (Z : mZ) : Prop := cyOK Z.1 ∧ (∀ f, f < Z.1.1.1 → q_01 (Z.1.2.1 f 2)) ∧ tOK Z.2.1 ∧ (Z.2.2.1.1 ≤ 8 ∧ ∀ i, i < Z.2.2.1.1 → tOK (Z.2.2.1.2 i)) ∧ (∀ k x, k < 2 → Z.2.2.2.1 k = some x → tOK x) ∧ (Z.2.2.2.2.1.1 ≤ 160 ∧ ∀ i, i < Z.2.2.2.2.1.1 → q_lt (Z.2.2.2.2.1.2 i) 256) ∧ betOK Z.1 Z.2.2.2.2.2.1 Z.2.2.2.2.2.2.1 Z.2.2.2.2.2.2.2
/-- the class's days -/
def dat (w : mW) (a : Nat) : mT := (w.1 40 a, w.1 42 a, w.2 41 a)
def dX (x : mT) (h : Nat × (Nat → mT)) (K : Nat → Option mT) (w : mW) : Prop := (w.1 39 0 = x.1 ∧ w.1 39 1 = x.2.1 ∧ w.2 39 3 = x.2.2) ∧ (w.1 39 2 = nI h.1 ∧ ∃ nn : Nat, nn < 8 ∧ w.1 39 5 = nI nn ∧ ∀ i, i < h.1 → dat w ((nn + 8 - i) % 8) = h.2 i) ∧ w.1 39 4 = q_ds (fun k => (K k).isSome) 2 ∧ ∀ k y, k < 2 → K k = some y → dat w (8 + k) = y
def sX (s : Nat × (Nat → Int32)) (w : mW) : Prop := w.1 22 1 = nI s.1 ∧ ∀ i, i < s.1 → w.1 23 i = s.2 i
def bX (b : Nat × (Nat → Int32) × (Nat → Int32)) (w : mW) : Prop := w.1 43 0 = nI b.1 ∧ ∀ i, i < b.1 → w.1 44 i = b.2.1 i ∧ w.1 45 i = b.2.2 i
def yX (Y : mY) (w : mW) : Prop := cyX Y w ∧ w.1 1 3 = q_ds (fun f => decide (Y.2.1 f 2 = 1)) Y.1.1
def zX (Z : mZ) (w : mW) : Prop := yX Z.1 w ∧ dX Z.2.1 Z.2.2.1 Z.2.2.2.1 w ∧ sX Z.2.2.2.2.1 w ∧ bX Z.2.2.2.2.2 w
/-- the reference's days -/
def snT (r : Nat → Int32) (x : mT) : Prop := snM r x.1 x.2.1 x.2.2
def hMo (h : Nat × (Nat → mT)) (w : mW) : Prop := w.1 60 26 = nI h.1 ∧ ∀ i, i < h.1 → snT (fun k => w.1 72 (32 * (h.1 - 1 - i) + k)) (h.2 i)
def kMo (K : Nat → Option mT) (w : mW) : Prop := ∀ k, k < 2 → w.1 71 k = q_b (K k).isSome ∧ ∀ y, K k = some y → snT (fun j => w.1 70 (32 * k + j)) y
def tMo (s : Nat × (Nat → Int32)) (w : mW) : Prop := w.1 60 6 = nI s.1 ∧ ∀ i, i < s.1 → w.1 64 i = s.2 i
def bMo (b : Nat × (Nat → Int32) × (Nat → Int32)) (w : mW) : Prop := w.1 60 28 = nI b.1 ∧ ∀ i, i < b.1 → w.1 73 (2 * i) = b.2.1 i ∧ w.1 73 (2 * i + 1) = b.2.2 i
def zM (Z : mZ) (w : mW) : Prop := cyM Z.1 w ∧ snT (w.1 66) Z.2.1 ∧ hMo Z.2.2.1 w ∧ kMo Z.2.2.2.1 w ∧ tMo Z.2.2.2.2.1 w ∧ bMo Z.2.2.2.2.2 w
/-! frames -/
theorem dX.fr {x h K} {w u : mW} {S : Nat → Nat → Prop} (a : dX x h K w) (f : mFr S w u) (hS : ∀ c k, S c k → c < 39 ∨ 42 < c) : dX x h K u := by
  have e : ∀ c k, 39 ≤ c → c ≤ 42 → u.1 c k = w.1 c k ∧ u.2 c k = w.2 c k := fun c k h1 h2 => f c k (fun q => by have := hS c k q; omega)
  have ed : ∀ a, dat u a = dat w a := fun a => by unfold dat; rw [(e 40 a (by omega) (by omega)).1, (e 42 a (by omega) (by omega)).1, (e 41 a (by omega) (by omega)).2]
  obtain ⟨⟨a1, a2, a3⟩, ⟨a4, nn, a5, a6, a7⟩, a8, a9⟩ := a
  exact ⟨⟨(e 39 0 (by omega) (by omega)).1.trans a1, (e 39 1 (by omega) (by omega)).1.trans a2, (e 39 3 (by omega) (by omega)).2.trans a3⟩, ⟨(e 39 2 (by omega) (by omega)).1.trans a4, nn, a5, (e 39 5 (by omega) (by omega)).1.trans a6, fun i hi => (ed _).trans (a7 i hi)⟩, (e 39 4 (by omega) (by omega)).1.trans a8, fun k y hk hy => (ed _).trans (a9 k y hk hy)⟩
theorem sX.fr {s} {w u : mW} {S : Nat → Nat → Prop} (a : sX s w) (f : mFr S w u) (hS : ∀ c k, S c k → ¬ c = 23 ∧ ¬ (c = 22 ∧ k = 1)) : sX s u :=
  ⟨(f 22 1 (fun q => (hS _ _ q).2 ⟨rfl, rfl⟩)).1.trans a.1, fun i hi => (f 23 i (fun q => (hS _ _ q).1 rfl)).1.trans (a.2 i hi)⟩
theorem bX.fr {b} {w u : mW} {S : Nat → Nat → Prop} (a : bX b w) (f : mFr S w u) (hS : ∀ c k, S c k → ¬ c = 44 ∧ ¬ c = 45 ∧ ¬ (c = 43 ∧ k = 0)) : bX b u :=
  ⟨(f 43 0 (fun q => (hS _ _ q).2.2 ⟨rfl, rfl⟩)).1.trans a.1, fun i hi => ⟨(f 44 i (fun q => (hS _ _ q).1 rfl)).1.trans (a.2 i hi).1, (f 45 i (fun q => (hS _ _ q).2.1 rfl)).1.trans (a.2 i hi).2⟩⟩
theorem yX.fr {Y : mY} {w u : mW} {S : Nat → Nat → Prop} (a : yX Y w) (hk : cyOK Y) (f : mFr S w u) (hS : ∀ c k, S c k → 22 ≤ c) : yX Y u :=
  ⟨a.1.fr hk f hS, (f 1 3 (fun q => by have := hS _ _ q; omega)).1.trans a.2⟩
theorem zX.fr {Z : mZ} {w u : mW} {S : Nat → Nat → Prop} (h : zX Z w) (hk : zOK Z) (f : mFr S w u) (hS : ∀ c k, S c k → xSc c k ∨ 60 ≤ c) : zX Z u := by
  obtain ⟨h1, h2, h3, h4⟩ := h
  refine ⟨h1.fr hk.1 f (fun c k q => ?_), h2.fr f (fun c k q => ?_), h3.fr f (fun c k q => ?_), h4.fr f (fun c k q => ?_)⟩ <;> (have := hS c k q; unfold xSc at this; omega)
theorem snT.fr {r s : Nat → Int32} {x : mT} (h : snT r x) (e : ∀ k, k < 32 → s k = r k) : snT s x := snM.fr h e
theorem hMo.fr {h} {w u : mW} {S : Nat → Nat → Prop} (a : hMo h w) (f : mFr S w u) (hS : ∀ c k, S c k → ¬ c = 72 ∧ ¬ (c = 60 ∧ k = 26)) : hMo h u :=
  ⟨(f 60 26 (fun q => (hS _ _ q).2 ⟨rfl, rfl⟩)).1.trans a.1, fun i hi => (a.2 i hi).fr (fun k _ => (f 72 _ (fun q => (hS _ _ q).1 rfl)).1)⟩
theorem kMo.fr {K} {w u : mW} {S : Nat → Nat → Prop} (a : kMo K w) (f : mFr S w u) (hS : ∀ c k, S c k → ¬ c = 70 ∧ ¬ c = 71) : kMo K u :=
  fun k hk => ⟨(f 71 k (fun q => (hS _ _ q).2 rfl)).1.trans (a k hk).1, fun y hy => ((a k hk).2 y hy).fr (fun j _ => (f 70 _ (fun q => (hS _ _ q).1 rfl)).1)⟩
theorem tMo.fr {s} {w u : mW} {S : Nat → Nat → Prop} (a : tMo s w) (f : mFr S w u) (hS : ∀ c k, S c k → ¬ c = 64 ∧ ¬ (c = 60 ∧ k = 6)) : tMo s u :=
  ⟨(f 60 6 (fun q => (hS _ _ q).2 ⟨rfl, rfl⟩)).1.trans a.1, fun i hi => (f 64 i (fun q => (hS _ _ q).1 rfl)).1.trans (a.2 i hi)⟩
theorem bMo.fr {b} {w u : mW} {S : Nat → Nat → Prop} (a : bMo b w) (f : mFr S w u) (hS : ∀ c k, S c k → ¬ c = 73 ∧ ¬ (c = 60 ∧ k = 28)) : bMo b u :=
  ⟨(f 60 28 (fun q => (hS _ _ q).2 ⟨rfl, rfl⟩)).1.trans a.1, fun i hi => ⟨(f 73 _ (fun q => (hS _ _ q).1 rfl)).1.trans (a.2 i hi).1, (f 73 _ (fun q => (hS _ _ q).1 rfl)).1.trans (a.2 i hi).2⟩⟩
theorem zM.fr {Z : mZ} {w u : mW} {S : Nat → Nat → Prop} (h : zM Z w) (f : mFr S w u) (hS : ∀ c k, S c k → mSc c k ∨ c < 60) : zM Z u := by
  obtain ⟨h1, h2, h3, h4, h5, h6⟩ := h
  refine ⟨h1.fr f (fun c k q => ?_), h2.fr (fun k _ => (f 66 k (fun q => ?_)).1), h3.fr f (fun c k q => ?_), h4.fr f (fun c k q => ?_), h5.fr f (fun c k q => ?_), h6.fr f (fun c k q => ?_)⟩
  · have := hS c k q; unfold mSc at this; unfold mCy; omega
  all_goals (have := hS _ _ q; unfold mSc at this; omega)
/-! what the calls answer, and what is held behind them -/
def zT (Z : mZ) (L : Nat) (T : Nat → Int32) : mZ := (Z.1, Z.2.1, Z.2.2.1, Z.2.2.2.1, (L, T), Z.2.2.2.2.2)
def zNow (Z : mZ) (x : mT) : mZ := (Z.1, x, Z.2.2)
def zNote (Z : mZ) : mZ := (Z.1, Z.2.1, (min (Z.2.2.1.1 + 1) 8, fun i => if i = 0 then Z.2.1 else Z.2.2.1.2 (i - 1)), Z.2.2.2)
def zBet (Z : mZ) (n : Nat) (bf bp : Nat → Int32) : mZ := (Z.1, Z.2.1, Z.2.2.1, Z.2.2.2.1, Z.2.2.2.2.1, (n, bf, bp))
def o_write (Z : mZ) (l : Int32) : Int32 × mZ := if ¬ (¬ l < 0 ∧ ¬ 255 < l) then (-3, Z) else if Z.2.2.2.2.1.1 = 160 then (-5, Z) else (nI (Z.2.2.2.2.1.1 + 1), zT Z (Z.2.2.2.2.1.1 + 1) (fun i => if i = Z.2.2.2.2.1.1 then l else Z.2.2.2.2.1.2 i))
def o_erase (Z : mZ) : Int32 × mZ := (nI Z.2.2.2.2.1.1, zT Z 0 Z.2.2.2.2.1.2)
def r_fact (Z : mZ) (f what : Int32) : Int32 := if ¬ i_fact Z.1 f then -2 else if what = 2 then q_bt Z.2.1.1 f else if what = 0 ∨ what = 1 then Z.1.2.1 f.toNatClampNeg what.toNatClampNeg else -3
def r_one (Z : mZ) (p what : Int32) : Int32 := if ¬ i_one Z.1 p then -2 else if ¬ (¬ what < 0 ∧ ¬ 5 < what) then -3 else Z.1.2.2.1 p.toNatClampNeg what.toNatClampNeg
def r_cause (Z : mZ) (c what : Int32) : Int32 := if ¬ (¬ c < 0 ∧ ¬ nI Z.1.1.2.2 ≤ c) then -2 else if ¬ (¬ what < 0 ∧ ¬ 3 < what) then -3 else Z.1.2.2.2 c.toNatClampNeg what.toNatClampNeg
def r_belief (Z : mZ) (p f : Int32) : Int32 := if ¬ i_one Z.1 p then -2 else if ¬ i_fact Z.1 f then -2 else q_bel (q_mo Z.2.1.2.2 p) f.toNatClampNeg
def q_as (own k : Int32) : Bool := decide (k = 0) || (if k = 1 then !decide (own = 1) else if k = 2 then decide (own = 1) else decide (own = k - 1))
def r_as (Z : mZ) (p k : Int32) : Int32 := if ¬ i_one Z.1 p then -2 else if ¬ (¬ k < 0 ∧ ¬ 4 < k) then -3 else if q_as (Z.1.2.2.1 p.toNatClampNeg 0) k = true then q_b (q_tr (Z.1.2.2.1 p.toNatClampNeg)) else -4
def q_sa (s k : Int32) : Bool := if k = 0 then true else if k = 1 then decide (s = 0 ∨ s = 4) else if k = 2 then decide (s = 4) else if k = 3 then !decide (s = 0 ∨ s = 4) else if k = 4 then decide (s = 1) else if k = 5 then decide (s = 2 ∨ s = 3) else decide (s = 3)
def r_sayingAs (s k : Int32) : Int32 := if ¬ (¬ s < 0 ∧ ¬ 4 < s) then -3 else if ¬ (¬ k < 0 ∧ ¬ 6 < k) then -3 else if q_sa s k = true then (if s = 0 ∨ s = 4 then 1 else 2) else -4
def q_Sx (k f b g c : Int32) : mS := if k = 0 ∨ k = 4 then (k, f, b, 0, 0) else (k, f, b, g, c)
def r_so (Z : mZ) (k f b g c : Int32) : Int32 := if ¬ 0 ≤ q_bar Z.1.1.1 k f b g c then q_bar Z.1.1.1 k f b g c else q_b (q_so Z.1 (q_Sx k f b g c) Z.2.1.2.2 Z.2.1.1 (nI (2 ^ Z.1.1.2.1 - 1)))
def q_who (M N : Int64) : Int32 := q_ds (fun p => !decide (q_mo N (nI p) = q_mo M (nI p))) 5
def o_say (Z : mZ) (set k f b g c : Int32) : Int32 × mZ := if ¬ (¬ set < 1 ∧ ¬ nI (2 ^ Z.1.1.2.1 - 1) < set) then (-3, Z) else if ¬ 0 ≤ q_bar Z.1.1.1 k f b g c then (q_bar Z.1.1.1 k f b g c, Z) else if q_so Z.1 (q_Sx k f b g c) Z.2.1.2.2 Z.2.1.1 set = false then (-4, Z) else (q_who Z.2.1.2.2 (q_Ms Z.1 (q_Sx k f b g c) Z.2.1.2.2 set Z.1.1.2.1), zNow (zNote Z) (Z.2.1.1, Z.2.1.2.1, q_Ms Z.1 (q_Sx k f b g c) Z.2.1.2.2 set Z.1.1.2.1))
def o_night (Z : mZ) : Int32 × mZ := if Z.2.1.2.1 = 999 then (-5, Z) else (q_s0 Z.1 Z.2.1.2.2 Z.2.1.1 + 9999, zNow (zNote Z) (q_dawn Z.1 (q_dd Z.1 Z.2.1.2.2) Z.2.1.1, Z.2.1.2.1 + 1, Z.2.1.2.2))
def o_undo (Z : mZ) : Int32 × mZ := if Z.2.2.1.1 = 0 then (-4, Z) else (nI (Z.2.2.1.1 - 1), (Z.1, Z.2.2.1.2 0, (Z.2.2.1.1 - 1, fun i => Z.2.2.1.2 (i + 1)), Z.2.2.2))
def o_keep (Z : mZ) (k : Int32) : Int32 × mZ := if ¬ i_bit k then (-2, Z) else (Z.2.1.2.1, (Z.1, Z.2.1, Z.2.2.1, (fun i => if nI i = k then some Z.2.1 else Z.2.2.2.1 i), Z.2.2.2.2))
def o_back (Z : mZ) (k : Int32) : Int32 × mZ := if ¬ i_bit k then (-2, Z) else match Z.2.2.2.1 k.toNatClampNeg with
  | none => (-4, Z)
  | some x => (x.2.1, (Z.1, x, (0, Z.2.2.1.2), Z.2.2.2))
def q_com (Y : mY) (M : Int64) (t : Int32) : Nat → Int32
  | 0 => t
  | n + 1 => q_dawn Y (q_dd Y M) (q_com Y M t n)
def r_coming (Z : mZ) (n what : Int32) : Int32 := if ¬ (¬ n < 1 ∧ ¬ 20 < n) then -3 else if ¬ i_bit what then -3 else if what = 0 then q_com Z.1 Z.2.1.2.2 Z.2.1.1 n.toNatClampNeg else q_sum Z.1.2.1 (q_com Z.1 Z.2.1.2.2 Z.2.1.1 n.toNatClampNeg) Z.1.1.1 + 9999
def r_best (Z : mZ) (what : Int32) : Int32 := if ¬ (what = 0 ∨ what = 1 ∨ what = 2) then -3 else if what = 0 then (q_best Z.1 Z.2.1.2.2 Z.2.1.1).1 + 9999 else if what = 1 then (q_best Z.1 Z.2.1.2.2 Z.2.1.1).2.1 else (q_best Z.1 Z.2.1.2.2 Z.2.1.1).2.2
def q_ask (Z : mZ) (p did : Int32) : mT2 := q_fo (fun a => q_vs Z.1.1.1 (q_dc a)) (fun st a => q_cn (q_aP Z.1 Z.2.1.2.2 Z.2.1.1 p.toNatClampNeg did) st (q_toS (q_dc a))) (0, -1) 720
def r_empty (Z : mZ) (p what : Int32) : Int32 := if ¬ i_one Z.1 p then -2 else if ¬ i_bit what then -3 else if what = 0 then (q_ask Z p 2).1 else (q_ask Z p 2).2
def r_said (Z : mZ) (p did what : Int32) : Int32 := if ¬ i_one Z.1 p then -2 else if ¬ i_bit did then -3 else if ¬ i_bit what then -3 else if what = 0 then (q_ask Z p did).1 else (q_ask Z p did).2
def o_bet (Z : mZ) (f price : Int32) : Int32 × mZ := if ¬ i_fact Z.1 f then (-2, Z) else if ¬ (¬ price < 0 ∧ ¬ 99 < price) then (-3, Z) else if Z.2.2.2.2.2.1 = 5 then (-5, Z) else (nI (Z.2.2.2.2.2.1 + 1), zBet Z (Z.2.2.2.2.2.1 + 1) (fun i => if i = Z.2.2.2.2.2.1 then f else Z.2.2.2.2.2.2.1 i) (fun i => if i = Z.2.2.2.2.2.1 then price else Z.2.2.2.2.2.2.2 i))
def o_call (Z : mZ) : Int32 × mZ := (nI Z.2.2.2.2.2.1, zBet Z 0 Z.2.2.2.2.2.2.1 Z.2.2.2.2.2.2.2)
/-- things believed -/
def q_hl (M : Int64) : Nat → Int32
  | 0 => 0
  | n + 1 => if q_bel (q_mo M (nI (n / 6))) (n % 6) = -1 then q_hl M n else q_hl M n + 1
def r_count (Z : mZ) (what : Int32) : Int32 := if what = 0 then nI Z.1.1.1 else if what = 1 then nI Z.1.1.2.1 else if what = 2 then nI Z.1.1.2.2 else if what = 3 then Z.2.1.2.1 else if what = 4 then q_sum Z.1.2.1 Z.2.1.1 Z.1.1.1 + 9999 else if what = 5 then Z.2.1.1 else if what = 6 then q_hl Z.2.1.2.2 30 else if what = 7 then nI Z.2.2.2.2.2.1 else if what = 8 then nI Z.2.2.1.1 else if what = 9 then nI Z.2.2.2.2.1.1 else -3
