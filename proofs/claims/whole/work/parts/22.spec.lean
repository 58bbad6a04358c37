/-! ===== THE CITY, in mathematical words ===== -/
/-- how many facts, people, causes; the rows of each -/
abbrev mY : Type := (Nat × Nat × Nat) × (Nat → Nat → Int32) × (Nat → Nat → Int32) × (Nat → Nat → Int32)
def q_sum (F : Nat → Nat → Int32) (t : Int32) : Nat → Int32
  | 0 => 0
  | f + 1 => if q_bt t (nI f) = 1 then (if F f 0 = 0 then q_sum F t f + F f 1 else q_sum F t f + (-(F f 1))) else q_sum F t f
def q_pp (P : Nat → Nat → Int32) (d : Nat → Bool) (t : Int32) : Nat → Int32
  | 0 => t
  | p + 1 => if d p = true then q_bc (q_pp P d t p) (P p 3) (P p 4) else q_pp P d t p
def q_cs (C : Nat → Nat → Int32) (t : Int32) : Nat → Int32
  | 0 => t
  | k + 1 => if q_bt (q_cs C t k) (C k 0) = C k 1 then q_bc (q_cs C t k) (C k 2) (C k 3) else q_cs C t k
def q_dawn (Y : mY) (d : Nat → Bool) (t : Int32) : Int32 := q_cs Y.2.2.2 (q_pp Y.2.2.1 d t Y.1.2.1) Y.1.2.2
def q_ds (d : Nat → Bool) : Nat → Int32
  | 0 => 0
  | p + 1 => if d p = true then q_ds d p ||| ((1 : Int32) <<< (nI p &&& 31)) else q_ds d p
def q_tr (r : Nat → Int32) : Bool := decide (r 0 = 1) || (decide (r 0 = 2) && decide (r 5 - r 5 / 2 * 2 = 1))
def q_it (Y : mY) : Int32 := q_ds (fun p => decide (Y.2.2.1 p 0 = 3)) Y.1.2.1
/-- the class's city -/
def cyX (Y : mY) (w : mW) : Prop := w.1 1 0 = nI Y.1.1 ∧ w.1 1 1 = nI Y.1.2.1 ∧ w.1 1 2 = nI Y.1.2.2 ∧ (∀ f k, f < Y.1.1 → k < 2 → w.1 (3 + f) k = Y.2.1 f k) ∧ (∀ p k, p < Y.1.2.1 → k < 6 → w.1 (10 + p) k = Y.2.2.1 p k) ∧ (∀ c k, c < Y.1.2.2 → k < 4 → w.1 (16 + c) k = Y.2.2.2 c k) ∧ w.1 1 4 = q_it Y
def q_01 (x : Int32) : Prop := x = 0 ∨ x = 1
def q_lt (x : Int32) (n : Nat) : Prop := ∃ j : Nat, j < n ∧ x = nI j
def cyOK (Y : mY) : Prop := Y.1.1 ≤ 6 ∧ Y.1.2.1 ≤ 5 ∧ Y.1.2.2 ≤ 6 ∧ (∀ f, f < Y.1.1 → q_01 (Y.2.1 f 0) ∧ q_lt (Y.2.1 f 1) 41) ∧ (∀ p, p < Y.1.2.1 → q_lt (Y.2.2.1 p 0) 4 ∧ q_lt (Y.2.2.1 p 1) Y.1.1 ∧ q_01 (Y.2.2.1 p 2) ∧ q_lt (Y.2.2.1 p 3) Y.1.1 ∧ q_01 (Y.2.2.1 p 4) ∧ q_lt (Y.2.2.1 p 5) 4) ∧ ∀ c, c < Y.1.2.2 → q_lt (Y.2.2.2 c 0) Y.1.1 ∧ q_01 (Y.2.2.2 c 1) ∧ q_lt (Y.2.2.2 c 2) Y.1.1 ∧ q_01 (Y.2.2.2 c 3)
/-- a sentence: kind, f, b, g, c -/
abbrev mS : Type := Int32 × Int32 × Int32 × Int32 × Int32
def q_al (m f g x y : Int32) : Int32 := if q_hs m f (1 - x) then q_hd m g y else if q_hs m g (1 - y) then q_hd m f x else m
def q_bv (S : mS) (m : Int32) : Int32 := if S.1 = 1 then q_hd (q_hd m S.2.1 S.2.2.1) S.2.2.2.1 S.2.2.2.2 else if S.1 = 2 then q_al m S.2.1 S.2.2.2.1 S.2.2.1 S.2.2.2.2 else if S.1 = 3 then q_al m S.2.1 S.2.2.2.1 (1 - S.2.2.1) S.2.2.2.2 else q_hd m S.2.1 S.2.2.1
def q_db (S : mS) (m : Int32) : Int32 := if S.1 = 1 then q_al m S.2.1 S.2.2.2.1 (1 - S.2.2.1) (1 - S.2.2.2.2) else if S.1 = 2 then q_hd (q_hd m S.2.1 (1 - S.2.2.1)) S.2.2.2.1 (1 - S.2.2.2.2) else if S.1 = 3 then q_hd (q_hd m S.2.1 S.2.2.1) S.2.2.2.1 (1 - S.2.2.2.2) else q_hd m S.2.1 (1 - S.2.2.1)
def q_st (S : mS) (t : Int32) : Bool := if S.1 = 1 then decide (q_bt t S.2.1 = S.2.2.1) && decide (q_bt t S.2.2.2.1 = S.2.2.2.2) else if S.1 = 2 then decide (q_bt t S.2.1 = S.2.2.1) || decide (q_bt t S.2.2.2.1 = S.2.2.2.2) else if S.1 = 3 then !decide (q_bt t S.2.1 = S.2.2.1) || decide (q_bt t S.2.2.2.1 = S.2.2.2.2) else decide (q_bt t S.2.1 = S.2.2.1)
/-- where the class holds a sentence -/
def q_S (w : mW) (c : Nat) : mS := (w.1 c 0, w.1 c 1, w.1 c 2, w.1 c 3, w.1 c 4)
def q_b (b : Bool) : Int32 := if b = true then 1 else 0
theorem q_b_nar (b : Bool) : narrow .boolean (.int (q_b b)) = .int (q_b b) := by cases b <;> decide
theorem q_b0 (b : Bool) : q_b b = 0 ↔ b = false := by cases b <;> decide
theorem q_b1 (b : Bool) : q_b b = 1 ↔ b = true := by cases b <;> decide
theorem q_pr (d : Nat → Bool) (n : Nat) : ∀ p, p < n → (q_ds d n = q_ds d n) := fun _ _ => rfl
