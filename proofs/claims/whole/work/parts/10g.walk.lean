/-! ===== CONDITIONS OF THE WALK, method by method, from cut to cut ===== -/
set_option maxRecDepth 20000 in
set_option maxHeartbeats 4000000 in
theorem vX9_hears_0 {X : mX} {E : mEnv} {Qm : Option Value → mW → Prop} (C : mCtx X E MX9_hears) (F : mFin X E MX9_hears Qm) {w : mW} {a0 : Nat} (ha0 : mSh[a0]? = some (.inl (0, 32, []))) (p1 : Int32) (p2 : Int32)
    (K : vp_in (((2 : Int32) + ((6 : Int32) * p1)) + (w.1 60 30)) 32 ∧
    (vp_in (((2 : Int32) + ((6 : Int32) * p1)) + (w.1 60 32)) 32 ∧
    (((w.1 60 29) = 0 →
    ((p2 = 0 →
    (vp_in (((2 : Int32) + ((6 : Int32) * p1)) + (w.1 60 30)) 32 ∧
    (∀ w1 : mW, w1 = (mPI w a0 (((2 : Int32) + ((6 : Int32) * p1)) + (w.1 60 30)).toNatClampNeg ((1 : Int32) - (w.1 60 31))) →
    (Qm none w1)))) ∧ (¬ p2 = 0 →
    (vp_in (((2 : Int32) + ((6 : Int32) * p1)) + (w.1 60 30)) 32 ∧
    (∀ w2 : mW, w2 = (mPI w a0 (((2 : Int32) + ((6 : Int32) * p1)) + (w.1 60 30)).toNatClampNeg (w.1 60 31)) →
    (Qm none w2)))))) ∧ (¬ (w.1 60 29) = 0 →
    ((¬ (w.1 60 29) = (4 : Int32) →
    ((¬ (w.1 60 29) = (1 : Int32) →
    ((¬ (w.1 60 29) = (2 : Int32) →
    ((¬ (w.1 60 29) = (3 : Int32) →
    ((¬ (w.1 60 29) = (2 : Int32) →
    ((¬ (w.1 60 29) = (3 : Int32) →
    ((¬ (w.1 a0 ((((2 : Int32) + ((6 : Int32) * p1)) + (w.1 60 30)).toNatClampNeg)) = (w.1 60 31) →
    ((¬ (w.1 a0 ((((2 : Int32) + ((6 : Int32) * p1)) + (w.1 60 32)).toNatClampNeg)) = (w.1 60 33) →
    (Qm none w)) ∧ ((w.1 a0 ((((2 : Int32) + ((6 : Int32) * p1)) + (w.1 60 32)).toNatClampNeg)) = (w.1 60 33) →
    (vp_in (((2 : Int32) + ((6 : Int32) * p1)) + (w.1 60 30)) 32 ∧
    (∀ w3 : mW, w3 = (mPI w a0 (((2 : Int32) + ((6 : Int32) * p1)) + (w.1 60 30)).toNatClampNeg ((1 : Int32) - (w.1 60 31))) →
    (Qm none w3)))))) ∧ ((w.1 a0 ((((2 : Int32) + ((6 : Int32) * p1)) + (w.1 60 30)).toNatClampNeg)) = (w.1 60 31) →
    (vp_in (((2 : Int32) + ((6 : Int32) * p1)) + (w.1 60 32)) 32 ∧
    (∀ w4 : mW, w4 = (mPI w a0 (((2 : Int32) + ((6 : Int32) * p1)) + (w.1 60 32)).toNatClampNeg ((1 : Int32) - (w.1 60 33))) →
    (Qm none w4)))))) ∧ ((w.1 60 29) = (3 : Int32) →
    ((¬ (w.1 a0 ((((2 : Int32) + ((6 : Int32) * p1)) + (w.1 60 30)).toNatClampNeg)) = (w.1 60 31) →
    ((¬ (w.1 a0 ((((2 : Int32) + ((6 : Int32) * p1)) + (w.1 60 32)).toNatClampNeg)) = ((1 : Int32) - (w.1 60 33)) →
    (Qm none w)) ∧ ((w.1 a0 ((((2 : Int32) + ((6 : Int32) * p1)) + (w.1 60 32)).toNatClampNeg)) = ((1 : Int32) - (w.1 60 33)) →
    (vp_in (((2 : Int32) + ((6 : Int32) * p1)) + (w.1 60 30)) 32 ∧
    (∀ w5 : mW, w5 = (mPI w a0 (((2 : Int32) + ((6 : Int32) * p1)) + (w.1 60 30)).toNatClampNeg ((1 : Int32) - (w.1 60 31))) →
    (Qm none w5)))))) ∧ ((w.1 a0 ((((2 : Int32) + ((6 : Int32) * p1)) + (w.1 60 30)).toNatClampNeg)) = (w.1 60 31) →
    (vp_in (((2 : Int32) + ((6 : Int32) * p1)) + (w.1 60 32)) 32 ∧
    (∀ w6 : mW, w6 = (mPI w a0 (((2 : Int32) + ((6 : Int32) * p1)) + (w.1 60 32)).toNatClampNeg (w.1 60 33)) →
    (Qm none w6)))))))) ∧ ((w.1 60 29) = (2 : Int32) →
    ((¬ (w.1 a0 ((((2 : Int32) + ((6 : Int32) * p1)) + (w.1 60 30)).toNatClampNeg)) = ((1 : Int32) - (w.1 60 31)) →
    ((¬ (w.1 a0 ((((2 : Int32) + ((6 : Int32) * p1)) + (w.1 60 32)).toNatClampNeg)) = ((1 : Int32) - (w.1 60 33)) →
    (Qm none w)) ∧ ((w.1 a0 ((((2 : Int32) + ((6 : Int32) * p1)) + (w.1 60 32)).toNatClampNeg)) = ((1 : Int32) - (w.1 60 33)) →
    (vp_in (((2 : Int32) + ((6 : Int32) * p1)) + (w.1 60 30)) 32 ∧
    (∀ w7 : mW, w7 = (mPI w a0 (((2 : Int32) + ((6 : Int32) * p1)) + (w.1 60 30)).toNatClampNeg (w.1 60 31)) →
    (Qm none w7)))))) ∧ ((w.1 a0 ((((2 : Int32) + ((6 : Int32) * p1)) + (w.1 60 30)).toNatClampNeg)) = ((1 : Int32) - (w.1 60 31)) →
    (vp_in (((2 : Int32) + ((6 : Int32) * p1)) + (w.1 60 32)) 32 ∧
    (∀ w8 : mW, w8 = (mPI w a0 (((2 : Int32) + ((6 : Int32) * p1)) + (w.1 60 32)).toNatClampNeg (w.1 60 33)) →
    (Qm none w8)))))))) ∧ ((w.1 60 29) = (3 : Int32) →
    ((¬ p2 = 0 →
    ((¬ (w.1 60 29) = (2 : Int32) →
    ((¬ (w.1 60 29) = (3 : Int32) →
    ((¬ (w.1 a0 ((((2 : Int32) + ((6 : Int32) * p1)) + (w.1 60 30)).toNatClampNeg)) = (w.1 60 31) →
    ((¬ (w.1 a0 ((((2 : Int32) + ((6 : Int32) * p1)) + (w.1 60 32)).toNatClampNeg)) = (w.1 60 33) →
    (Qm none w)) ∧ ((w.1 a0 ((((2 : Int32) + ((6 : Int32) * p1)) + (w.1 60 32)).toNatClampNeg)) = (w.1 60 33) →
    (vp_in (((2 : Int32) + ((6 : Int32) * p1)) + (w.1 60 30)) 32 ∧
    (∀ w9 : mW, w9 = (mPI w a0 (((2 : Int32) + ((6 : Int32) * p1)) + (w.1 60 30)).toNatClampNeg ((1 : Int32) - (w.1 60 31))) →
    (Qm none w9)))))) ∧ ((w.1 a0 ((((2 : Int32) + ((6 : Int32) * p1)) + (w.1 60 30)).toNatClampNeg)) = (w.1 60 31) →
    (vp_in (((2 : Int32) + ((6 : Int32) * p1)) + (w.1 60 32)) 32 ∧
    (∀ w10 : mW, w10 = (mPI w a0 (((2 : Int32) + ((6 : Int32) * p1)) + (w.1 60 32)).toNatClampNeg ((1 : Int32) - (w.1 60 33))) →
    (Qm none w10)))))) ∧ ((w.1 60 29) = (3 : Int32) →
    ((¬ (w.1 a0 ((((2 : Int32) + ((6 : Int32) * p1)) + (w.1 60 30)).toNatClampNeg)) = (w.1 60 31) →
    ((¬ (w.1 a0 ((((2 : Int32) + ((6 : Int32) * p1)) + (w.1 60 32)).toNatClampNeg)) = ((1 : Int32) - (w.1 60 33)) →
    (Qm none w)) ∧ ((w.1 a0 ((((2 : Int32) + ((6 : Int32) * p1)) + (w.1 60 32)).toNatClampNeg)) = ((1 : Int32) - (w.1 60 33)) →
    (vp_in (((2 : Int32) + ((6 : Int32) * p1)) + (w.1 60 30)) 32 ∧
    (∀ w11 : mW, w11 = (mPI w a0 (((2 : Int32) + ((6 : Int32) * p1)) + (w.1 60 30)).toNatClampNeg ((1 : Int32) - (w.1 60 31))) →
    (Qm none w11)))))) ∧ ((w.1 a0 ((((2 : Int32) + ((6 : Int32) * p1)) + (w.1 60 30)).toNatClampNeg)) = (w.1 60 31) →
    (vp_in (((2 : Int32) + ((6 : Int32) * p1)) + (w.1 60 32)) 32 ∧
    (∀ w12 : mW, w12 = (mPI w a0 (((2 : Int32) + ((6 : Int32) * p1)) + (w.1 60 32)).toNatClampNeg (w.1 60 33)) →
    (Qm none w12)))))))) ∧ ((w.1 60 29) = (2 : Int32) →
    ((¬ (w.1 a0 ((((2 : Int32) + ((6 : Int32) * p1)) + (w.1 60 30)).toNatClampNeg)) = ((1 : Int32) - (w.1 60 31)) →
    ((¬ (w.1 a0 ((((2 : Int32) + ((6 : Int32) * p1)) + (w.1 60 32)).toNatClampNeg)) = ((1 : Int32) - (w.1 60 33)) →
    (Qm none w)) ∧ ((w.1 a0 ((((2 : Int32) + ((6 : Int32) * p1)) + (w.1 60 32)).toNatClampNeg)) = ((1 : Int32) - (w.1 60 33)) →
    (vp_in (((2 : Int32) + ((6 : Int32) * p1)) + (w.1 60 30)) 32 ∧
    (∀ w13 : mW, w13 = (mPI w a0 (((2 : Int32) + ((6 : Int32) * p1)) + (w.1 60 30)).toNatClampNeg (w.1 60 31)) →
    (Qm none w13)))))) ∧ ((w.1 a0 ((((2 : Int32) + ((6 : Int32) * p1)) + (w.1 60 30)).toNatClampNeg)) = ((1 : Int32) - (w.1 60 31)) →
    (vp_in (((2 : Int32) + ((6 : Int32) * p1)) + (w.1 60 32)) 32 ∧
    (∀ w14 : mW, w14 = (mPI w a0 (((2 : Int32) + ((6 : Int32) * p1)) + (w.1 60 32)).toNatClampNeg (w.1 60 33)) →
    (Qm none w14)))))))) ∧ (p2 = 0 →
    (vp_in (((2 : Int32) + ((6 : Int32) * p1)) + (w.1 60 30)) 32 ∧
    (∀ w15 : mW, w15 = (mPI w a0 (((2 : Int32) + ((6 : Int32) * p1)) + (w.1 60 30)).toNatClampNeg (w.1 60 31)) →
    (vp_in (((2 : Int32) + ((6 : Int32) * p1)) + (w15.1 60 32)) 32 ∧
    (∀ w16 : mW, w16 = (mPI w15 a0 (((2 : Int32) + ((6 : Int32) * p1)) + (w15.1 60 32)).toNatClampNeg ((1 : Int32) - (w15.1 60 33))) →
    (Qm none w16)))))))))) ∧ ((w.1 60 29) = (2 : Int32) →
    ((¬ p2 = 0 →
    ((¬ (w.1 60 29) = (3 : Int32) →
    ((¬ (w.1 60 29) = (2 : Int32) →
    ((¬ (w.1 60 29) = (3 : Int32) →
    ((¬ (w.1 a0 ((((2 : Int32) + ((6 : Int32) * p1)) + (w.1 60 30)).toNatClampNeg)) = (w.1 60 31) →
    ((¬ (w.1 a0 ((((2 : Int32) + ((6 : Int32) * p1)) + (w.1 60 32)).toNatClampNeg)) = (w.1 60 33) →
    (Qm none w)) ∧ ((w.1 a0 ((((2 : Int32) + ((6 : Int32) * p1)) + (w.1 60 32)).toNatClampNeg)) = (w.1 60 33) →
    (vp_in (((2 : Int32) + ((6 : Int32) * p1)) + (w.1 60 30)) 32 ∧
    (∀ w17 : mW, w17 = (mPI w a0 (((2 : Int32) + ((6 : Int32) * p1)) + (w.1 60 30)).toNatClampNeg ((1 : Int32) - (w.1 60 31))) →
    (Qm none w17)))))) ∧ ((w.1 a0 ((((2 : Int32) + ((6 : Int32) * p1)) + (w.1 60 30)).toNatClampNeg)) = (w.1 60 31) →
    (vp_in (((2 : Int32) + ((6 : Int32) * p1)) + (w.1 60 32)) 32 ∧
    (∀ w18 : mW, w18 = (mPI w a0 (((2 : Int32) + ((6 : Int32) * p1)) + (w.1 60 32)).toNatClampNeg ((1 : Int32) - (w.1 60 33))) →
    (Qm none w18)))))) ∧ ((w.1 60 29) = (3 : Int32) →
    ((¬ (w.1 a0 ((((2 : Int32) + ((6 : Int32) * p1)) + (w.1 60 30)).toNatClampNeg)) = (w.1 60 31) →
    ((¬ (w.1 a0 ((((2 : Int32) + ((6 : Int32) * p1)) + (w.1 60 32)).toNatClampNeg)) = ((1 : Int32) - (w.1 60 33)) →
    (Qm none w)) ∧ ((w.1 a0 ((((2 : Int32) + ((6 : Int32) * p1)) + (w.1 60 32)).toNatClampNeg)) = ((1 : Int32) - (w.1 60 33)) →
    (vp_in (((2 : Int32) + ((6 : Int32) * p1)) + (w.1 60 30)) 32 ∧
    (∀ w19 : mW, w19 = (mPI w a0 (((2 : Int32) + ((6 : Int32) * p1)) + (w.1 60 30)).toNatClampNeg ((1 : Int32) - (w.1 60 31))) →
    (Qm none w19)))))) ∧ ((w.1 a0 ((((2 : Int32) + ((6 : Int32) * p1)) + (w.1 60 30)).toNatClampNeg)) = (w.1 60 31) →
    (vp_in (((2 : Int32) + ((6 : Int32) * p1)) + (w.1 60 32)) 32 ∧
    (∀ w20 : mW, w20 = (mPI w a0 (((2 : Int32) + ((6 : Int32) * p1)) + (w.1 60 32)).toNatClampNeg (w.1 60 33)) →
    (Qm none w20)))))))) ∧ ((w.1 60 29) = (2 : Int32) →
    ((¬ (w.1 a0 ((((2 : Int32) + ((6 : Int32) * p1)) + (w.1 60 30)).toNatClampNeg)) = ((1 : Int32) - (w.1 60 31)) →
    ((¬ (w.1 a0 ((((2 : Int32) + ((6 : Int32) * p1)) + (w.1 60 32)).toNatClampNeg)) = ((1 : Int32) - (w.1 60 33)) →
    (Qm none w)) ∧ ((w.1 a0 ((((2 : Int32) + ((6 : Int32) * p1)) + (w.1 60 32)).toNatClampNeg)) = ((1 : Int32) - (w.1 60 33)) →
    (vp_in (((2 : Int32) + ((6 : Int32) * p1)) + (w.1 60 30)) 32 ∧
    (∀ w21 : mW, w21 = (mPI w a0 (((2 : Int32) + ((6 : Int32) * p1)) + (w.1 60 30)).toNatClampNeg (w.1 60 31)) →
    (Qm none w21)))))) ∧ ((w.1 a0 ((((2 : Int32) + ((6 : Int32) * p1)) + (w.1 60 30)).toNatClampNeg)) = ((1 : Int32) - (w.1 60 31)) →
    (vp_in (((2 : Int32) + ((6 : Int32) * p1)) + (w.1 60 32)) 32 ∧
    (∀ w22 : mW, w22 = (mPI w a0 (((2 : Int32) + ((6 : Int32) * p1)) + (w.1 60 32)).toNatClampNeg (w.1 60 33)) →
    (Qm none w22)))))))) ∧ ((w.1 60 29) = (3 : Int32) →
    ((¬ p2 = 0 →
    ((¬ (w.1 60 29) = (2 : Int32) →
    ((¬ (w.1 60 29) = (3 : Int32) →
    ((¬ (w.1 a0 ((((2 : Int32) + ((6 : Int32) * p1)) + (w.1 60 30)).toNatClampNeg)) = (w.1 60 31) →
    ((¬ (w.1 a0 ((((2 : Int32) + ((6 : Int32) * p1)) + (w.1 60 32)).toNatClampNeg)) = (w.1 60 33) →
    (Qm none w)) ∧ ((w.1 a0 ((((2 : Int32) + ((6 : Int32) * p1)) + (w.1 60 32)).toNatClampNeg)) = (w.1 60 33) →
    (vp_in (((2 : Int32) + ((6 : Int32) * p1)) + (w.1 60 30)) 32 ∧
    (∀ w23 : mW, w23 = (mPI w a0 (((2 : Int32) + ((6 : Int32) * p1)) + (w.1 60 30)).toNatClampNeg ((1 : Int32) - (w.1 60 31))) →
    (Qm none w23)))))) ∧ ((w.1 a0 ((((2 : Int32) + ((6 : Int32) * p1)) + (w.1 60 30)).toNatClampNeg)) = (w.1 60 31) →
    (vp_in (((2 : Int32) + ((6 : Int32) * p1)) + (w.1 60 32)) 32 ∧
    (∀ w24 : mW, w24 = (mPI w a0 (((2 : Int32) + ((6 : Int32) * p1)) + (w.1 60 32)).toNatClampNeg ((1 : Int32) - (w.1 60 33))) →
    (Qm none w24)))))) ∧ ((w.1 60 29) = (3 : Int32) →
    ((¬ (w.1 a0 ((((2 : Int32) + ((6 : Int32) * p1)) + (w.1 60 30)).toNatClampNeg)) = (w.1 60 31) →
    ((¬ (w.1 a0 ((((2 : Int32) + ((6 : Int32) * p1)) + (w.1 60 32)).toNatClampNeg)) = ((1 : Int32) - (w.1 60 33)) →
    (Qm none w)) ∧ ((w.1 a0 ((((2 : Int32) + ((6 : Int32) * p1)) + (w.1 60 32)).toNatClampNeg)) = ((1 : Int32) - (w.1 60 33)) →
    (vp_in (((2 : Int32) + ((6 : Int32) * p1)) + (w.1 60 30)) 32 ∧
    (∀ w25 : mW, w25 = (mPI w a0 (((2 : Int32) + ((6 : Int32) * p1)) + (w.1 60 30)).toNatClampNeg ((1 : Int32) - (w.1 60 31))) →
    (Qm none w25)))))) ∧ ((w.1 a0 ((((2 : Int32) + ((6 : Int32) * p1)) + (w.1 60 30)).toNatClampNeg)) = (w.1 60 31) →
    (vp_in (((2 : Int32) + ((6 : Int32) * p1)) + (w.1 60 32)) 32 ∧
    (∀ w26 : mW, w26 = (mPI w a0 (((2 : Int32) + ((6 : Int32) * p1)) + (w.1 60 32)).toNatClampNeg (w.1 60 33)) →
    (Qm none w26)))))))) ∧ ((w.1 60 29) = (2 : Int32) →
    ((¬ (w.1 a0 ((((2 : Int32) + ((6 : Int32) * p1)) + (w.1 60 30)).toNatClampNeg)) = ((1 : Int32) - (w.1 60 31)) →
    ((¬ (w.1 a0 ((((2 : Int32) + ((6 : Int32) * p1)) + (w.1 60 32)).toNatClampNeg)) = ((1 : Int32) - (w.1 60 33)) →
    (Qm none w)) ∧ ((w.1 a0 ((((2 : Int32) + ((6 : Int32) * p1)) + (w.1 60 32)).toNatClampNeg)) = ((1 : Int32) - (w.1 60 33)) →
    (vp_in (((2 : Int32) + ((6 : Int32) * p1)) + (w.1 60 30)) 32 ∧
    (∀ w27 : mW, w27 = (mPI w a0 (((2 : Int32) + ((6 : Int32) * p1)) + (w.1 60 30)).toNatClampNeg (w.1 60 31)) →
    (Qm none w27)))))) ∧ ((w.1 a0 ((((2 : Int32) + ((6 : Int32) * p1)) + (w.1 60 30)).toNatClampNeg)) = ((1 : Int32) - (w.1 60 31)) →
    (vp_in (((2 : Int32) + ((6 : Int32) * p1)) + (w.1 60 32)) 32 ∧
    (∀ w28 : mW, w28 = (mPI w a0 (((2 : Int32) + ((6 : Int32) * p1)) + (w.1 60 32)).toNatClampNeg (w.1 60 33)) →
    (Qm none w28)))))))) ∧ (p2 = 0 →
    (vp_in (((2 : Int32) + ((6 : Int32) * p1)) + (w.1 60 30)) 32 ∧
    (∀ w29 : mW, w29 = (mPI w a0 (((2 : Int32) + ((6 : Int32) * p1)) + (w.1 60 30)).toNatClampNeg (w.1 60 31)) →
    (vp_in (((2 : Int32) + ((6 : Int32) * p1)) + (w29.1 60 32)) 32 ∧
    (∀ w30 : mW, w30 = (mPI w29 a0 (((2 : Int32) + ((6 : Int32) * p1)) + (w29.1 60 32)).toNatClampNeg ((1 : Int32) - (w29.1 60 33))) →
    (Qm none w30)))))))))) ∧ (p2 = 0 →
    (vp_in (((2 : Int32) + ((6 : Int32) * p1)) + (w.1 60 30)) 32 ∧
    (∀ w31 : mW, w31 = (mPI w a0 (((2 : Int32) + ((6 : Int32) * p1)) + (w.1 60 30)).toNatClampNeg ((1 : Int32) - (w.1 60 31))) →
    (vp_in (((2 : Int32) + ((6 : Int32) * p1)) + (w31.1 60 32)) 32 ∧
    (∀ w32 : mW, w32 = (mPI w31 a0 (((2 : Int32) + ((6 : Int32) * p1)) + (w31.1 60 32)).toNatClampNeg ((1 : Int32) - (w31.1 60 33))) →
    (Qm none w32)))))))))) ∧ ((w.1 60 29) = (1 : Int32) →
    ((p2 = 0 →
    ((¬ (w.1 60 29) = (2 : Int32) →
    ((¬ (w.1 60 29) = (3 : Int32) →
    ((¬ (w.1 60 29) = (2 : Int32) →
    ((¬ (w.1 60 29) = (3 : Int32) →
    ((¬ (w.1 a0 ((((2 : Int32) + ((6 : Int32) * p1)) + (w.1 60 30)).toNatClampNeg)) = (w.1 60 31) →
    ((¬ (w.1 a0 ((((2 : Int32) + ((6 : Int32) * p1)) + (w.1 60 32)).toNatClampNeg)) = (w.1 60 33) →
    (Qm none w)) ∧ ((w.1 a0 ((((2 : Int32) + ((6 : Int32) * p1)) + (w.1 60 32)).toNatClampNeg)) = (w.1 60 33) →
    (vp_in (((2 : Int32) + ((6 : Int32) * p1)) + (w.1 60 30)) 32 ∧
    (∀ w33 : mW, w33 = (mPI w a0 (((2 : Int32) + ((6 : Int32) * p1)) + (w.1 60 30)).toNatClampNeg ((1 : Int32) - (w.1 60 31))) →
    (Qm none w33)))))) ∧ ((w.1 a0 ((((2 : Int32) + ((6 : Int32) * p1)) + (w.1 60 30)).toNatClampNeg)) = (w.1 60 31) →
    (vp_in (((2 : Int32) + ((6 : Int32) * p1)) + (w.1 60 32)) 32 ∧
    (∀ w34 : mW, w34 = (mPI w a0 (((2 : Int32) + ((6 : Int32) * p1)) + (w.1 60 32)).toNatClampNeg ((1 : Int32) - (w.1 60 33))) →
    (Qm none w34)))))) ∧ ((w.1 60 29) = (3 : Int32) →
    ((¬ (w.1 a0 ((((2 : Int32) + ((6 : Int32) * p1)) + (w.1 60 30)).toNatClampNeg)) = (w.1 60 31) →
    ((¬ (w.1 a0 ((((2 : Int32) + ((6 : Int32) * p1)) + (w.1 60 32)).toNatClampNeg)) = ((1 : Int32) - (w.1 60 33)) →
    (Qm none w)) ∧ ((w.1 a0 ((((2 : Int32) + ((6 : Int32) * p1)) + (w.1 60 32)).toNatClampNeg)) = ((1 : Int32) - (w.1 60 33)) →
    (vp_in (((2 : Int32) + ((6 : Int32) * p1)) + (w.1 60 30)) 32 ∧
    (∀ w35 : mW, w35 = (mPI w a0 (((2 : Int32) + ((6 : Int32) * p1)) + (w.1 60 30)).toNatClampNeg ((1 : Int32) - (w.1 60 31))) →
    (Qm none w35)))))) ∧ ((w.1 a0 ((((2 : Int32) + ((6 : Int32) * p1)) + (w.1 60 30)).toNatClampNeg)) = (w.1 60 31) →
    (vp_in (((2 : Int32) + ((6 : Int32) * p1)) + (w.1 60 32)) 32 ∧
    (∀ w36 : mW, w36 = (mPI w a0 (((2 : Int32) + ((6 : Int32) * p1)) + (w.1 60 32)).toNatClampNeg (w.1 60 33)) →
    (Qm none w36)))))))) ∧ ((w.1 60 29) = (2 : Int32) →
    ((¬ (w.1 a0 ((((2 : Int32) + ((6 : Int32) * p1)) + (w.1 60 30)).toNatClampNeg)) = ((1 : Int32) - (w.1 60 31)) →
    ((¬ (w.1 a0 ((((2 : Int32) + ((6 : Int32) * p1)) + (w.1 60 32)).toNatClampNeg)) = ((1 : Int32) - (w.1 60 33)) →
    (Qm none w)) ∧ ((w.1 a0 ((((2 : Int32) + ((6 : Int32) * p1)) + (w.1 60 32)).toNatClampNeg)) = ((1 : Int32) - (w.1 60 33)) →
    (vp_in (((2 : Int32) + ((6 : Int32) * p1)) + (w.1 60 30)) 32 ∧
    (∀ w37 : mW, w37 = (mPI w a0 (((2 : Int32) + ((6 : Int32) * p1)) + (w.1 60 30)).toNatClampNeg (w.1 60 31)) →
    (Qm none w37)))))) ∧ ((w.1 a0 ((((2 : Int32) + ((6 : Int32) * p1)) + (w.1 60 30)).toNatClampNeg)) = ((1 : Int32) - (w.1 60 31)) →
    (vp_in (((2 : Int32) + ((6 : Int32) * p1)) + (w.1 60 32)) 32 ∧
    (∀ w38 : mW, w38 = (mPI w a0 (((2 : Int32) + ((6 : Int32) * p1)) + (w.1 60 32)).toNatClampNeg (w.1 60 33)) →
    (Qm none w38)))))))) ∧ ((w.1 60 29) = (3 : Int32) →
    ((¬ p2 = 0 →
    ((¬ (w.1 60 29) = (2 : Int32) →
    ((¬ (w.1 60 29) = (3 : Int32) →
    ((¬ (w.1 a0 ((((2 : Int32) + ((6 : Int32) * p1)) + (w.1 60 30)).toNatClampNeg)) = (w.1 60 31) →
    ((¬ (w.1 a0 ((((2 : Int32) + ((6 : Int32) * p1)) + (w.1 60 32)).toNatClampNeg)) = (w.1 60 33) →
    (Qm none w)) ∧ ((w.1 a0 ((((2 : Int32) + ((6 : Int32) * p1)) + (w.1 60 32)).toNatClampNeg)) = (w.1 60 33) →
    (vp_in (((2 : Int32) + ((6 : Int32) * p1)) + (w.1 60 30)) 32 ∧
    (∀ w39 : mW, w39 = (mPI w a0 (((2 : Int32) + ((6 : Int32) * p1)) + (w.1 60 30)).toNatClampNeg ((1 : Int32) - (w.1 60 31))) →
    (Qm none w39)))))) ∧ ((w.1 a0 ((((2 : Int32) + ((6 : Int32) * p1)) + (w.1 60 30)).toNatClampNeg)) = (w.1 60 31) →
    (vp_in (((2 : Int32) + ((6 : Int32) * p1)) + (w.1 60 32)) 32 ∧
    (∀ w40 : mW, w40 = (mPI w a0 (((2 : Int32) + ((6 : Int32) * p1)) + (w.1 60 32)).toNatClampNeg ((1 : Int32) - (w.1 60 33))) →
    (Qm none w40)))))) ∧ ((w.1 60 29) = (3 : Int32) →
    ((¬ (w.1 a0 ((((2 : Int32) + ((6 : Int32) * p1)) + (w.1 60 30)).toNatClampNeg)) = (w.1 60 31) →
    ((¬ (w.1 a0 ((((2 : Int32) + ((6 : Int32) * p1)) + (w.1 60 32)).toNatClampNeg)) = ((1 : Int32) - (w.1 60 33)) →
    (Qm none w)) ∧ ((w.1 a0 ((((2 : Int32) + ((6 : Int32) * p1)) + (w.1 60 32)).toNatClampNeg)) = ((1 : Int32) - (w.1 60 33)) →
    (vp_in (((2 : Int32) + ((6 : Int32) * p1)) + (w.1 60 30)) 32 ∧
    (∀ w41 : mW, w41 = (mPI w a0 (((2 : Int32) + ((6 : Int32) * p1)) + (w.1 60 30)).toNatClampNeg ((1 : Int32) - (w.1 60 31))) →
    (Qm none w41)))))) ∧ ((w.1 a0 ((((2 : Int32) + ((6 : Int32) * p1)) + (w.1 60 30)).toNatClampNeg)) = (w.1 60 31) →
    (vp_in (((2 : Int32) + ((6 : Int32) * p1)) + (w.1 60 32)) 32 ∧
    (∀ w42 : mW, w42 = (mPI w a0 (((2 : Int32) + ((6 : Int32) * p1)) + (w.1 60 32)).toNatClampNeg (w.1 60 33)) →
    (Qm none w42)))))))) ∧ ((w.1 60 29) = (2 : Int32) →
    ((¬ (w.1 a0 ((((2 : Int32) + ((6 : Int32) * p1)) + (w.1 60 30)).toNatClampNeg)) = ((1 : Int32) - (w.1 60 31)) →
    ((¬ (w.1 a0 ((((2 : Int32) + ((6 : Int32) * p1)) + (w.1 60 32)).toNatClampNeg)) = ((1 : Int32) - (w.1 60 33)) →
    (Qm none w)) ∧ ((w.1 a0 ((((2 : Int32) + ((6 : Int32) * p1)) + (w.1 60 32)).toNatClampNeg)) = ((1 : Int32) - (w.1 60 33)) →
    (vp_in (((2 : Int32) + ((6 : Int32) * p1)) + (w.1 60 30)) 32 ∧
    (∀ w43 : mW, w43 = (mPI w a0 (((2 : Int32) + ((6 : Int32) * p1)) + (w.1 60 30)).toNatClampNeg (w.1 60 31)) →
    (Qm none w43)))))) ∧ ((w.1 a0 ((((2 : Int32) + ((6 : Int32) * p1)) + (w.1 60 30)).toNatClampNeg)) = ((1 : Int32) - (w.1 60 31)) →
    (vp_in (((2 : Int32) + ((6 : Int32) * p1)) + (w.1 60 32)) 32 ∧
    (∀ w44 : mW, w44 = (mPI w a0 (((2 : Int32) + ((6 : Int32) * p1)) + (w.1 60 32)).toNatClampNeg (w.1 60 33)) →
    (Qm none w44)))))))) ∧ (p2 = 0 →
    (vp_in (((2 : Int32) + ((6 : Int32) * p1)) + (w.1 60 30)) 32 ∧
    (∀ w45 : mW, w45 = (mPI w a0 (((2 : Int32) + ((6 : Int32) * p1)) + (w.1 60 30)).toNatClampNeg (w.1 60 31)) →
    (vp_in (((2 : Int32) + ((6 : Int32) * p1)) + (w45.1 60 32)) 32 ∧
    (∀ w46 : mW, w46 = (mPI w45 a0 (((2 : Int32) + ((6 : Int32) * p1)) + (w45.1 60 32)).toNatClampNeg ((1 : Int32) - (w45.1 60 33))) →
    (Qm none w46)))))))))) ∧ ((w.1 60 29) = (2 : Int32) →
    ((¬ p2 = 0 →
    ((¬ (w.1 60 29) = (3 : Int32) →
    ((¬ (w.1 60 29) = (2 : Int32) →
    ((¬ (w.1 60 29) = (3 : Int32) →
    ((¬ (w.1 a0 ((((2 : Int32) + ((6 : Int32) * p1)) + (w.1 60 30)).toNatClampNeg)) = (w.1 60 31) →
    ((¬ (w.1 a0 ((((2 : Int32) + ((6 : Int32) * p1)) + (w.1 60 32)).toNatClampNeg)) = (w.1 60 33) →
    (Qm none w)) ∧ ((w.1 a0 ((((2 : Int32) + ((6 : Int32) * p1)) + (w.1 60 32)).toNatClampNeg)) = (w.1 60 33) →
    (vp_in (((2 : Int32) + ((6 : Int32) * p1)) + (w.1 60 30)) 32 ∧
    (∀ w47 : mW, w47 = (mPI w a0 (((2 : Int32) + ((6 : Int32) * p1)) + (w.1 60 30)).toNatClampNeg ((1 : Int32) - (w.1 60 31))) →
    (Qm none w47)))))) ∧ ((w.1 a0 ((((2 : Int32) + ((6 : Int32) * p1)) + (w.1 60 30)).toNatClampNeg)) = (w.1 60 31) →
    (vp_in (((2 : Int32) + ((6 : Int32) * p1)) + (w.1 60 32)) 32 ∧
    (∀ w48 : mW, w48 = (mPI w a0 (((2 : Int32) + ((6 : Int32) * p1)) + (w.1 60 32)).toNatClampNeg ((1 : Int32) - (w.1 60 33))) →
    (Qm none w48)))))) ∧ ((w.1 60 29) = (3 : Int32) →
    ((¬ (w.1 a0 ((((2 : Int32) + ((6 : Int32) * p1)) + (w.1 60 30)).toNatClampNeg)) = (w.1 60 31) →
    ((¬ (w.1 a0 ((((2 : Int32) + ((6 : Int32) * p1)) + (w.1 60 32)).toNatClampNeg)) = ((1 : Int32) - (w.1 60 33)) →
    (Qm none w)) ∧ ((w.1 a0 ((((2 : Int32) + ((6 : Int32) * p1)) + (w.1 60 32)).toNatClampNeg)) = ((1 : Int32) - (w.1 60 33)) →
    (vp_in (((2 : Int32) + ((6 : Int32) * p1)) + (w.1 60 30)) 32 ∧
    (∀ w49 : mW, w49 = (mPI w a0 (((2 : Int32) + ((6 : Int32) * p1)) + (w.1 60 30)).toNatClampNeg ((1 : Int32) - (w.1 60 31))) →
    (Qm none w49)))))) ∧ ((w.1 a0 ((((2 : Int32) + ((6 : Int32) * p1)) + (w.1 60 30)).toNatClampNeg)) = (w.1 60 31) →
    (vp_in (((2 : Int32) + ((6 : Int32) * p1)) + (w.1 60 32)) 32 ∧
    (∀ w50 : mW, w50 = (mPI w a0 (((2 : Int32) + ((6 : Int32) * p1)) + (w.1 60 32)).toNatClampNeg (w.1 60 33)) →
    (Qm none w50)))))))) ∧ ((w.1 60 29) = (2 : Int32) →
    ((¬ (w.1 a0 ((((2 : Int32) + ((6 : Int32) * p1)) + (w.1 60 30)).toNatClampNeg)) = ((1 : Int32) - (w.1 60 31)) →
    ((¬ (w.1 a0 ((((2 : Int32) + ((6 : Int32) * p1)) + (w.1 60 32)).toNatClampNeg)) = ((1 : Int32) - (w.1 60 33)) →
    (Qm none w)) ∧ ((w.1 a0 ((((2 : Int32) + ((6 : Int32) * p1)) + (w.1 60 32)).toNatClampNeg)) = ((1 : Int32) - (w.1 60 33)) →
    (vp_in (((2 : Int32) + ((6 : Int32) * p1)) + (w.1 60 30)) 32 ∧
    (∀ w51 : mW, w51 = (mPI w a0 (((2 : Int32) + ((6 : Int32) * p1)) + (w.1 60 30)).toNatClampNeg (w.1 60 31)) →
    (Qm none w51)))))) ∧ ((w.1 a0 ((((2 : Int32) + ((6 : Int32) * p1)) + (w.1 60 30)).toNatClampNeg)) = ((1 : Int32) - (w.1 60 31)) →
    (vp_in (((2 : Int32) + ((6 : Int32) * p1)) + (w.1 60 32)) 32 ∧
    (∀ w52 : mW, w52 = (mPI w a0 (((2 : Int32) + ((6 : Int32) * p1)) + (w.1 60 32)).toNatClampNeg (w.1 60 33)) →
    (Qm none w52)))))))) ∧ ((w.1 60 29) = (3 : Int32) →
    ((¬ p2 = 0 →
    ((¬ (w.1 60 29) = (2 : Int32) →
    ((¬ (w.1 60 29) = (3 : Int32) →
    ((¬ (w.1 a0 ((((2 : Int32) + ((6 : Int32) * p1)) + (w.1 60 30)).toNatClampNeg)) = (w.1 60 31) →
    ((¬ (w.1 a0 ((((2 : Int32) + ((6 : Int32) * p1)) + (w.1 60 32)).toNatClampNeg)) = (w.1 60 33) →
    (Qm none w)) ∧ ((w.1 a0 ((((2 : Int32) + ((6 : Int32) * p1)) + (w.1 60 32)).toNatClampNeg)) = (w.1 60 33) →
    (vp_in (((2 : Int32) + ((6 : Int32) * p1)) + (w.1 60 30)) 32 ∧
    (∀ w53 : mW, w53 = (mPI w a0 (((2 : Int32) + ((6 : Int32) * p1)) + (w.1 60 30)).toNatClampNeg ((1 : Int32) - (w.1 60 31))) →
    (Qm none w53)))))) ∧ ((w.1 a0 ((((2 : Int32) + ((6 : Int32) * p1)) + (w.1 60 30)).toNatClampNeg)) = (w.1 60 31) →
    (vp_in (((2 : Int32) + ((6 : Int32) * p1)) + (w.1 60 32)) 32 ∧
    (∀ w54 : mW, w54 = (mPI w a0 (((2 : Int32) + ((6 : Int32) * p1)) + (w.1 60 32)).toNatClampNeg ((1 : Int32) - (w.1 60 33))) →
    (Qm none w54)))))) ∧ ((w.1 60 29) = (3 : Int32) →
    ((¬ (w.1 a0 ((((2 : Int32) + ((6 : Int32) * p1)) + (w.1 60 30)).toNatClampNeg)) = (w.1 60 31) →
    ((¬ (w.1 a0 ((((2 : Int32) + ((6 : Int32) * p1)) + (w.1 60 32)).toNatClampNeg)) = ((1 : Int32) - (w.1 60 33)) →
    (Qm none w)) ∧ ((w.1 a0 ((((2 : Int32) + ((6 : Int32) * p1)) + (w.1 60 32)).toNatClampNeg)) = ((1 : Int32) - (w.1 60 33)) →
    (vp_in (((2 : Int32) + ((6 : Int32) * p1)) + (w.1 60 30)) 32 ∧
    (∀ w55 : mW, w55 = (mPI w a0 (((2 : Int32) + ((6 : Int32) * p1)) + (w.1 60 30)).toNatClampNeg ((1 : Int32) - (w.1 60 31))) →
    (Qm none w55)))))) ∧ ((w.1 a0 ((((2 : Int32) + ((6 : Int32) * p1)) + (w.1 60 30)).toNatClampNeg)) = (w.1 60 31) →
    (vp_in (((2 : Int32) + ((6 : Int32) * p1)) + (w.1 60 32)) 32 ∧
    (∀ w56 : mW, w56 = (mPI w a0 (((2 : Int32) + ((6 : Int32) * p1)) + (w.1 60 32)).toNatClampNeg (w.1 60 33)) →
    (Qm none w56)))))))) ∧ ((w.1 60 29) = (2 : Int32) →
    ((¬ (w.1 a0 ((((2 : Int32) + ((6 : Int32) * p1)) + (w.1 60 30)).toNatClampNeg)) = ((1 : Int32) - (w.1 60 31)) →
    ((¬ (w.1 a0 ((((2 : Int32) + ((6 : Int32) * p1)) + (w.1 60 32)).toNatClampNeg)) = ((1 : Int32) - (w.1 60 33)) →
    (Qm none w)) ∧ ((w.1 a0 ((((2 : Int32) + ((6 : Int32) * p1)) + (w.1 60 32)).toNatClampNeg)) = ((1 : Int32) - (w.1 60 33)) →
    (vp_in (((2 : Int32) + ((6 : Int32) * p1)) + (w.1 60 30)) 32 ∧
    (∀ w57 : mW, w57 = (mPI w a0 (((2 : Int32) + ((6 : Int32) * p1)) + (w.1 60 30)).toNatClampNeg (w.1 60 31)) →
    (Qm none w57)))))) ∧ ((w.1 a0 ((((2 : Int32) + ((6 : Int32) * p1)) + (w.1 60 30)).toNatClampNeg)) = ((1 : Int32) - (w.1 60 31)) →
    (vp_in (((2 : Int32) + ((6 : Int32) * p1)) + (w.1 60 32)) 32 ∧
    (∀ w58 : mW, w58 = (mPI w a0 (((2 : Int32) + ((6 : Int32) * p1)) + (w.1 60 32)).toNatClampNeg (w.1 60 33)) →
    (Qm none w58)))))))) ∧ (p2 = 0 →
    (vp_in (((2 : Int32) + ((6 : Int32) * p1)) + (w.1 60 30)) 32 ∧
    (∀ w59 : mW, w59 = (mPI w a0 (((2 : Int32) + ((6 : Int32) * p1)) + (w.1 60 30)).toNatClampNeg (w.1 60 31)) →
    (vp_in (((2 : Int32) + ((6 : Int32) * p1)) + (w59.1 60 32)) 32 ∧
    (∀ w60 : mW, w60 = (mPI w59 a0 (((2 : Int32) + ((6 : Int32) * p1)) + (w59.1 60 32)).toNatClampNeg ((1 : Int32) - (w59.1 60 33))) →
    (Qm none w60)))))))))) ∧ (p2 = 0 →
    (vp_in (((2 : Int32) + ((6 : Int32) * p1)) + (w.1 60 30)) 32 ∧
    (∀ w61 : mW, w61 = (mPI w a0 (((2 : Int32) + ((6 : Int32) * p1)) + (w.1 60 30)).toNatClampNeg ((1 : Int32) - (w.1 60 31))) →
    (vp_in (((2 : Int32) + ((6 : Int32) * p1)) + (w61.1 60 32)) 32 ∧
    (∀ w62 : mW, w62 = (mPI w61 a0 (((2 : Int32) + ((6 : Int32) * p1)) + (w61.1 60 32)).toNatClampNeg ((1 : Int32) - (w61.1 60 33))) →
    (Qm none w62)))))))))) ∧ (¬ p2 = 0 →
    (vp_in (((2 : Int32) + ((6 : Int32) * p1)) + (w.1 60 30)) 32 ∧
    (∀ w63 : mW, w63 = (mPI w a0 (((2 : Int32) + ((6 : Int32) * p1)) + (w.1 60 30)).toNatClampNeg (w.1 60 31)) →
    (vp_in (((2 : Int32) + ((6 : Int32) * p1)) + (w63.1 60 32)) 32 ∧
    (∀ w64 : mW, w64 = (mPI w63 a0 (((2 : Int32) + ((6 : Int32) * p1)) + (w63.1 60 32)).toNatClampNeg (w63.1 60 33)) →
    (Qm none w64)))))))))) ∧ ((w.1 60 29) = (4 : Int32) →
    ((p2 = 0 →
    (vp_in (((2 : Int32) + ((6 : Int32) * p1)) + (w.1 60 30)) 32 ∧
    (∀ w65 : mW, w65 = (mPI w a0 (((2 : Int32) + ((6 : Int32) * p1)) + (w.1 60 30)).toNatClampNeg ((1 : Int32) - (w.1 60 31))) →
    (Qm none w65)))) ∧ (¬ p2 = 0 →
    (vp_in (((2 : Int32) + ((6 : Int32) * p1)) + (w.1 60 30)) 32 ∧
    (∀ w66 : mW, w66 = (mPI w a0 (((2 : Int32) + ((6 : Int32) * p1)) + (w.1 60 30)).toNatClampNeg (w.1 60 31)) →
    (Qm none w66))))))))))) :
    mG X E MX9_hears 0 [.ref 60, .ref a0, .int p1, .int p2, .retAddr 0, .retAddr 0, .retAddr 0, .retAddr 0] [] w := by
  refine mG_iconst C dX9_hears_0 ic2 ?_
  refine mG_bipush C dX9_hears_1 bp6 ?_
  refine mG_iload_n C dX9_hears_3 rfl rfl ?_
  refine mG_imul C dX9_hears_4 ?_
  refine mG_iadd C dX9_hears_5 ?_
  refine mG_istore (lv' := [.ref 60, .ref a0, .int p1, .int p2, .int ((2 : Int32) + ((6 : Int32) * p1)), .retAddr 0, .retAddr 0, .retAddr 0]) C dX9_hears_6 (by decide) rfl ?_
  refine mG_aload_n C dX9_hears_8 rfl rfl ?_
  refine mG_iload C dX9_hears_9 rfl ?_
  refine mG_aload_n C dX9_hears_11 rfl rfl ?_
  refine mG_getI C dX9_hears_12 fl_863 sh60 rfl ?_
  refine mG_iadd C dX9_hears_15 ?_
  obtain ⟨h1, K⟩ := K
  refine mG_iald C dX9_hears_16 ha0 h1 ?_
  refine mG_istore (lv' := [.ref 60, .ref a0, .int p1, .int p2, .int ((2 : Int32) + ((6 : Int32) * p1)), .int (w.1 a0 ((((2 : Int32) + ((6 : Int32) * p1)) + (w.1 60 30)).toNatClampNeg)), .retAddr 0, .retAddr 0]) C dX9_hears_17 (by decide) rfl ?_
  refine mG_aload_n C dX9_hears_19 rfl rfl ?_
  refine mG_iload C dX9_hears_20 rfl ?_
  refine mG_aload_n C dX9_hears_22 rfl rfl ?_
  refine mG_getI C dX9_hears_23 fl_865 sh60 rfl ?_
  refine mG_iadd C dX9_hears_26 ?_
  obtain ⟨h2, K⟩ := K
  refine mG_iald C dX9_hears_27 ha0 h2 ?_
  refine mG_istore (lv' := [.ref 60, .ref a0, .int p1, .int p2, .int ((2 : Int32) + ((6 : Int32) * p1)), .int (w.1 a0 ((((2 : Int32) + ((6 : Int32) * p1)) + (w.1 60 30)).toNatClampNeg)), .int (w.1 a0 ((((2 : Int32) + ((6 : Int32) * p1)) + (w.1 60 32)).toNatClampNeg)), .retAddr 0]) C dX9_hears_28 (by decide) rfl ?_
  refine mG_aload_n C dX9_hears_30 rfl rfl ?_
  refine mG_getI C dX9_hears_31 fl_862 sh60 rfl ?_
  refine mG_if_eq (tgt := 45) C dX9_hears_34 rfl (fun h => ?_) (fun h => ?_)
  · have K := K.1 h
    refine mG_iconst C dX9_hears_45 ic1 ?_
    refine mG_goto (tgt := 50) C dX9_hears_46 rfl ?_
    refine mG_istore (lv' := [.ref 60, .ref a0, .int p1, .int p2, .int ((2 : Int32) + ((6 : Int32) * p1)), .int (w.1 a0 ((((2 : Int32) + ((6 : Int32) * p1)) + (w.1 60 30)).toNatClampNeg)), .int (w.1 a0 ((((2 : Int32) + ((6 : Int32) * p1)) + (w.1 60 32)).toNatClampNeg)), .int (1 : Int32)]) C dX9_hears_50 (by decide) rfl ?_
    refine mG_iload C dX9_hears_52 rfl ?_
    refine mG_if_eq (tgt := 86) C dX9_hears_54 rfl (fun h => absurd h (by decide)) (fun _ => ?_)
    refine mG_aload_n C dX9_hears_57 rfl rfl ?_
    refine mG_iload C dX9_hears_58 rfl ?_
    refine mG_aload_n C dX9_hears_60 rfl rfl ?_
    refine mG_getI C dX9_hears_61 fl_863 sh60 rfl ?_
    refine mG_iadd C dX9_hears_64 ?_
    refine mG_iload_n C dX9_hears_65 rfl rfl ?_
    refine mG_if_eq (tgt := 76) C dX9_hears_66 rfl (fun h => ?_) (fun h => ?_)
    · have K := K.1 h
      refine mG_iconst C dX9_hears_76 ic1 ?_
      refine mG_aload_n C dX9_hears_77 rfl rfl ?_
      refine mG_getI C dX9_hears_78 fl_864 sh60 rfl ?_
      refine mG_isub C dX9_hears_81 ?_
      obtain ⟨h3, K⟩ := K
      refine mG_iast C dX9_hears_82 ha0 h3 ?_
      refine mG_nm (fun w1 ew1 => ?_)
      have K := K w1 ew1
      refine mG_goto (tgt := 390) C dX9_hears_83 rfl ?_
      exact mG_vret C F dX9_hears_390 rfl K
    · have K := K.2 h
      refine mG_aload_n C dX9_hears_69 rfl rfl ?_
      refine mG_getI C dX9_hears_70 fl_864 sh60 rfl ?_
      refine mG_goto (tgt := 82) C dX9_hears_73 rfl ?_
      obtain ⟨h4, K⟩ := K
      refine mG_iast C dX9_hears_82 ha0 h4 ?_
      refine mG_nm (fun w2 ew2 => ?_)
      have K := K w2 ew2
      refine mG_goto (tgt := 390) C dX9_hears_83 rfl ?_
      exact mG_vret C F dX9_hears_390 rfl K
  · have K := K.2 h
    refine mG_aload_n C dX9_hears_37 rfl rfl ?_
    refine mG_getI C dX9_hears_38 fl_862 sh60 rfl ?_
    refine mG_iconst C dX9_hears_41 ic4 ?_
    refine mG_icmp_ne (tgt := 49) C dX9_hears_42 rfl (fun h => ?_) (fun h => ?_)
    · have K := K.1 h
      refine mG_iconst C dX9_hears_49 ic0 ?_
      refine mG_istore (lv' := [.ref 60, .ref a0, .int p1, .int p2, .int ((2 : Int32) + ((6 : Int32) * p1)), .int (w.1 a0 ((((2 : Int32) + ((6 : Int32) * p1)) + (w.1 60 30)).toNatClampNeg)), .int (w.1 a0 ((((2 : Int32) + ((6 : Int32) * p1)) + (w.1 60 32)).toNatClampNeg)), .int (0 : Int32)]) C dX9_hears_50 (by decide) rfl ?_
      refine mG_iload C dX9_hears_52 rfl ?_
      refine mG_if_eq (tgt := 86) C dX9_hears_54 rfl (fun _ => ?_) (fun h => absurd h (by decide))
      refine mG_aload_n C dX9_hears_86 rfl rfl ?_
      refine mG_getI C dX9_hears_87 fl_862 sh60 rfl ?_
      refine mG_iconst C dX9_hears_90 ic1 ?_
      refine mG_icmp_ne (tgt := 127) C dX9_hears_91 rfl (fun h => ?_) (fun h => ?_)
      · have K := K.1 h
        refine mG_aload_n C dX9_hears_127 rfl rfl ?_
        refine mG_getI C dX9_hears_128 fl_862 sh60 rfl ?_
        refine mG_iconst C dX9_hears_131 ic2 ?_
        refine mG_icmp_ne (tgt := 172) C dX9_hears_132 rfl (fun h => ?_) (fun h => ?_)
        · have K := K.1 h
          refine mG_aload_n C dX9_hears_172 rfl rfl ?_
          refine mG_getI C dX9_hears_173 fl_862 sh60 rfl ?_
          refine mG_iconst C dX9_hears_176 ic3 ?_
          refine mG_icmp_ne (tgt := 215) C dX9_hears_177 rfl (fun h => ?_) (fun h => ?_)
          · have K := K.1 h
            refine mG_aload_n C dX9_hears_215 rfl rfl ?_
            refine mG_getI C dX9_hears_216 fl_862 sh60 rfl ?_
            refine mG_iconst C dX9_hears_219 ic2 ?_
            refine mG_icmp_ne (tgt := 277) C dX9_hears_220 rfl (fun h => ?_) (fun h => ?_)
            · have K := K.1 h
              refine mG_aload_n C dX9_hears_277 rfl rfl ?_
              refine mG_getI C dX9_hears_278 fl_862 sh60 rfl ?_
              refine mG_iconst C dX9_hears_281 ic3 ?_
              refine mG_icmp_ne (tgt := 339) C dX9_hears_282 rfl (fun h => ?_) (fun h => ?_)
              · have K := K.1 h
                refine mG_iload C dX9_hears_339 rfl ?_
                refine mG_aload_n C dX9_hears_341 rfl rfl ?_
                refine mG_getI C dX9_hears_342 fl_864 sh60 rfl ?_
                refine mG_icmp_ne (tgt := 366) C dX9_hears_345 rfl (fun h => ?_) (fun h => ?_)
                · have K := K.1 h
                  refine mG_iload C dX9_hears_366 rfl ?_
                  refine mG_aload_n C dX9_hears_368 rfl rfl ?_
                  refine mG_getI C dX9_hears_369 fl_866 sh60 rfl ?_
                  refine mG_icmp_ne (tgt := 390) C dX9_hears_372 rfl (fun h => ?_) (fun h => ?_)
                  · have K := K.1 h
                    exact mG_vret C F dX9_hears_390 rfl K
                  · have K := K.2 h
                    refine mG_aload_n C dX9_hears_375 rfl rfl ?_
                    refine mG_iload C dX9_hears_376 rfl ?_
                    refine mG_aload_n C dX9_hears_378 rfl rfl ?_
                    refine mG_getI C dX9_hears_379 fl_863 sh60 rfl ?_
                    refine mG_iadd C dX9_hears_382 ?_
                    refine mG_iconst C dX9_hears_383 ic1 ?_
                    refine mG_aload_n C dX9_hears_384 rfl rfl ?_
                    refine mG_getI C dX9_hears_385 fl_864 sh60 rfl ?_
                    refine mG_isub C dX9_hears_388 ?_
                    obtain ⟨h5, K⟩ := K
                    refine mG_iast C dX9_hears_389 ha0 h5 ?_
                    refine mG_nm (fun w3 ew3 => ?_)
                    have K := K w3 ew3
                    exact mG_vret C F dX9_hears_390 rfl K
                · have K := K.2 h
                  refine mG_aload_n C dX9_hears_348 rfl rfl ?_
                  refine mG_iload C dX9_hears_349 rfl ?_
                  refine mG_aload_n C dX9_hears_351 rfl rfl ?_
                  refine mG_getI C dX9_hears_352 fl_865 sh60 rfl ?_
                  refine mG_iadd C dX9_hears_355 ?_
                  refine mG_iconst C dX9_hears_356 ic1 ?_
                  refine mG_aload_n C dX9_hears_357 rfl rfl ?_
                  refine mG_getI C dX9_hears_358 fl_866 sh60 rfl ?_
                  refine mG_isub C dX9_hears_361 ?_
                  obtain ⟨h6, K⟩ := K
                  refine mG_iast C dX9_hears_362 ha0 h6 ?_
                  refine mG_nm (fun w4 ew4 => ?_)
                  have K := K w4 ew4
                  refine mG_goto (tgt := 390) C dX9_hears_363 rfl ?_
                  exact mG_vret C F dX9_hears_390 rfl K
              · have K := K.2 h
                refine mG_iload C dX9_hears_285 rfl ?_
                refine mG_aload_n C dX9_hears_287 rfl rfl ?_
                refine mG_getI C dX9_hears_288 fl_864 sh60 rfl ?_
                refine mG_icmp_ne (tgt := 310) C dX9_hears_291 rfl (fun h => ?_) (fun h => ?_)
                · have K := K.1 h
                  refine mG_iload C dX9_hears_310 rfl ?_
                  refine mG_iconst C dX9_hears_312 ic1 ?_
                  refine mG_aload_n C dX9_hears_313 rfl rfl ?_
                  refine mG_getI C dX9_hears_314 fl_866 sh60 rfl ?_
                  refine mG_isub C dX9_hears_317 ?_
                  refine mG_icmp_ne (tgt := 390) C dX9_hears_318 rfl (fun h => ?_) (fun h => ?_)
                  · have K := K.1 h
                    exact mG_vret C F dX9_hears_390 rfl K
                  · have K := K.2 h
                    refine mG_aload_n C dX9_hears_321 rfl rfl ?_
                    refine mG_iload C dX9_hears_322 rfl ?_
                    refine mG_aload_n C dX9_hears_324 rfl rfl ?_
                    refine mG_getI C dX9_hears_325 fl_863 sh60 rfl ?_
                    refine mG_iadd C dX9_hears_328 ?_
                    refine mG_iconst C dX9_hears_329 ic1 ?_
                    refine mG_aload_n C dX9_hears_330 rfl rfl ?_
                    refine mG_getI C dX9_hears_331 fl_864 sh60 rfl ?_
                    refine mG_isub C dX9_hears_334 ?_
                    obtain ⟨h7, K⟩ := K
                    refine mG_iast C dX9_hears_335 ha0 h7 ?_
                    refine mG_nm (fun w5 ew5 => ?_)
                    have K := K w5 ew5
                    refine mG_goto (tgt := 390) C dX9_hears_336 rfl ?_
                    exact mG_vret C F dX9_hears_390 rfl K
                · have K := K.2 h
                  refine mG_aload_n C dX9_hears_294 rfl rfl ?_
                  refine mG_iload C dX9_hears_295 rfl ?_
                  refine mG_aload_n C dX9_hears_297 rfl rfl ?_
                  refine mG_getI C dX9_hears_298 fl_865 sh60 rfl ?_
                  refine mG_iadd C dX9_hears_301 ?_
                  refine mG_aload_n C dX9_hears_302 rfl rfl ?_
                  refine mG_getI C dX9_hears_303 fl_866 sh60 rfl ?_
                  obtain ⟨h8, K⟩ := K
                  refine mG_iast C dX9_hears_306 ha0 h8 ?_
                  refine mG_nm (fun w6 ew6 => ?_)
                  have K := K w6 ew6
                  refine mG_goto (tgt := 390) C dX9_hears_307 rfl ?_
                  exact mG_vret C F dX9_hears_390 rfl K
            · have K := K.2 h
              refine mG_iload C dX9_hears_223 rfl ?_
              refine mG_iconst C dX9_hears_225 ic1 ?_
              refine mG_aload_n C dX9_hears_226 rfl rfl ?_
              refine mG_getI C dX9_hears_227 fl_864 sh60 rfl ?_
              refine mG_isub C dX9_hears_230 ?_
              refine mG_icmp_ne (tgt := 250) C dX9_hears_231 rfl (fun h => ?_) (fun h => ?_)
              · have K := K.1 h
                refine mG_iload C dX9_hears_250 rfl ?_
                refine mG_iconst C dX9_hears_252 ic1 ?_
                refine mG_aload_n C dX9_hears_253 rfl rfl ?_
                refine mG_getI C dX9_hears_254 fl_866 sh60 rfl ?_
                refine mG_isub C dX9_hears_257 ?_
                refine mG_icmp_ne (tgt := 390) C dX9_hears_258 rfl (fun h => ?_) (fun h => ?_)
                · have K := K.1 h
                  exact mG_vret C F dX9_hears_390 rfl K
                · have K := K.2 h
                  refine mG_aload_n C dX9_hears_261 rfl rfl ?_
                  refine mG_iload C dX9_hears_262 rfl ?_
                  refine mG_aload_n C dX9_hears_264 rfl rfl ?_
                  refine mG_getI C dX9_hears_265 fl_863 sh60 rfl ?_
                  refine mG_iadd C dX9_hears_268 ?_
                  refine mG_aload_n C dX9_hears_269 rfl rfl ?_
                  refine mG_getI C dX9_hears_270 fl_864 sh60 rfl ?_
                  obtain ⟨h9, K⟩ := K
                  refine mG_iast C dX9_hears_273 ha0 h9 ?_
                  refine mG_nm (fun w7 ew7 => ?_)
                  have K := K w7 ew7
                  refine mG_goto (tgt := 390) C dX9_hears_274 rfl ?_
                  exact mG_vret C F dX9_hears_390 rfl K
              · have K := K.2 h
                refine mG_aload_n C dX9_hears_234 rfl rfl ?_
                refine mG_iload C dX9_hears_235 rfl ?_
                refine mG_aload_n C dX9_hears_237 rfl rfl ?_
                refine mG_getI C dX9_hears_238 fl_865 sh60 rfl ?_
                refine mG_iadd C dX9_hears_241 ?_
                refine mG_aload_n C dX9_hears_242 rfl rfl ?_
                refine mG_getI C dX9_hears_243 fl_866 sh60 rfl ?_
                obtain ⟨h10, K⟩ := K
                refine mG_iast C dX9_hears_246 ha0 h10 ?_
                refine mG_nm (fun w8 ew8 => ?_)
                have K := K w8 ew8
                refine mG_goto (tgt := 390) C dX9_hears_247 rfl ?_
                exact mG_vret C F dX9_hears_390 rfl K
          · have K := K.2 h
            refine mG_iload_n C dX9_hears_180 rfl rfl ?_
            refine mG_if_ne (tgt := 215) C dX9_hears_181 rfl (fun h => ?_) (fun h => ?_)
            · have K := K.1 h
              refine mG_aload_n C dX9_hears_215 rfl rfl ?_
              refine mG_getI C dX9_hears_216 fl_862 sh60 rfl ?_
              refine mG_iconst C dX9_hears_219 ic2 ?_
              refine mG_icmp_ne (tgt := 277) C dX9_hears_220 rfl (fun h => ?_) (fun h => ?_)
              · have K := K.1 h
                refine mG_aload_n C dX9_hears_277 rfl rfl ?_
                refine mG_getI C dX9_hears_278 fl_862 sh60 rfl ?_
                refine mG_iconst C dX9_hears_281 ic3 ?_
                refine mG_icmp_ne (tgt := 339) C dX9_hears_282 rfl (fun h => ?_) (fun h => ?_)
                · have K := K.1 h
                  refine mG_iload C dX9_hears_339 rfl ?_
                  refine mG_aload_n C dX9_hears_341 rfl rfl ?_
                  refine mG_getI C dX9_hears_342 fl_864 sh60 rfl ?_
                  refine mG_icmp_ne (tgt := 366) C dX9_hears_345 rfl (fun h => ?_) (fun h => ?_)
                  · have K := K.1 h
                    refine mG_iload C dX9_hears_366 rfl ?_
                    refine mG_aload_n C dX9_hears_368 rfl rfl ?_
                    refine mG_getI C dX9_hears_369 fl_866 sh60 rfl ?_
                    refine mG_icmp_ne (tgt := 390) C dX9_hears_372 rfl (fun h => ?_) (fun h => ?_)
                    · have K := K.1 h
                      exact mG_vret C F dX9_hears_390 rfl K
                    · have K := K.2 h
                      refine mG_aload_n C dX9_hears_375 rfl rfl ?_
                      refine mG_iload C dX9_hears_376 rfl ?_
                      refine mG_aload_n C dX9_hears_378 rfl rfl ?_
                      refine mG_getI C dX9_hears_379 fl_863 sh60 rfl ?_
                      refine mG_iadd C dX9_hears_382 ?_
                      refine mG_iconst C dX9_hears_383 ic1 ?_
                      refine mG_aload_n C dX9_hears_384 rfl rfl ?_
                      refine mG_getI C dX9_hears_385 fl_864 sh60 rfl ?_
                      refine mG_isub C dX9_hears_388 ?_
                      obtain ⟨h11, K⟩ := K
                      refine mG_iast C dX9_hears_389 ha0 h11 ?_
                      refine mG_nm (fun w9 ew9 => ?_)
                      have K := K w9 ew9
                      exact mG_vret C F dX9_hears_390 rfl K
                  · have K := K.2 h
                    refine mG_aload_n C dX9_hears_348 rfl rfl ?_
                    refine mG_iload C dX9_hears_349 rfl ?_
                    refine mG_aload_n C dX9_hears_351 rfl rfl ?_
                    refine mG_getI C dX9_hears_352 fl_865 sh60 rfl ?_
                    refine mG_iadd C dX9_hears_355 ?_
                    refine mG_iconst C dX9_hears_356 ic1 ?_
                    refine mG_aload_n C dX9_hears_357 rfl rfl ?_
                    refine mG_getI C dX9_hears_358 fl_866 sh60 rfl ?_
                    refine mG_isub C dX9_hears_361 ?_
                    obtain ⟨h12, K⟩ := K
                    refine mG_iast C dX9_hears_362 ha0 h12 ?_
                    refine mG_nm (fun w10 ew10 => ?_)
                    have K := K w10 ew10
                    refine mG_goto (tgt := 390) C dX9_hears_363 rfl ?_
                    exact mG_vret C F dX9_hears_390 rfl K
                · have K := K.2 h
                  refine mG_iload C dX9_hears_285 rfl ?_
                  refine mG_aload_n C dX9_hears_287 rfl rfl ?_
                  refine mG_getI C dX9_hears_288 fl_864 sh60 rfl ?_
                  refine mG_icmp_ne (tgt := 310) C dX9_hears_291 rfl (fun h => ?_) (fun h => ?_)
                  · have K := K.1 h
                    refine mG_iload C dX9_hears_310 rfl ?_
                    refine mG_iconst C dX9_hears_312 ic1 ?_
                    refine mG_aload_n C dX9_hears_313 rfl rfl ?_
                    refine mG_getI C dX9_hears_314 fl_866 sh60 rfl ?_
                    refine mG_isub C dX9_hears_317 ?_
                    refine mG_icmp_ne (tgt := 390) C dX9_hears_318 rfl (fun h => ?_) (fun h => ?_)
                    · have K := K.1 h
                      exact mG_vret C F dX9_hears_390 rfl K
                    · have K := K.2 h
                      refine mG_aload_n C dX9_hears_321 rfl rfl ?_
                      refine mG_iload C dX9_hears_322 rfl ?_
                      refine mG_aload_n C dX9_hears_324 rfl rfl ?_
                      refine mG_getI C dX9_hears_325 fl_863 sh60 rfl ?_
                      refine mG_iadd C dX9_hears_328 ?_
                      refine mG_iconst C dX9_hears_329 ic1 ?_
                      refine mG_aload_n C dX9_hears_330 rfl rfl ?_
                      refine mG_getI C dX9_hears_331 fl_864 sh60 rfl ?_
                      refine mG_isub C dX9_hears_334 ?_
                      obtain ⟨h13, K⟩ := K
                      refine mG_iast C dX9_hears_335 ha0 h13 ?_
                      refine mG_nm (fun w11 ew11 => ?_)
                      have K := K w11 ew11
                      refine mG_goto (tgt := 390) C dX9_hears_336 rfl ?_
                      exact mG_vret C F dX9_hears_390 rfl K
                  · have K := K.2 h
                    refine mG_aload_n C dX9_hears_294 rfl rfl ?_
                    refine mG_iload C dX9_hears_295 rfl ?_
                    refine mG_aload_n C dX9_hears_297 rfl rfl ?_
                    refine mG_getI C dX9_hears_298 fl_865 sh60 rfl ?_
                    refine mG_iadd C dX9_hears_301 ?_
                    refine mG_aload_n C dX9_hears_302 rfl rfl ?_
                    refine mG_getI C dX9_hears_303 fl_866 sh60 rfl ?_
                    obtain ⟨h14, K⟩ := K
                    refine mG_iast C dX9_hears_306 ha0 h14 ?_
                    refine mG_nm (fun w12 ew12 => ?_)
                    have K := K w12 ew12
                    refine mG_goto (tgt := 390) C dX9_hears_307 rfl ?_
                    exact mG_vret C F dX9_hears_390 rfl K
              · have K := K.2 h
                refine mG_iload C dX9_hears_223 rfl ?_
                refine mG_iconst C dX9_hears_225 ic1 ?_
                refine mG_aload_n C dX9_hears_226 rfl rfl ?_
                refine mG_getI C dX9_hears_227 fl_864 sh60 rfl ?_
                refine mG_isub C dX9_hears_230 ?_
                refine mG_icmp_ne (tgt := 250) C dX9_hears_231 rfl (fun h => ?_) (fun h => ?_)
                · have K := K.1 h
                  refine mG_iload C dX9_hears_250 rfl ?_
                  refine mG_iconst C dX9_hears_252 ic1 ?_
                  refine mG_aload_n C dX9_hears_253 rfl rfl ?_
                  refine mG_getI C dX9_hears_254 fl_866 sh60 rfl ?_
                  refine mG_isub C dX9_hears_257 ?_
                  refine mG_icmp_ne (tgt := 390) C dX9_hears_258 rfl (fun h => ?_) (fun h => ?_)
                  · have K := K.1 h
                    exact mG_vret C F dX9_hears_390 rfl K
                  · have K := K.2 h
                    refine mG_aload_n C dX9_hears_261 rfl rfl ?_
                    refine mG_iload C dX9_hears_262 rfl ?_
                    refine mG_aload_n C dX9_hears_264 rfl rfl ?_
                    refine mG_getI C dX9_hears_265 fl_863 sh60 rfl ?_
                    refine mG_iadd C dX9_hears_268 ?_
                    refine mG_aload_n C dX9_hears_269 rfl rfl ?_
                    refine mG_getI C dX9_hears_270 fl_864 sh60 rfl ?_
                    obtain ⟨h15, K⟩ := K
                    refine mG_iast C dX9_hears_273 ha0 h15 ?_
                    refine mG_nm (fun w13 ew13 => ?_)
                    have K := K w13 ew13
                    refine mG_goto (tgt := 390) C dX9_hears_274 rfl ?_
                    exact mG_vret C F dX9_hears_390 rfl K
                · have K := K.2 h
                  refine mG_aload_n C dX9_hears_234 rfl rfl ?_
                  refine mG_iload C dX9_hears_235 rfl ?_
                  refine mG_aload_n C dX9_hears_237 rfl rfl ?_
                  refine mG_getI C dX9_hears_238 fl_865 sh60 rfl ?_
                  refine mG_iadd C dX9_hears_241 ?_
                  refine mG_aload_n C dX9_hears_242 rfl rfl ?_
                  refine mG_getI C dX9_hears_243 fl_866 sh60 rfl ?_
                  obtain ⟨h16, K⟩ := K
                  refine mG_iast C dX9_hears_246 ha0 h16 ?_
                  refine mG_nm (fun w14 ew14 => ?_)
                  have K := K w14 ew14
                  refine mG_goto (tgt := 390) C dX9_hears_247 rfl ?_
                  exact mG_vret C F dX9_hears_390 rfl K
            · have K := K.2 h
              refine mG_aload_n C dX9_hears_184 rfl rfl ?_
              refine mG_iload C dX9_hears_185 rfl ?_
              refine mG_aload_n C dX9_hears_187 rfl rfl ?_
              refine mG_getI C dX9_hears_188 fl_863 sh60 rfl ?_
              refine mG_iadd C dX9_hears_191 ?_
              refine mG_aload_n C dX9_hears_192 rfl rfl ?_
              refine mG_getI C dX9_hears_193 fl_864 sh60 rfl ?_
              obtain ⟨h17, K⟩ := K
              refine mG_iast C dX9_hears_196 ha0 h17 ?_
              refine mG_nm (fun w15 ew15 => ?_)
              have K := K w15 ew15
              refine mG_aload_n C dX9_hears_197 rfl rfl ?_
              refine mG_iload C dX9_hears_198 rfl ?_
              refine mG_aload_n C dX9_hears_200 rfl rfl ?_
              refine mG_getI C dX9_hears_201 fl_865 sh60 rfl ?_
              refine mG_iadd C dX9_hears_204 ?_
              refine mG_iconst C dX9_hears_205 ic1 ?_
              refine mG_aload_n C dX9_hears_206 rfl rfl ?_
              refine mG_getI C dX9_hears_207 fl_866 sh60 rfl ?_
              refine mG_isub C dX9_hears_210 ?_
              obtain ⟨h18, K⟩ := K
              refine mG_iast C dX9_hears_211 ha0 h18 ?_
              refine mG_nm (fun w16 ew16 => ?_)
              have K := K w16 ew16
              refine mG_goto (tgt := 390) C dX9_hears_212 rfl ?_
              exact mG_vret C F dX9_hears_390 rfl K
        · have K := K.2 h
          refine mG_iload_n C dX9_hears_135 rfl rfl ?_
          refine mG_if_ne (tgt := 172) C dX9_hears_136 rfl (fun h => ?_) (fun h => ?_)
          · have K := K.1 h
            refine mG_aload_n C dX9_hears_172 rfl rfl ?_
            refine mG_getI C dX9_hears_173 fl_862 sh60 rfl ?_
            refine mG_iconst C dX9_hears_176 ic3 ?_
            refine mG_icmp_ne (tgt := 215) C dX9_hears_177 rfl (fun h => ?_) (fun h => ?_)
            · have K := K.1 h
              refine mG_aload_n C dX9_hears_215 rfl rfl ?_
              refine mG_getI C dX9_hears_216 fl_862 sh60 rfl ?_
              refine mG_iconst C dX9_hears_219 ic2 ?_
              refine mG_icmp_ne (tgt := 277) C dX9_hears_220 rfl (fun h => ?_) (fun h => ?_)
              · have K := K.1 h
                refine mG_aload_n C dX9_hears_277 rfl rfl ?_
                refine mG_getI C dX9_hears_278 fl_862 sh60 rfl ?_
                refine mG_iconst C dX9_hears_281 ic3 ?_
                refine mG_icmp_ne (tgt := 339) C dX9_hears_282 rfl (fun h => ?_) (fun h => ?_)
                · have K := K.1 h
                  refine mG_iload C dX9_hears_339 rfl ?_
                  refine mG_aload_n C dX9_hears_341 rfl rfl ?_
                  refine mG_getI C dX9_hears_342 fl_864 sh60 rfl ?_
                  refine mG_icmp_ne (tgt := 366) C dX9_hears_345 rfl (fun h => ?_) (fun h => ?_)
                  · have K := K.1 h
                    refine mG_iload C dX9_hears_366 rfl ?_
                    refine mG_aload_n C dX9_hears_368 rfl rfl ?_
                    refine mG_getI C dX9_hears_369 fl_866 sh60 rfl ?_
                    refine mG_icmp_ne (tgt := 390) C dX9_hears_372 rfl (fun h => ?_) (fun h => ?_)
                    · have K := K.1 h
                      exact mG_vret C F dX9_hears_390 rfl K
                    · have K := K.2 h
                      refine mG_aload_n C dX9_hears_375 rfl rfl ?_
                      refine mG_iload C dX9_hears_376 rfl ?_
                      refine mG_aload_n C dX9_hears_378 rfl rfl ?_
                      refine mG_getI C dX9_hears_379 fl_863 sh60 rfl ?_
                      refine mG_iadd C dX9_hears_382 ?_
                      refine mG_iconst C dX9_hears_383 ic1 ?_
                      refine mG_aload_n C dX9_hears_384 rfl rfl ?_
                      refine mG_getI C dX9_hears_385 fl_864 sh60 rfl ?_
                      refine mG_isub C dX9_hears_388 ?_
                      obtain ⟨h19, K⟩ := K
                      refine mG_iast C dX9_hears_389 ha0 h19 ?_
                      refine mG_nm (fun w17 ew17 => ?_)
                      have K := K w17 ew17
                      exact mG_vret C F dX9_hears_390 rfl K
                  · have K := K.2 h
                    refine mG_aload_n C dX9_hears_348 rfl rfl ?_
                    refine mG_iload C dX9_hears_349 rfl ?_
                    refine mG_aload_n C dX9_hears_351 rfl rfl ?_
                    refine mG_getI C dX9_hears_352 fl_865 sh60 rfl ?_
                    refine mG_iadd C dX9_hears_355 ?_
                    refine mG_iconst C dX9_hears_356 ic1 ?_
                    refine mG_aload_n C dX9_hears_357 rfl rfl ?_
                    refine mG_getI C dX9_hears_358 fl_866 sh60 rfl ?_
                    refine mG_isub C dX9_hears_361 ?_
                    obtain ⟨h20, K⟩ := K
                    refine mG_iast C dX9_hears_362 ha0 h20 ?_
                    refine mG_nm (fun w18 ew18 => ?_)
                    have K := K w18 ew18
                    refine mG_goto (tgt := 390) C dX9_hears_363 rfl ?_
                    exact mG_vret C F dX9_hears_390 rfl K
                · have K := K.2 h
                  refine mG_iload C dX9_hears_285 rfl ?_
                  refine mG_aload_n C dX9_hears_287 rfl rfl ?_
                  refine mG_getI C dX9_hears_288 fl_864 sh60 rfl ?_
                  refine mG_icmp_ne (tgt := 310) C dX9_hears_291 rfl (fun h => ?_) (fun h => ?_)
                  · have K := K.1 h
                    refine mG_iload C dX9_hears_310 rfl ?_
                    refine mG_iconst C dX9_hears_312 ic1 ?_
                    refine mG_aload_n C dX9_hears_313 rfl rfl ?_
                    refine mG_getI C dX9_hears_314 fl_866 sh60 rfl ?_
                    refine mG_isub C dX9_hears_317 ?_
                    refine mG_icmp_ne (tgt := 390) C dX9_hears_318 rfl (fun h => ?_) (fun h => ?_)
                    · have K := K.1 h
                      exact mG_vret C F dX9_hears_390 rfl K
                    · have K := K.2 h
                      refine mG_aload_n C dX9_hears_321 rfl rfl ?_
                      refine mG_iload C dX9_hears_322 rfl ?_
                      refine mG_aload_n C dX9_hears_324 rfl rfl ?_
                      refine mG_getI C dX9_hears_325 fl_863 sh60 rfl ?_
                      refine mG_iadd C dX9_hears_328 ?_
                      refine mG_iconst C dX9_hears_329 ic1 ?_
                      refine mG_aload_n C dX9_hears_330 rfl rfl ?_
                      refine mG_getI C dX9_hears_331 fl_864 sh60 rfl ?_
                      refine mG_isub C dX9_hears_334 ?_
                      obtain ⟨h21, K⟩ := K
                      refine mG_iast C dX9_hears_335 ha0 h21 ?_
                      refine mG_nm (fun w19 ew19 => ?_)
                      have K := K w19 ew19
                      refine mG_goto (tgt := 390) C dX9_hears_336 rfl ?_
                      exact mG_vret C F dX9_hears_390 rfl K
                  · have K := K.2 h
                    refine mG_aload_n C dX9_hears_294 rfl rfl ?_
                    refine mG_iload C dX9_hears_295 rfl ?_
                    refine mG_aload_n C dX9_hears_297 rfl rfl ?_
                    refine mG_getI C dX9_hears_298 fl_865 sh60 rfl ?_
                    refine mG_iadd C dX9_hears_301 ?_
                    refine mG_aload_n C dX9_hears_302 rfl rfl ?_
                    refine mG_getI C dX9_hears_303 fl_866 sh60 rfl ?_
                    obtain ⟨h22, K⟩ := K
                    refine mG_iast C dX9_hears_306 ha0 h22 ?_
                    refine mG_nm (fun w20 ew20 => ?_)
                    have K := K w20 ew20
                    refine mG_goto (tgt := 390) C dX9_hears_307 rfl ?_
                    exact mG_vret C F dX9_hears_390 rfl K
              · have K := K.2 h
                refine mG_iload C dX9_hears_223 rfl ?_
                refine mG_iconst C dX9_hears_225 ic1 ?_
                refine mG_aload_n C dX9_hears_226 rfl rfl ?_
                refine mG_getI C dX9_hears_227 fl_864 sh60 rfl ?_
                refine mG_isub C dX9_hears_230 ?_
                refine mG_icmp_ne (tgt := 250) C dX9_hears_231 rfl (fun h => ?_) (fun h => ?_)
                · have K := K.1 h
                  refine mG_iload C dX9_hears_250 rfl ?_
                  refine mG_iconst C dX9_hears_252 ic1 ?_
                  refine mG_aload_n C dX9_hears_253 rfl rfl ?_
                  refine mG_getI C dX9_hears_254 fl_866 sh60 rfl ?_
                  refine mG_isub C dX9_hears_257 ?_
                  refine mG_icmp_ne (tgt := 390) C dX9_hears_258 rfl (fun h => ?_) (fun h => ?_)
                  · have K := K.1 h
                    exact mG_vret C F dX9_hears_390 rfl K
                  · have K := K.2 h
                    refine mG_aload_n C dX9_hears_261 rfl rfl ?_
                    refine mG_iload C dX9_hears_262 rfl ?_
                    refine mG_aload_n C dX9_hears_264 rfl rfl ?_
                    refine mG_getI C dX9_hears_265 fl_863 sh60 rfl ?_
                    refine mG_iadd C dX9_hears_268 ?_
                    refine mG_aload_n C dX9_hears_269 rfl rfl ?_
                    refine mG_getI C dX9_hears_270 fl_864 sh60 rfl ?_
                    obtain ⟨h23, K⟩ := K
                    refine mG_iast C dX9_hears_273 ha0 h23 ?_
                    refine mG_nm (fun w21 ew21 => ?_)
                    have K := K w21 ew21
                    refine mG_goto (tgt := 390) C dX9_hears_274 rfl ?_
                    exact mG_vret C F dX9_hears_390 rfl K
                · have K := K.2 h
                  refine mG_aload_n C dX9_hears_234 rfl rfl ?_
                  refine mG_iload C dX9_hears_235 rfl ?_
                  refine mG_aload_n C dX9_hears_237 rfl rfl ?_
                  refine mG_getI C dX9_hears_238 fl_865 sh60 rfl ?_
                  refine mG_iadd C dX9_hears_241 ?_
                  refine mG_aload_n C dX9_hears_242 rfl rfl ?_
                  refine mG_getI C dX9_hears_243 fl_866 sh60 rfl ?_
                  obtain ⟨h24, K⟩ := K
                  refine mG_iast C dX9_hears_246 ha0 h24 ?_
                  refine mG_nm (fun w22 ew22 => ?_)
                  have K := K w22 ew22
                  refine mG_goto (tgt := 390) C dX9_hears_247 rfl ?_
                  exact mG_vret C F dX9_hears_390 rfl K
            · have K := K.2 h
              refine mG_iload_n C dX9_hears_180 rfl rfl ?_
              refine mG_if_ne (tgt := 215) C dX9_hears_181 rfl (fun h => ?_) (fun h => ?_)
              · have K := K.1 h
                refine mG_aload_n C dX9_hears_215 rfl rfl ?_
                refine mG_getI C dX9_hears_216 fl_862 sh60 rfl ?_
                refine mG_iconst C dX9_hears_219 ic2 ?_
                refine mG_icmp_ne (tgt := 277) C dX9_hears_220 rfl (fun h => ?_) (fun h => ?_)
                · have K := K.1 h
                  refine mG_aload_n C dX9_hears_277 rfl rfl ?_
                  refine mG_getI C dX9_hears_278 fl_862 sh60 rfl ?_
                  refine mG_iconst C dX9_hears_281 ic3 ?_
                  refine mG_icmp_ne (tgt := 339) C dX9_hears_282 rfl (fun h => ?_) (fun h => ?_)
                  · have K := K.1 h
                    refine mG_iload C dX9_hears_339 rfl ?_
                    refine mG_aload_n C dX9_hears_341 rfl rfl ?_
                    refine mG_getI C dX9_hears_342 fl_864 sh60 rfl ?_
                    refine mG_icmp_ne (tgt := 366) C dX9_hears_345 rfl (fun h => ?_) (fun h => ?_)
                    · have K := K.1 h
                      refine mG_iload C dX9_hears_366 rfl ?_
                      refine mG_aload_n C dX9_hears_368 rfl rfl ?_
                      refine mG_getI C dX9_hears_369 fl_866 sh60 rfl ?_
                      refine mG_icmp_ne (tgt := 390) C dX9_hears_372 rfl (fun h => ?_) (fun h => ?_)
                      · have K := K.1 h
                        exact mG_vret C F dX9_hears_390 rfl K
                      · have K := K.2 h
                        refine mG_aload_n C dX9_hears_375 rfl rfl ?_
                        refine mG_iload C dX9_hears_376 rfl ?_
                        refine mG_aload_n C dX9_hears_378 rfl rfl ?_
                        refine mG_getI C dX9_hears_379 fl_863 sh60 rfl ?_
                        refine mG_iadd C dX9_hears_382 ?_
                        refine mG_iconst C dX9_hears_383 ic1 ?_
                        refine mG_aload_n C dX9_hears_384 rfl rfl ?_
                        refine mG_getI C dX9_hears_385 fl_864 sh60 rfl ?_
                        refine mG_isub C dX9_hears_388 ?_
                        obtain ⟨h25, K⟩ := K
                        refine mG_iast C dX9_hears_389 ha0 h25 ?_
                        refine mG_nm (fun w23 ew23 => ?_)
                        have K := K w23 ew23
                        exact mG_vret C F dX9_hears_390 rfl K
                    · have K := K.2 h
                      refine mG_aload_n C dX9_hears_348 rfl rfl ?_
                      refine mG_iload C dX9_hears_349 rfl ?_
                      refine mG_aload_n C dX9_hears_351 rfl rfl ?_
                      refine mG_getI C dX9_hears_352 fl_865 sh60 rfl ?_
                      refine mG_iadd C dX9_hears_355 ?_
                      refine mG_iconst C dX9_hears_356 ic1 ?_
                      refine mG_aload_n C dX9_hears_357 rfl rfl ?_
                      refine mG_getI C dX9_hears_358 fl_866 sh60 rfl ?_
                      refine mG_isub C dX9_hears_361 ?_
                      obtain ⟨h26, K⟩ := K
                      refine mG_iast C dX9_hears_362 ha0 h26 ?_
                      refine mG_nm (fun w24 ew24 => ?_)
                      have K := K w24 ew24
                      refine mG_goto (tgt := 390) C dX9_hears_363 rfl ?_
                      exact mG_vret C F dX9_hears_390 rfl K
                  · have K := K.2 h
                    refine mG_iload C dX9_hears_285 rfl ?_
                    refine mG_aload_n C dX9_hears_287 rfl rfl ?_
                    refine mG_getI C dX9_hears_288 fl_864 sh60 rfl ?_
                    refine mG_icmp_ne (tgt := 310) C dX9_hears_291 rfl (fun h => ?_) (fun h => ?_)
                    · have K := K.1 h
                      refine mG_iload C dX9_hears_310 rfl ?_
                      refine mG_iconst C dX9_hears_312 ic1 ?_
                      refine mG_aload_n C dX9_hears_313 rfl rfl ?_
                      refine mG_getI C dX9_hears_314 fl_866 sh60 rfl ?_
                      refine mG_isub C dX9_hears_317 ?_
                      refine mG_icmp_ne (tgt := 390) C dX9_hears_318 rfl (fun h => ?_) (fun h => ?_)
                      · have K := K.1 h
                        exact mG_vret C F dX9_hears_390 rfl K
                      · have K := K.2 h
                        refine mG_aload_n C dX9_hears_321 rfl rfl ?_
                        refine mG_iload C dX9_hears_322 rfl ?_
                        refine mG_aload_n C dX9_hears_324 rfl rfl ?_
                        refine mG_getI C dX9_hears_325 fl_863 sh60 rfl ?_
                        refine mG_iadd C dX9_hears_328 ?_
                        refine mG_iconst C dX9_hears_329 ic1 ?_
                        refine mG_aload_n C dX9_hears_330 rfl rfl ?_
                        refine mG_getI C dX9_hears_331 fl_864 sh60 rfl ?_
                        refine mG_isub C dX9_hears_334 ?_
                        obtain ⟨h27, K⟩ := K
                        refine mG_iast C dX9_hears_335 ha0 h27 ?_
                        refine mG_nm (fun w25 ew25 => ?_)
                        have K := K w25 ew25
                        refine mG_goto (tgt := 390) C dX9_hears_336 rfl ?_
                        exact mG_vret C F dX9_hears_390 rfl K
                    · have K := K.2 h
                      refine mG_aload_n C dX9_hears_294 rfl rfl ?_
                      refine mG_iload C dX9_hears_295 rfl ?_
                      refine mG_aload_n C dX9_hears_297 rfl rfl ?_
                      refine mG_getI C dX9_hears_298 fl_865 sh60 rfl ?_
                      refine mG_iadd C dX9_hears_301 ?_
                      refine mG_aload_n C dX9_hears_302 rfl rfl ?_
                      refine mG_getI C dX9_hears_303 fl_866 sh60 rfl ?_
                      obtain ⟨h28, K⟩ := K
                      refine mG_iast C dX9_hears_306 ha0 h28 ?_
                      refine mG_nm (fun w26 ew26 => ?_)
                      have K := K w26 ew26
                      refine mG_goto (tgt := 390) C dX9_hears_307 rfl ?_
                      exact mG_vret C F dX9_hears_390 rfl K
                · have K := K.2 h
                  refine mG_iload C dX9_hears_223 rfl ?_
                  refine mG_iconst C dX9_hears_225 ic1 ?_
                  refine mG_aload_n C dX9_hears_226 rfl rfl ?_
                  refine mG_getI C dX9_hears_227 fl_864 sh60 rfl ?_
                  refine mG_isub C dX9_hears_230 ?_
                  refine mG_icmp_ne (tgt := 250) C dX9_hears_231 rfl (fun h => ?_) (fun h => ?_)
                  · have K := K.1 h
                    refine mG_iload C dX9_hears_250 rfl ?_
                    refine mG_iconst C dX9_hears_252 ic1 ?_
                    refine mG_aload_n C dX9_hears_253 rfl rfl ?_
                    refine mG_getI C dX9_hears_254 fl_866 sh60 rfl ?_
                    refine mG_isub C dX9_hears_257 ?_
                    refine mG_icmp_ne (tgt := 390) C dX9_hears_258 rfl (fun h => ?_) (fun h => ?_)
                    · have K := K.1 h
                      exact mG_vret C F dX9_hears_390 rfl K
                    · have K := K.2 h
                      refine mG_aload_n C dX9_hears_261 rfl rfl ?_
                      refine mG_iload C dX9_hears_262 rfl ?_
                      refine mG_aload_n C dX9_hears_264 rfl rfl ?_
                      refine mG_getI C dX9_hears_265 fl_863 sh60 rfl ?_
                      refine mG_iadd C dX9_hears_268 ?_
                      refine mG_aload_n C dX9_hears_269 rfl rfl ?_
                      refine mG_getI C dX9_hears_270 fl_864 sh60 rfl ?_
                      obtain ⟨h29, K⟩ := K
                      refine mG_iast C dX9_hears_273 ha0 h29 ?_
                      refine mG_nm (fun w27 ew27 => ?_)
                      have K := K w27 ew27
                      refine mG_goto (tgt := 390) C dX9_hears_274 rfl ?_
                      exact mG_vret C F dX9_hears_390 rfl K
                  · have K := K.2 h
                    refine mG_aload_n C dX9_hears_234 rfl rfl ?_
                    refine mG_iload C dX9_hears_235 rfl ?_
                    refine mG_aload_n C dX9_hears_237 rfl rfl ?_
                    refine mG_getI C dX9_hears_238 fl_865 sh60 rfl ?_
                    refine mG_iadd C dX9_hears_241 ?_
                    refine mG_aload_n C dX9_hears_242 rfl rfl ?_
                    refine mG_getI C dX9_hears_243 fl_866 sh60 rfl ?_
                    obtain ⟨h30, K⟩ := K
                    refine mG_iast C dX9_hears_246 ha0 h30 ?_
                    refine mG_nm (fun w28 ew28 => ?_)
                    have K := K w28 ew28
                    refine mG_goto (tgt := 390) C dX9_hears_247 rfl ?_
                    exact mG_vret C F dX9_hears_390 rfl K
              · have K := K.2 h
                refine mG_aload_n C dX9_hears_184 rfl rfl ?_
                refine mG_iload C dX9_hears_185 rfl ?_
                refine mG_aload_n C dX9_hears_187 rfl rfl ?_
                refine mG_getI C dX9_hears_188 fl_863 sh60 rfl ?_
                refine mG_iadd C dX9_hears_191 ?_
                refine mG_aload_n C dX9_hears_192 rfl rfl ?_
                refine mG_getI C dX9_hears_193 fl_864 sh60 rfl ?_
                obtain ⟨h31, K⟩ := K
                refine mG_iast C dX9_hears_196 ha0 h31 ?_
                refine mG_nm (fun w29 ew29 => ?_)
                have K := K w29 ew29
                refine mG_aload_n C dX9_hears_197 rfl rfl ?_
                refine mG_iload C dX9_hears_198 rfl ?_
                refine mG_aload_n C dX9_hears_200 rfl rfl ?_
                refine mG_getI C dX9_hears_201 fl_865 sh60 rfl ?_
                refine mG_iadd C dX9_hears_204 ?_
                refine mG_iconst C dX9_hears_205 ic1 ?_
                refine mG_aload_n C dX9_hears_206 rfl rfl ?_
                refine mG_getI C dX9_hears_207 fl_866 sh60 rfl ?_
                refine mG_isub C dX9_hears_210 ?_
                obtain ⟨h32, K⟩ := K
                refine mG_iast C dX9_hears_211 ha0 h32 ?_
                refine mG_nm (fun w30 ew30 => ?_)
                have K := K w30 ew30
                refine mG_goto (tgt := 390) C dX9_hears_212 rfl ?_
                exact mG_vret C F dX9_hears_390 rfl K
          · have K := K.2 h
            refine mG_aload_n C dX9_hears_139 rfl rfl ?_
            refine mG_iload C dX9_hears_140 rfl ?_
            refine mG_aload_n C dX9_hears_142 rfl rfl ?_
            refine mG_getI C dX9_hears_143 fl_863 sh60 rfl ?_
            refine mG_iadd C dX9_hears_146 ?_
            refine mG_iconst C dX9_hears_147 ic1 ?_
            refine mG_aload_n C dX9_hears_148 rfl rfl ?_
            refine mG_getI C dX9_hears_149 fl_864 sh60 rfl ?_
            refine mG_isub C dX9_hears_152 ?_
            obtain ⟨h33, K⟩ := K
            refine mG_iast C dX9_hears_153 ha0 h33 ?_
            refine mG_nm (fun w31 ew31 => ?_)
            have K := K w31 ew31
            refine mG_aload_n C dX9_hears_154 rfl rfl ?_
            refine mG_iload C dX9_hears_155 rfl ?_
            refine mG_aload_n C dX9_hears_157 rfl rfl ?_
            refine mG_getI C dX9_hears_158 fl_865 sh60 rfl ?_
            refine mG_iadd C dX9_hears_161 ?_
            refine mG_iconst C dX9_hears_162 ic1 ?_
            refine mG_aload_n C dX9_hears_163 rfl rfl ?_
            refine mG_getI C dX9_hears_164 fl_866 sh60 rfl ?_
            refine mG_isub C dX9_hears_167 ?_
            obtain ⟨h34, K⟩ := K
            refine mG_iast C dX9_hears_168 ha0 h34 ?_
            refine mG_nm (fun w32 ew32 => ?_)
            have K := K w32 ew32
            refine mG_goto (tgt := 390) C dX9_hears_169 rfl ?_
            exact mG_vret C F dX9_hears_390 rfl K
      · have K := K.2 h
        refine mG_iload_n C dX9_hears_94 rfl rfl ?_
        refine mG_if_eq (tgt := 127) C dX9_hears_95 rfl (fun h => ?_) (fun h => ?_)
        · have K := K.1 h
          refine mG_aload_n C dX9_hears_127 rfl rfl ?_
          refine mG_getI C dX9_hears_128 fl_862 sh60 rfl ?_
          refine mG_iconst C dX9_hears_131 ic2 ?_
          refine mG_icmp_ne (tgt := 172) C dX9_hears_132 rfl (fun h => ?_) (fun h => ?_)
          · have K := K.1 h
            refine mG_aload_n C dX9_hears_172 rfl rfl ?_
            refine mG_getI C dX9_hears_173 fl_862 sh60 rfl ?_
            refine mG_iconst C dX9_hears_176 ic3 ?_
            refine mG_icmp_ne (tgt := 215) C dX9_hears_177 rfl (fun h => ?_) (fun h => ?_)
            · have K := K.1 h
              refine mG_aload_n C dX9_hears_215 rfl rfl ?_
              refine mG_getI C dX9_hears_216 fl_862 sh60 rfl ?_
              refine mG_iconst C dX9_hears_219 ic2 ?_
              refine mG_icmp_ne (tgt := 277) C dX9_hears_220 rfl (fun h => ?_) (fun h => ?_)
              · have K := K.1 h
                refine mG_aload_n C dX9_hears_277 rfl rfl ?_
                refine mG_getI C dX9_hears_278 fl_862 sh60 rfl ?_
                refine mG_iconst C dX9_hears_281 ic3 ?_
                refine mG_icmp_ne (tgt := 339) C dX9_hears_282 rfl (fun h => ?_) (fun h => ?_)
                · have K := K.1 h
                  refine mG_iload C dX9_hears_339 rfl ?_
                  refine mG_aload_n C dX9_hears_341 rfl rfl ?_
                  refine mG_getI C dX9_hears_342 fl_864 sh60 rfl ?_
                  refine mG_icmp_ne (tgt := 366) C dX9_hears_345 rfl (fun h => ?_) (fun h => ?_)
                  · have K := K.1 h
                    refine mG_iload C dX9_hears_366 rfl ?_
                    refine mG_aload_n C dX9_hears_368 rfl rfl ?_
                    refine mG_getI C dX9_hears_369 fl_866 sh60 rfl ?_
                    refine mG_icmp_ne (tgt := 390) C dX9_hears_372 rfl (fun h => ?_) (fun h => ?_)
                    · have K := K.1 h
                      exact mG_vret C F dX9_hears_390 rfl K
                    · have K := K.2 h
                      refine mG_aload_n C dX9_hears_375 rfl rfl ?_
                      refine mG_iload C dX9_hears_376 rfl ?_
                      refine mG_aload_n C dX9_hears_378 rfl rfl ?_
                      refine mG_getI C dX9_hears_379 fl_863 sh60 rfl ?_
                      refine mG_iadd C dX9_hears_382 ?_
                      refine mG_iconst C dX9_hears_383 ic1 ?_
                      refine mG_aload_n C dX9_hears_384 rfl rfl ?_
                      refine mG_getI C dX9_hears_385 fl_864 sh60 rfl ?_
                      refine mG_isub C dX9_hears_388 ?_
                      obtain ⟨h35, K⟩ := K
                      refine mG_iast C dX9_hears_389 ha0 h35 ?_
                      refine mG_nm (fun w33 ew33 => ?_)
                      have K := K w33 ew33
                      exact mG_vret C F dX9_hears_390 rfl K
                  · have K := K.2 h
                    refine mG_aload_n C dX9_hears_348 rfl rfl ?_
                    refine mG_iload C dX9_hears_349 rfl ?_
                    refine mG_aload_n C dX9_hears_351 rfl rfl ?_
                    refine mG_getI C dX9_hears_352 fl_865 sh60 rfl ?_
                    refine mG_iadd C dX9_hears_355 ?_
                    refine mG_iconst C dX9_hears_356 ic1 ?_
                    refine mG_aload_n C dX9_hears_357 rfl rfl ?_
                    refine mG_getI C dX9_hears_358 fl_866 sh60 rfl ?_
                    refine mG_isub C dX9_hears_361 ?_
                    obtain ⟨h36, K⟩ := K
                    refine mG_iast C dX9_hears_362 ha0 h36 ?_
                    refine mG_nm (fun w34 ew34 => ?_)
                    have K := K w34 ew34
                    refine mG_goto (tgt := 390) C dX9_hears_363 rfl ?_
                    exact mG_vret C F dX9_hears_390 rfl K
                · have K := K.2 h
                  refine mG_iload C dX9_hears_285 rfl ?_
                  refine mG_aload_n C dX9_hears_287 rfl rfl ?_
                  refine mG_getI C dX9_hears_288 fl_864 sh60 rfl ?_
                  refine mG_icmp_ne (tgt := 310) C dX9_hears_291 rfl (fun h => ?_) (fun h => ?_)
                  · have K := K.1 h
                    refine mG_iload C dX9_hears_310 rfl ?_
                    refine mG_iconst C dX9_hears_312 ic1 ?_
                    refine mG_aload_n C dX9_hears_313 rfl rfl ?_
                    refine mG_getI C dX9_hears_314 fl_866 sh60 rfl ?_
                    refine mG_isub C dX9_hears_317 ?_
                    refine mG_icmp_ne (tgt := 390) C dX9_hears_318 rfl (fun h => ?_) (fun h => ?_)
                    · have K := K.1 h
                      exact mG_vret C F dX9_hears_390 rfl K
                    · have K := K.2 h
                      refine mG_aload_n C dX9_hears_321 rfl rfl ?_
                      refine mG_iload C dX9_hears_322 rfl ?_
                      refine mG_aload_n C dX9_hears_324 rfl rfl ?_
                      refine mG_getI C dX9_hears_325 fl_863 sh60 rfl ?_
                      refine mG_iadd C dX9_hears_328 ?_
                      refine mG_iconst C dX9_hears_329 ic1 ?_
                      refine mG_aload_n C dX9_hears_330 rfl rfl ?_
                      refine mG_getI C dX9_hears_331 fl_864 sh60 rfl ?_
                      refine mG_isub C dX9_hears_334 ?_
                      obtain ⟨h37, K⟩ := K
                      refine mG_iast C dX9_hears_335 ha0 h37 ?_
                      refine mG_nm (fun w35 ew35 => ?_)
                      have K := K w35 ew35
                      refine mG_goto (tgt := 390) C dX9_hears_336 rfl ?_
                      exact mG_vret C F dX9_hears_390 rfl K
                  · have K := K.2 h
                    refine mG_aload_n C dX9_hears_294 rfl rfl ?_
                    refine mG_iload C dX9_hears_295 rfl ?_
                    refine mG_aload_n C dX9_hears_297 rfl rfl ?_
                    refine mG_getI C dX9_hears_298 fl_865 sh60 rfl ?_
                    refine mG_iadd C dX9_hears_301 ?_
                    refine mG_aload_n C dX9_hears_302 rfl rfl ?_
                    refine mG_getI C dX9_hears_303 fl_866 sh60 rfl ?_
                    obtain ⟨h38, K⟩ := K
                    refine mG_iast C dX9_hears_306 ha0 h38 ?_
                    refine mG_nm (fun w36 ew36 => ?_)
                    have K := K w36 ew36
                    refine mG_goto (tgt := 390) C dX9_hears_307 rfl ?_
                    exact mG_vret C F dX9_hears_390 rfl K
              · have K := K.2 h
                refine mG_iload C dX9_hears_223 rfl ?_
                refine mG_iconst C dX9_hears_225 ic1 ?_
                refine mG_aload_n C dX9_hears_226 rfl rfl ?_
                refine mG_getI C dX9_hears_227 fl_864 sh60 rfl ?_
                refine mG_isub C dX9_hears_230 ?_
                refine mG_icmp_ne (tgt := 250) C dX9_hears_231 rfl (fun h => ?_) (fun h => ?_)
                · have K := K.1 h
                  refine mG_iload C dX9_hears_250 rfl ?_
                  refine mG_iconst C dX9_hears_252 ic1 ?_
                  refine mG_aload_n C dX9_hears_253 rfl rfl ?_
                  refine mG_getI C dX9_hears_254 fl_866 sh60 rfl ?_
                  refine mG_isub C dX9_hears_257 ?_
                  refine mG_icmp_ne (tgt := 390) C dX9_hears_258 rfl (fun h => ?_) (fun h => ?_)
                  · have K := K.1 h
                    exact mG_vret C F dX9_hears_390 rfl K
                  · have K := K.2 h
                    refine mG_aload_n C dX9_hears_261 rfl rfl ?_
                    refine mG_iload C dX9_hears_262 rfl ?_
                    refine mG_aload_n C dX9_hears_264 rfl rfl ?_
                    refine mG_getI C dX9_hears_265 fl_863 sh60 rfl ?_
                    refine mG_iadd C dX9_hears_268 ?_
                    refine mG_aload_n C dX9_hears_269 rfl rfl ?_
                    refine mG_getI C dX9_hears_270 fl_864 sh60 rfl ?_
                    obtain ⟨h39, K⟩ := K
                    refine mG_iast C dX9_hears_273 ha0 h39 ?_
                    refine mG_nm (fun w37 ew37 => ?_)
                    have K := K w37 ew37
                    refine mG_goto (tgt := 390) C dX9_hears_274 rfl ?_
                    exact mG_vret C F dX9_hears_390 rfl K
                · have K := K.2 h
                  refine mG_aload_n C dX9_hears_234 rfl rfl ?_
                  refine mG_iload C dX9_hears_235 rfl ?_
                  refine mG_aload_n C dX9_hears_237 rfl rfl ?_
                  refine mG_getI C dX9_hears_238 fl_865 sh60 rfl ?_
                  refine mG_iadd C dX9_hears_241 ?_
                  refine mG_aload_n C dX9_hears_242 rfl rfl ?_
                  refine mG_getI C dX9_hears_243 fl_866 sh60 rfl ?_
                  obtain ⟨h40, K⟩ := K
                  refine mG_iast C dX9_hears_246 ha0 h40 ?_
                  refine mG_nm (fun w38 ew38 => ?_)
                  have K := K w38 ew38
                  refine mG_goto (tgt := 390) C dX9_hears_247 rfl ?_
                  exact mG_vret C F dX9_hears_390 rfl K
            · have K := K.2 h
              refine mG_iload_n C dX9_hears_180 rfl rfl ?_
              refine mG_if_ne (tgt := 215) C dX9_hears_181 rfl (fun h => ?_) (fun h => ?_)
              · have K := K.1 h
                refine mG_aload_n C dX9_hears_215 rfl rfl ?_
                refine mG_getI C dX9_hears_216 fl_862 sh60 rfl ?_
                refine mG_iconst C dX9_hears_219 ic2 ?_
                refine mG_icmp_ne (tgt := 277) C dX9_hears_220 rfl (fun h => ?_) (fun h => ?_)
                · have K := K.1 h
                  refine mG_aload_n C dX9_hears_277 rfl rfl ?_
                  refine mG_getI C dX9_hears_278 fl_862 sh60 rfl ?_
                  refine mG_iconst C dX9_hears_281 ic3 ?_
                  refine mG_icmp_ne (tgt := 339) C dX9_hears_282 rfl (fun h => ?_) (fun h => ?_)
                  · have K := K.1 h
                    refine mG_iload C dX9_hears_339 rfl ?_
                    refine mG_aload_n C dX9_hears_341 rfl rfl ?_
                    refine mG_getI C dX9_hears_342 fl_864 sh60 rfl ?_
                    refine mG_icmp_ne (tgt := 366) C dX9_hears_345 rfl (fun h => ?_) (fun h => ?_)
                    · have K := K.1 h
                      refine mG_iload C dX9_hears_366 rfl ?_
                      refine mG_aload_n C dX9_hears_368 rfl rfl ?_
                      refine mG_getI C dX9_hears_369 fl_866 sh60 rfl ?_
                      refine mG_icmp_ne (tgt := 390) C dX9_hears_372 rfl (fun h => ?_) (fun h => ?_)
                      · have K := K.1 h
                        exact mG_vret C F dX9_hears_390 rfl K
                      · have K := K.2 h
                        refine mG_aload_n C dX9_hears_375 rfl rfl ?_
                        refine mG_iload C dX9_hears_376 rfl ?_
                        refine mG_aload_n C dX9_hears_378 rfl rfl ?_
                        refine mG_getI C dX9_hears_379 fl_863 sh60 rfl ?_
                        refine mG_iadd C dX9_hears_382 ?_
                        refine mG_iconst C dX9_hears_383 ic1 ?_
                        refine mG_aload_n C dX9_hears_384 rfl rfl ?_
                        refine mG_getI C dX9_hears_385 fl_864 sh60 rfl ?_
                        refine mG_isub C dX9_hears_388 ?_
                        obtain ⟨h41, K⟩ := K
                        refine mG_iast C dX9_hears_389 ha0 h41 ?_
                        refine mG_nm (fun w39 ew39 => ?_)
                        have K := K w39 ew39
                        exact mG_vret C F dX9_hears_390 rfl K
                    · have K := K.2 h
                      refine mG_aload_n C dX9_hears_348 rfl rfl ?_
                      refine mG_iload C dX9_hears_349 rfl ?_
                      refine mG_aload_n C dX9_hears_351 rfl rfl ?_
                      refine mG_getI C dX9_hears_352 fl_865 sh60 rfl ?_
                      refine mG_iadd C dX9_hears_355 ?_
                      refine mG_iconst C dX9_hears_356 ic1 ?_
                      refine mG_aload_n C dX9_hears_357 rfl rfl ?_
                      refine mG_getI C dX9_hears_358 fl_866 sh60 rfl ?_
                      refine mG_isub C dX9_hears_361 ?_
                      obtain ⟨h42, K⟩ := K
                      refine mG_iast C dX9_hears_362 ha0 h42 ?_
                      refine mG_nm (fun w40 ew40 => ?_)
                      have K := K w40 ew40
                      refine mG_goto (tgt := 390) C dX9_hears_363 rfl ?_
                      exact mG_vret C F dX9_hears_390 rfl K
                  · have K := K.2 h
                    refine mG_iload C dX9_hears_285 rfl ?_
                    refine mG_aload_n C dX9_hears_287 rfl rfl ?_
                    refine mG_getI C dX9_hears_288 fl_864 sh60 rfl ?_
                    refine mG_icmp_ne (tgt := 310) C dX9_hears_291 rfl (fun h => ?_) (fun h => ?_)
                    · have K := K.1 h
                      refine mG_iload C dX9_hears_310 rfl ?_
                      refine mG_iconst C dX9_hears_312 ic1 ?_
                      refine mG_aload_n C dX9_hears_313 rfl rfl ?_
                      refine mG_getI C dX9_hears_314 fl_866 sh60 rfl ?_
                      refine mG_isub C dX9_hears_317 ?_
                      refine mG_icmp_ne (tgt := 390) C dX9_hears_318 rfl (fun h => ?_) (fun h => ?_)
                      · have K := K.1 h
                        exact mG_vret C F dX9_hears_390 rfl K
                      · have K := K.2 h
                        refine mG_aload_n C dX9_hears_321 rfl rfl ?_
                        refine mG_iload C dX9_hears_322 rfl ?_
                        refine mG_aload_n C dX9_hears_324 rfl rfl ?_
                        refine mG_getI C dX9_hears_325 fl_863 sh60 rfl ?_
                        refine mG_iadd C dX9_hears_328 ?_
                        refine mG_iconst C dX9_hears_329 ic1 ?_
                        refine mG_aload_n C dX9_hears_330 rfl rfl ?_
                        refine mG_getI C dX9_hears_331 fl_864 sh60 rfl ?_
                        refine mG_isub C dX9_hears_334 ?_
                        obtain ⟨h43, K⟩ := K
                        refine mG_iast C dX9_hears_335 ha0 h43 ?_
                        refine mG_nm (fun w41 ew41 => ?_)
                        have K := K w41 ew41
                        refine mG_goto (tgt := 390) C dX9_hears_336 rfl ?_
                        exact mG_vret C F dX9_hears_390 rfl K
                    · have K := K.2 h
                      refine mG_aload_n C dX9_hears_294 rfl rfl ?_
                      refine mG_iload C dX9_hears_295 rfl ?_
                      refine mG_aload_n C dX9_hears_297 rfl rfl ?_
                      refine mG_getI C dX9_hears_298 fl_865 sh60 rfl ?_
                      refine mG_iadd C dX9_hears_301 ?_
                      refine mG_aload_n C dX9_hears_302 rfl rfl ?_
                      refine mG_getI C dX9_hears_303 fl_866 sh60 rfl ?_
                      obtain ⟨h44, K⟩ := K
                      refine mG_iast C dX9_hears_306 ha0 h44 ?_
                      refine mG_nm (fun w42 ew42 => ?_)
                      have K := K w42 ew42
                      refine mG_goto (tgt := 390) C dX9_hears_307 rfl ?_
                      exact mG_vret C F dX9_hears_390 rfl K
                · have K := K.2 h
                  refine mG_iload C dX9_hears_223 rfl ?_
                  refine mG_iconst C dX9_hears_225 ic1 ?_
                  refine mG_aload_n C dX9_hears_226 rfl rfl ?_
                  refine mG_getI C dX9_hears_227 fl_864 sh60 rfl ?_
                  refine mG_isub C dX9_hears_230 ?_
                  refine mG_icmp_ne (tgt := 250) C dX9_hears_231 rfl (fun h => ?_) (fun h => ?_)
                  · have K := K.1 h
                    refine mG_iload C dX9_hears_250 rfl ?_
                    refine mG_iconst C dX9_hears_252 ic1 ?_
                    refine mG_aload_n C dX9_hears_253 rfl rfl ?_
                    refine mG_getI C dX9_hears_254 fl_866 sh60 rfl ?_
                    refine mG_isub C dX9_hears_257 ?_
                    refine mG_icmp_ne (tgt := 390) C dX9_hears_258 rfl (fun h => ?_) (fun h => ?_)
                    · have K := K.1 h
                      exact mG_vret C F dX9_hears_390 rfl K
                    · have K := K.2 h
                      refine mG_aload_n C dX9_hears_261 rfl rfl ?_
                      refine mG_iload C dX9_hears_262 rfl ?_
                      refine mG_aload_n C dX9_hears_264 rfl rfl ?_
                      refine mG_getI C dX9_hears_265 fl_863 sh60 rfl ?_
                      refine mG_iadd C dX9_hears_268 ?_
                      refine mG_aload_n C dX9_hears_269 rfl rfl ?_
                      refine mG_getI C dX9_hears_270 fl_864 sh60 rfl ?_
                      obtain ⟨h45, K⟩ := K
                      refine mG_iast C dX9_hears_273 ha0 h45 ?_
                      refine mG_nm (fun w43 ew43 => ?_)
                      have K := K w43 ew43
                      refine mG_goto (tgt := 390) C dX9_hears_274 rfl ?_
                      exact mG_vret C F dX9_hears_390 rfl K
                  · have K := K.2 h
                    refine mG_aload_n C dX9_hears_234 rfl rfl ?_
                    refine mG_iload C dX9_hears_235 rfl ?_
                    refine mG_aload_n C dX9_hears_237 rfl rfl ?_
                    refine mG_getI C dX9_hears_238 fl_865 sh60 rfl ?_
                    refine mG_iadd C dX9_hears_241 ?_
                    refine mG_aload_n C dX9_hears_242 rfl rfl ?_
                    refine mG_getI C dX9_hears_243 fl_866 sh60 rfl ?_
                    obtain ⟨h46, K⟩ := K
                    refine mG_iast C dX9_hears_246 ha0 h46 ?_
                    refine mG_nm (fun w44 ew44 => ?_)
                    have K := K w44 ew44
                    refine mG_goto (tgt := 390) C dX9_hears_247 rfl ?_
                    exact mG_vret C F dX9_hears_390 rfl K
              · have K := K.2 h
                refine mG_aload_n C dX9_hears_184 rfl rfl ?_
                refine mG_iload C dX9_hears_185 rfl ?_
                refine mG_aload_n C dX9_hears_187 rfl rfl ?_
                refine mG_getI C dX9_hears_188 fl_863 sh60 rfl ?_
                refine mG_iadd C dX9_hears_191 ?_
                refine mG_aload_n C dX9_hears_192 rfl rfl ?_
                refine mG_getI C dX9_hears_193 fl_864 sh60 rfl ?_
                obtain ⟨h47, K⟩ := K
                refine mG_iast C dX9_hears_196 ha0 h47 ?_
                refine mG_nm (fun w45 ew45 => ?_)
                have K := K w45 ew45
                refine mG_aload_n C dX9_hears_197 rfl rfl ?_
                refine mG_iload C dX9_hears_198 rfl ?_
                refine mG_aload_n C dX9_hears_200 rfl rfl ?_
                refine mG_getI C dX9_hears_201 fl_865 sh60 rfl ?_
                refine mG_iadd C dX9_hears_204 ?_
                refine mG_iconst C dX9_hears_205 ic1 ?_
                refine mG_aload_n C dX9_hears_206 rfl rfl ?_
                refine mG_getI C dX9_hears_207 fl_866 sh60 rfl ?_
                refine mG_isub C dX9_hears_210 ?_
                obtain ⟨h48, K⟩ := K
                refine mG_iast C dX9_hears_211 ha0 h48 ?_
                refine mG_nm (fun w46 ew46 => ?_)
                have K := K w46 ew46
                refine mG_goto (tgt := 390) C dX9_hears_212 rfl ?_
                exact mG_vret C F dX9_hears_390 rfl K
          · have K := K.2 h
            refine mG_iload_n C dX9_hears_135 rfl rfl ?_
            refine mG_if_ne (tgt := 172) C dX9_hears_136 rfl (fun h => ?_) (fun h => ?_)
            · have K := K.1 h
              refine mG_aload_n C dX9_hears_172 rfl rfl ?_
              refine mG_getI C dX9_hears_173 fl_862 sh60 rfl ?_
              refine mG_iconst C dX9_hears_176 ic3 ?_
              refine mG_icmp_ne (tgt := 215) C dX9_hears_177 rfl (fun h => ?_) (fun h => ?_)
              · have K := K.1 h
                refine mG_aload_n C dX9_hears_215 rfl rfl ?_
                refine mG_getI C dX9_hears_216 fl_862 sh60 rfl ?_
                refine mG_iconst C dX9_hears_219 ic2 ?_
                refine mG_icmp_ne (tgt := 277) C dX9_hears_220 rfl (fun h => ?_) (fun h => ?_)
                · have K := K.1 h
                  refine mG_aload_n C dX9_hears_277 rfl rfl ?_
                  refine mG_getI C dX9_hears_278 fl_862 sh60 rfl ?_
                  refine mG_iconst C dX9_hears_281 ic3 ?_
                  refine mG_icmp_ne (tgt := 339) C dX9_hears_282 rfl (fun h => ?_) (fun h => ?_)
                  · have K := K.1 h
                    refine mG_iload C dX9_hears_339 rfl ?_
                    refine mG_aload_n C dX9_hears_341 rfl rfl ?_
                    refine mG_getI C dX9_hears_342 fl_864 sh60 rfl ?_
                    refine mG_icmp_ne (tgt := 366) C dX9_hears_345 rfl (fun h => ?_) (fun h => ?_)
                    · have K := K.1 h
                      refine mG_iload C dX9_hears_366 rfl ?_
                      refine mG_aload_n C dX9_hears_368 rfl rfl ?_
                      refine mG_getI C dX9_hears_369 fl_866 sh60 rfl ?_
                      refine mG_icmp_ne (tgt := 390) C dX9_hears_372 rfl (fun h => ?_) (fun h => ?_)
                      · have K := K.1 h
                        exact mG_vret C F dX9_hears_390 rfl K
                      · have K := K.2 h
                        refine mG_aload_n C dX9_hears_375 rfl rfl ?_
                        refine mG_iload C dX9_hears_376 rfl ?_
                        refine mG_aload_n C dX9_hears_378 rfl rfl ?_
                        refine mG_getI C dX9_hears_379 fl_863 sh60 rfl ?_
                        refine mG_iadd C dX9_hears_382 ?_
                        refine mG_iconst C dX9_hears_383 ic1 ?_
                        refine mG_aload_n C dX9_hears_384 rfl rfl ?_
                        refine mG_getI C dX9_hears_385 fl_864 sh60 rfl ?_
                        refine mG_isub C dX9_hears_388 ?_
                        obtain ⟨h49, K⟩ := K
                        refine mG_iast C dX9_hears_389 ha0 h49 ?_
                        refine mG_nm (fun w47 ew47 => ?_)
                        have K := K w47 ew47
                        exact mG_vret C F dX9_hears_390 rfl K
                    · have K := K.2 h
                      refine mG_aload_n C dX9_hears_348 rfl rfl ?_
                      refine mG_iload C dX9_hears_349 rfl ?_
                      refine mG_aload_n C dX9_hears_351 rfl rfl ?_
                      refine mG_getI C dX9_hears_352 fl_865 sh60 rfl ?_
                      refine mG_iadd C dX9_hears_355 ?_
                      refine mG_iconst C dX9_hears_356 ic1 ?_
                      refine mG_aload_n C dX9_hears_357 rfl rfl ?_
                      refine mG_getI C dX9_hears_358 fl_866 sh60 rfl ?_
                      refine mG_isub C dX9_hears_361 ?_
                      obtain ⟨h50, K⟩ := K
                      refine mG_iast C dX9_hears_362 ha0 h50 ?_
                      refine mG_nm (fun w48 ew48 => ?_)
                      have K := K w48 ew48
                      refine mG_goto (tgt := 390) C dX9_hears_363 rfl ?_
                      exact mG_vret C F dX9_hears_390 rfl K
                  · have K := K.2 h
                    refine mG_iload C dX9_hears_285 rfl ?_
                    refine mG_aload_n C dX9_hears_287 rfl rfl ?_
                    refine mG_getI C dX9_hears_288 fl_864 sh60 rfl ?_
                    refine mG_icmp_ne (tgt := 310) C dX9_hears_291 rfl (fun h => ?_) (fun h => ?_)
                    · have K := K.1 h
                      refine mG_iload C dX9_hears_310 rfl ?_
                      refine mG_iconst C dX9_hears_312 ic1 ?_
                      refine mG_aload_n C dX9_hears_313 rfl rfl ?_
                      refine mG_getI C dX9_hears_314 fl_866 sh60 rfl ?_
                      refine mG_isub C dX9_hears_317 ?_
                      refine mG_icmp_ne (tgt := 390) C dX9_hears_318 rfl (fun h => ?_) (fun h => ?_)
                      · have K := K.1 h
                        exact mG_vret C F dX9_hears_390 rfl K
                      · have K := K.2 h
                        refine mG_aload_n C dX9_hears_321 rfl rfl ?_
                        refine mG_iload C dX9_hears_322 rfl ?_
                        refine mG_aload_n C dX9_hears_324 rfl rfl ?_
                        refine mG_getI C dX9_hears_325 fl_863 sh60 rfl ?_
                        refine mG_iadd C dX9_hears_328 ?_
                        refine mG_iconst C dX9_hears_329 ic1 ?_
                        refine mG_aload_n C dX9_hears_330 rfl rfl ?_
                        refine mG_getI C dX9_hears_331 fl_864 sh60 rfl ?_
                        refine mG_isub C dX9_hears_334 ?_
                        obtain ⟨h51, K⟩ := K
                        refine mG_iast C dX9_hears_335 ha0 h51 ?_
                        refine mG_nm (fun w49 ew49 => ?_)
                        have K := K w49 ew49
                        refine mG_goto (tgt := 390) C dX9_hears_336 rfl ?_
                        exact mG_vret C F dX9_hears_390 rfl K
                    · have K := K.2 h
                      refine mG_aload_n C dX9_hears_294 rfl rfl ?_
                      refine mG_iload C dX9_hears_295 rfl ?_
                      refine mG_aload_n C dX9_hears_297 rfl rfl ?_
                      refine mG_getI C dX9_hears_298 fl_865 sh60 rfl ?_
                      refine mG_iadd C dX9_hears_301 ?_
                      refine mG_aload_n C dX9_hears_302 rfl rfl ?_
                      refine mG_getI C dX9_hears_303 fl_866 sh60 rfl ?_
                      obtain ⟨h52, K⟩ := K
                      refine mG_iast C dX9_hears_306 ha0 h52 ?_
                      refine mG_nm (fun w50 ew50 => ?_)
                      have K := K w50 ew50
                      refine mG_goto (tgt := 390) C dX9_hears_307 rfl ?_
                      exact mG_vret C F dX9_hears_390 rfl K
                · have K := K.2 h
                  refine mG_iload C dX9_hears_223 rfl ?_
                  refine mG_iconst C dX9_hears_225 ic1 ?_
                  refine mG_aload_n C dX9_hears_226 rfl rfl ?_
                  refine mG_getI C dX9_hears_227 fl_864 sh60 rfl ?_
                  refine mG_isub C dX9_hears_230 ?_
                  refine mG_icmp_ne (tgt := 250) C dX9_hears_231 rfl (fun h => ?_) (fun h => ?_)
                  · have K := K.1 h
                    refine mG_iload C dX9_hears_250 rfl ?_
                    refine mG_iconst C dX9_hears_252 ic1 ?_
                    refine mG_aload_n C dX9_hears_253 rfl rfl ?_
                    refine mG_getI C dX9_hears_254 fl_866 sh60 rfl ?_
                    refine mG_isub C dX9_hears_257 ?_
                    refine mG_icmp_ne (tgt := 390) C dX9_hears_258 rfl (fun h => ?_) (fun h => ?_)
                    · have K := K.1 h
                      exact mG_vret C F dX9_hears_390 rfl K
                    · have K := K.2 h
                      refine mG_aload_n C dX9_hears_261 rfl rfl ?_
                      refine mG_iload C dX9_hears_262 rfl ?_
                      refine mG_aload_n C dX9_hears_264 rfl rfl ?_
                      refine mG_getI C dX9_hears_265 fl_863 sh60 rfl ?_
                      refine mG_iadd C dX9_hears_268 ?_
                      refine mG_aload_n C dX9_hears_269 rfl rfl ?_
                      refine mG_getI C dX9_hears_270 fl_864 sh60 rfl ?_
                      obtain ⟨h53, K⟩ := K
                      refine mG_iast C dX9_hears_273 ha0 h53 ?_
                      refine mG_nm (fun w51 ew51 => ?_)
                      have K := K w51 ew51
                      refine mG_goto (tgt := 390) C dX9_hears_274 rfl ?_
                      exact mG_vret C F dX9_hears_390 rfl K
                  · have K := K.2 h
                    refine mG_aload_n C dX9_hears_234 rfl rfl ?_
                    refine mG_iload C dX9_hears_235 rfl ?_
                    refine mG_aload_n C dX9_hears_237 rfl rfl ?_
                    refine mG_getI C dX9_hears_238 fl_865 sh60 rfl ?_
                    refine mG_iadd C dX9_hears_241 ?_
                    refine mG_aload_n C dX9_hears_242 rfl rfl ?_
                    refine mG_getI C dX9_hears_243 fl_866 sh60 rfl ?_
                    obtain ⟨h54, K⟩ := K
                    refine mG_iast C dX9_hears_246 ha0 h54 ?_
                    refine mG_nm (fun w52 ew52 => ?_)
                    have K := K w52 ew52
                    refine mG_goto (tgt := 390) C dX9_hears_247 rfl ?_
                    exact mG_vret C F dX9_hears_390 rfl K
              · have K := K.2 h
                refine mG_iload_n C dX9_hears_180 rfl rfl ?_
                refine mG_if_ne (tgt := 215) C dX9_hears_181 rfl (fun h => ?_) (fun h => ?_)
                · have K := K.1 h
                  refine mG_aload_n C dX9_hears_215 rfl rfl ?_
                  refine mG_getI C dX9_hears_216 fl_862 sh60 rfl ?_
                  refine mG_iconst C dX9_hears_219 ic2 ?_
                  refine mG_icmp_ne (tgt := 277) C dX9_hears_220 rfl (fun h => ?_) (fun h => ?_)
                  · have K := K.1 h
                    refine mG_aload_n C dX9_hears_277 rfl rfl ?_
                    refine mG_getI C dX9_hears_278 fl_862 sh60 rfl ?_
                    refine mG_iconst C dX9_hears_281 ic3 ?_
                    refine mG_icmp_ne (tgt := 339) C dX9_hears_282 rfl (fun h => ?_) (fun h => ?_)
                    · have K := K.1 h
                      refine mG_iload C dX9_hears_339 rfl ?_
                      refine mG_aload_n C dX9_hears_341 rfl rfl ?_
                      refine mG_getI C dX9_hears_342 fl_864 sh60 rfl ?_
                      refine mG_icmp_ne (tgt := 366) C dX9_hears_345 rfl (fun h => ?_) (fun h => ?_)
                      · have K := K.1 h
                        refine mG_iload C dX9_hears_366 rfl ?_
                        refine mG_aload_n C dX9_hears_368 rfl rfl ?_
                        refine mG_getI C dX9_hears_369 fl_866 sh60 rfl ?_
                        refine mG_icmp_ne (tgt := 390) C dX9_hears_372 rfl (fun h => ?_) (fun h => ?_)
                        · have K := K.1 h
                          exact mG_vret C F dX9_hears_390 rfl K
                        · have K := K.2 h
                          refine mG_aload_n C dX9_hears_375 rfl rfl ?_
                          refine mG_iload C dX9_hears_376 rfl ?_
                          refine mG_aload_n C dX9_hears_378 rfl rfl ?_
                          refine mG_getI C dX9_hears_379 fl_863 sh60 rfl ?_
                          refine mG_iadd C dX9_hears_382 ?_
                          refine mG_iconst C dX9_hears_383 ic1 ?_
                          refine mG_aload_n C dX9_hears_384 rfl rfl ?_
                          refine mG_getI C dX9_hears_385 fl_864 sh60 rfl ?_
                          refine mG_isub C dX9_hears_388 ?_
                          obtain ⟨h55, K⟩ := K
                          refine mG_iast C dX9_hears_389 ha0 h55 ?_
                          refine mG_nm (fun w53 ew53 => ?_)
                          have K := K w53 ew53
                          exact mG_vret C F dX9_hears_390 rfl K
                      · have K := K.2 h
                        refine mG_aload_n C dX9_hears_348 rfl rfl ?_
                        refine mG_iload C dX9_hears_349 rfl ?_
                        refine mG_aload_n C dX9_hears_351 rfl rfl ?_
                        refine mG_getI C dX9_hears_352 fl_865 sh60 rfl ?_
                        refine mG_iadd C dX9_hears_355 ?_
                        refine mG_iconst C dX9_hears_356 ic1 ?_
                        refine mG_aload_n C dX9_hears_357 rfl rfl ?_
                        refine mG_getI C dX9_hears_358 fl_866 sh60 rfl ?_
                        refine mG_isub C dX9_hears_361 ?_
                        obtain ⟨h56, K⟩ := K
                        refine mG_iast C dX9_hears_362 ha0 h56 ?_
                        refine mG_nm (fun w54 ew54 => ?_)
                        have K := K w54 ew54
                        refine mG_goto (tgt := 390) C dX9_hears_363 rfl ?_
                        exact mG_vret C F dX9_hears_390 rfl K
                    · have K := K.2 h
                      refine mG_iload C dX9_hears_285 rfl ?_
                      refine mG_aload_n C dX9_hears_287 rfl rfl ?_
                      refine mG_getI C dX9_hears_288 fl_864 sh60 rfl ?_
                      refine mG_icmp_ne (tgt := 310) C dX9_hears_291 rfl (fun h => ?_) (fun h => ?_)
                      · have K := K.1 h
                        refine mG_iload C dX9_hears_310 rfl ?_
                        refine mG_iconst C dX9_hears_312 ic1 ?_
                        refine mG_aload_n C dX9_hears_313 rfl rfl ?_
                        refine mG_getI C dX9_hears_314 fl_866 sh60 rfl ?_
                        refine mG_isub C dX9_hears_317 ?_
                        refine mG_icmp_ne (tgt := 390) C dX9_hears_318 rfl (fun h => ?_) (fun h => ?_)
                        · have K := K.1 h
                          exact mG_vret C F dX9_hears_390 rfl K
                        · have K := K.2 h
                          refine mG_aload_n C dX9_hears_321 rfl rfl ?_
                          refine mG_iload C dX9_hears_322 rfl ?_
                          refine mG_aload_n C dX9_hears_324 rfl rfl ?_
                          refine mG_getI C dX9_hears_325 fl_863 sh60 rfl ?_
                          refine mG_iadd C dX9_hears_328 ?_
                          refine mG_iconst C dX9_hears_329 ic1 ?_
                          refine mG_aload_n C dX9_hears_330 rfl rfl ?_
                          refine mG_getI C dX9_hears_331 fl_864 sh60 rfl ?_
                          refine mG_isub C dX9_hears_334 ?_
                          obtain ⟨h57, K⟩ := K
                          refine mG_iast C dX9_hears_335 ha0 h57 ?_
                          refine mG_nm (fun w55 ew55 => ?_)
                          have K := K w55 ew55
                          refine mG_goto (tgt := 390) C dX9_hears_336 rfl ?_
                          exact mG_vret C F dX9_hears_390 rfl K
                      · have K := K.2 h
                        refine mG_aload_n C dX9_hears_294 rfl rfl ?_
                        refine mG_iload C dX9_hears_295 rfl ?_
                        refine mG_aload_n C dX9_hears_297 rfl rfl ?_
                        refine mG_getI C dX9_hears_298 fl_865 sh60 rfl ?_
                        refine mG_iadd C dX9_hears_301 ?_
                        refine mG_aload_n C dX9_hears_302 rfl rfl ?_
                        refine mG_getI C dX9_hears_303 fl_866 sh60 rfl ?_
                        obtain ⟨h58, K⟩ := K
                        refine mG_iast C dX9_hears_306 ha0 h58 ?_
                        refine mG_nm (fun w56 ew56 => ?_)
                        have K := K w56 ew56
                        refine mG_goto (tgt := 390) C dX9_hears_307 rfl ?_
                        exact mG_vret C F dX9_hears_390 rfl K
                  · have K := K.2 h
                    refine mG_iload C dX9_hears_223 rfl ?_
                    refine mG_iconst C dX9_hears_225 ic1 ?_
                    refine mG_aload_n C dX9_hears_226 rfl rfl ?_
                    refine mG_getI C dX9_hears_227 fl_864 sh60 rfl ?_
                    refine mG_isub C dX9_hears_230 ?_
                    refine mG_icmp_ne (tgt := 250) C dX9_hears_231 rfl (fun h => ?_) (fun h => ?_)
                    · have K := K.1 h
                      refine mG_iload C dX9_hears_250 rfl ?_
                      refine mG_iconst C dX9_hears_252 ic1 ?_
                      refine mG_aload_n C dX9_hears_253 rfl rfl ?_
                      refine mG_getI C dX9_hears_254 fl_866 sh60 rfl ?_
                      refine mG_isub C dX9_hears_257 ?_
                      refine mG_icmp_ne (tgt := 390) C dX9_hears_258 rfl (fun h => ?_) (fun h => ?_)
                      · have K := K.1 h
                        exact mG_vret C F dX9_hears_390 rfl K
                      · have K := K.2 h
                        refine mG_aload_n C dX9_hears_261 rfl rfl ?_
                        refine mG_iload C dX9_hears_262 rfl ?_
                        refine mG_aload_n C dX9_hears_264 rfl rfl ?_
                        refine mG_getI C dX9_hears_265 fl_863 sh60 rfl ?_
                        refine mG_iadd C dX9_hears_268 ?_
                        refine mG_aload_n C dX9_hears_269 rfl rfl ?_
                        refine mG_getI C dX9_hears_270 fl_864 sh60 rfl ?_
                        obtain ⟨h59, K⟩ := K
                        refine mG_iast C dX9_hears_273 ha0 h59 ?_
                        refine mG_nm (fun w57 ew57 => ?_)
                        have K := K w57 ew57
                        refine mG_goto (tgt := 390) C dX9_hears_274 rfl ?_
                        exact mG_vret C F dX9_hears_390 rfl K
                    · have K := K.2 h
                      refine mG_aload_n C dX9_hears_234 rfl rfl ?_
                      refine mG_iload C dX9_hears_235 rfl ?_
                      refine mG_aload_n C dX9_hears_237 rfl rfl ?_
                      refine mG_getI C dX9_hears_238 fl_865 sh60 rfl ?_
                      refine mG_iadd C dX9_hears_241 ?_
                      refine mG_aload_n C dX9_hears_242 rfl rfl ?_
                      refine mG_getI C dX9_hears_243 fl_866 sh60 rfl ?_
                      obtain ⟨h60, K⟩ := K
                      refine mG_iast C dX9_hears_246 ha0 h60 ?_
                      refine mG_nm (fun w58 ew58 => ?_)
                      have K := K w58 ew58
                      refine mG_goto (tgt := 390) C dX9_hears_247 rfl ?_
                      exact mG_vret C F dX9_hears_390 rfl K
                · have K := K.2 h
                  refine mG_aload_n C dX9_hears_184 rfl rfl ?_
                  refine mG_iload C dX9_hears_185 rfl ?_
                  refine mG_aload_n C dX9_hears_187 rfl rfl ?_
                  refine mG_getI C dX9_hears_188 fl_863 sh60 rfl ?_
                  refine mG_iadd C dX9_hears_191 ?_
                  refine mG_aload_n C dX9_hears_192 rfl rfl ?_
                  refine mG_getI C dX9_hears_193 fl_864 sh60 rfl ?_
                  obtain ⟨h61, K⟩ := K
                  refine mG_iast C dX9_hears_196 ha0 h61 ?_
                  refine mG_nm (fun w59 ew59 => ?_)
                  have K := K w59 ew59
                  refine mG_aload_n C dX9_hears_197 rfl rfl ?_
                  refine mG_iload C dX9_hears_198 rfl ?_
                  refine mG_aload_n C dX9_hears_200 rfl rfl ?_
                  refine mG_getI C dX9_hears_201 fl_865 sh60 rfl ?_
                  refine mG_iadd C dX9_hears_204 ?_
                  refine mG_iconst C dX9_hears_205 ic1 ?_
                  refine mG_aload_n C dX9_hears_206 rfl rfl ?_
                  refine mG_getI C dX9_hears_207 fl_866 sh60 rfl ?_
                  refine mG_isub C dX9_hears_210 ?_
                  obtain ⟨h62, K⟩ := K
                  refine mG_iast C dX9_hears_211 ha0 h62 ?_
                  refine mG_nm (fun w60 ew60 => ?_)
                  have K := K w60 ew60
                  refine mG_goto (tgt := 390) C dX9_hears_212 rfl ?_
                  exact mG_vret C F dX9_hears_390 rfl K
            · have K := K.2 h
              refine mG_aload_n C dX9_hears_139 rfl rfl ?_
              refine mG_iload C dX9_hears_140 rfl ?_
              refine mG_aload_n C dX9_hears_142 rfl rfl ?_
              refine mG_getI C dX9_hears_143 fl_863 sh60 rfl ?_
              refine mG_iadd C dX9_hears_146 ?_
              refine mG_iconst C dX9_hears_147 ic1 ?_
              refine mG_aload_n C dX9_hears_148 rfl rfl ?_
              refine mG_getI C dX9_hears_149 fl_864 sh60 rfl ?_
              refine mG_isub C dX9_hears_152 ?_
              obtain ⟨h63, K⟩ := K
              refine mG_iast C dX9_hears_153 ha0 h63 ?_
              refine mG_nm (fun w61 ew61 => ?_)
              have K := K w61 ew61
              refine mG_aload_n C dX9_hears_154 rfl rfl ?_
              refine mG_iload C dX9_hears_155 rfl ?_
              refine mG_aload_n C dX9_hears_157 rfl rfl ?_
              refine mG_getI C dX9_hears_158 fl_865 sh60 rfl ?_
              refine mG_iadd C dX9_hears_161 ?_
              refine mG_iconst C dX9_hears_162 ic1 ?_
              refine mG_aload_n C dX9_hears_163 rfl rfl ?_
              refine mG_getI C dX9_hears_164 fl_866 sh60 rfl ?_
              refine mG_isub C dX9_hears_167 ?_
              obtain ⟨h64, K⟩ := K
              refine mG_iast C dX9_hears_168 ha0 h64 ?_
              refine mG_nm (fun w62 ew62 => ?_)
              have K := K w62 ew62
              refine mG_goto (tgt := 390) C dX9_hears_169 rfl ?_
              exact mG_vret C F dX9_hears_390 rfl K
        · have K := K.2 h
          refine mG_aload_n C dX9_hears_98 rfl rfl ?_
          refine mG_iload C dX9_hears_99 rfl ?_
          refine mG_aload_n C dX9_hears_101 rfl rfl ?_
          refine mG_getI C dX9_hears_102 fl_863 sh60 rfl ?_
          refine mG_iadd C dX9_hears_105 ?_
          refine mG_aload_n C dX9_hears_106 rfl rfl ?_
          refine mG_getI C dX9_hears_107 fl_864 sh60 rfl ?_
          obtain ⟨h65, K⟩ := K
          refine mG_iast C dX9_hears_110 ha0 h65 ?_
          refine mG_nm (fun w63 ew63 => ?_)
          have K := K w63 ew63
          refine mG_aload_n C dX9_hears_111 rfl rfl ?_
          refine mG_iload C dX9_hears_112 rfl ?_
          refine mG_aload_n C dX9_hears_114 rfl rfl ?_
          refine mG_getI C dX9_hears_115 fl_865 sh60 rfl ?_
          refine mG_iadd C dX9_hears_118 ?_
          refine mG_aload_n C dX9_hears_119 rfl rfl ?_
          refine mG_getI C dX9_hears_120 fl_866 sh60 rfl ?_
          obtain ⟨h66, K⟩ := K
          refine mG_iast C dX9_hears_123 ha0 h66 ?_
          refine mG_nm (fun w64 ew64 => ?_)
          have K := K w64 ew64
          refine mG_goto (tgt := 390) C dX9_hears_124 rfl ?_
          exact mG_vret C F dX9_hears_390 rfl K
    · have K := K.2 h
      refine mG_iconst C dX9_hears_45 ic1 ?_
      refine mG_goto (tgt := 50) C dX9_hears_46 rfl ?_
      refine mG_istore (lv' := [.ref 60, .ref a0, .int p1, .int p2, .int ((2 : Int32) + ((6 : Int32) * p1)), .int (w.1 a0 ((((2 : Int32) + ((6 : Int32) * p1)) + (w.1 60 30)).toNatClampNeg)), .int (w.1 a0 ((((2 : Int32) + ((6 : Int32) * p1)) + (w.1 60 32)).toNatClampNeg)), .int (1 : Int32)]) C dX9_hears_50 (by decide) rfl ?_
      refine mG_iload C dX9_hears_52 rfl ?_
      refine mG_if_eq (tgt := 86) C dX9_hears_54 rfl (fun h => absurd h (by decide)) (fun _ => ?_)
      refine mG_aload_n C dX9_hears_57 rfl rfl ?_
      refine mG_iload C dX9_hears_58 rfl ?_
      refine mG_aload_n C dX9_hears_60 rfl rfl ?_
      refine mG_getI C dX9_hears_61 fl_863 sh60 rfl ?_
      refine mG_iadd C dX9_hears_64 ?_
      refine mG_iload_n C dX9_hears_65 rfl rfl ?_
      refine mG_if_eq (tgt := 76) C dX9_hears_66 rfl (fun h => ?_) (fun h => ?_)
      · have K := K.1 h
        refine mG_iconst C dX9_hears_76 ic1 ?_
        refine mG_aload_n C dX9_hears_77 rfl rfl ?_
        refine mG_getI C dX9_hears_78 fl_864 sh60 rfl ?_
        refine mG_isub C dX9_hears_81 ?_
        obtain ⟨h67, K⟩ := K
        refine mG_iast C dX9_hears_82 ha0 h67 ?_
        refine mG_nm (fun w65 ew65 => ?_)
        have K := K w65 ew65
        refine mG_goto (tgt := 390) C dX9_hears_83 rfl ?_
        exact mG_vret C F dX9_hears_390 rfl K
      · have K := K.2 h
        refine mG_aload_n C dX9_hears_69 rfl rfl ?_
        refine mG_getI C dX9_hears_70 fl_864 sh60 rfl ?_
        refine mG_goto (tgt := 82) C dX9_hears_73 rfl ?_
        obtain ⟨h68, K⟩ := K
        refine mG_iast C dX9_hears_82 ha0 h68 ?_
        refine mG_nm (fun w66 ew66 => ?_)
        have K := K w66 ew66
        refine mG_goto (tgt := 390) C dX9_hears_83 rfl ?_
        exact mG_vret C F dX9_hears_390 rfl K
