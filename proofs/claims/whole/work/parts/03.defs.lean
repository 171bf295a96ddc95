def rmX0_power : Room := { frames := 0, cells := 0, slots := 0, locals := 0 }
theorem dvX0_power : ss_dV yX0_power 1 := by decide +kernel
def lX0_power_4 (x1 : Int32) (post : Int32 → ss_S → Prop) (k22 : Int32 → Int32 → ss_S → Prop) : Nat → Int32 → Int32 → ss_S → Prop
  | 0, _, _, _ => False
  | n + 1, x2, x3, σ => ((x1 ≤ x3 → k22 x2 x3 σ) ∧ (¬ x1 ≤ x3 → lX0_power_4 x1 post k22 n (x2 * (σ 1 0)) (x3 + 1) σ))
set_option maxRecDepth 20000 in
def wX0_power (x1 : Int32) (σ : ss_S) (post : Int32 → ss_S → Prop) : Prop := (∃ f_4, lX0_power_4 x1 post (fun x2_1 x3_1 σ_1 => post x2_1 σ_1) f_4 1 0 σ)

def rmX0_become : Room := { frames := 1, cells := 0, slots := 0, locals := 23 }
theorem dvX0_become : ss_dV yX0_become 2 := by decide +kernel
set_option maxRecDepth 20000 in
def wX0_become (x1 : Int32) (x2 : Int32) (σ : ss_S) (post : ss_S → Prop) : Prop := wX0_power x2 (u2 (u2 σ 1 0 x1) 1 1 x2) (fun r2 σ1 => post (u2 σ1 1 2 r2))

def rmX0_isVector : Room := { frames := 0, cells := 0, slots := 0, locals := 0 }
theorem dvX0_isVector : ss_dV yX0_isVector 1 := by decide +kernel
set_option maxRecDepth 20000 in
def wX0_isVector (x1 : Int32) (σ : ss_S) (post : Int32 → ss_S → Prop) : Prop := ((x1 < 0 → post 0 σ) ∧ (¬ x1 < 0 → (((σ 1 2) ≤ x1 → post 0 σ) ∧ (¬ (σ 1 2) ≤ x1 → post 1 σ))))

def rmX0_sum : Room := { frames := 0, cells := 0, slots := 0, locals := 0 }
theorem dvX0_sum : ss_dV yX0_sum 3 := by decide +kernel
def lX0_sum_15 (x3 : Int32) (post : Int32 → ss_S → Prop) (k87 : Int32 → Int32 → Int32 → Int32 → Int32 → ss_S → Prop) : Nat → Int32 → Int32 → Int32 → Int32 → Int32 → ss_S → Prop
  | 0, _, _, _, _, _, _ => False
  | n + 1, x4, x5, x6, x7, x8, σ => (((σ 1 1) ≤ x8 → k87 x4 x5 x6 x7 x8 σ) ∧ (¬ (σ 1 1) ≤ x8 → (¬ (σ 1 0) = 0 ∧ (¬ (σ 1 0) = 0 ∧ (¬ (σ 1 0) = 0 ∧ (∀ z1 : Int32, z1 = (x4 + ((((x6 - x6 / (σ 1 0) * (σ 1 0)) + (x3 * (x7 - x7 / (σ 1 0) * (σ 1 0)))) - ((x6 - x6 / (σ 1 0) * (σ 1 0)) + (x3 * (x7 - x7 / (σ 1 0) * (σ 1 0)))) / (σ 1 0) * (σ 1 0)) * x5)) → (¬ (σ 1 0) = 0 ∧ (¬ (σ 1 0) = 0 ∧ lX0_sum_15 x3 post k87 n z1 (x5 * (σ 1 0)) (x6 / (σ 1 0)) (x7 / (σ 1 0)) (x8 + 1) σ))))))))
set_option maxRecDepth 20000 in
def wX0_sum (x1 : Int32) (x2 : Int32) (x3 : Int32) (σ : ss_S) (post : Int32 → ss_S → Prop) : Prop := (∃ f_15, lX0_sum_15 x3 post (fun x4_2 x5_2 x6_2 x7_2 x8_2 σ_2 => post x4_2 σ_2) f_15 0 1 x1 x2 0 σ)

def rmX0_product : Room := { frames := 0, cells := 0, slots := 0, locals := 0 }
theorem dvX0_product : ss_dV yX0_product 2 := by decide +kernel
def lX0_product_11  (post : Int32 → ss_S → Prop) (k62 : Int32 → Int32 → Int32 → Int32 → ss_S → Prop) : Nat → Int32 → Int32 → Int32 → Int32 → ss_S → Prop
  | 0, _, _, _, _, _ => False
  | n + 1, x3, x4, x5, x6, σ => (((σ 1 1) ≤ x6 → k62 x3 x4 x5 x6 σ) ∧ (¬ (σ 1 1) ≤ x6 → (¬ (σ 1 0) = 0 ∧ (¬ (σ 1 0) = 0 ∧ (¬ (σ 1 0) = 0 ∧ (¬ (σ 1 0) = 0 ∧ lX0_product_11 post k62 n (x3 + ((x4 - x4 / (σ 1 0) * (σ 1 0)) * (x5 - x5 / (σ 1 0) * (σ 1 0)))) (x4 / (σ 1 0)) (x5 / (σ 1 0)) (x6 + 1) σ))))))
set_option maxRecDepth 20000 in
def wX0_product (x1 : Int32) (x2 : Int32) (σ : ss_S) (post : Int32 → ss_S → Prop) : Prop := (∃ f_11, lX0_product_11  post (fun x3_1 x4_1 x5_1 x6_1 σ_1 => (¬ (σ_1 1 0) = 0 ∧ post (x3_1 - x3_1 / (σ_1 1 0) * (σ_1 1 0)) σ_1)) f_11 0 x1 x2 0 σ)

def rmX0_spell : Room := { frames := 0, cells := 0, slots := 0, locals := 0 }
theorem dvX0_spell : ss_dV yX0_spell 3 := by decide +kernel
def lX0_spell_11 (s2 : Nat) (x3 : Int32) (post : ss_S → Prop) (k44 : Int32 → Int32 → ss_S → Prop) : Nat → Int32 → Int32 → ss_S → Prop
  | 0, _, _, _ => False
  | n + 1, x4, x5, σ => ((x5 < 0 → k44 x4 x5 σ) ∧ (¬ x5 < 0 → (¬ (σ 1 0) = 0 ∧ (vp_in (x3 + x5) (lenC (s2)) ∧ (¬ ((u2 σ s2 (Int32.toNatClampNeg (x3 + x5)) (x4 - x4 / (σ 1 0) * (σ 1 0))) 1 0) = 0 ∧ lX0_spell_11 s2 x3 post k44 n (x4 / ((u2 σ s2 (Int32.toNatClampNeg (x3 + x5)) (x4 - x4 / (σ 1 0) * (σ 1 0))) 1 0)) (x5 + (-1)) (u2 σ s2 (Int32.toNatClampNeg (x3 + x5)) (x4 - x4 / (σ 1 0) * (σ 1 0))))))))
set_option maxRecDepth 20000 in
def wX0_spell (x1 : Int32) (s2 : Nat) (x3 : Int32) (σ : ss_S) (post : ss_S → Prop) : Prop := (∃ f_11, lX0_spell_11 s2 x3 post (fun x4_1 x5_1 σ_1 => post σ_1) f_11 x1 ((σ 1 1) - 1) σ)

def rmX0_vectorNumber : Room := { frames := 0, cells := 0, slots := 0, locals := 0 }
theorem dvX0_vectorNumber : ss_dV yX0_vectorNumber 2 := by decide +kernel
def lX0_vectorNumber_5 (s1 : Nat) (x2 : Int32) (post : Int32 → ss_S → Prop) (k34 : Int32 → Int32 → ss_S → Prop) : Nat → Int32 → Int32 → ss_S → Prop
  | 0, _, _, _ => False
  | n + 1, x3, x4, σ => (((σ 1 1) ≤ x4 → k34 x3 x4 σ) ∧ (¬ (σ 1 1) ≤ x4 → (vp_in (x2 + x4) (lenC (s1)) ∧ lX0_vectorNumber_5 s1 x2 post k34 n ((x3 * (σ 1 0)) + (σ s1 (Int32.toNatClampNeg (x2 + x4)))) (x4 + 1) σ)))
set_option maxRecDepth 20000 in
def wX0_vectorNumber (s1 : Nat) (x2 : Int32) (σ : ss_S) (post : Int32 → ss_S → Prop) : Prop := (∃ f_5, lX0_vectorNumber_5 s1 x2 post (fun x3_1 x4_1 σ_1 => post x3_1 σ_1) f_5 0 0 σ)

def rmX0_inverse : Room := { frames := 0, cells := 0, slots := 0, locals := 0 }
theorem dvX0_inverse : ss_dV yX0_inverse 1 := by decide +kernel
set_option maxRecDepth 20000 in
def wX0_inverse (x1 : Int32) (σ : ss_S) (post : Int32 → ss_S → Prop) : Prop := (¬ (σ 1 0) = 0 ∧ post (((x1 * x1) * x1) - ((x1 * x1) * x1) / (σ 1 0) * (σ 1 0)) σ)

def rmX0_addMultiple : Room := { frames := 0, cells := 0, slots := 0, locals := 0 }
theorem dvX0_addMultiple : ss_dV yX0_addMultiple 5 := by decide +kernel
def lX0_addMultiple_3 (s1 : Nat) (x2 : Int32) (s3 : Nat) (x4 : Int32) (x5 : Int32) (post : ss_S → Prop) (k46 : Int32 → ss_S → Prop) : Nat → Int32 → ss_S → Prop
  | 0, _, _ => False
  | n + 1, x6, σ => (((σ 1 1) ≤ x6 → k46 x6 σ) ∧ (¬ (σ 1 1) ≤ x6 → (vp_in (x2 + x6) (lenC (s1)) ∧ (vp_in (x4 + x6) (lenC (s3)) ∧ (¬ (σ 1 0) = 0 ∧ (vp_in (x2 + x6) (lenC (s1)) ∧ lX0_addMultiple_3 s1 x2 s3 x4 x5 post k46 n (x6 + 1) (u2 σ s1 (Int32.toNatClampNeg (x2 + x6)) (((σ s1 (Int32.toNatClampNeg (x2 + x6))) + (x5 * (σ s3 (Int32.toNatClampNeg (x4 + x6))))) - ((σ s1 (Int32.toNatClampNeg (x2 + x6))) + (x5 * (σ s3 (Int32.toNatClampNeg (x4 + x6))))) / (σ 1 0) * (σ 1 0)))))))))
set_option maxRecDepth 20000 in
def wX0_addMultiple (s1 : Nat) (x2 : Int32) (s3 : Nat) (x4 : Int32) (x5 : Int32) (σ : ss_S) (post : ss_S → Prop) : Prop := (∃ f_3, lX0_addMultiple_3 s1 x2 s3 x4 x5 post (fun x6_1 σ_1 => post σ_1) f_3 0 σ)

def rmX0_spaces : Room := { frames := 1, cells := 0, slots := 0, locals := 23 }
theorem dvX0_spaces : ss_dV yX0_spaces 2 := by decide +kernel
def lX0_spaces_16 (x1 : Int32) (x2 : Int32) (post : Int32 → ss_S → Prop) (k52 : Int32 → Int32 → ss_S → Prop) : Nat → Int32 → Int32 → ss_S → Prop
  | 0, _, _, _ => False
  | n + 1, x3, x4, σ => ((x2 ≤ x4 → k52 x3 x4 σ) ∧ (¬ x2 ≤ x4 → wX0_power (x1 - x4) σ (fun r2 σ1 => wX0_power (x4 + 1) σ1 (fun r4 σ3 => (¬ (r4 - 1) = 0 ∧ lX0_spaces_16 x1 x2 post k52 n ((x3 * (r2 - 1)) / (r4 - 1)) (x4 + 1) σ3)))))
set_option maxRecDepth 20000 in
def wX0_spaces (x1 : Int32) (x2 : Int32) (σ : ss_S) (post : Int32 → ss_S → Prop) : Prop := ((x2 < 0 → post 0 σ) ∧ (¬ x2 < 0 → ((x2 ≤ x1 → (∃ f_16, lX0_spaces_16 x1 x2 post (fun x3_5 x4_5 σ_5 => post x3_5 σ_5) f_16 1 0 σ)) ∧ (¬ x2 ≤ x1 → post 0 σ))))

def rmX3_copyFrom : Room := { frames := 1, cells := 0, slots := 0, locals := 40 }
theorem dvX3_copyFrom : ss_dV yX3_copyFrom 1 := by decide +kernel
set_option maxRecDepth 20000 in
def wX3_copyFrom (s0 : Nat) (s1 : Nat) (σ : ss_S) (post : ss_S → Prop) : Prop := (¬ (0 : Int32) < 0 ∧ ¬ (0 : Int32) < 0 ∧ ¬ ((Int32.ofNat (lenC (s0 + 1))) : Int32) < 0 ∧ (Int32.toNatClampNeg 0) + (Int32.toNatClampNeg (Int32.ofNat (lenC (s0 + 1)))) ≤ (lenC (s1 + 1)) ∧ (Int32.toNatClampNeg 0) + (Int32.toNatClampNeg (Int32.ofNat (lenC (s0 + 1)))) ≤ (lenC (s0 + 1)) ∧ post (sA (u2 σ s0 3 (σ s1 3)) (s0 + 1) (va_cpy ((u2 σ s0 3 (σ s1 3)) (s1 + 1)) ((u2 σ s0 3 (σ s1 3)) (s0 + 1)) (Int32.toNatClampNeg 0) (Int32.toNatClampNeg 0) (Int32.toNatClampNeg (Int32.ofNat (lenC (s0 + 1)))))))

def rmX1_accept : Room := { frames := 2, cells := 0, slots := 0, locals := 61 }
theorem dvX1_accept : ss_dV yX1_accept 1 := by decide +kernel
set_option maxRecDepth 20000 in
def wX1_accept (s1 : Nat) (σ : ss_S) (post : ss_S → Prop) : Prop := ((40 ≤ (σ 3 2) → post σ) ∧ (¬ 40 ≤ (σ 3 2) → (vp_in (σ 3 2) 40 ∧ wX3_copyFrom (45 + 3 * (Int32.toNatClampNeg (σ 3 2))) s1 σ (fun σ2 => post (u2 σ2 3 2 ((σ2 3 2) + 1))))))

def rmX3_isPivot : Room := { frames := 0, cells := 0, slots := 0, locals := 0 }
theorem dvX3_isPivot : ss_dV yX3_isPivot 1 := by decide +kernel
set_option maxRecDepth 20000 in
def wX3_isPivot (s0 : Nat) (x1 : Int32) (σ : ss_S) (post : Int32 → ss_S → Prop) : Prop := ((¬ (((σ s0 3) >>> ((((σ 1 1) - 1) - x1) &&& 31)) &&& 1) = 1 → post 0 σ) ∧ ((((σ s0 3) >>> ((((σ 1 1) - 1) - x1) &&& 31)) &&& 1) = 1 → post 1 σ))

def rmX3_reduceFresh : Room := { frames := 1, cells := 0, slots := 0, locals := 26 }
theorem dvX3_reduceFresh : ss_dV yX3_reduceFresh 0 := by decide +kernel
def lX3_reduceFresh_2 (s0 : Nat) (post : ss_S → Prop) (k70 : Int32 → ss_S → Prop) : Nat → Int32 → ss_S → Prop
  | 0, _, _ => False
  | n + 1, x1, σ => (((σ 1 1) ≤ x1 → k70 x1 σ) ∧ (¬ (σ 1 1) ≤ x1 → (vp_in x1 (lenC (s0 + 2)) ∧ (((σ (s0 + 2) (Int32.toNatClampNeg x1)) = 0 → lX3_reduceFresh_2 s0 post k70 n (x1 + 1) σ) ∧ (¬ (σ (s0 + 2) (Int32.toNatClampNeg x1)) = 0 → wX3_isPivot s0 x1 σ (fun r2 σ1 => ((r2 = 0 → lX3_reduceFresh_2 s0 post k70 n (x1 + 1) σ1) ∧ (¬ r2 = 0 → (vp_in x1 (lenC (s0 + 2)) ∧ wX0_addMultiple (s0 + 2) 0 (s0 + 1) (x1 * 6) ((σ1 1 0) - (σ1 (s0 + 2) (Int32.toNatClampNeg x1))) σ1 (fun σ3 => lX3_reduceFresh_2 s0 post k70 n (x1 + 1) σ3))))))))))
set_option maxRecDepth 20000 in
def wX3_reduceFresh (s0 : Nat) (σ : ss_S) (post : ss_S → Prop) : Prop := (∃ f_2, lX3_reduceFresh_2 s0 post (fun x1_4 σ_4 => post σ_4) f_2 0 σ)

def rmX3_takeRow : Room := { frames := 0, cells := 0, slots := 0, locals := 0 }
theorem dvX3_takeRow : ss_dV yX3_takeRow 2 := by decide +kernel
def lX3_takeRow_2 (s0 : Nat) (x1 : Int32) (x2 : Int32) (post : ss_S → Prop) (k46 : Int32 → ss_S → Prop) : Nat → Int32 → ss_S → Prop
  | 0, _, _ => False
  | n + 1, x3, σ => (((σ 1 1) ≤ x3 → k46 x3 σ) ∧ (¬ (σ 1 1) ≤ x3 → (vp_in x3 (lenC (s0 + 2)) ∧ (¬ (σ 1 0) = 0 ∧ (vp_in ((x1 * 6) + x3) (lenC (s0 + 1)) ∧ lX3_takeRow_2 s0 x1 x2 post k46 n (x3 + 1) (u2 σ (s0 + 1) (Int32.toNatClampNeg ((x1 * 6) + x3)) ((x2 * (σ (s0 + 2) (Int32.toNatClampNeg x3))) - (x2 * (σ (s0 + 2) (Int32.toNatClampNeg x3))) / (σ 1 0) * (σ 1 0))))))))
set_option maxRecDepth 20000 in
def wX3_takeRow (s0 : Nat) (x1 : Int32) (x2 : Int32) (σ : ss_S) (post : ss_S → Prop) : Prop := (∃ f_2, lX3_takeRow_2 s0 x1 x2 post (fun x3_1 σ_1 => post (u2 σ_1 s0 3 ((σ_1 s0 3) ||| (1 <<< ((((σ_1 1 1) - 1) - x1) &&& 31))))) f_2 0 σ)

def rmX3_joinFresh : Room := { frames := 2, cells := 0, slots := 0, locals := 47 }
theorem dvX3_joinFresh : ss_dV yX3_joinFresh 0 := by decide +kernel
def lX3_joinFresh_6 (s0 : Nat) (post : ss_S → Prop) (k32 : Int32 → ss_S → Prop) : Nat → Int32 → ss_S → Prop
  | 0, _, _ => False
  | n + 1, x1, σ => (((σ 1 1) ≤ x1 → k32 x1 σ) ∧ (¬ (σ 1 1) ≤ x1 → (vp_in x1 (lenC (s0 + 2)) ∧ ((¬ (σ (s0 + 2) (Int32.toNatClampNeg x1)) = 0 → k32 x1 σ) ∧ ((σ (s0 + 2) (Int32.toNatClampNeg x1)) = 0 → lX3_joinFresh_6 s0 post k32 n (x1 + 1) σ)))))
def lX3_joinFresh_64 (s0 : Nat) (x1 : Int32) (post : ss_S → Prop) (k131 : Int32 → ss_S → Prop) : Nat → Int32 → ss_S → Prop
  | 0, _, _ => False
  | n + 1, x2, σ => ((x1 ≤ x2 → k131 x2 σ) ∧ (¬ x1 ≤ x2 → (vp_in ((x2 * 6) + x1) (lenC (s0 + 1)) ∧ wX3_isPivot s0 x2 σ (fun r7 σ6 => ((r7 = 0 → lX3_joinFresh_64 s0 x1 post k131 n (x2 + 1) σ6) ∧ (¬ r7 = 0 → (((σ (s0 + 1) (Int32.toNatClampNeg ((x2 * 6) + x1))) = 0 → lX3_joinFresh_64 s0 x1 post k131 n (x2 + 1) σ6) ∧ (¬ (σ (s0 + 1) (Int32.toNatClampNeg ((x2 * 6) + x1))) = 0 → wX0_addMultiple (s0 + 1) (x2 * 6) (s0 + 1) (x1 * 6) ((σ6 1 0) - (σ (s0 + 1) (Int32.toNatClampNeg ((x2 * 6) + x1)))) σ6 (fun σ8 => lX3_joinFresh_64 s0 x1 post k131 n (x2 + 1) σ8)))))))))
set_option maxRecDepth 20000 in
def wX3_joinFresh (s0 : Nat) (σ : ss_S) (post : ss_S → Prop) : Prop := wX3_reduceFresh s0 σ (fun σ1 => (∃ f_6, lX3_joinFresh_6 s0 post (fun x1_2 σ_2 => ((¬ x1_2 = (σ_2 1 1) → (vp_in x1_2 (lenC (s0 + 2)) ∧ wX0_inverse (σ_2 (s0 + 2) (Int32.toNatClampNeg x1_2)) σ_2 (fun r4 σ3 => wX3_takeRow s0 x1_2 r4 σ3 (fun σ5 => (∃ f_64, lX3_joinFresh_64 s0 x1_2 post (fun x2_9 σ_9 => post σ_9) f_64 0 σ5))))) ∧ (x1_2 = (σ_2 1 1) → post σ_2))) f_6 0 σ1))

def rmX3_joinSpace : Room := { frames := 3, cells := 0, slots := 0, locals := 70 }
theorem dvX3_joinSpace : ss_dV yX3_joinSpace 1 := by decide +kernel
def lX3_joinSpace_2 (s0 : Nat) (s1 : Nat) (post : ss_S → Prop) (k54 : Int32 → ss_S → Prop) : Nat → Int32 → ss_S → Prop
  | 0, _, _ => False
  | n + 1, x2, σ => (((σ 1 1) ≤ x2 → k54 x2 σ) ∧ (¬ (σ 1 1) ≤ x2 → wX3_isPivot s1 x2 σ (fun r2 σ1 => ((r2 = 0 → lX3_joinSpace_2 s0 s1 post k54 n (x2 + 1) σ1) ∧ (¬ r2 = 0 → (¬ ((x2 * 6) : Int32) < 0 ∧ ¬ (0 : Int32) < 0 ∧ ¬ ((σ1 1 1) : Int32) < 0 ∧ (Int32.toNatClampNeg (x2 * 6)) + (Int32.toNatClampNeg (σ1 1 1)) ≤ (lenC (s1 + 1)) ∧ (Int32.toNatClampNeg 0) + (Int32.toNatClampNeg (σ1 1 1)) ≤ (lenC (s0 + 2)) ∧ wX3_joinFresh s0 (sA σ1 (s0 + 2) (va_cpy (σ1 (s1 + 1)) (σ1 (s0 + 2)) (Int32.toNatClampNeg (x2 * 6)) (Int32.toNatClampNeg 0) (Int32.toNatClampNeg (σ1 1 1)))) (fun σ3 => lX3_joinSpace_2 s0 s1 post k54 n (x2 + 1) σ3)))))))
set_option maxRecDepth 20000 in
def wX3_joinSpace (s0 : Nat) (s1 : Nat) (σ : ss_S) (post : ss_S → Prop) : Prop := (∃ f_2, lX3_joinSpace_2 s0 s1 post (fun x2_4 σ_4 => post σ_4) f_2 0 σ)

def rmJ6_bitCount_0f7a4 : Room := { frames := 0, cells := 0, slots := 0, locals := 0 }
theorem dvJ6_bitCount_0f7a4 : ss_dV yJ6_bitCount_0f7a4 1 := by decide +kernel
set_option maxRecDepth 20000 in
def wJ6_bitCount_0f7a4 (x0 : Int32) (σ : ss_S) (post : Int32 → ss_S → Prop) : Prop := (∀ z1 : Int32, z1 = (((x0 - (((x0.toUInt32 >>> (Int32.toUInt32 1 &&& Int32.toUInt32 31)).toInt32) &&& 1431655765)) &&& 858993459) + ((((x0 - (((x0.toUInt32 >>> (Int32.toUInt32 1 &&& Int32.toUInt32 31)).toInt32) &&& 1431655765)).toUInt32 >>> (Int32.toUInt32 2 &&& Int32.toUInt32 31)).toInt32) &&& 858993459)) → (∀ z2 : Int32, z2 = (((z1 + ((z1.toUInt32 >>> (Int32.toUInt32 4 &&& Int32.toUInt32 31)).toInt32)) &&& 252645135) + ((((z1 + ((z1.toUInt32 >>> (Int32.toUInt32 4 &&& Int32.toUInt32 31)).toInt32)) &&& 252645135).toUInt32 >>> (Int32.toUInt32 8 &&& Int32.toUInt32 31)).toInt32)) → post ((z2 + ((z2.toUInt32 >>> (Int32.toUInt32 16 &&& Int32.toUInt32 31)).toInt32)) &&& 63) σ))

def rmX3_rank : Room := { frames := 1, cells := 0, slots := 0, locals := 20 }
theorem dvX3_rank : ss_dV yX3_rank 0 := by decide +kernel
set_option maxRecDepth 20000 in
def wX3_rank (s0 : Nat) (σ : ss_S) (post : Int32 → ss_S → Prop) : Prop := wJ6_bitCount_0f7a4 (σ s0 3) σ (fun r2 σ1 => post r2 σ1)

def rmX3_distance : Room := { frames := 4, cells := 0, slots := 0, locals := 92 }
theorem dvX3_distance : ss_dV yX3_distance 2 := by decide +kernel
set_option maxRecDepth 20000 in
def wX3_distance (s0 : Nat) (s1 : Nat) (s2 : Nat) (σ : ss_S) (post : Int32 → ss_S → Prop) : Prop := wX3_copyFrom s0 s1 σ (fun σ1 => wX3_joinSpace s0 s2 σ1 (fun σ2 => wX3_rank s0 σ2 (fun r4 σ3 => wX3_rank s1 σ3 (fun r6 σ5 => wX3_rank s2 σ5 (fun r8 σ7 => post (((2 * r4) - r6) - r8) σ7)))))

def rmX1_allApart : Room := { frames := 5, cells := 0, slots := 0, locals := 114 }
theorem dvX1_allApart : ss_dV yX1_allApart 2 := by decide +kernel
def lX1_allApart_2 (s1 : Nat) (x2 : Int32) (post : Int32 → ss_S → Prop) (k36 : Int32 → ss_S → Prop) : Nat → Int32 → ss_S → Prop
  | 0, _, _ => False
  | n + 1, x3, σ => (((σ 3 2) ≤ x3 → k36 x3 σ) ∧ (¬ (σ 3 2) ≤ x3 → (vp_in x3 40 ∧ wX3_distance 165 s1 (45 + 3 * (Int32.toNatClampNeg x3)) σ (fun r3 σ2 => ((x2 ≤ r3 → lX1_allApart_2 s1 x2 post k36 n (x3 + 1) σ2) ∧ (¬ x2 ≤ r3 → post 0 σ2))))))
set_option maxRecDepth 20000 in
def wX1_allApart (s1 : Nat) (x2 : Int32) (σ : ss_S) (post : Int32 → ss_S → Prop) : Prop := (∃ f_2, lX1_allApart_2 s1 x2 post (fun x3_4 σ_4 => post 1 σ_4) f_2 0 σ)

def rmX1_leastDistance : Room := { frames := 5, cells := 0, slots := 0, locals := 114 }
theorem dvX1_leastDistance : ss_dV yX1_leastDistance 0 := by decide +kernel
def lX1_leastDistance_14 (x2 : Int32) (post : Int32 → ss_S → Prop) (k60 : Int32 → Int32 → ss_S → Prop) : Nat → Int32 → Int32 → ss_S → Prop
  | 0, _, _, _ => False
  | n + 1, x1, x3, σ => ((x2 ≤ x3 → k60 x1 x3 σ) ∧ (¬ x2 ≤ x3 → (vp_in x2 40 ∧ (vp_in x3 40 ∧ wX3_distance 165 (45 + 3 * (Int32.toNatClampNeg x2)) (45 + 3 * (Int32.toNatClampNeg x3)) σ (fun r4 σ3 => ((x1 = ((-1)) → lX1_leastDistance_14 x2 post k60 n r4 (x3 + 1) σ3) ∧ (¬ x1 = ((-1)) → ((x1 ≤ r4 → lX1_leastDistance_14 x2 post k60 n x1 (x3 + 1) σ3) ∧ (¬ x1 ≤ r4 → lX1_leastDistance_14 x2 post k60 n r4 (x3 + 1) σ3)))))))))
def lX1_leastDistance_4  (post : Int32 → ss_S → Prop) (k66 : Int32 → Int32 → ss_S → Prop) : Nat → Int32 → Int32 → ss_S → Prop
  | 0, _, _, _ => False
  | n + 1, x1, x2, σ => (((σ 3 2) ≤ x2 → k66 x1 x2 σ) ∧ (¬ (σ 3 2) ≤ x2 → (∃ f_14, lX1_leastDistance_14 x2 post (fun x1_5 x3_5 σ_5 => lX1_leastDistance_4 post k66 n x1_5 (x2 + 1) σ_5) f_14 x1 0 σ)))
set_option maxRecDepth 20000 in
def wX1_leastDistance  (σ : ss_S) (post : Int32 → ss_S → Prop) : Prop := (∃ f_4, lX1_leastDistance_4  post (fun x1_6 x2_6 σ_6 => post x1_6 σ_6) f_4 ((-1)) 1 σ)

def rmX3_settledFigure : Room := { frames := 1, cells := 0, slots := 0, locals := 21 }
theorem dvX3_settledFigure : ss_dV yX3_settledFigure 3 := by decide +kernel
def lX3_settledFigure_6 (s0 : Nat) (s1 : Nat) (x2 : Int32) (x3 : Int32) (post : Int32 → ss_S → Prop) (k51 : Int32 → Int32 → ss_S → Prop) : Nat → Int32 → Int32 → ss_S → Prop
  | 0, _, _, _ => False
  | n + 1, x4, x5, σ => ((x3 ≤ x5 → k51 x4 x5 σ) ∧ (¬ x3 ≤ x5 → wX3_isPivot s0 x5 σ (fun r2 σ1 => ((r2 = 0 → lX3_settledFigure_6 s0 s1 x2 x3 post k51 n x4 (x5 + 1) σ1) ∧ (¬ r2 = 0 → (vp_in (x2 + x5) (lenC (s1)) ∧ (vp_in ((x5 * 6) + x3) (lenC (s0 + 1)) ∧ lX3_settledFigure_6 s0 s1 x2 x3 post k51 n (x4 + ((σ1 s1 (Int32.toNatClampNeg (x2 + x5))) * (σ1 (s0 + 1) (Int32.toNatClampNeg ((x5 * 6) + x3))))) (x5 + 1) σ1)))))))
set_option maxRecDepth 20000 in
def wX3_settledFigure (s0 : Nat) (s1 : Nat) (x2 : Int32) (x3 : Int32) (σ : ss_S) (post : Int32 → ss_S → Prop) : Prop := (∃ f_6, lX3_settledFigure_6 s0 s1 x2 x3 post (fun x4_3 x5_3 σ_3 => (¬ (σ_3 1 0) = 0 ∧ post (x4_3 - x4_3 / (σ_3 1 0) * (σ_3 1 0)) σ_3)) f_6 0 0 σ)

def rmX3_holds : Room := { frames := 2, cells := 0, slots := 0, locals := 46 }
theorem dvX3_holds : ss_dV yX3_holds 2 := by decide +kernel
def lX3_holds_2 (s0 : Nat) (s1 : Nat) (x2 : Int32) (post : Int32 → ss_S → Prop) (k44 : Int32 → ss_S → Prop) : Nat → Int32 → ss_S → Prop
  | 0, _, _ => False
  | n + 1, x3, σ => (((σ 1 1) ≤ x3 → k44 x3 σ) ∧ (¬ (σ 1 1) ≤ x3 → wX3_isPivot s0 x3 σ (fun r2 σ1 => ((¬ r2 = 0 → lX3_holds_2 s0 s1 x2 post k44 n (x3 + 1) σ1) ∧ (r2 = 0 → wX3_settledFigure s0 s1 x2 x3 σ1 (fun r4 σ3 => (vp_in (x2 + x3) (lenC (s1)) ∧ ((r4 = (σ3 s1 (Int32.toNatClampNeg (x2 + x3))) → lX3_holds_2 s0 s1 x2 post k44 n (x3 + 1) σ3) ∧ (¬ r4 = (σ3 s1 (Int32.toNatClampNeg (x2 + x3))) → post 0 σ3)))))))))
set_option maxRecDepth 20000 in
def wX3_holds (s0 : Nat) (s1 : Nat) (x2 : Int32) (σ : ss_S) (post : Int32 → ss_S → Prop) : Prop := (∃ f_2, lX3_holds_2 s0 s1 x2 post (fun x3_5 σ_5 => post 1 σ_5) f_2 0 σ)

def rmX1_covers : Room := { frames := 3, cells := 0, slots := 0, locals := 69 }
theorem dvX1_covers : ss_dV yX1_covers 1 := by decide +kernel
def lX1_covers_2 (s1 : Nat) (post : Int32 → ss_S → Prop) (k32 : Int32 → ss_S → Prop) : Nat → Int32 → ss_S → Prop
  | 0, _, _ => False
  | n + 1, x2, σ => (((σ 3 2) ≤ x2 → k32 x2 σ) ∧ (¬ (σ 3 2) ≤ x2 → (vp_in x2 40 ∧ wX3_holds (45 + 3 * (Int32.toNatClampNeg x2)) s1 0 σ (fun r3 σ2 => ((r3 = 0 → lX1_covers_2 s1 post k32 n (x2 + 1) σ2) ∧ (¬ r3 = 0 → post 1 σ2))))))
set_option maxRecDepth 20000 in
def wX1_covers (s1 : Nat) (σ : ss_S) (post : Int32 → ss_S → Prop) : Prop := (∃ f_2, lX1_covers_2 s1 post (fun x2_4 σ_4 => post 0 σ_4) f_2 0 σ)

def rmJ7_fill_53178 : Room := { frames := 0, cells := 0, slots := 0, locals := 0 }
theorem dvJ7_fill_53178 : ss_dV yJ7_fill_53178 2 := by decide +kernel
def lJ7_fill_53178_5 (s0 : Nat) (x1 : Int32) (x3 : Int32) (post : ss_S → Prop) (k20 : Int32 → ss_S → Prop) : Nat → Int32 → ss_S → Prop
  | 0, _, _ => False
  | n + 1, x2, σ => ((x3 ≤ x2 → k20 x2 σ) ∧ (¬ x3 ≤ x2 → (vp_in x2 (lenC (s0)) ∧ lJ7_fill_53178_5 s0 x1 x3 post k20 n (x2 + 1) (u2 σ s0 (Int32.toNatClampNeg x2) x1))))
set_option maxRecDepth 20000 in
def wJ7_fill_53178 (s0 : Nat) (x1 : Int32) (σ : ss_S) (post : ss_S → Prop) : Prop := (∃ f_5, lJ7_fill_53178_5 s0 x1 (Int32.ofNat (lenC (s0))) post (fun x2_1 σ_1 => post σ_1) f_5 0 σ)

def rmX2_becomeIdentity : Room := { frames := 1, cells := 0, slots := 0, locals := 23 }
theorem dvX2_becomeIdentity : ss_dV yX2_becomeIdentity 0 := by decide +kernel
def lX2_becomeIdentity_10  (post : ss_S → Prop) (k39 : Int32 → ss_S → Prop) : Nat → Int32 → ss_S → Prop
  | 0, _, _ => False
  | n + 1, x1, σ => (((σ 1 1) ≤ x1 → k39 x1 σ) ∧ (¬ (σ 1 1) ≤ x1 → (vp_in ((x1 * 6) + x1) (lenC (7)) ∧ lX2_becomeIdentity_10 post k39 n (x1 + 1) (u2 σ 7 (Int32.toNatClampNeg ((x1 * 6) + x1)) 1))))
set_option maxRecDepth 20000 in
def wX2_becomeIdentity  (σ : ss_S) (post : ss_S → Prop) : Prop := wJ7_fill_53178 7 0 σ (fun σ1 => (∃ f_10, lX2_becomeIdentity_10  post (fun x1_2 σ_2 => post σ_2) f_10 0 σ1))

def rmX2_imageNumber : Room := { frames := 1, cells := 0, slots := 0, locals := 24 }
theorem dvX2_imageNumber : ss_dV yX2_imageNumber 1 := by decide +kernel
set_option maxRecDepth 20000 in
def wX2_imageNumber (x1 : Int32) (σ : ss_S) (post : Int32 → ss_S → Prop) : Prop := wX0_vectorNumber 7 (x1 * 6) σ (fun r2 σ1 => post r2 σ1)

def rmX2_setImage : Room := { frames := 1, cells := 0, slots := 0, locals := 25 }
theorem dvX2_setImage : ss_dV yX2_setImage 2 := by decide +kernel
set_option maxRecDepth 20000 in
def wX2_setImage (x1 : Int32) (x2 : Int32) (σ : ss_S) (post : ss_S → Prop) : Prop := wX0_spell x2 7 (x1 * 6) σ (fun σ1 => post σ1)

def rmX2_applyInto : Room := { frames := 1, cells := 0, slots := 0, locals := 26 }
theorem dvX2_applyInto : ss_dV yX2_applyInto 2 := by decide +kernel
def lX2_applyInto_10 (s1 : Nat) (x2 : Int32) (post : ss_S → Prop) (k60 : Int32 → ss_S → Prop) : Nat → Int32 → ss_S → Prop
  | 0, _, _ => False
  | n + 1, x3, σ => (((σ 1 1) ≤ x3 → k60 x3 σ) ∧ (¬ (σ 1 1) ≤ x3 → (vp_in (x2 + x3) (lenC (s1)) ∧ (((σ s1 (Int32.toNatClampNeg (x2 + x3))) = 0 → lX2_applyInto_10 s1 x2 post k60 n (x3 + 1) σ) ∧ (¬ (σ s1 (Int32.toNatClampNeg (x2 + x3))) = 0 → (vp_in (x2 + x3) (lenC (s1)) ∧ wX0_addMultiple 8 0 7 (x3 * 6) (σ s1 (Int32.toNatClampNeg (x2 + x3))) σ (fun σ2 => lX2_applyInto_10 s1 x2 post k60 n (x3 + 1) σ2)))))))
set_option maxRecDepth 20000 in
def wX2_applyInto (s1 : Nat) (x2 : Int32) (σ : ss_S) (post : ss_S → Prop) : Prop := wJ7_fill_53178 8 0 σ (fun σ1 => (∃ f_10, lX2_applyInto_10 s1 x2 post (fun x3_3 σ_3 => post σ_3) f_10 0 σ1))

def rmX2_apply : Room := { frames := 2, cells := 0, slots := 0, locals := 49 }
theorem dvX2_apply : ss_dV yX2_apply 1 := by decide +kernel
set_option maxRecDepth 20000 in
def wX2_apply (s1 : Nat) (σ : ss_S) (post : Int32 → ss_S → Prop) : Prop := wX2_applyInto s1 0 σ (fun σ1 => wX0_vectorNumber 8 0 σ1 (fun r3 σ2 => post r3 σ2))

def rmX3_becomeZero : Room := { frames := 0, cells := 0, slots := 0, locals := 0 }
theorem dvX3_becomeZero : ss_dV yX3_becomeZero 0 := by decide +kernel
set_option maxRecDepth 20000 in
def wX3_becomeZero (s0 : Nat) (σ : ss_S) (post : ss_S → Prop) : Prop := post (u2 σ s0 3 0)

def rmX3_joinVector : Room := { frames := 3, cells := 0, slots := 0, locals := 70 }
theorem dvX3_joinVector : ss_dV yX3_joinVector 2 := by decide +kernel
set_option maxRecDepth 20000 in
def wX3_joinVector (s0 : Nat) (s1 : Nat) (x2 : Int32) (σ : ss_S) (post : ss_S → Prop) : Prop := (¬ (x2 : Int32) < 0 ∧ ¬ (0 : Int32) < 0 ∧ ¬ ((σ 1 1) : Int32) < 0 ∧ (Int32.toNatClampNeg x2) + (Int32.toNatClampNeg (σ 1 1)) ≤ (lenC (s1)) ∧ (Int32.toNatClampNeg 0) + (Int32.toNatClampNeg (σ 1 1)) ≤ (lenC (s0 + 2)) ∧ wX3_joinFresh s0 (sA σ (s0 + 2) (va_cpy (σ s1) (σ (s0 + 2)) (Int32.toNatClampNeg x2) (Int32.toNatClampNeg 0) (Int32.toNatClampNeg (σ 1 1)))) (fun σ1 => post σ1))

def rmX2_applyToSpace : Room := { frames := 4, cells := 0, slots := 0, locals := 92 }
theorem dvX2_applyToSpace : ss_dV yX2_applyToSpace 2 := by decide +kernel
def lX2_applyToSpace_6 (s1 : Nat) (s2 : Nat) (post : ss_S → Prop) (k52 : Int32 → ss_S → Prop) : Nat → Int32 → ss_S → Prop
  | 0, _, _ => False
  | n + 1, x3, σ => (((σ 1 1) ≤ x3 → k52 x3 σ) ∧ (¬ (σ 1 1) ≤ x3 → wX3_isPivot s1 x3 σ (fun r3 σ2 => ((r3 = 0 → lX2_applyToSpace_6 s1 s2 post k52 n (x3 + 1) σ2) ∧ (¬ r3 = 0 → wX2_applyInto (s1 + 1) (x3 * 6) σ2 (fun σ4 => wX3_joinVector s2 8 0 σ4 (fun σ5 => lX2_applyToSpace_6 s1 s2 post k52 n (x3 + 1) σ5)))))))
set_option maxRecDepth 20000 in
def wX2_applyToSpace (s1 : Nat) (s2 : Nat) (σ : ss_S) (post : ss_S → Prop) : Prop := wX3_becomeZero s2 σ (fun σ1 => (∃ f_6, lX2_applyToSpace_6 s1 s2 post (fun x3_6 σ_6 => post σ_6) f_6 0 σ1))

def rmX2_columnSpace : Room := { frames := 4, cells := 0, slots := 0, locals := 92 }
theorem dvX2_columnSpace : ss_dV yX2_columnSpace 1 := by decide +kernel
def lX2_columnSpace_19 (s1 : Nat) (x2 : Int32) (post : ss_S → Prop) (k53 : Int32 → ss_S → Prop) : Nat → Int32 → ss_S → Prop
  | 0, _, _ => False
  | n + 1, x3, σ => (((σ 1 1) ≤ x3 → k53 x3 σ) ∧ (¬ (σ 1 1) ≤ x3 → (vp_in ((x3 * 6) + x2) (lenC (7)) ∧ (vp_in x3 (lenC (8)) ∧ lX2_columnSpace_19 s1 x2 post k53 n (x3 + 1) (u2 σ 8 (Int32.toNatClampNeg x3) (σ 7 (Int32.toNatClampNeg ((x3 * 6) + x2))))))))
def lX2_columnSpace_6 (s1 : Nat) (post : ss_S → Prop) (k68 : Int32 → ss_S → Prop) : Nat → Int32 → ss_S → Prop
  | 0, _, _ => False
  | n + 1, x2, σ => (((σ 1 1) ≤ x2 → k68 x2 σ) ∧ (¬ (σ 1 1) ≤ x2 → (∃ f_19, lX2_columnSpace_19 s1 x2 post (fun x3_2 σ_2 => wX3_joinVector s1 8 0 σ_2 (fun σ3 => lX2_columnSpace_6 s1 post k68 n (x2 + 1) σ3)) f_19 0 σ)))
set_option maxRecDepth 20000 in
def wX2_columnSpace (s1 : Nat) (σ : ss_S) (post : ss_S → Prop) : Prop := wX3_becomeZero s1 σ (fun σ1 => (∃ f_6, lX2_columnSpace_6 s1 post (fun x2_4 σ_4 => post σ_4) f_6 0 σ1))

def rmX3_rowNumber : Room := { frames := 1, cells := 0, slots := 0, locals := 24 }
theorem dvX3_rowNumber : ss_dV yX3_rowNumber 1 := by decide +kernel
def lX3_rowNumber_4 (s0 : Nat) (x1 : Int32) (post : Int32 → ss_S → Prop) (k53 : Int32 → Int32 → ss_S → Prop) : Nat → Int32 → Int32 → ss_S → Prop
  | 0, _, _, _ => False
  | n + 1, x2, x3, σ => (((σ 1 1) ≤ x3 → k53 x2 x3 σ) ∧ (¬ (σ 1 1) ≤ x3 → wX3_isPivot s0 x3 σ (fun r2 σ1 => ((r2 = 0 → lX3_rowNumber_4 s0 x1 post k53 n x2 (x3 + 1) σ1) ∧ (¬ r2 = 0 → ((¬ x2 = x1 → lX3_rowNumber_4 s0 x1 post k53 n (x2 + 1) (x3 + 1) σ1) ∧ (x2 = x1 → wX0_vectorNumber (s0 + 1) (x3 * 6) σ1 (fun r4 σ3 => post r4 σ3))))))))
set_option maxRecDepth 20000 in
def wX3_rowNumber (s0 : Nat) (x1 : Int32) (σ : ss_S) (post : Int32 → ss_S → Prop) : Prop := (∃ f_4, lX3_rowNumber_4 s0 x1 post (fun x2_5 x3_5 σ_5 => post ((-1)) σ_5) f_4 0 0 σ)

def rmX3_liesIn : Room := { frames := 3, cells := 0, slots := 0, locals := 69 }
theorem dvX3_liesIn : ss_dV yX3_liesIn 1 := by decide +kernel
def lX3_liesIn_2 (s0 : Nat) (s1 : Nat) (post : Int32 → ss_S → Prop) (k44 : Int32 → ss_S → Prop) : Nat → Int32 → ss_S → Prop
  | 0, _, _ => False
  | n + 1, x2, σ => (((σ 1 1) ≤ x2 → k44 x2 σ) ∧ (¬ (σ 1 1) ≤ x2 → wX3_isPivot s0 x2 σ (fun r2 σ1 => ((r2 = 0 → lX3_liesIn_2 s0 s1 post k44 n (x2 + 1) σ1) ∧ (¬ r2 = 0 → wX3_holds s1 (s0 + 1) (x2 * 6) σ1 (fun r4 σ3 => ((¬ r4 = 0 → lX3_liesIn_2 s0 s1 post k44 n (x2 + 1) σ3) ∧ (r4 = 0 → post 0 σ3))))))))
set_option maxRecDepth 20000 in
def wX3_liesIn (s0 : Nat) (s1 : Nat) (σ : ss_S) (post : Int32 → ss_S → Prop) : Prop := (∃ f_2, lX3_liesIn_2 s0 s1 post (fun x2_5 σ_5 => post 1 σ_5) f_2 0 σ)

def rmX3_sameAs : Room := { frames := 4, cells := 0, slots := 0, locals := 91 }
theorem dvX3_sameAs : ss_dV yX3_sameAs 1 := by decide +kernel
set_option maxRecDepth 20000 in
def wX3_sameAs (s0 : Nat) (s1 : Nat) (σ : ss_S) (post : Int32 → ss_S → Prop) : Prop := ((¬ (σ s0 3) = (σ s1 3) → post 0 σ) ∧ ((σ s0 3) = (σ s1 3) → wX3_liesIn s0 s1 σ (fun r2 σ1 => ((r2 = 0 → post 0 σ1) ∧ (¬ r2 = 0 → post 1 σ1)))))

def rmX3_becomeDual : Room := { frames := 3, cells := 0, slots := 0, locals := 70 }
theorem dvX3_becomeDual : ss_dV yX3_becomeDual 1 := by decide +kernel
def lX3_becomeDual_42 (s0 : Nat) (s1 : Nat) (x2 : Int32) (post : ss_S → Prop) (k94 : Int32 → ss_S → Prop) : Nat → Int32 → ss_S → Prop
  | 0, _, _ => False
  | n + 1, x3, σ => ((x2 ≤ x3 → k94 x3 σ) ∧ (¬ x2 ≤ x3 → wX3_isPivot s1 x3 σ (fun r6 σ5 => ((r6 = 0 → lX3_becomeDual_42 s0 s1 x2 post k94 n (x3 + 1) σ5) ∧ (¬ r6 = 0 → (vp_in ((x3 * 6) + x2) (lenC (s1 + 1)) ∧ (¬ (σ5 1 0) = 0 ∧ (vp_in x3 (lenC (s0 + 2)) ∧ lX3_becomeDual_42 s0 s1 x2 post k94 n (x3 + 1) (u2 σ5 (s0 + 2) (Int32.toNatClampNeg x3) (((σ5 1 0) - (σ5 (s1 + 1) (Int32.toNatClampNeg ((x3 * 6) + x2)))) - ((σ5 1 0) - (σ5 (s1 + 1) (Int32.toNatClampNeg ((x3 * 6) + x2)))) / (σ5 1 0) * (σ5 1 0)))))))))))
def lX3_becomeDual_6 (s0 : Nat) (s1 : Nat) (post : ss_S → Prop) (k104 : Int32 → ss_S → Prop) : Nat → Int32 → ss_S → Prop
  | 0, _, _ => False
  | n + 1, x2, σ => (((σ 1 1) ≤ x2 → k104 x2 σ) ∧ (¬ (σ 1 1) ≤ x2 → wX3_isPivot s1 x2 σ (fun r3 σ2 => ((¬ r3 = 0 → lX3_becomeDual_6 s0 s1 post k104 n (x2 + 1) σ2) ∧ (r3 = 0 → wJ7_fill_53178 (s0 + 2) 0 σ2 (fun σ4 => (vp_in x2 (lenC (s0 + 2)) ∧ (∃ f_42, lX3_becomeDual_42 s0 s1 x2 post (fun x3_7 σ_7 => wX3_joinFresh s0 σ_7 (fun σ8 => lX3_becomeDual_6 s0 s1 post k104 n (x2 + 1) σ8)) f_42 0 (u2 σ4 (s0 + 2) (Int32.toNatClampNeg x2) 1)))))))))
set_option maxRecDepth 20000 in
def wX3_becomeDual (s0 : Nat) (s1 : Nat) (σ : ss_S) (post : ss_S → Prop) : Prop := wX3_becomeZero s0 σ (fun σ1 => (∃ f_6, lX3_becomeDual_6 s0 s1 post (fun x2_9 σ_9 => post σ_9) f_6 0 σ1))

def rmX3_freeCells : Room := { frames := 0, cells := 0, slots := 0, locals := 0 }
theorem dvX3_freeCells : ss_dV yX3_freeCells 1 := by decide +kernel
def lX3_freeCells_7 (s0 : Nat) (x1 : Int32) (post : Int32 → ss_S → Prop) (k45 : Int32 → Int32 → Int32 → ss_S → Prop) : Nat → Int32 → Int32 → Int32 → ss_S → Prop
  | 0, _, _, _, _ => False
  | n + 1, x2, x3, x4, σ => (((σ 1 1) ≤ x4 → k45 x2 x3 x4 σ) ∧ (¬ (σ 1 1) ≤ x4 → ((¬ ((x1 >>> (x4 &&& 31)) &&& 1) = 1 → lX3_freeCells_7 s0 x1 post k45 n x2 (x3 + 1) (x4 + 1) σ) ∧ (((x1 >>> (x4 &&& 31)) &&& 1) = 1 → lX3_freeCells_7 s0 x1 post k45 n (x2 + x3) x3 (x4 + 1) σ))))
set_option maxRecDepth 20000 in
def wX3_freeCells (s0 : Nat) (x1 : Int32) (σ : ss_S) (post : Int32 → ss_S → Prop) : Prop := (∃ f_7, lX3_freeCells_7 s0 x1 post (fun x2_1 x3_1 x4_1 σ_1 => post x2_1 σ_1) f_7 0 0 0 σ)

def rmX3_cellsValue : Room := { frames := 1, cells := 0, slots := 0, locals := 21 }
theorem dvX3_cellsValue : ss_dV yX3_cellsValue 0 := by decide +kernel
def lX3_cellsValue_27 (s0 : Nat) (x2 : Int32) (post : Int32 → ss_S → Prop) (k74 : Int32 → Int32 → ss_S → Prop) : Nat → Int32 → Int32 → ss_S → Prop
  | 0, _, _, _ => False
  | n + 1, x1, x3, σ => (((σ 1 1) ≤ x3 → k74 x1 x3 σ) ∧ (¬ (σ 1 1) ≤ x3 → wX3_isPivot s0 x3 σ (fun r4 σ3 => ((¬ r4 = 0 → lX3_cellsValue_27 s0 x2 post k74 n x1 (x3 + 1) σ3) ∧ (r4 = 0 → (vp_in ((x2 * 6) + x3) (lenC (s0 + 1)) ∧ lX3_cellsValue_27 s0 x2 post k74 n ((x1 * (σ3 1 0)) + (σ3 (s0 + 1) (Int32.toNatClampNeg ((x2 * 6) + x3)))) (x3 + 1) σ3))))))
def lX3_cellsValue_4 (s0 : Nat) (post : Int32 → ss_S → Prop) (k80 : Int32 → Int32 → ss_S → Prop) : Nat → Int32 → Int32 → ss_S → Prop
  | 0, _, _, _ => False
  | n + 1, x1, x2, σ => (((σ 1 1) ≤ x2 → k80 x1 x2 σ) ∧ (¬ (σ 1 1) ≤ x2 → wX3_isPivot s0 x2 σ (fun r2 σ1 => ((r2 = 0 → lX3_cellsValue_4 s0 post k80 n x1 (x2 + 1) σ1) ∧ (¬ r2 = 0 → (∃ f_27, lX3_cellsValue_27 s0 x2 post (fun x1_5 x3_5 σ_5 => lX3_cellsValue_4 s0 post k80 n x1_5 (x2 + 1) σ_5) f_27 x1 (x2 + 1) σ1))))))
set_option maxRecDepth 20000 in
def wX3_cellsValue (s0 : Nat) (σ : ss_S) (post : Int32 → ss_S → Prop) : Prop := (∃ f_4, lX3_cellsValue_4 s0 post (fun x1_6 x2_6 σ_6 => post x1_6 σ_6) f_4 0 0 σ)

def rmX3_ordinal : Room := { frames := 2, cells := 0, slots := 0, locals := 44 }
theorem dvX3_ordinal : ss_dV yX3_ordinal 0 := by decide +kernel
def lX3_ordinal_19 (s0 : Nat) (x1 : Int32) (post : Int32 → ss_S → Prop) (k56 : Int32 → Int32 → ss_S → Prop) : Nat → Int32 → Int32 → ss_S → Prop
  | 0, _, _, _ => False
  | n + 1, x2, x3, σ => ((x3 ≤ (σ s0 3) → k56 x2 x3 σ) ∧ (¬ x3 ≤ (σ s0 3) → wJ6_bitCount_0f7a4 x3 σ (fun r4 σ3 => ((¬ r4 = x1 → lX3_ordinal_19 s0 x1 post k56 n x2 (x3 + (-1)) σ3) ∧ (r4 = x1 → wX3_freeCells s0 x3 σ3 (fun r6 σ5 => wX0_power r6 σ5 (fun r8 σ7 => lX3_ordinal_19 s0 x1 post k56 n (x2 + r8) (x3 + (-1)) σ7)))))))
set_option maxRecDepth 20000 in
def wX3_ordinal (s0 : Nat) (σ : ss_S) (post : Int32 → ss_S → Prop) : Prop := wX3_rank s0 σ (fun r2 σ1 => (∃ f_19, lX3_ordinal_19 s0 r2 post (fun x2_9 x3_9 σ_9 => wX3_cellsValue s0 σ_9 (fun r11 σ10 => post (x2_9 + r11) σ10)) f_19 0 ((1 <<< ((σ1 1 1) &&& 31)) - 1) σ1))

def rmX3_fillCells : Room := { frames := 1, cells := 0, slots := 0, locals := 23 }
theorem dvX3_fillCells : ss_dV yX3_fillCells 1 := by decide +kernel
def lX3_fillCells_55 (s0 : Nat) (x3 : Int32) (post : ss_S → Prop) (k107 : Int32 → Int32 → ss_S → Prop) : Nat → Int32 → Int32 → ss_S → Prop
  | 0, _, _, _ => False
  | n + 1, x2, x4, σ => ((x4 ≤ x3 → k107 x2 x4 σ) ∧ (¬ x4 ≤ x3 → wX3_isPivot s0 x4 σ (fun r5 σ4 => ((¬ r5 = 0 → lX3_fillCells_55 s0 x3 post k107 n x2 (x4 + (-1)) σ4) ∧ (r5 = 0 → (¬ (σ4 1 0) = 0 ∧ (vp_in ((x3 * 6) + x4) (lenC (s0 + 1)) ∧ (¬ ((u2 σ4 (s0 + 1) (Int32.toNatClampNeg ((x3 * 6) + x4)) (x2 - x2 / (σ4 1 0) * (σ4 1 0))) 1 0) = 0 ∧ lX3_fillCells_55 s0 x3 post k107 n (x2 / ((u2 σ4 (s0 + 1) (Int32.toNatClampNeg ((x3 * 6) + x4)) (x2 - x2 / (σ4 1 0) * (σ4 1 0))) 1 0)) (x4 + (-1)) (u2 σ4 (s0 + 1) (Int32.toNatClampNeg ((x3 * 6) + x4)) (x2 - x2 / (σ4 1 0) * (σ4 1 0)))))))))))
def lX3_fillCells_20 (s0 : Nat) (post : ss_S → Prop) (k113 : Int32 → Int32 → ss_S → Prop) : Nat → Int32 → Int32 → ss_S → Prop
  | 0, _, _, _ => False
  | n + 1, x2, x3, σ => ((x3 < 0 → k113 x2 x3 σ) ∧ (¬ x3 < 0 → wX3_isPivot s0 x3 σ (fun r3 σ2 => ((r3 = 0 → lX3_fillCells_20 s0 post k113 n x2 (x3 + (-1)) σ2) ∧ (¬ r3 = 0 → (vp_in ((x3 * 6) + x3) (lenC (s0 + 1)) ∧ (∃ f_55, lX3_fillCells_55 s0 x3 post (fun x2_6 x4_6 σ_6 => lX3_fillCells_20 s0 post k113 n x2_6 (x3 + (-1)) σ_6) f_55 x2 (((u2 σ2 (s0 + 1) (Int32.toNatClampNeg ((x3 * 6) + x3)) 1) 1 1) - 1) (u2 σ2 (s0 + 1) (Int32.toNatClampNeg ((x3 * 6) + x3)) 1))))))))
set_option maxRecDepth 20000 in
def wX3_fillCells (s0 : Nat) (x1 : Int32) (σ : ss_S) (post : ss_S → Prop) : Prop := wJ7_fill_53178 (s0 + 1) 0 σ (fun σ1 => (∃ f_20, lX3_fillCells_20 s0 post (fun x2_7 x3_7 σ_7 => post σ_7) f_20 x1 ((σ1 1 1) - 1) σ1))

def rmX3_becomeOrdinal : Room := { frames := 2, cells := 0, slots := 0, locals := 47 }
theorem dvX3_becomeOrdinal : ss_dV yX3_becomeOrdinal 2 := by decide +kernel
def lX3_becomeOrdinal_15 (s0 : Nat) (x1 : Int32) (post : ss_S → Prop) (k73 : Int32 → Int32 → ss_S → Prop) : Nat → Int32 → Int32 → ss_S → Prop
  | 0, _, _, _ => False
  | n + 1, x3, x4, σ => ((x4 < 0 → k73 x3 x4 σ) ∧ (¬ x4 < 0 → wJ6_bitCount_0f7a4 x4 σ (fun r2 σ1 => ((¬ r2 = x1 → lX3_becomeOrdinal_15 s0 x1 post k73 n x3 (x4 + (-1)) σ1) ∧ (r2 = x1 → wX3_freeCells s0 x4 σ1 (fun r4 σ3 => wX0_power r4 σ3 (fun r6 σ5 => ((r6 ≤ x3 → lX3_becomeOrdinal_15 s0 x1 post k73 n (x3 - r6) (x4 + (-1)) σ5) ∧ (¬ r6 ≤ x3 → wX3_fillCells s0 x3 (u2 σ5 s0 3 x4) (fun σ7 => post σ7))))))))))
set_option maxRecDepth 20000 in
def wX3_becomeOrdinal (s0 : Nat) (x1 : Int32) (x2 : Int32) (σ : ss_S) (post : ss_S → Prop) : Prop := (∃ f_15, lX3_becomeOrdinal_15 s0 x1 post (fun x3_8 x4_8 σ_8 => post σ_8) f_15 x2 ((1 <<< ((σ 1 1) &&& 31)) - 1) σ)

def rmX4_mostPlaces : Room := { frames := 0, cells := 0, slots := 0, locals := 0 }
theorem dvX4_mostPlaces : ss_dV yX4_mostPlaces 1 := by decide +kernel
set_option maxRecDepth 20000 in
def wX4_mostPlaces (x0 : Int32) (σ : ss_S) (post : Int32 → ss_S → Prop) : Prop := ((x0 = 2 → post 6 σ) ∧ (¬ x0 = 2 → ((x0 = 3 → post 5 σ) ∧ (¬ x0 = 3 → ((x0 = 4 → post 0 σ) ∧ (¬ x0 = 4 → ((x0 = 5 → post 4 σ) ∧ (¬ x0 = 5 → post 0 σ))))))))

def rmX4_field : Room := { frames := 2, cells := 0, slots := 0, locals := 45 }
theorem dvX4_field : ss_dV yX4_field 2 := by decide +kernel
def lX4_field_27  (post : Int32 → ss_S → Prop) (k48 : Int32 → ss_S → Prop) : Nat → Int32 → ss_S → Prop
  | 0, _, _ => False
  | n + 1, x3, σ => ((12 ≤ x3 → k48 x3 σ) ∧ (¬ 12 ≤ x3 → (vp_in x3 12 ∧ wX3_becomeZero (9 + 3 * (Int32.toNatClampNeg x3)) σ (fun σ5 => lX4_field_27 post k48 n (x3 + 1) σ5))))
set_option maxRecDepth 20000 in
def wX4_field (x1 : Int32) (x2 : Int32) (σ : ss_S) (post : Int32 → ss_S → Prop) : Prop := ((x2 < 1 → post ((-102)) σ) ∧ (¬ x2 < 1 → wX4_mostPlaces x1 σ (fun r2 σ1 => ((x2 ≤ r2 → wX0_become x1 x2 σ1 (fun σ3 => (∃ f_27, lX4_field_27  post (fun x3_6 σ_6 => wX2_becomeIdentity  (u2 σ_6 3 2 0) (fun σ7 => post (σ7 1 2) σ7)) f_27 0 σ3))) ∧ (¬ x2 ≤ r2 → post ((-102)) σ1)))))

def rmX4_plus : Room := { frames := 1, cells := 0, slots := 0, locals := 28 }
theorem dvX4_plus : ss_dV yX4_plus 3 := by decide +kernel
set_option maxRecDepth 20000 in
def wX4_plus (x1 : Int32) (x2 : Int32) (x3 : Int32) (σ : ss_S) (post : Int32 → ss_S → Prop) : Prop := wX0_isVector x1 σ (fun r2 σ1 => ((r2 = 0 → post ((-101)) σ1) ∧ (¬ r2 = 0 → wX0_isVector x2 σ1 (fun r4 σ3 => ((¬ r4 = 0 → ((x3 < 0 → post ((-102)) σ3) ∧ (¬ x3 < 0 → ((x3 < (σ3 1 0) → wX0_sum x1 x2 x3 σ3 (fun r6 σ5 => post r6 σ5)) ∧ (¬ x3 < (σ3 1 0) → post ((-102)) σ3))))) ∧ (r4 = 0 → post ((-101)) σ3))))))

def rmX4_times : Room := { frames := 1, cells := 0, slots := 0, locals := 26 }
theorem dvX4_times : ss_dV yX4_times 2 := by decide +kernel
set_option maxRecDepth 20000 in
def wX4_times (x1 : Int32) (x2 : Int32) (σ : ss_S) (post : Int32 → ss_S → Prop) : Prop := wX0_isVector x1 σ (fun r2 σ1 => ((r2 = 0 → post ((-101)) σ1) ∧ (¬ r2 = 0 → wX0_isVector x2 σ1 (fun r4 σ3 => ((¬ r4 = 0 → wX0_product x1 x2 σ3 (fun r6 σ5 => post r6 σ5)) ∧ (r4 = 0 → post ((-101)) σ3))))))

def rmX4_isSlot : Room := { frames := 0, cells := 0, slots := 0, locals := 0 }
theorem dvX4_isSlot : ss_dV yX4_isSlot 1 := by decide +kernel
set_option maxRecDepth 20000 in
def wX4_isSlot (x0 : Int32) (σ : ss_S) (post : Int32 → ss_S → Prop) : Prop := ((x0 < 0 → post 0 σ) ∧ (¬ x0 < 0 → ((12 ≤ x0 → post 0 σ) ∧ (¬ 12 ≤ x0 → post 1 σ))))

def rmX4_add : Room := { frames := 4, cells := 0, slots := 0, locals := 92 }
theorem dvX4_add : ss_dV yX4_add 2 := by decide +kernel
set_option maxRecDepth 20000 in
def wX4_add (x1 : Int32) (x2 : Int32) (σ : ss_S) (post : Int32 → ss_S → Prop) : Prop := wX4_isSlot x1 σ (fun r2 σ1 => ((r2 = 0 → post ((-101)) σ1) ∧ (¬ r2 = 0 → wX0_isVector x2 σ1 (fun r4 σ3 => ((¬ r4 = 0 → wX0_spell x2 6 0 σ3 (fun σ5 => (vp_in x1 12 ∧ wX3_joinVector (9 + 3 * (Int32.toNatClampNeg x1)) 6 0 σ5 (fun σ7 => (vp_in x1 12 ∧ wX3_rank (9 + 3 * (Int32.toNatClampNeg x1)) σ7 (fun r10 σ9 => post r10 σ9)))))) ∧ (r4 = 0 → post ((-101)) σ3))))))

def rmX4_clear : Room := { frames := 2, cells := 0, slots := 0, locals := 40 }
theorem dvX4_clear : ss_dV yX4_clear 1 := by decide +kernel
set_option maxRecDepth 20000 in
def wX4_clear (x1 : Int32) (σ : ss_S) (post : Int32 → ss_S → Prop) : Prop := wX4_isSlot x1 σ (fun r2 σ1 => ((¬ r2 = 0 → (vp_in x1 12 ∧ wX3_rank (9 + 3 * (Int32.toNatClampNeg x1)) σ1 (fun r5 σ4 => (vp_in x1 12 ∧ wX3_becomeZero (9 + 3 * (Int32.toNatClampNeg x1)) σ4 (fun σ7 => post r5 σ7))))) ∧ (r2 = 0 → post ((-101)) σ1)))

def rmX4_dim : Room := { frames := 2, cells := 0, slots := 0, locals := 40 }
theorem dvX4_dim : ss_dV yX4_dim 1 := by decide +kernel
set_option maxRecDepth 20000 in
def wX4_dim (x1 : Int32) (σ : ss_S) (post : Int32 → ss_S → Prop) : Prop := wX4_isSlot x1 σ (fun r2 σ1 => ((r2 = 0 → post ((-101)) σ1) ∧ (¬ r2 = 0 → (vp_in x1 12 ∧ wX3_rank (9 + 3 * (Int32.toNatClampNeg x1)) σ1 (fun r5 σ4 => post r5 σ4)))))

def rmX4_row : Room := { frames := 2, cells := 0, slots := 0, locals := 47 }
theorem dvX4_row : ss_dV yX4_row 2 := by decide +kernel
set_option maxRecDepth 20000 in
def wX4_row (x1 : Int32) (x2 : Int32) (σ : ss_S) (post : Int32 → ss_S → Prop) : Prop := wX4_isSlot x1 σ (fun r2 σ1 => ((r2 = 0 → post ((-101)) σ1) ∧ (¬ r2 = 0 → (vp_in x1 12 ∧ wX3_rowNumber (9 + 3 * (Int32.toNatClampNeg x1)) x2 σ1 (fun r5 σ4 => post r5 σ4)))))

def rmX4_settle : Room := { frames := 2, cells := 0, slots := 0, locals := 61 }
theorem dvX4_settle : ss_dV yX4_settle 2 := by decide +kernel
set_option maxRecDepth 20000 in
def wX4_settle (s1 : Nat) (x2 : Int32) (σ : ss_S) (post : Int32 → ss_S → Prop) : Prop := (vp_in x2 12 ∧ wX3_copyFrom (9 + 3 * (Int32.toNatClampNeg x2)) s1 σ (fun σ2 => wX3_rank s1 σ2 (fun r4 σ3 => post r4 σ3)))

def rmX4_join : Room := { frames := 4, cells := 0, slots := 0, locals := 92 }
theorem dvX4_join : ss_dV yX4_join 3 := by decide +kernel
set_option maxRecDepth 20000 in
def wX4_join (x1 : Int32) (x2 : Int32) (x3 : Int32) (σ : ss_S) (post : Int32 → ss_S → Prop) : Prop := wX4_isSlot x1 σ (fun r2 σ1 => ((r2 = 0 → post ((-101)) σ1) ∧ (¬ r2 = 0 → wX4_isSlot x2 σ1 (fun r4 σ3 => ((r4 = 0 → post ((-101)) σ3) ∧ (¬ r4 = 0 → wX4_isSlot x3 σ3 (fun r6 σ5 => ((¬ r6 = 0 → (vp_in x1 12 ∧ wX3_copyFrom 168 (9 + 3 * (Int32.toNatClampNeg x1)) σ5 (fun σ8 => (vp_in x2 12 ∧ wX3_joinSpace 168 (9 + 3 * (Int32.toNatClampNeg x2)) σ8 (fun σ10 => wX4_settle 168 x3 σ10 (fun r12 σ11 => post r12 σ11)))))) ∧ (r6 = 0 → post ((-101)) σ5)))))))))

def rmX4_meet : Room := { frames := 4, cells := 0, slots := 0, locals := 93 }
theorem dvX4_meet : ss_dV yX4_meet 3 := by decide +kernel
set_option maxRecDepth 20000 in
def wX4_meet (x1 : Int32) (x2 : Int32) (x3 : Int32) (σ : ss_S) (post : Int32 → ss_S → Prop) : Prop := wX4_isSlot x1 σ (fun r2 σ1 => ((r2 = 0 → post ((-101)) σ1) ∧ (¬ r2 = 0 → wX4_isSlot x2 σ1 (fun r4 σ3 => ((r4 = 0 → post ((-101)) σ3) ∧ (¬ r4 = 0 → wX4_isSlot x3 σ3 (fun r6 σ5 => ((¬ r6 = 0 → (vp_in x1 12 ∧ wX3_becomeDual 168 (9 + 3 * (Int32.toNatClampNeg x1)) σ5 (fun σ8 => (vp_in x2 12 ∧ wX3_becomeDual 171 (9 + 3 * (Int32.toNatClampNeg x2)) σ8 (fun σ10 => wX3_joinSpace 171 168 σ10 (fun σ11 => wX3_becomeDual 168 171 σ11 (fun σ12 => wX4_settle 168 x3 σ12 (fun r14 σ13 => post r14 σ13)))))))) ∧ (r6 = 0 → post ((-101)) σ5)))))))))

def rmX4_dual : Room := { frames := 4, cells := 0, slots := 0, locals := 93 }
theorem dvX4_dual : ss_dV yX4_dual 2 := by decide +kernel
set_option maxRecDepth 20000 in
def wX4_dual (x1 : Int32) (x2 : Int32) (σ : ss_S) (post : Int32 → ss_S → Prop) : Prop := wX4_isSlot x1 σ (fun r2 σ1 => ((r2 = 0 → post ((-101)) σ1) ∧ (¬ r2 = 0 → wX4_isSlot x2 σ1 (fun r4 σ3 => ((¬ r4 = 0 → (vp_in x1 12 ∧ wX3_becomeDual 168 (9 + 3 * (Int32.toNatClampNeg x1)) σ3 (fun σ6 => wX4_settle 168 x2 σ6 (fun r8 σ7 => post r8 σ7)))) ∧ (r4 = 0 → post ((-101)) σ3))))))

def rmX4_has : Room := { frames := 3, cells := 0, slots := 0, locals := 69 }
theorem dvX4_has : ss_dV yX4_has 2 := by decide +kernel
set_option maxRecDepth 20000 in
def wX4_has (x1 : Int32) (x2 : Int32) (σ : ss_S) (post : Int32 → ss_S → Prop) : Prop := wX4_isSlot x1 σ (fun r2 σ1 => ((r2 = 0 → post ((-101)) σ1) ∧ (¬ r2 = 0 → wX0_isVector x2 σ1 (fun r4 σ3 => ((¬ r4 = 0 → wX0_spell x2 6 0 σ3 (fun σ5 => (vp_in x1 12 ∧ wX3_holds (9 + 3 * (Int32.toNatClampNeg x1)) 6 0 σ5 (fun r8 σ7 => ((r8 = 0 → post 0 σ7) ∧ (¬ r8 = 0 → post 1 σ7)))))) ∧ (r4 = 0 → post ((-101)) σ3))))))

def rmX4_within : Room := { frames := 4, cells := 0, slots := 0, locals := 91 }
theorem dvX4_within : ss_dV yX4_within 2 := by decide +kernel
set_option maxRecDepth 20000 in
def wX4_within (x1 : Int32) (x2 : Int32) (σ : ss_S) (post : Int32 → ss_S → Prop) : Prop := wX4_isSlot x1 σ (fun r2 σ1 => ((r2 = 0 → post ((-101)) σ1) ∧ (¬ r2 = 0 → wX4_isSlot x2 σ1 (fun r4 σ3 => ((¬ r4 = 0 → (vp_in x1 12 ∧ (vp_in x2 12 ∧ wX3_liesIn (9 + 3 * (Int32.toNatClampNeg x1)) (9 + 3 * (Int32.toNatClampNeg x2)) σ3 (fun r8 σ7 => ((r8 = 0 → post 0 σ7) ∧ (¬ r8 = 0 → post 1 σ7)))))) ∧ (r4 = 0 → post ((-101)) σ3))))))

def rmX4_apart : Room := { frames := 5, cells := 0, slots := 0, locals := 114 }
theorem dvX4_apart : ss_dV yX4_apart 2 := by decide +kernel
set_option maxRecDepth 20000 in
def wX4_apart (x1 : Int32) (x2 : Int32) (σ : ss_S) (post : Int32 → ss_S → Prop) : Prop := wX4_isSlot x1 σ (fun r2 σ1 => ((r2 = 0 → post ((-101)) σ1) ∧ (¬ r2 = 0 → wX4_isSlot x2 σ1 (fun r4 σ3 => ((¬ r4 = 0 → (vp_in x1 12 ∧ (vp_in x2 12 ∧ wX3_distance 168 (9 + 3 * (Int32.toNatClampNeg x1)) (9 + 3 * (Int32.toNatClampNeg x2)) σ3 (fun r8 σ7 => post r8 σ7)))) ∧ (r4 = 0 → post ((-101)) σ3))))))

def rmX4_number : Room := { frames := 3, cells := 0, slots := 0, locals := 67 }
theorem dvX4_number : ss_dV yX4_number 1 := by decide +kernel
set_option maxRecDepth 20000 in
def wX4_number (x1 : Int32) (σ : ss_S) (post : Int32 → ss_S → Prop) : Prop := wX4_isSlot x1 σ (fun r2 σ1 => ((r2 = 0 → post ((-101)) σ1) ∧ (¬ r2 = 0 → (vp_in x1 12 ∧ wX3_ordinal (9 + 3 * (Int32.toNatClampNeg x1)) σ1 (fun r5 σ4 => post r5 σ4)))))

def rmX4_isDim : Room := { frames := 0, cells := 0, slots := 0, locals := 0 }
theorem dvX4_isDim : ss_dV yX4_isDim 1 := by decide +kernel
set_option maxRecDepth 20000 in
def wX4_isDim (x1 : Int32) (σ : ss_S) (post : Int32 → ss_S → Prop) : Prop := ((x1 < 0 → post 0 σ) ∧ (¬ x1 < 0 → (((σ 1 1) < x1 → post 0 σ) ∧ (¬ (σ 1 1) < x1 → post 1 σ))))

def rmX4_numbered : Room := { frames := 3, cells := 0, slots := 0, locals := 72 }
theorem dvX4_numbered : ss_dV yX4_numbered 3 := by decide +kernel
set_option maxRecDepth 20000 in
def wX4_numbered (x1 : Int32) (x2 : Int32) (x3 : Int32) (σ : ss_S) (post : Int32 → ss_S → Prop) : Prop := wX4_isSlot x1 σ (fun r2 σ1 => ((¬ r2 = 0 → wX4_isDim x2 σ1 (fun r4 σ3 => ((r4 = 0 → post ((-102)) σ3) ∧ (¬ r4 = 0 → ((x3 < 0 → post ((-102)) σ3) ∧ (¬ x3 < 0 → wX0_spaces (σ3 1 1) x2 σ3 (fun r6 σ5 => ((x3 < r6 → (vp_in x1 12 ∧ wX3_becomeOrdinal (9 + 3 * (Int32.toNatClampNeg x1)) x2 x3 σ5 (fun σ8 => post x2 σ8))) ∧ (¬ x3 < r6 → post ((-102)) σ5))))))))) ∧ (r2 = 0 → post ((-101)) σ1)))

def rmX4_many : Room := { frames := 2, cells := 0, slots := 0, locals := 47 }
theorem dvX4_many : ss_dV yX4_many 1 := by decide +kernel
set_option maxRecDepth 20000 in
def wX4_many (x1 : Int32) (σ : ss_S) (post : Int32 → ss_S → Prop) : Prop := wX0_spaces (σ 1 1) x1 σ (fun r2 σ1 => post r2 σ1)

def rmX4_over : Room := { frames := 2, cells := 0, slots := 0, locals := 47 }
theorem dvX4_over : ss_dV yX4_over 2 := by decide +kernel
set_option maxRecDepth 20000 in
def wX4_over (x1 : Int32) (x2 : Int32) (σ : ss_S) (post : Int32 → ss_S → Prop) : Prop := wX4_isSlot x1 σ (fun r2 σ1 => ((¬ r2 = 0 → wX4_isDim x2 σ1 (fun r4 σ3 => ((¬ r4 = 0 → (vp_in x1 12 ∧ wX3_rank (9 + 3 * (Int32.toNatClampNeg x1)) σ3 (fun r7 σ6 => wX0_spaces ((σ6 1 1) - r7) (x2 - r7) σ6 (fun r9 σ8 => post r9 σ8)))) ∧ (r4 = 0 → post 0 σ3)))) ∧ (r2 = 0 → post ((-101)) σ1)))

def rmX4_meeting : Room := { frames := 2, cells := 0, slots := 0, locals := 47 }
theorem dvX4_meeting : ss_dV yX4_meeting 3 := by decide +kernel
set_option maxRecDepth 20000 in
def wX4_meeting (x1 : Int32) (x2 : Int32) (x3 : Int32) (σ : ss_S) (post : Int32 → ss_S → Prop) : Prop := wX4_isSlot x1 σ (fun r2 σ1 => ((¬ r2 = 0 → wX4_isDim x2 σ1 (fun r4 σ3 => ((r4 = 0 → post 0 σ3) ∧ (¬ r4 = 0 → wX4_isDim x3 σ3 (fun r6 σ5 => ((¬ r6 = 0 → (vp_in x1 12 ∧ wX3_rank (9 + 3 * (Int32.toNatClampNeg x1)) σ5 (fun r9 σ8 => wX0_spaces r9 x3 σ8 (fun r11 σ10 => wX0_spaces ((σ10 1 1) - r9) (x2 - x3) σ10 (fun r13 σ12 => ((¬ (r11 * r13) = 0 → wX0_power ((r9 - x3) * (x2 - x3)) σ12 (fun r15 σ14 => post ((r11 * r13) * r15) σ14)) ∧ ((r11 * r13) = 0 → post 0 σ12))))))) ∧ (r6 = 0 → post 0 σ5))))))) ∧ (r2 = 0 → post ((-101)) σ1)))

def rmX4_put : Room := { frames := 3, cells := 0, slots := 0, locals := 82 }
theorem dvX4_put : ss_dV yX4_put 1 := by decide +kernel
set_option maxRecDepth 20000 in
def wX4_put (x1 : Int32) (σ : ss_S) (post : Int32 → ss_S → Prop) : Prop := wX4_isSlot x1 σ (fun r2 σ1 => ((¬ r2 = 0 → (((σ1 3 2) < 40 → (vp_in x1 12 ∧ wX1_accept (9 + 3 * (Int32.toNatClampNeg x1)) σ1 (fun σ4 => post (σ4 3 2) σ4))) ∧ (¬ (σ1 3 2) < 40 → post ((-104)) σ1))) ∧ (r2 = 0 → post ((-101)) σ1)))

def rmX4_empty : Room := { frames := 0, cells := 0, slots := 0, locals := 0 }
theorem dvX4_empty : ss_dV yX4_empty 0 := by decide +kernel
set_option maxRecDepth 20000 in
def wX4_empty  (σ : ss_S) (post : Int32 → ss_S → Prop) : Prop := post (σ 3 2) (u2 σ 3 2 0)

def rmX4_take : Room := { frames := 3, cells := 0, slots := 0, locals := 83 }
theorem dvX4_take : ss_dV yX4_take 2 := by decide +kernel
set_option maxRecDepth 20000 in
def wX4_take (x1 : Int32) (x2 : Int32) (σ : ss_S) (post : Int32 → ss_S → Prop) : Prop := wX4_isSlot x1 σ (fun r2 σ1 => ((r2 = 0 → post ((-101)) σ1) ∧ (¬ r2 = 0 → ((x2 < 0 → post ((-101)) σ1) ∧ (¬ x2 < 0 → ((x2 < (σ1 3 2) → (vp_in x2 40 ∧ wX4_settle (45 + 3 * (Int32.toNatClampNeg x2)) x1 σ1 (fun r5 σ4 => post r5 σ4))) ∧ (¬ x2 < (σ1 3 2) → post ((-101)) σ1)))))))

def rmX4_least : Room := { frames := 6, cells := 0, slots := 0, locals := 138 }
theorem dvX4_least : ss_dV yX4_least 0 := by decide +kernel
set_option maxRecDepth 20000 in
def wX4_least  (σ : ss_S) (post : Int32 → ss_S → Prop) : Prop := wX1_leastDistance  σ (fun r2 σ1 => post r2 σ1)

def rmX4_bare : Room := { frames := 4, cells := 0, slots := 0, locals := 91 }
theorem dvX4_bare : ss_dV yX4_bare 0 := by decide +kernel
def lX4_bare_4  (post : Int32 → ss_S → Prop) (k51 : Int32 → Int32 → ss_S → Prop) : Nat → Int32 → Int32 → ss_S → Prop
  | 0, _, _, _ => False
  | n + 1, x1, x2, σ => (((σ 1 2) ≤ x2 → k51 x1 x2 σ) ∧ (¬ (σ 1 2) ≤ x2 → wX0_spell x2 6 0 σ (fun σ1 => wX1_covers 6 σ1 (fun r3 σ2 => ((¬ r3 = 0 → lX4_bare_4 post k51 n x1 (x2 + 1) σ2) ∧ (r3 = 0 → lX4_bare_4 post k51 n (x1 + 1) (x2 + 1) σ2))))))
set_option maxRecDepth 20000 in
def wX4_bare  (σ : ss_S) (post : Int32 → ss_S → Prop) : Prop := (∃ f_4, lX4_bare_4  post (fun x1_4 x2_4 σ_4 => post x1_4 σ_4) f_4 0 0 σ)

def rmX4_greedy : Room := { frames := 6, cells := 0, slots := 0, locals := 137 }
theorem dvX4_greedy : ss_dV yX4_greedy 2 := by decide +kernel
def lX4_greedy_71 (x1 : Int32) (x2 : Int32) (x3 : Int32) (post : Int32 → ss_S → Prop) (k131 : Int32 → ss_S → Prop) : Nat → Int32 → ss_S → Prop
  | 0, _, _ => False
  | n + 1, x4, σ => ((x3 ≤ x4 → k131 x4 σ) ∧ (¬ x3 ≤ x4 → ((40 ≤ (σ 3 2) → k131 x4 σ) ∧ (¬ 40 ≤ (σ 3 2) → wX3_becomeOrdinal 168 x1 x4 σ (fun σ5 => wX1_allApart 168 x2 σ5 (fun r7 σ6 => ((r7 = 0 → lX4_greedy_71 x1 x2 x3 post k131 n (x4 + 1) σ6) ∧ (¬ r7 = 0 → wX1_accept 168 σ6 (fun σ8 => lX4_greedy_71 x1 x2 x3 post k131 n (x4 + 1) σ8)))))))))
set_option maxRecDepth 20000 in
def wX4_greedy (x1 : Int32) (x2 : Int32) (σ : ss_S) (post : Int32 → ss_S → Prop) : Prop := wX4_isDim x1 σ (fun r2 σ1 => ((r2 = 0 → post ((-102)) σ1) ∧ (¬ r2 = 0 → ((x2 < 1 → post ((-102)) σ1) ∧ (¬ x2 < 1 → ((x2 ≤ 12 → (((σ1 0 7) < 10 → wX0_spaces ((u2 (u2 σ1 0 7 ((σ1 0 7) + 1)) 3 2 0) 1 1) x1 (u2 (u2 σ1 0 7 ((σ1 0 7) + 1)) 3 2 0) (fun r4 σ3 => (∃ f_71, lX4_greedy_71 x1 x2 r4 post (fun x4_9 σ_9 => post (σ_9 3 2) σ_9) f_71 0 σ3))) ∧ (¬ (σ1 0 7) < 10 → post ((-103)) σ1))) ∧ (¬ x2 ≤ 12 → post ((-102)) σ1)))))))

def rmX4_image : Room := { frames := 2, cells := 0, slots := 0, locals := 47 }
theorem dvX4_image : ss_dV yX4_image 2 := by decide +kernel
set_option maxRecDepth 20000 in
def wX4_image (x1 : Int32) (x2 : Int32) (σ : ss_S) (post : Int32 → ss_S → Prop) : Prop := ((x1 < 0 → post ((-101)) σ) ∧ (¬ x1 < 0 → (((σ 1 1) ≤ x1 → post ((-101)) σ) ∧ (¬ (σ 1 1) ≤ x1 → wX0_isVector x2 σ (fun r2 σ1 => ((¬ r2 = 0 → wX2_imageNumber x1 σ1 (fun r4 σ3 => wX2_setImage x1 x2 σ3 (fun σ5 => post r4 σ5))) ∧ (r2 = 0 → post ((-101)) σ1)))))))

def rmX4_mapped : Room := { frames := 3, cells := 0, slots := 0, locals := 70 }
theorem dvX4_mapped : ss_dV yX4_mapped 1 := by decide +kernel
set_option maxRecDepth 20000 in
def wX4_mapped (x1 : Int32) (σ : ss_S) (post : Int32 → ss_S → Prop) : Prop := wX0_isVector x1 σ (fun r2 σ1 => ((¬ r2 = 0 → wX0_spell x1 6 0 σ1 (fun σ3 => wX2_apply 6 σ3 (fun r5 σ4 => post r5 σ4))) ∧ (r2 = 0 → post ((-101)) σ1)))

def rmX4_map : Room := { frames := 5, cells := 0, slots := 0, locals := 115 }
theorem dvX4_map : ss_dV yX4_map 2 := by decide +kernel
set_option maxRecDepth 20000 in
def wX4_map (x1 : Int32) (x2 : Int32) (σ : ss_S) (post : Int32 → ss_S → Prop) : Prop := wX4_isSlot x1 σ (fun r2 σ1 => ((r2 = 0 → post ((-101)) σ1) ∧ (¬ r2 = 0 → wX4_isSlot x2 σ1 (fun r4 σ3 => ((¬ r4 = 0 → (vp_in x1 12 ∧ wX2_applyToSpace (9 + 3 * (Int32.toNatClampNeg x1)) 168 σ3 (fun σ6 => wX4_settle 168 x2 σ6 (fun r8 σ7 => post r8 σ7)))) ∧ (r4 = 0 → post ((-101)) σ3))))))

def rmX4_kernel : Room := { frames := 5, cells := 0, slots := 0, locals := 115 }
theorem dvX4_kernel : ss_dV yX4_kernel 1 := by decide +kernel
set_option maxRecDepth 20000 in
def wX4_kernel (x1 : Int32) (σ : ss_S) (post : Int32 → ss_S → Prop) : Prop := wX4_isSlot x1 σ (fun r2 σ1 => ((¬ r2 = 0 → wX2_columnSpace 171 σ1 (fun σ3 => wX3_becomeDual 168 171 σ3 (fun σ4 => wX4_settle 168 x1 σ4 (fun r6 σ5 => post r6 σ5)))) ∧ (r2 = 0 → post ((-101)) σ1)))

def rmX4_timesTillAgain : Room := { frames := 5, cells := 0, slots := 0, locals := 115 }
theorem dvX4_timesTillAgain : ss_dV yX4_timesTillAgain 1 := by decide +kernel
def lX4_timesTillAgain_24 (s1 : Nat) (x2 : Int32) (post : Int32 → ss_S → Prop) (k90 : Int32 → ss_S → Prop) : Nat → Int32 → ss_S → Prop
  | 0, _, _ => False
  | n + 1, x3, σ => ((x2 < x3 → k90 x3 σ) ∧ (¬ x2 < x3 → wX2_applyToSpace 171 168 σ (fun σ2 => wX3_rank 168 σ2 (fun r4 σ3 => wX3_rank s1 σ3 (fun r6 σ5 => ((r6 ≤ r4 → wX3_sameAs 168 s1 σ5 (fun r8 σ7 => ((r8 = 0 → wX3_copyFrom 171 168 σ7 (fun σ9 => lX4_timesTillAgain_24 s1 x2 post k90 n (x3 + 1) σ9)) ∧ (¬ r8 = 0 → post x3 σ7)))) ∧ (¬ r6 ≤ r4 → post ((-1)) σ5)))))))
set_option maxRecDepth 20000 in
def wX4_timesTillAgain (s1 : Nat) (σ : ss_S) (post : Int32 → ss_S → Prop) : Prop := wX3_copyFrom 171 s1 σ (fun σ1 => (∃ f_24, lX4_timesTillAgain_24 s1 (if σ 1 2 < 3000 then σ 1 2 else 3000) post (fun x3_10 σ_10 => post ((-1)) σ_10) f_24 1 σ1))

def rmX4_round : Room := { frames := 6, cells := 0, slots := 0, locals := 138 }
theorem dvX4_round : ss_dV yX4_round 1 := by decide +kernel
set_option maxRecDepth 20000 in
def wX4_round (x1 : Int32) (σ : ss_S) (post : Int32 → ss_S → Prop) : Prop := wX4_isSlot x1 σ (fun r2 σ1 => ((¬ r2 = 0 → (((σ1 0 8) < 60 → (vp_in x1 12 ∧ wX4_timesTillAgain (9 + 3 * (Int32.toNatClampNeg x1)) (u2 σ1 0 8 ((σ1 0 8) + 1)) (fun r5 σ4 => post r5 σ4))) ∧ (¬ (σ1 0 8) < 60 → post ((-103)) σ1))) ∧ (r2 = 0 → post ((-101)) σ1)))

def rmX4_told : Room := { frames := 0, cells := 0, slots := 0, locals := 0 }
theorem dvX4_told : ss_dV yX4_told 1 := by decide +kernel
set_option maxRecDepth 20000 in
def wX4_told (x1 : Int32) (σ : ss_S) (post : Int32 → ss_S → Prop) : Prop := ((x1 = 0 → post (σ 1 0) σ) ∧ (¬ x1 = 0 → ((x1 = 1 → post (σ 1 1) σ) ∧ (¬ x1 = 1 → ((x1 = 2 → post (σ 1 2) σ) ∧ (¬ x1 = 2 → ((x1 = 3 → post (σ 3 2) σ) ∧ (¬ x1 = 3 → ((x1 = 4 → post (σ 0 7) σ) ∧ (¬ x1 = 4 → ((x1 = 5 → post (σ 0 8) σ) ∧ (¬ x1 = 5 → post ((-102)) σ))))))))))))

def rmX4_fold : Room := { frames := 0, cells := 0, slots := 0, locals := 0 }
theorem dvX4_fold : ss_dV yX4_fold 2 := by decide +kernel
set_option maxRecDepth 20000 in
def wX4_fold (x0 : Int64) (x2 : Int32) (σ : ss_S) (post : Int64 → ss_S → Prop) : Prop := post ((31 * x0) + (Int32.toInt64 x2)) σ

def rmX4_foldSpace : Room := { frames := 2, cells := 0, slots := 0, locals := 47 }
theorem dvX4_foldSpace : ss_dV yX4_foldSpace 2 := by decide +kernel
def lX4_foldSpace_15 (s2 : Nat) (x3 : Int32) (post : Int64 → ss_S → Prop) (k40 : Int64 → Int32 → ss_S → Prop) : Nat → Int64 → Int32 → ss_S → Prop
  | 0, _, _, _ => False
  | n + 1, x4, x6, σ => ((x3 ≤ x6 → k40 x4 x6 σ) ∧ (¬ x3 ≤ x6 → wX3_rowNumber s2 x6 σ (fun r6 σ5 => wX4_fold x4 r6 σ5 (fun r8 σ7 => lX4_foldSpace_15 s2 x3 post k40 n r8 (x6 + 1) σ7))))
set_option maxRecDepth 20000 in
def wX4_foldSpace (x0 : Int64) (s2 : Nat) (σ : ss_S) (post : Int64 → ss_S → Prop) : Prop := wX3_rank s2 σ (fun r2 σ1 => wX4_fold x0 r2 σ1 (fun r4 σ3 => (∃ f_15, lX4_foldSpace_15 s2 r2 post (fun x4_9 x6_9 σ_9 => post x4_9 σ_9) f_15 r4 0 σ3)))

def rmX4_digest : Room := { frames := 3, cells := 0, slots := 0, locals := 73 }
theorem dvX4_digest : ss_dV yX4_digest 0 := by decide +kernel
def lX4_digest_26  (post : Int64 → ss_S → Prop) (k49 : Int64 → Int32 → ss_S → Prop) : Nat → Int64 → Int32 → ss_S → Prop
  | 0, _, _, _ => False
  | n + 1, x1, x3, σ => ((12 ≤ x3 → k49 x1 x3 σ) ∧ (¬ 12 ≤ x3 → (vp_in x3 12 ∧ wX4_foldSpace x1 (9 + 3 * (Int32.toNatClampNeg x3)) σ (fun r7 σ6 => lX4_digest_26 post k49 n r7 (x3 + 1) σ6))))
def lX4_digest_51  (post : Int64 → ss_S → Prop) (k82 : Int64 → Int32 → ss_S → Prop) : Nat → Int64 → Int32 → ss_S → Prop
  | 0, _, _, _ => False
  | n + 1, x1, x3, σ => (((σ 3 2) ≤ x3 → k82 x1 x3 σ) ∧ (¬ (σ 3 2) ≤ x3 → (vp_in x3 40 ∧ wX4_foldSpace x1 (45 + 3 * (Int32.toNatClampNeg x3)) σ (fun r11 σ10 => lX4_digest_51 post k82 n r11 (x3 + 1) σ10))))
def lX4_digest_84  (post : Int64 → ss_S → Prop) (k114 : Int64 → Int32 → ss_S → Prop) : Nat → Int64 → Int32 → ss_S → Prop
  | 0, _, _, _ => False
  | n + 1, x1, x3, σ => (((σ 1 1) ≤ x3 → k114 x1 x3 σ) ∧ (¬ (σ 1 1) ≤ x3 → wX2_imageNumber x3 σ (fun r14 σ13 => wX4_fold x1 r14 σ13 (fun r16 σ15 => lX4_digest_84 post k114 n r16 (x3 + 1) σ15))))
set_option maxRecDepth 20000 in
def wX4_digest  (σ : ss_S) (post : Int64 → ss_S → Prop) : Prop := wX4_fold 167 (σ 1 0) σ (fun r2 σ1 => wX4_fold r2 (σ1 1 1) σ1 (fun r4 σ3 => (∃ f_26, lX4_digest_26  post (fun x1_8 x3_8 σ_8 => (∃ f_51, lX4_digest_51  post (fun x1_12 x3_12 σ_12 => (∃ f_84, lX4_digest_84  post (fun x1_17 x3_17 σ_17 => wX4_fold x1_17 (σ_17 0 7) σ_17 (fun r19 σ18 => wX4_fold r19 (σ18 0 8) σ18 (fun r21 σ20 => post r21 σ20))) f_84 x1_12 0 σ_12)) f_51 x1_8 0 σ_8)) f_26 r4 0 σ3)))

def rmX5_in : Room := { frames := 0, cells := 0, slots := 0, locals := 0 }
theorem dvX5_in : ss_dV yX5_in 3 := by decide +kernel
set_option maxRecDepth 20000 in
def wX5_in (x0 : Int64) (x2 : Int64) (x4 : Int64) (σ : ss_S) (post : Int32 → ss_S → Prop) : Prop := (((lg_cmp x0 x2) < 0 → post 0 σ) ∧ (¬ (lg_cmp x0 x2) < 0 → ((0 < (lg_cmp x0 x4) → post 0 σ) ∧ (¬ 0 < (lg_cmp x0 x4) → post 1 σ))))

def rmX5_power : Room := { frames := 0, cells := 0, slots := 0, locals := 0 }
theorem dvX5_power : ss_dV yX5_power 2 := by decide +kernel
def lX5_power_4 (x0 : Int32) (x1 : Int32) (post : Int32 → ss_S → Prop) (k19 : Int32 → Int32 → ss_S → Prop) : Nat → Int32 → Int32 → ss_S → Prop
  | 0, _, _, _ => False
  | n + 1, x2, x3, σ => ((x1 ≤ x3 → k19 x2 x3 σ) ∧ (¬ x1 ≤ x3 → lX5_power_4 x0 x1 post k19 n (x2 * x0) (x3 + 1) σ))
set_option maxRecDepth 20000 in
def wX5_power (x0 : Int32) (x1 : Int32) (σ : ss_S) (post : Int32 → ss_S → Prop) : Prop := (∃ f_4, lX5_power_4 x0 x1 post (fun x2_1 x3_1 σ_1 => post x2_1 σ_1) f_4 1 0 σ)

def rmX5_begin : Room := { frames := 1, cells := 0, slots := 0, locals := 23 }
theorem dvX5_begin : ss_dV yX5_begin 0 := by decide +kernel
def lX5_begin_17  (post : ss_S → Prop) (k36 : Int32 → ss_S → Prop) : Nat → Int32 → ss_S → Prop
  | 0, _, _ => False
  | n + 1, x1, σ => ((12 ≤ x1 → k36 x1 σ) ∧ (¬ 12 ≤ x1 → (vp_in x1 12 ∧ lX5_begin_17 post k36 n (x1 + 1) (u2 σ 4 (Int32.toNatClampNeg x1) 0))))
def lX5_begin_43  (post : ss_S → Prop) (k78 : Int32 → ss_S → Prop) : Nat → Int32 → ss_S → Prop
  | 0, _, _ => False
  | n + 1, x1, σ => (((σ 0 1) ≤ x1 → k78 x1 σ) ∧ (¬ (σ 0 1) ≤ x1 → wX5_power (σ 0 0) (((σ 0 1) - 1) - x1) σ (fun r5 σ4 => (vp_in x1 6 ∧ lX5_begin_43 post k78 n (x1 + 1) (u2 σ4 1 (Int32.toNatClampNeg x1) r5)))))
set_option maxRecDepth 20000 in
def wX5_begin  (σ : ss_S) (post : ss_S → Prop) : Prop := wX5_power (σ 0 0) (σ 0 1) σ (fun r2 σ1 => (∃ f_17, lX5_begin_17  post (fun x1_3 σ_3 => (∃ f_43, lX5_begin_43  post (fun x1_6 σ_6 => post σ_6) f_43 0 (u2 σ_3 0 13 0))) f_17 0 (u2 σ1 0 2 r2)))

def rmX5_field : Room := { frames := 2, cells := 0, slots := 0, locals := 44 }
theorem dvX5_field : ss_dV yX5_field 2 := by decide +kernel
set_option maxRecDepth 20000 in
def wX5_field (x1 : Int32) (x2 : Int32) (σ : ss_S) (post : Int32 → ss_S → Prop) : Prop := ((¬ x1 = 2 → ((¬ x1 = 3 → ((¬ x1 = 5 → wX5_in (Int32.toInt64 x2) 1 (Int32.toInt64 0) σ (fun r2 σ1 => ((¬ r2 = 0 → wX5_begin  (u2 (u2 σ1 0 0 x1) 0 1 x2) (fun σ3 => post (σ3 0 2) σ3)) ∧ (r2 = 0 → post ((-102)) σ1)))) ∧ (x1 = 5 → wX5_in (Int32.toInt64 x2) 1 (Int32.toInt64 4) σ (fun r5 σ4 => ((¬ r5 = 0 → wX5_begin  (u2 (u2 σ4 0 0 x1) 0 1 x2) (fun σ6 => post (σ6 0 2) σ6)) ∧ (r5 = 0 → post ((-102)) σ4)))))) ∧ (x1 = 3 → wX5_in (Int32.toInt64 x2) 1 (Int32.toInt64 5) σ (fun r8 σ7 => ((¬ r8 = 0 → wX5_begin  (u2 (u2 σ7 0 0 x1) 0 1 x2) (fun σ9 => post (σ9 0 2) σ9)) ∧ (r8 = 0 → post ((-102)) σ7)))))) ∧ (x1 = 2 → wX5_in (Int32.toInt64 x2) 1 (Int32.toInt64 6) σ (fun r11 σ10 => ((¬ r11 = 0 → wX5_begin  (u2 (u2 σ10 0 0 x1) 0 1 x2) (fun σ12 => post (σ12 0 2) σ12)) ∧ (r11 = 0 → post ((-102)) σ10)))))

def rmX5_figure : Room := { frames := 1, cells := 0, slots := 0, locals := 23 }
theorem dvX5_figure : ss_dV yX5_figure 2 := by decide +kernel
set_option maxRecDepth 20000 in
def wX5_figure (x1 : Int32) (x2 : Int32) (σ : ss_S) (post : Int32 → ss_S → Prop) : Prop := wX5_power (σ 0 0) (((σ 0 1) - 1) - x2) σ (fun r2 σ1 => (¬ r2 = 0 ∧ (¬ (σ1 0 0) = 0 ∧ post ((x1 / r2) - (x1 / r2) / (σ1 0 0) * (σ1 0 0)) σ1)))

def rmX5_isVector : Room := { frames := 1, cells := 0, slots := 0, locals := 25 }
theorem dvX5_isVector : ss_dV yX5_isVector 1 := by decide +kernel
set_option maxRecDepth 20000 in
def wX5_isVector (x1 : Int32) (σ : ss_S) (post : Int32 → ss_S → Prop) : Prop := wX5_in (Int32.toInt64 x1) 0 (Int32.toInt64 ((σ 0 2) - 1)) σ (fun r2 σ1 => (narrow .boolean (.int r2) = .int r2 ∧ post r2 σ1))

def rmX5_sum : Room := { frames := 2, cells := 0, slots := 0, locals := 45 }
theorem dvX5_sum : ss_dV yX5_sum 3 := by decide +kernel
def lX5_sum_6 (x1 : Int32) (x2 : Int32) (x3 : Int32) (post : Int32 → ss_S → Prop) (k53 : Int32 → Int32 → ss_S → Prop) : Nat → Int32 → Int32 → ss_S → Prop
  | 0, _, _, _ => False
  | n + 1, x4, x5, σ => (((σ 0 1) ≤ x5 → k53 x4 x5 σ) ∧ (¬ (σ 0 1) ≤ x5 → wX5_figure x1 x5 σ (fun r2 σ1 => wX5_figure x2 x5 σ1 (fun r4 σ3 => (¬ (σ3 0 0) = 0 ∧ lX5_sum_6 x1 x2 x3 post k53 n ((x4 * (σ 0 0)) + ((r2 + (x3 * r4)) - (r2 + (x3 * r4)) / (σ3 0 0) * (σ3 0 0))) (x5 + 1) σ3)))))
set_option maxRecDepth 20000 in
def wX5_sum (x1 : Int32) (x2 : Int32) (x3 : Int32) (σ : ss_S) (post : Int32 → ss_S → Prop) : Prop := (∃ f_6, lX5_sum_6 x1 x2 x3 post (fun x4_5 x5_5 σ_5 => post x4_5 σ_5) f_6 0 0 σ)

def rmX5_plus : Room := { frames := 3, cells := 0, slots := 0, locals := 70 }
theorem dvX5_plus : ss_dV yX5_plus 3 := by decide +kernel
set_option maxRecDepth 20000 in
def wX5_plus (x1 : Int32) (x2 : Int32) (x3 : Int32) (σ : ss_S) (post : Int32 → ss_S → Prop) : Prop := wX5_isVector x1 σ (fun r2 σ1 => ((r2 = 0 → post ((-101)) σ1) ∧ (¬ r2 = 0 → wX5_isVector x2 σ1 (fun r4 σ3 => ((¬ r4 = 0 → wX5_in (Int32.toInt64 x3) 0 (Int32.toInt64 ((σ3 0 0) - 1)) σ3 (fun r6 σ5 => ((r6 = 0 → post ((-102)) σ5) ∧ (¬ r6 = 0 → wX5_sum x1 x2 x3 σ5 (fun r8 σ7 => post r8 σ7))))) ∧ (r4 = 0 → post ((-101)) σ3))))))

def rmX5_product : Room := { frames := 2, cells := 0, slots := 0, locals := 45 }
theorem dvX5_product : ss_dV yX5_product 2 := by decide +kernel
def lX5_product_5 (x1 : Int32) (x2 : Int32) (post : Int32 → ss_S → Prop) (k38 : Int32 → Int32 → ss_S → Prop) : Nat → Int32 → Int32 → ss_S → Prop
  | 0, _, _, _ => False
  | n + 1, x3, x4, σ => (((σ 0 1) ≤ x4 → k38 x3 x4 σ) ∧ (¬ (σ 0 1) ≤ x4 → wX5_figure x1 x4 σ (fun r2 σ1 => wX5_figure x2 x4 σ1 (fun r4 σ3 => lX5_product_5 x1 x2 post k38 n (x3 + (r2 * r4)) (x4 + 1) σ3))))
set_option maxRecDepth 20000 in
def wX5_product (x1 : Int32) (x2 : Int32) (σ : ss_S) (post : Int32 → ss_S → Prop) : Prop := (∃ f_5, lX5_product_5 x1 x2 post (fun x3_5 x4_5 σ_5 => (¬ (σ_5 0 0) = 0 ∧ post (x3_5 - x3_5 / (σ_5 0 0) * (σ_5 0 0)) σ_5)) f_5 0 0 σ)

def rmX5_times : Room := { frames := 3, cells := 0, slots := 0, locals := 69 }
theorem dvX5_times : ss_dV yX5_times 2 := by decide +kernel
set_option maxRecDepth 20000 in
def wX5_times (x1 : Int32) (x2 : Int32) (σ : ss_S) (post : Int32 → ss_S → Prop) : Prop := wX5_isVector x1 σ (fun r2 σ1 => ((r2 = 0 → post ((-101)) σ1) ∧ (¬ r2 = 0 → wX5_isVector x2 σ1 (fun r4 σ3 => ((r4 = 0 → post ((-101)) σ3) ∧ (¬ r4 = 0 → wX5_product x1 x2 σ3 (fun r6 σ5 => post r6 σ5)))))))

def rmX5_settle : Room := { frames := 3, cells := 0, slots := 0, locals := 70 }
theorem dvX5_settle : ss_dV yX5_settle 0 := by decide +kernel
def lX5_settle_14 (x1 : Int32) (x2 : Int32) (post : ss_S → Prop) (k42 : Int32 → ss_S → Prop) : Nat → Int32 → ss_S → Prop
  | 0, _, _ => False
  | n + 1, x3, σ => (((σ 0 7) ≤ x3 → k42 x3 σ) ∧ (¬ (σ 0 7) ≤ x3 → (vp_in x3 24 ∧ wX5_figure (σ 2 (Int32.toNatClampNeg x3)) x2 σ (fun r2 σ1 => ((¬ r2 = 0 → k42 x3 σ1) ∧ (r2 = 0 → lX5_settle_14 x1 x2 post k42 n (x3 + 1) σ1))))))
def lX5_settle_73 (x1 : Int32) (x2 : Int32) (x4 : Int32) (post : ss_S → Prop) (k98 : Int32 → ss_S → Prop) : Nat → Int32 → ss_S → Prop
  | 0, _, _ => False
  | n + 1, x5, σ => wX5_figure x4 x2 σ (fun r5 σ4 => (¬ (σ4 0 0) = 0 ∧ ((((x5 * r5) - (x5 * r5) / (σ4 0 0) * (σ4 0 0)) = 1 → k98 x5 σ4) ∧ (¬ ((x5 * r5) - (x5 * r5) / (σ4 0 0) * (σ4 0 0)) = 1 → lX5_settle_73 x1 x2 x4 post k98 n (x5 + 1) σ4))))
def lX5_settle_120 (x1 : Int32) (x2 : Int32) (x4 : Int32) (post : ss_S → Prop) (k187 : Int32 → ss_S → Prop) : Nat → Int32 → ss_S → Prop
  | 0, _, _ => False
  | n + 1, x6, σ => (((σ 0 7) ≤ x6 → k187 x6 σ) ∧ (¬ (σ 0 7) ≤ x6 → (vp_in x6 24 ∧ wX5_figure (σ 2 (Int32.toNatClampNeg x6)) x2 σ (fun r10 σ9 => ((x6 = x1 → lX5_settle_120 x1 x2 x4 post k187 n (x6 + 1) σ9) ∧ (¬ x6 = x1 → ((r10 = 0 → lX5_settle_120 x1 x2 x4 post k187 n (x6 + 1) σ9) ∧ (¬ r10 = 0 → (vp_in x6 24 ∧ wX5_sum (σ9 2 (Int32.toNatClampNeg x6)) x4 ((σ9 0 0) - r10) σ9 (fun r12 σ11 => (vp_in x6 24 ∧ lX5_settle_120 x1 x2 x4 post k187 n (x6 + 1) (u2 σ11 2 (Int32.toNatClampNeg x6) r12))))))))))))
def lX5_settle_4  (post : ss_S → Prop) (k196 : Int32 → Int32 → ss_S → Prop) : Nat → Int32 → Int32 → ss_S → Prop
  | 0, _, _, _ => False
  | n + 1, x1, x2, σ => (((σ 0 1) ≤ x2 → k196 x1 x2 σ) ∧ (¬ (σ 0 1) ≤ x2 → (∃ f_14, lX5_settle_14 x1 x2 post (fun x3_3 σ_3 => (((σ_3 0 7) ≤ x3_3 → lX5_settle_4 post k196 n x1 (x2 + 1) σ_3) ∧ (¬ (σ_3 0 7) ≤ x3_3 → (vp_in x3_3 24 ∧ (vp_in x1 24 ∧ (vp_in x3_3 24 ∧ (∃ f_73, lX5_settle_73 x1 x2 (σ_3 2 (Int32.toNatClampNeg x3_3)) post (fun x5_6 σ_6 => wX5_sum 0 (σ_3 2 (Int32.toNatClampNeg x3_3)) x5_6 σ_6 (fun r8 σ7 => (vp_in x1 24 ∧ (∃ f_120, lX5_settle_120 x1 x2 r8 post (fun x6_13 σ_13 => lX5_settle_4 post k196 n (x1 + 1) (x2 + 1) σ_13) f_120 0 (u2 σ7 2 (Int32.toNatClampNeg x1) r8))))) f_73 1 (u2 σ_3 2 (Int32.toNatClampNeg x3_3) (σ_3 2 (Int32.toNatClampNeg x1)))))))))) f_14 x1 σ)))
set_option maxRecDepth 20000 in
def wX5_settle  (σ : ss_S) (post : ss_S → Prop) : Prop := (∃ f_4, lX5_settle_4  post (fun x1_14 x2_14 σ_14 => post (u2 σ_14 0 7 x1_14)) f_4 0 0 σ)

def rmX5_pivot : Room := { frames := 2, cells := 0, slots := 0, locals := 45 }
theorem dvX5_pivot : ss_dV yX5_pivot 1 := by decide +kernel
def lX5_pivot_2 (x1 : Int32) (post : Int32 → ss_S → Prop) (k17 : Int32 → ss_S → Prop) : Nat → Int32 → ss_S → Prop
  | 0, _, _ => False
  | n + 1, x2, σ => wX5_figure x1 x2 σ (fun r2 σ1 => ((¬ r2 = 0 → k17 x2 σ1) ∧ (r2 = 0 → lX5_pivot_2 x1 post k17 n (x2 + 1) σ1)))
set_option maxRecDepth 20000 in
def wX5_pivot (x1 : Int32) (σ : ss_S) (post : Int32 → ss_S → Prop) : Prop := (∃ f_2, lX5_pivot_2 x1 post (fun x2_3 σ_3 => post x2_3 σ_3) f_2 0 σ)

def rmX5_turn : Room := { frames := 4, cells := 0, slots := 0, locals := 97 }
theorem dvX5_turn : ss_dV yX5_turn 0 := by decide +kernel
def lX5_turn_7 (x1 : Int32) (post : ss_S → Prop) (k26 : Int32 → ss_S → Prop) : Nat → Int32 → ss_S → Prop
  | 0, _, _ => False
  | n + 1, x2, σ => ((6 ≤ x2 → k26 x2 σ) ∧ (¬ 6 ≤ x2 → (vp_in x2 6 ∧ lX5_turn_7 x1 post k26 n (x2 + 1) (u2 σ 3 (Int32.toNatClampNeg x2) (vp_nar .boolean 0)))))
def lX5_turn_28 (x1 : Int32) (post : ss_S → Prop) (k55 : Int32 → ss_S → Prop) : Nat → Int32 → ss_S → Prop
  | 0, _, _ => False
  | n + 1, x2, σ => ((x1 ≤ x2 → k55 x2 σ) ∧ (¬ x1 ≤ x2 → (vp_in x2 24 ∧ wX5_pivot (σ 2 (Int32.toNatClampNeg x2)) σ (fun r3 σ2 => (vp_in r3 6 ∧ lX5_turn_28 x1 post k55 n (x2 + 1) (u2 σ2 3 (Int32.toNatClampNeg r3) (vp_nar .boolean 1)))))))
def lX5_turn_96 (x1 : Int32) (x2 : Int32) (x3 : Int32) (post : ss_S → Prop) (k161 : Int32 → Int32 → ss_S → Prop) : Nat → Int32 → Int32 → ss_S → Prop
  | 0, _, _, _ => False
  | n + 1, x4, x5, σ => ((x1 ≤ x5 → k161 x4 x5 σ) ∧ (¬ x1 ≤ x5 → (vp_in x5 24 ∧ wX5_figure (σ 2 (Int32.toNatClampNeg x5)) x3 σ (fun r8 σ7 => (¬ (σ7 0 0) = 0 ∧ (vp_in x5 24 ∧ wX5_pivot (σ7 2 (Int32.toNatClampNeg x5)) σ7 (fun r10 σ9 => wX5_power (σ7 0 0) (((σ7 0 1) - 1) - r10) σ9 (fun r12 σ11 => lX5_turn_96 x1 x2 x3 post k161 n (x4 + ((((σ 0 0) - r8) - ((σ 0 0) - r8) / (σ7 0 0) * (σ7 0 0)) * r12)) (x5 + 1) σ11))))))))
def lX5_turn_59 (x1 : Int32) (post : ss_S → Prop) (k178 : Int32 → Int32 → ss_S → Prop) : Nat → Int32 → Int32 → ss_S → Prop
  | 0, _, _, _ => False
  | n + 1, x2, x3, σ => (((σ 0 1) ≤ x3 → k178 x2 x3 σ) ∧ (¬ (σ 0 1) ≤ x3 → (vp_in x3 6 ∧ ((¬ (σ 3 (Int32.toNatClampNeg x3)) = 0 → lX5_turn_59 x1 post k178 n x2 (x3 + 1) σ) ∧ ((σ 3 (Int32.toNatClampNeg x3)) = 0 → wX5_power (σ 0 0) (((σ 0 1) - 1) - x3) σ (fun r6 σ5 => (∃ f_96, lX5_turn_96 x1 x2 x3 post (fun x4_13 x5_13 σ_13 => (vp_in x2 24 ∧ lX5_turn_59 x1 post k178 n (x2 + 1) (x3 + 1) (u2 σ_13 2 (Int32.toNatClampNeg x2) x4_13))) f_96 r6 0 σ5)))))))
def lX5_turn_187 (x1 : Int32) (post : ss_S → Prop) (k215 : Int32 → ss_S → Prop) : Nat → Int32 → ss_S → Prop
  | 0, _, _ => False
  | n + 1, x3, σ => (((σ 0 7) ≤ x3 → k215 x3 σ) ∧ (¬ (σ 0 7) ≤ x3 → (vp_in (x1 + x3) 24 ∧ (vp_in x3 24 ∧ lX5_turn_187 x1 post k215 n (x3 + 1) (u2 σ 2 (Int32.toNatClampNeg x3) (σ 2 (Int32.toNatClampNeg (x1 + x3))))))))
set_option maxRecDepth 20000 in
def wX5_turn  (σ : ss_S) (post : ss_S → Prop) : Prop := (∃ f_7, lX5_turn_7 (σ 0 7) post (fun x2_1 σ_1 => (∃ f_28, lX5_turn_28 (σ 0 7) post (fun x2_4 σ_4 => (∃ f_59, lX5_turn_59 (σ 0 7) post (fun x2_14 x3_14 σ_14 => (∃ f_187, lX5_turn_187 (σ 0 7) post (fun x3_15 σ_15 => wX5_settle  σ_15 (fun σ16 => post σ16)) f_187 0 (u2 σ_14 0 7 (x2_14 - (σ 0 7))))) f_59 (σ 0 7) 0 σ_4)) f_28 0 σ_1)) f_7 0 σ)

def rmX5_isSlot : Room := { frames := 1, cells := 0, slots := 0, locals := 25 }
theorem dvX5_isSlot : ss_dV yX5_isSlot 1 := by decide +kernel
set_option maxRecDepth 20000 in
def wX5_isSlot (x0 : Int32) (σ : ss_S) (post : Int32 → ss_S → Prop) : Prop := wX5_in (Int32.toInt64 x0) 0 11 σ (fun r2 σ1 => (narrow .boolean (.int r2) = .int r2 ∧ post r2 σ1))

def rmX5_load : Room := { frames := 0, cells := 0, slots := 0, locals := 0 }
theorem dvX5_load : ss_dV yX5_load 1 := by decide +kernel
def lX5_load_2 (x1 : Int32) (post : ss_S → Prop) (k48 : Int32 → ss_S → Prop) : Nat → Int32 → ss_S → Prop
  | 0, _, _ => False
  | n + 1, x2, σ => (vp_in x1 12 ∧ (((σ 4 (Int32.toNatClampNeg x1)) ≤ x2 → k48 x2 σ) ∧ (¬ (σ 4 (Int32.toNatClampNeg x1)) ≤ x2 → (vp_in ((6 * x1) + x2) 72 ∧ (vp_in (σ 0 7) 24 ∧ lX5_load_2 x1 post k48 n (x2 + 1) (u2 (u2 σ 2 (Int32.toNatClampNeg (σ 0 7)) (σ 5 (Int32.toNatClampNeg ((6 * x1) + x2)))) 0 7 (((u2 σ 2 (Int32.toNatClampNeg (σ 0 7)) (σ 5 (Int32.toNatClampNeg ((6 * x1) + x2)))) 0 7) + 1)))))))
set_option maxRecDepth 20000 in
def wX5_load (x1 : Int32) (σ : ss_S) (post : ss_S → Prop) : Prop := (∃ f_2, lX5_load_2 x1 post (fun x2_1 σ_1 => post σ_1) f_2 0 σ)

def rmX5_save : Room := { frames := 0, cells := 0, slots := 0, locals := 0 }
theorem dvX5_save : ss_dV yX5_save 1 := by decide +kernel
def lX5_save_12 (x1 : Int32) (post : Int32 → ss_S → Prop) (k43 : Int32 → ss_S → Prop) : Nat → Int32 → ss_S → Prop
  | 0, _, _ => False
  | n + 1, x2, σ => (((σ 0 7) ≤ x2 → k43 x2 σ) ∧ (¬ (σ 0 7) ≤ x2 → (vp_in x2 24 ∧ (vp_in ((6 * x1) + x2) 72 ∧ lX5_save_12 x1 post k43 n (x2 + 1) (u2 σ 5 (Int32.toNatClampNeg ((6 * x1) + x2)) (σ 2 (Int32.toNatClampNeg x2)))))))
set_option maxRecDepth 20000 in
def wX5_save (x1 : Int32) (σ : ss_S) (post : Int32 → ss_S → Prop) : Prop := (vp_in x1 12 ∧ (∃ f_12, lX5_save_12 x1 post (fun x2_1 σ_1 => post (σ_1 0 7) σ_1) f_12 0 (u2 σ 4 (Int32.toNatClampNeg x1) (σ 0 7))))

def rmX5_add : Room := { frames := 4, cells := 0, slots := 0, locals := 97 }
theorem dvX5_add : ss_dV yX5_add 2 := by decide +kernel
set_option maxRecDepth 20000 in
def wX5_add (x1 : Int32) (x2 : Int32) (σ : ss_S) (post : Int32 → ss_S → Prop) : Prop := wX5_isSlot x1 σ (fun r2 σ1 => ((r2 = 0 → post ((-101)) σ1) ∧ (¬ r2 = 0 → wX5_isVector x2 σ1 (fun r4 σ3 => ((¬ r4 = 0 → wX5_load x1 (u2 σ3 0 7 0) (fun σ5 => (vp_in (σ5 0 7) 24 ∧ wX5_settle  (u2 (u2 σ5 2 (Int32.toNatClampNeg (σ5 0 7)) x2) 0 7 (((u2 σ5 2 (Int32.toNatClampNeg (σ5 0 7)) x2) 0 7) + 1)) (fun σ6 => wX5_save x1 σ6 (fun r8 σ7 => post r8 σ7))))) ∧ (r4 = 0 → post ((-101)) σ3))))))

def rmX5_clear : Room := { frames := 2, cells := 0, slots := 0, locals := 45 }
theorem dvX5_clear : ss_dV yX5_clear 1 := by decide +kernel
set_option maxRecDepth 20000 in
def wX5_clear (x1 : Int32) (σ : ss_S) (post : Int32 → ss_S → Prop) : Prop := wX5_isSlot x1 σ (fun r2 σ1 => ((¬ r2 = 0 → (vp_in x1 12 ∧ (vp_in x1 12 ∧ post (σ1 4 (Int32.toNatClampNeg x1)) (u2 σ1 4 (Int32.toNatClampNeg x1) 0)))) ∧ (r2 = 0 → post ((-101)) σ1)))

def rmX5_dim : Room := { frames := 2, cells := 0, slots := 0, locals := 45 }
theorem dvX5_dim : ss_dV yX5_dim 1 := by decide +kernel
set_option maxRecDepth 20000 in
def wX5_dim (x1 : Int32) (σ : ss_S) (post : Int32 → ss_S → Prop) : Prop := wX5_isSlot x1 σ (fun r2 σ1 => ((r2 = 0 → post ((-101)) σ1) ∧ (¬ r2 = 0 → (vp_in x1 12 ∧ post (σ1 4 (Int32.toNatClampNeg x1)) σ1))))

def rmX5_row : Room := { frames := 2, cells := 0, slots := 0, locals := 45 }
theorem dvX5_row : ss_dV yX5_row 2 := by decide +kernel
set_option maxRecDepth 20000 in
def wX5_row (x1 : Int32) (x2 : Int32) (σ : ss_S) (post : Int32 → ss_S → Prop) : Prop := wX5_isSlot x1 σ (fun r2 σ1 => ((¬ r2 = 0 → (vp_in x1 12 ∧ wX5_in (Int32.toInt64 x2) 0 (Int32.toInt64 ((σ1 4 (Int32.toNatClampNeg x1)) - 1)) σ1 (fun r4 σ3 => ((r4 = 0 → post ((-1)) σ3) ∧ (¬ r4 = 0 → (vp_in ((6 * x1) + x2) 72 ∧ post (σ3 5 (Int32.toNatClampNeg ((6 * x1) + x2))) σ3)))))) ∧ (r2 = 0 → post ((-101)) σ1)))

def rmX5_areSlots : Room := { frames := 2, cells := 0, slots := 0, locals := 45 }
theorem dvX5_areSlots : ss_dV yX5_areSlots 3 := by decide +kernel
set_option maxRecDepth 20000 in
def wX5_areSlots (x0 : Int32) (x1 : Int32) (x2 : Int32) (σ : ss_S) (post : Int32 → ss_S → Prop) : Prop := wX5_isSlot x0 σ (fun r2 σ1 => ((r2 = 0 → post 0 σ1) ∧ (¬ r2 = 0 → wX5_isSlot x1 σ1 (fun r4 σ3 => ((r4 = 0 → post 0 σ3) ∧ (¬ r4 = 0 → wX5_isSlot x2 σ3 (fun r6 σ5 => ((r6 = 0 → post 0 σ5) ∧ (¬ r6 = 0 → post 1 σ5)))))))))

def rmX5_joined : Room := { frames := 4, cells := 0, slots := 0, locals := 97 }
theorem dvX5_joined : ss_dV yX5_joined 2 := by decide +kernel
set_option maxRecDepth 20000 in
def wX5_joined (x1 : Int32) (x2 : Int32) (σ : ss_S) (post : Int32 → ss_S → Prop) : Prop := wX5_load x1 (u2 σ 0 7 0) (fun σ1 => wX5_load x2 σ1 (fun σ2 => wX5_settle  σ2 (fun σ3 => post (σ3 0 7) σ3)))

def rmX5_join : Room := { frames := 5, cells := 0, slots := 0, locals := 119 }
theorem dvX5_join : ss_dV yX5_join 3 := by decide +kernel
set_option maxRecDepth 20000 in
def wX5_join (x1 : Int32) (x2 : Int32) (x3 : Int32) (σ : ss_S) (post : Int32 → ss_S → Prop) : Prop := wX5_areSlots x1 x2 x3 σ (fun r2 σ1 => ((¬ r2 = 0 → wX5_joined x1 x2 σ1 (fun r4 σ3 => wX5_save x3 σ3 (fun r6 σ5 => post r6 σ5))) ∧ (r2 = 0 → post ((-101)) σ1)))

def rmX5_meet : Room := { frames := 5, cells := 0, slots := 0, locals := 122 }
theorem dvX5_meet : ss_dV yX5_meet 3 := by decide +kernel
def lX5_meet_35 (x2 : Int32) (x3 : Int32) (x4 : Int32) (post : Int32 → ss_S → Prop) (k62 : Int32 → ss_S → Prop) : Nat → Int32 → ss_S → Prop
  | 0, _, _ => False
  | n + 1, x5, σ => ((x4 ≤ x5 → k62 x5 σ) ∧ (¬ x4 ≤ x5 → (vp_in x5 24 ∧ (vp_in x5 6 ∧ lX5_meet_35 x2 x3 x4 post k62 n (x5 + 1) (u2 σ 6 (Int32.toNatClampNeg x5) (σ 2 (Int32.toNatClampNeg x5)))))))
def lX5_meet_79 (x3 : Int32) (x4 : Int32) (post : Int32 → ss_S → Prop) (k118 : Int32 → ss_S → Prop) : Nat → Int32 → ss_S → Prop
  | 0, _, _ => False
  | n + 1, x5, σ => ((x4 ≤ x5 → k118 x5 σ) ∧ (¬ x4 ≤ x5 → (vp_in x5 6 ∧ (vp_in (σ 0 7) 24 ∧ lX5_meet_79 x3 x4 post k118 n (x5 + 1) (u2 (u2 σ 2 (Int32.toNatClampNeg (σ 0 7)) (σ 6 (Int32.toNatClampNeg x5))) 0 7 (((u2 σ 2 (Int32.toNatClampNeg (σ 0 7)) (σ 6 (Int32.toNatClampNeg x5))) 0 7) + 1))))))
set_option maxRecDepth 20000 in
def wX5_meet (x1 : Int32) (x2 : Int32) (x3 : Int32) (σ : ss_S) (post : Int32 → ss_S → Prop) : Prop := wX5_areSlots x1 x2 x3 σ (fun r2 σ1 => ((¬ r2 = 0 → wX5_load x1 (u2 σ1 0 7 0) (fun σ3 => wX5_turn  σ3 (fun σ4 => (∃ f_35, lX5_meet_35 x2 x3 (σ4 0 7) post (fun x5_5 σ_5 => wX5_load x2 (u2 σ_5 0 7 0) (fun σ6 => wX5_turn  σ6 (fun σ7 => (∃ f_79, lX5_meet_79 x3 (σ4 0 7) post (fun x5_8 σ_8 => wX5_settle  σ_8 (fun σ9 => wX5_turn  σ9 (fun σ10 => wX5_save x3 σ10 (fun r12 σ11 => post r12 σ11)))) f_79 0 σ7)))) f_35 0 σ4)))) ∧ (r2 = 0 → post ((-101)) σ1)))

def rmX5_dual : Room := { frames := 5, cells := 0, slots := 0, locals := 122 }
theorem dvX5_dual : ss_dV yX5_dual 2 := by decide +kernel
set_option maxRecDepth 20000 in
def wX5_dual (x1 : Int32) (x2 : Int32) (σ : ss_S) (post : Int32 → ss_S → Prop) : Prop := wX5_areSlots x1 x1 x2 σ (fun r2 σ1 => ((¬ r2 = 0 → wX5_load x1 (u2 σ1 0 7 0) (fun σ3 => wX5_turn  σ3 (fun σ4 => wX5_save x2 σ4 (fun r6 σ5 => post r6 σ5)))) ∧ (r2 = 0 → post ((-101)) σ1)))

def rmX5_holds : Room := { frames := 3, cells := 0, slots := 0, locals := 70 }
theorem dvX5_holds : ss_dV yX5_holds 2 := by decide +kernel
def lX5_holds_5 (x1 : Int32) (post : Int32 → ss_S → Prop) (k75 : Int32 → Int32 → ss_S → Prop) : Nat → Int32 → Int32 → ss_S → Prop
  | 0, _, _, _ => False
  | n + 1, x3, x4, σ => (vp_in x1 12 ∧ (((σ 4 (Int32.toNatClampNeg x1)) ≤ x4 → k75 x3 x4 σ) ∧ (¬ (σ 4 (Int32.toNatClampNeg x1)) ≤ x4 → (vp_in ((6 * x1) + x4) 72 ∧ wX5_pivot (σ 5 (Int32.toNatClampNeg ((6 * x1) + x4))) σ (fun r2 σ1 => wX5_figure x3 r2 σ1 (fun r4 σ3 => (vp_in ((6 * x1) + x4) 72 ∧ (¬ (σ3 0 0) = 0 ∧ wX5_sum x3 (σ3 5 (Int32.toNatClampNeg ((6 * x1) + x4))) (((σ3 0 0) - r4) - ((σ3 0 0) - r4) / (σ3 0 0) * (σ3 0 0)) σ3 (fun r6 σ5 => lX5_holds_5 x1 post k75 n r6 (x4 + 1) σ5)))))))))
set_option maxRecDepth 20000 in
def wX5_holds (x1 : Int32) (x2 : Int32) (σ : ss_S) (post : Int32 → ss_S → Prop) : Prop := (∃ f_5, lX5_holds_5 x1 post (fun x3_7 x4_7 σ_7 => ((¬ x3_7 = 0 → post 0 σ_7) ∧ (x3_7 = 0 → post 1 σ_7))) f_5 x2 0 σ)

def rmX5_has : Room := { frames := 4, cells := 0, slots := 0, locals := 95 }
theorem dvX5_has : ss_dV yX5_has 2 := by decide +kernel
set_option maxRecDepth 20000 in
def wX5_has (x1 : Int32) (x2 : Int32) (σ : ss_S) (post : Int32 → ss_S → Prop) : Prop := wX5_isSlot x1 σ (fun r2 σ1 => ((r2 = 0 → post ((-101)) σ1) ∧ (¬ r2 = 0 → wX5_isVector x2 σ1 (fun r4 σ3 => ((¬ r4 = 0 → wX5_holds x1 x2 σ3 (fun r6 σ5 => ((r6 = 0 → post 0 σ5) ∧ (¬ r6 = 0 → post 1 σ5)))) ∧ (r4 = 0 → post ((-101)) σ3))))))

def rmX5_within : Room := { frames := 4, cells := 0, slots := 0, locals := 95 }
theorem dvX5_within : ss_dV yX5_within 2 := by decide +kernel
def lX5_within_22 (x1 : Int32) (x2 : Int32) (post : Int32 → ss_S → Prop) (k69 : Int32 → Int32 → ss_S → Prop) : Nat → Int32 → Int32 → ss_S → Prop
  | 0, _, _, _ => False
  | n + 1, x3, x4, σ => (vp_in x1 12 ∧ (((σ 4 (Int32.toNatClampNeg x1)) ≤ x4 → k69 x3 x4 σ) ∧ (¬ (σ 4 (Int32.toNatClampNeg x1)) ≤ x4 → ((x3 = 0 → lX5_within_22 x1 x2 post k69 n 0 (x4 + 1) σ) ∧ (¬ x3 = 0 → (vp_in ((6 * x1) + x4) 72 ∧ wX5_holds x2 (σ 5 (Int32.toNatClampNeg ((6 * x1) + x4))) σ (fun r6 σ5 => ((r6 = 0 → lX5_within_22 x1 x2 post k69 n 0 (x4 + 1) σ5) ∧ (¬ r6 = 0 → lX5_within_22 x1 x2 post k69 n 1 (x4 + 1) σ5)))))))))
set_option maxRecDepth 20000 in
def wX5_within (x1 : Int32) (x2 : Int32) (σ : ss_S) (post : Int32 → ss_S → Prop) : Prop := wX5_isSlot x1 σ (fun r2 σ1 => ((r2 = 0 → post ((-101)) σ1) ∧ (¬ r2 = 0 → wX5_isSlot x2 σ1 (fun r4 σ3 => ((¬ r4 = 0 → (∃ f_22, lX5_within_22 x1 x2 post (fun x3_7 x4_7 σ_7 => ((x3_7 = 0 → post 0 σ_7) ∧ (¬ x3_7 = 0 → post 1 σ_7))) f_22 1 0 σ3)) ∧ (r4 = 0 → post ((-101)) σ3))))))

def rmX5_apart : Room := { frames := 5, cells := 0, slots := 0, locals := 119 }
theorem dvX5_apart : ss_dV yX5_apart 2 := by decide +kernel
set_option maxRecDepth 20000 in
def wX5_apart (x1 : Int32) (x2 : Int32) (σ : ss_S) (post : Int32 → ss_S → Prop) : Prop := wX5_isSlot x1 σ (fun r2 σ1 => ((r2 = 0 → post ((-101)) σ1) ∧ (¬ r2 = 0 → wX5_isSlot x2 σ1 (fun r4 σ3 => ((r4 = 0 → post ((-101)) σ3) ∧ (¬ r4 = 0 → wX5_joined x1 x2 σ3 (fun r6 σ5 => (vp_in x1 12 ∧ (vp_in x2 12 ∧ post (((2 * r6) - (σ5 4 (Int32.toNatClampNeg x1))) - (σ5 4 (Int32.toNatClampNeg x2))) σ5)))))))))

def rmX5_gauss : Room := { frames := 1, cells := 0, slots := 0, locals := 25 }
theorem dvX5_gauss : ss_dV yX5_gauss 2 := by decide +kernel
def lX5_gauss_21 (x1 : Int32) (x2 : Int32) (post : Int32 → ss_S → Prop) (k69 : Int64 → Int64 → Int32 → ss_S → Prop) : Nat → Int64 → Int64 → Int32 → ss_S → Prop
  | 0, _, _, _, _ => False
  | n + 1, x3, x5, x7, σ => ((x2 ≤ x7 → k69 x3 x5 x7 σ) ∧ (¬ x2 ≤ x7 → wX5_power (σ 0 0) (x1 - x7) σ (fun r4 σ3 => wX5_power (σ3 0 0) (x7 + 1) σ3 (fun r6 σ5 => lX5_gauss_21 x1 x2 post k69 n (x3 * (Int32.toInt64 (r4 - 1))) (x5 * (Int32.toInt64 (r6 - 1))) (x7 + 1) σ5))))
set_option maxRecDepth 20000 in
def wX5_gauss (x1 : Int32) (x2 : Int32) (σ : ss_S) (post : Int32 → ss_S → Prop) : Prop := wX5_in (Int32.toInt64 x2) 0 (Int32.toInt64 x1) σ (fun r2 σ1 => ((¬ r2 = 0 → (∃ f_21, lX5_gauss_21 x1 x2 post (fun x3_7 x5_7 x7_7 σ_7 => (¬ x5_7 = 0 ∧ post (Int64.toInt32 (x3_7 / x5_7)) σ_7)) f_21 1 1 0 σ1)) ∧ (r2 = 0 → post 0 σ1)))

def rmX5_many : Room := { frames := 2, cells := 0, slots := 0, locals := 52 }
theorem dvX5_many : ss_dV yX5_many 1 := by decide +kernel
set_option maxRecDepth 20000 in
def wX5_many (x1 : Int32) (σ : ss_S) (post : Int32 → ss_S → Prop) : Prop := wX5_gauss (σ 0 1) x1 σ (fun r2 σ1 => post r2 σ1)

def rmX5_free : Room := { frames := 0, cells := 0, slots := 0, locals := 0 }
theorem dvX5_free : ss_dV yX5_free 1 := by decide +kernel
def lX5_free_4 (x1 : Int32) (post : Int32 → ss_S → Prop) (k37 : Int32 → Int32 → ss_S → Prop) : Nat → Int32 → Int32 → ss_S → Prop
  | 0, _, _, _ => False
  | n + 1, x2, x3, σ => ((x1 ≤ x3 → k37 x2 x3 σ) ∧ (¬ x1 ≤ x3 → (vp_in x3 6 ∧ lX5_free_4 x1 post k37 n (x2 + ((((σ 0 1) - 1) - (σ 7 (Int32.toNatClampNeg x3))) - ((x1 - 1) - x3))) (x3 + 1) σ)))
set_option maxRecDepth 20000 in
def wX5_free (x1 : Int32) (σ : ss_S) (post : Int32 → ss_S → Prop) : Prop := (∃ f_4, lX5_free_4 x1 post (fun x2_1 x3_1 σ_1 => post x2_1 σ_1) f_4 0 0 σ)

def rmX5_goOn : Room := { frames := 0, cells := 0, slots := 0, locals := 0 }
theorem dvX5_goOn : ss_dV yX5_goOn 1 := by decide +kernel
def lX5_goOn_4 (x1 : Int32) (post : Int32 → ss_S → Prop) (k31 : Int32 → ss_S → Prop) : Nat → Int32 → ss_S → Prop
  | 0, _, _ => False
  | n + 1, x2, σ => ((x2 < 0 → k31 x2 σ) ∧ (¬ x2 < 0 → (vp_in x2 6 ∧ ((¬ (σ 7 (Int32.toNatClampNeg x2)) = (((σ 0 1) - x1) + x2) → k31 x2 σ) ∧ ((σ 7 (Int32.toNatClampNeg x2)) = (((σ 0 1) - x1) + x2) → lX5_goOn_4 x1 post k31 n (x2 + (-1)) σ)))))
def lX5_goOn_51 (x1 : Int32) (post : Int32 → ss_S → Prop) (k78 : Int32 → ss_S → Prop) : Nat → Int32 → ss_S → Prop
  | 0, _, _ => False
  | n + 1, x3, σ => ((x1 ≤ x3 → k78 x3 σ) ∧ (¬ x1 ≤ x3 → (vp_in (x3 - 1) 6 ∧ (vp_in x3 6 ∧ lX5_goOn_51 x1 post k78 n (x3 + 1) (u2 σ 7 (Int32.toNatClampNeg x3) ((σ 7 (Int32.toNatClampNeg (x3 - 1))) + 1))))))
set_option maxRecDepth 20000 in
def wX5_goOn (x1 : Int32) (σ : ss_S) (post : Int32 → ss_S → Prop) : Prop := (∃ f_4, lX5_goOn_4 x1 post (fun x2_1 σ_1 => ((0 ≤ x2_1 → (vp_in x2_1 6 ∧ (vp_in x2_1 6 ∧ (∃ f_51, lX5_goOn_51 x1 post (fun x3_2 σ_2 => post 1 σ_2) f_51 (x2_1 + 1) (u2 σ_1 7 (Int32.toNatClampNeg x2_1) ((σ_1 7 (Int32.toNatClampNeg x2_1)) + 1)))))) ∧ (¬ 0 ≤ x2_1 → post 0 σ_1))) f_4 (x1 - 1) σ)

def rmX5_firstPivots : Room := { frames := 0, cells := 0, slots := 0, locals := 0 }
theorem dvX5_firstPivots : ss_dV yX5_firstPivots 1 := by decide +kernel
def lX5_firstPivots_2 (x1 : Int32) (post : ss_S → Prop) (k20 : Int32 → ss_S → Prop) : Nat → Int32 → ss_S → Prop
  | 0, _, _ => False
  | n + 1, x2, σ => ((x1 ≤ x2 → k20 x2 σ) ∧ (¬ x1 ≤ x2 → (vp_in x2 6 ∧ lX5_firstPivots_2 x1 post k20 n (x2 + 1) (u2 σ 7 (Int32.toNatClampNeg x2) x2))))
set_option maxRecDepth 20000 in
def wX5_firstPivots (x1 : Int32) (σ : ss_S) (post : ss_S → Prop) : Prop := (∃ f_2, lX5_firstPivots_2 x1 post (fun x2_1 σ_1 => post σ_1) f_2 0 σ)

def rmX5_isFree : Room := { frames := 0, cells := 0, slots := 0, locals := 0 }
theorem dvX5_isFree : ss_dV yX5_isFree 3 := by decide +kernel
def lX5_isFree_20 (x1 : Int32) (x3 : Int32) (post : Int32 → ss_S → Prop) (k55 : Int32 → Int32 → ss_S → Prop) : Nat → Int32 → Int32 → ss_S → Prop
  | 0, _, _, _ => False
  | n + 1, x4, x5, σ => ((x1 ≤ x5 → k55 x4 x5 σ) ∧ (¬ x1 ≤ x5 → ((x4 = 0 → lX5_isFree_20 x1 x3 post k55 n 0 (x5 + 1) σ) ∧ (¬ x4 = 0 → (vp_in x5 6 ∧ (((σ 7 (Int32.toNatClampNeg x5)) = x3 → lX5_isFree_20 x1 x3 post k55 n 0 (x5 + 1) σ) ∧ (¬ (σ 7 (Int32.toNatClampNeg x5)) = x3 → lX5_isFree_20 x1 x3 post k55 n 1 (x5 + 1) σ)))))))
set_option maxRecDepth 20000 in
def wX5_isFree (x1 : Int32) (x2 : Int32) (x3 : Int32) (σ : ss_S) (post : Int32 → ss_S → Prop) : Prop := (vp_in x2 6 ∧ ((x3 ≤ (σ 7 (Int32.toNatClampNeg x2)) → (∃ f_20, lX5_isFree_20 x1 x3 post (fun x4_1 x5_1 σ_1 => (narrow .boolean (.int x4_1) = .int x4_1 ∧ post x4_1 σ_1)) f_20 0 0 σ)) ∧ (¬ x3 ≤ (σ 7 (Int32.toNatClampNeg x2)) → (∃ f_20, lX5_isFree_20 x1 x3 post (fun x4_2 x5_2 σ_2 => (narrow .boolean (.int x4_2) = .int x4_2 ∧ post x4_2 σ_2)) f_20 1 0 σ))))

def rmX5_number : Room := { frames := 3, cells := 0, slots := 0, locals := 67 }
theorem dvX5_number : ss_dV yX5_number 1 := by decide +kernel
def lX5_number_38 (x1 : Int32) (x2 : Int32) (x3 : Int32) (post : Int32 → ss_S → Prop) (k88 : Int32 → Int32 → ss_S → Prop) : Nat → Int32 → Int32 → ss_S → Prop
  | 0, _, _, _ => False
  | n + 1, x4, x5, σ => ((x2 ≤ x5 → k88 x4 x5 σ) ∧ (¬ x2 ≤ x5 → ((x4 = 0 → lX5_number_38 x1 x2 x3 post k88 n 0 (x5 + 1) σ) ∧ (¬ x4 = 0 → (vp_in x5 6 ∧ (vp_in ((6 * x1) + x5) 72 ∧ wX5_pivot (σ 5 (Int32.toNatClampNeg ((6 * x1) + x5))) σ (fun r5 σ4 => ((¬ (σ 7 (Int32.toNatClampNeg x5)) = r5 → lX5_number_38 x1 x2 x3 post k88 n 0 (x5 + 1) σ4) ∧ ((σ 7 (Int32.toNatClampNeg x5)) = r5 → lX5_number_38 x1 x2 x3 post k88 n 1 (x5 + 1) σ4)))))))))
def lX5_number_27 (x1 : Int32) (x2 : Int32) (post : Int32 → ss_S → Prop) (k117 : Int32 → Int32 → ss_S → Prop) : Nat → Int32 → Int32 → ss_S → Prop
  | 0, _, _, _ => False
  | n + 1, x3, x4, σ => ((¬ x4 = 0 → k117 x3 x4 σ) ∧ (x4 = 0 → (∃ f_38, lX5_number_38 x1 x2 x3 post (fun x4_6 x5_6 σ_6 => ((¬ x4_6 = 0 → lX5_number_27 x1 x2 post k117 n x3 x4_6 σ_6) ∧ (x4_6 = 0 → wX5_free x2 σ_6 (fun r8 σ7 => wX5_power (σ_6 0 0) r8 σ7 (fun r10 σ9 => wX5_goOn x2 σ9 (fun r12 σ11 => lX5_number_27 x1 x2 post k117 n (x3 + r10) x4_6 σ11)))))) f_38 1 0 σ)))
def lX5_number_132 (x1 : Int32) (x2 : Int32) (x3 : Int32) (x6 : Int32) (post : Int32 → ss_S → Prop) (k187 : Int32 → Int32 → ss_S → Prop) : Nat → Int32 → Int32 → ss_S → Prop
  | 0, _, _, _ => False
  | n + 1, x5, x7, σ => (((σ 0 1) ≤ x7 → k187 x5 x7 σ) ∧ (¬ (σ 0 1) ≤ x7 → wX5_isFree x2 x6 x7 σ (fun r15 σ14 => ((r15 = 0 → lX5_number_132 x1 x2 x3 x6 post k187 n x5 (x7 + 1) σ14) ∧ (¬ r15 = 0 → (vp_in ((6 * x1) + x6) 72 ∧ wX5_figure (σ14 5 (Int32.toNatClampNeg ((6 * x1) + x6))) x7 σ14 (fun r17 σ16 => lX5_number_132 x1 x2 x3 x6 post k187 n ((x5 * (σ14 0 0)) + r17) (x7 + 1) σ16)))))))
def lX5_number_123 (x1 : Int32) (x2 : Int32) (x3 : Int32) (post : Int32 → ss_S → Prop) (k193 : Int32 → Int32 → ss_S → Prop) : Nat → Int32 → Int32 → ss_S → Prop
  | 0, _, _, _ => False
  | n + 1, x5, x6, σ => ((x2 ≤ x6 → k193 x5 x6 σ) ∧ (¬ x2 ≤ x6 → (∃ f_132, lX5_number_132 x1 x2 x3 x6 post (fun x5_18 x7_18 σ_18 => lX5_number_123 x1 x2 x3 post k193 n x5_18 (x6 + 1) σ_18) f_132 x5 0 σ)))
set_option maxRecDepth 20000 in
def wX5_number (x1 : Int32) (σ : ss_S) (post : Int32 → ss_S → Prop) : Prop := wX5_isSlot x1 σ (fun r2 σ1 => ((¬ r2 = 0 → (vp_in x1 12 ∧ wX5_firstPivots (σ1 4 (Int32.toNatClampNeg x1)) σ1 (fun σ3 => (∃ f_27, lX5_number_27 x1 (σ1 4 (Int32.toNatClampNeg x1)) post (fun x3_13 x4_13 σ_13 => (∃ f_123, lX5_number_123 x1 (σ1 4 (Int32.toNatClampNeg x1)) x3_13 post (fun x5_19 x6_19 σ_19 => post (x3_13 + x5_19) σ_19) f_123 0 0 σ_13)) f_27 0 0 σ3)))) ∧ (r2 = 0 → post ((-101)) σ1)))

def rmX5_lay : Room := { frames := 1, cells := 0, slots := 0, locals := 25 }
theorem dvX5_lay : ss_dV yX5_lay 2 := by decide +kernel
def lX5_lay_7 (x1 : Int32) (post : ss_S → Prop) (k47 : Int32 → ss_S → Prop) : Nat → Int32 → ss_S → Prop
  | 0, _, _ => False
  | n + 1, x3, σ => wX5_free x1 σ (fun r3 σ2 => wX5_power (σ 0 0) r3 σ2 (fun r5 σ4 => ((x3 < r5 → k47 x3 σ4) ∧ (¬ x3 < r5 → wX5_free x1 σ4 (fun r7 σ6 => wX5_power (σ4 0 0) r7 σ6 (fun r9 σ8 => wX5_goOn x1 σ8 (fun r11 σ10 => lX5_lay_7 x1 post k47 n (x3 - r9) σ10)))))))
def lX5_lay_101 (x1 : Int32) (x3 : Int32) (x5 : Int32) (post : ss_S → Prop) (k168 : Int32 → Int32 → Int32 → ss_S → Prop) : Nat → Int32 → Int32 → Int32 → ss_S → Prop
  | 0, _, _, _, _ => False
  | n + 1, x4, x6, x7, σ => (((σ 0 1) ≤ x7 → k168 x4 x6 x7 σ) ∧ (¬ (σ 0 1) ≤ x7 → wX5_isFree x1 x5 x7 σ (fun r20 σ19 => ((r20 = 0 → lX5_lay_101 x1 x3 x5 post k168 n x4 x6 (x7 + 1) σ19) ∧ (¬ r20 = 0 → (¬ (σ19 0 0) = 0 ∧ (¬ (x4 / (σ19 0 0)) = 0 ∧ (¬ (σ19 0 0) = 0 ∧ wX5_power (σ19 0 0) (((σ19 0 1) - 1) - x7) σ19 (fun r22 σ21 => lX5_lay_101 x1 x3 x5 post k168 n (x4 / (σ19 0 0)) (x6 + (((x3 / (x4 / (σ19 0 0))) - (x3 / (x4 / (σ19 0 0))) / (σ19 0 0) * (σ19 0 0)) * r22)) (x7 + 1) σ21)))))))))
def lX5_lay_69 (x1 : Int32) (x3 : Int32) (post : ss_S → Prop) (k183 : Int32 → Int32 → ss_S → Prop) : Nat → Int32 → Int32 → ss_S → Prop
  | 0, _, _, _ => False
  | n + 1, x4, x5, σ => ((x1 ≤ x5 → k183 x4 x5 σ) ∧ (¬ x1 ≤ x5 → (vp_in x5 6 ∧ wX5_power (σ 0 0) (((σ 0 1) - 1) - (σ 7 (Int32.toNatClampNeg x5))) σ (fun r18 σ17 => (∃ f_101, lX5_lay_101 x1 x3 x5 post (fun x4_23 x6_23 x7_23 σ_23 => (vp_in x5 24 ∧ lX5_lay_69 x1 x3 post k183 n x4_23 (x5 + 1) (u2 σ_23 2 (Int32.toNatClampNeg x5) x6_23))) f_101 x4 r18 0 σ17)))))
set_option maxRecDepth 20000 in
def wX5_lay (x1 : Int32) (x2 : Int32) (σ : ss_S) (post : ss_S → Prop) : Prop := wX5_firstPivots x1 σ (fun σ1 => (∃ f_7, lX5_lay_7 x1 post (fun x3_12 σ_12 => wX5_free x1 σ_12 (fun r14 σ13 => wX5_power (σ_12 0 0) r14 σ13 (fun r16 σ15 => (∃ f_69, lX5_lay_69 x1 x3_12 post (fun x4_24 x5_24 σ_24 => post σ_24) f_69 r16 0 (u2 σ15 0 7 x1))))) f_7 x2 σ1))

def rmX5_numbered : Room := { frames := 2, cells := 0, slots := 0, locals := 52 }
theorem dvX5_numbered : ss_dV yX5_numbered 3 := by decide +kernel
set_option maxRecDepth 20000 in
def wX5_numbered (x1 : Int32) (x2 : Int32) (x3 : Int32) (σ : ss_S) (post : Int32 → ss_S → Prop) : Prop := wX5_isSlot x1 σ (fun r2 σ1 => ((¬ r2 = 0 → wX5_in (Int32.toInt64 x2) 0 (Int32.toInt64 (σ1 0 1)) σ1 (fun r4 σ3 => ((r4 = 0 → post ((-102)) σ3) ∧ (¬ r4 = 0 → wX5_gauss (σ3 0 1) x2 σ3 (fun r6 σ5 => wX5_in (Int32.toInt64 x3) 0 (Int32.toInt64 (r6 - 1)) σ5 (fun r8 σ7 => ((¬ r8 = 0 → wX5_lay x2 x3 σ7 (fun σ9 => wX5_save x1 σ9 (fun r11 σ10 => post r11 σ10))) ∧ (r8 = 0 → post ((-102)) σ7)))))))) ∧ (r2 = 0 → post ((-101)) σ1)))

def rmX5_over : Room := { frames := 2, cells := 0, slots := 0, locals := 52 }
theorem dvX5_over : ss_dV yX5_over 2 := by decide +kernel
set_option maxRecDepth 20000 in
def wX5_over (x1 : Int32) (x2 : Int32) (σ : ss_S) (post : Int32 → ss_S → Prop) : Prop := wX5_isSlot x1 σ (fun r2 σ1 => ((¬ r2 = 0 → (vp_in x1 12 ∧ wX5_in (Int32.toInt64 x2) (Int32.toInt64 (σ1 4 (Int32.toNatClampNeg x1))) (Int32.toInt64 (σ1 0 1)) σ1 (fun r4 σ3 => ((r4 = 0 → post 0 σ3) ∧ (¬ r4 = 0 → (vp_in x1 12 ∧ (vp_in x1 12 ∧ wX5_gauss ((σ3 0 1) - (σ3 4 (Int32.toNatClampNeg x1))) (x2 - (σ3 4 (Int32.toNatClampNeg x1))) σ3 (fun r6 σ5 => post r6 σ5)))))))) ∧ (r2 = 0 → post ((-101)) σ1)))

def rmX5_meeting : Room := { frames := 2, cells := 0, slots := 0, locals := 52 }
theorem dvX5_meeting : ss_dV yX5_meeting 3 := by decide +kernel
set_option maxRecDepth 20000 in
def wX5_meeting (x1 : Int32) (x2 : Int32) (x3 : Int32) (σ : ss_S) (post : Int32 → ss_S → Prop) : Prop := wX5_isSlot x1 σ (fun r2 σ1 => ((¬ r2 = 0 → (vp_in x1 12 ∧ wX5_in (Int32.toInt64 x2) 0 (Int32.toInt64 (σ1 0 1)) σ1 (fun r4 σ3 => ((r4 = 0 → post 0 σ3) ∧ (¬ r4 = 0 → wX5_in (Int32.toInt64 x3) 0 (Int32.toInt64 x2) σ3 (fun r6 σ5 => ((r6 = 0 → post 0 σ5) ∧ (¬ r6 = 0 → ((x3 ≤ (σ1 4 (Int32.toNatClampNeg x1)) → wX5_gauss ((σ5 0 1) - (σ1 4 (Int32.toNatClampNeg x1))) (x2 - x3) σ5 (fun r8 σ7 => ((¬ r8 = 0 → wX5_gauss (σ1 4 (Int32.toNatClampNeg x1)) x3 σ7 (fun r10 σ9 => wX5_power (σ9 0 0) (((σ1 4 (Int32.toNatClampNeg x1)) - x3) * (x2 - x3)) σ9 (fun r12 σ11 => post ((r10 * r8) * r12) σ11))) ∧ (r8 = 0 → post 0 σ7)))) ∧ (¬ x3 ≤ (σ1 4 (Int32.toNatClampNeg x1)) → post 0 σ5)))))))))) ∧ (r2 = 0 → post ((-101)) σ1)))

def rmX5_toHeap : Room := { frames := 0, cells := 0, slots := 0, locals := 0 }
theorem dvX5_toHeap : ss_dV yX5_toHeap 0 := by decide +kernel
def lX5_toHeap_15  (post : ss_S → Prop) (k49 : Int32 → ss_S → Prop) : Nat → Int32 → ss_S → Prop
  | 0, _, _ => False
  | n + 1, x1, σ => (((σ 0 7) ≤ x1 → k49 x1 σ) ∧ (¬ (σ 0 7) ≤ x1 → (vp_in x1 24 ∧ (vp_in ((6 * (σ 0 13)) + x1) 240 ∧ lX5_toHeap_15 post k49 n (x1 + 1) (u2 σ 9 (Int32.toNatClampNeg ((6 * (σ 0 13)) + x1)) (σ 2 (Int32.toNatClampNeg x1)))))))
set_option maxRecDepth 20000 in
def wX5_toHeap  (σ : ss_S) (post : ss_S → Prop) : Prop := (vp_in (σ 0 13) 40 ∧ (∃ f_15, lX5_toHeap_15  post (fun x1_1 σ_1 => post (u2 σ_1 0 13 ((σ_1 0 13) + 1))) f_15 0 (u2 σ 8 (Int32.toNatClampNeg (σ 0 13)) (σ 0 7))))

def rmX5_loadHeap : Room := { frames := 0, cells := 0, slots := 0, locals := 0 }
theorem dvX5_loadHeap : ss_dV yX5_loadHeap 1 := by decide +kernel
def lX5_loadHeap_2 (x1 : Int32) (post : ss_S → Prop) (k48 : Int32 → ss_S → Prop) : Nat → Int32 → ss_S → Prop
  | 0, _, _ => False
  | n + 1, x2, σ => (vp_in x1 40 ∧ (((σ 8 (Int32.toNatClampNeg x1)) ≤ x2 → k48 x2 σ) ∧ (¬ (σ 8 (Int32.toNatClampNeg x1)) ≤ x2 → (vp_in ((6 * x1) + x2) 240 ∧ (vp_in (σ 0 7) 24 ∧ lX5_loadHeap_2 x1 post k48 n (x2 + 1) (u2 (u2 σ 2 (Int32.toNatClampNeg (σ 0 7)) (σ 9 (Int32.toNatClampNeg ((6 * x1) + x2)))) 0 7 (((u2 σ 2 (Int32.toNatClampNeg (σ 0 7)) (σ 9 (Int32.toNatClampNeg ((6 * x1) + x2)))) 0 7) + 1)))))))
set_option maxRecDepth 20000 in
def wX5_loadHeap (x1 : Int32) (σ : ss_S) (post : ss_S → Prop) : Prop := (∃ f_2, lX5_loadHeap_2 x1 post (fun x2_1 σ_1 => post σ_1) f_2 0 σ)

def rmX5_put : Room := { frames := 2, cells := 0, slots := 0, locals := 45 }
theorem dvX5_put : ss_dV yX5_put 1 := by decide +kernel
set_option maxRecDepth 20000 in
def wX5_put (x1 : Int32) (σ : ss_S) (post : Int32 → ss_S → Prop) : Prop := wX5_isSlot x1 σ (fun r2 σ1 => ((¬ r2 = 0 → ((¬ (σ1 0 13) = 40 → wX5_load x1 (u2 σ1 0 7 0) (fun σ3 => wX5_toHeap  σ3 (fun σ4 => post (σ4 0 13) σ4))) ∧ ((σ1 0 13) = 40 → post ((-104)) σ1))) ∧ (r2 = 0 → post ((-101)) σ1)))

def rmX5_empty : Room := { frames := 0, cells := 0, slots := 0, locals := 0 }
theorem dvX5_empty : ss_dV yX5_empty 0 := by decide +kernel
set_option maxRecDepth 20000 in
def wX5_empty  (σ : ss_S) (post : Int32 → ss_S → Prop) : Prop := post (σ 0 13) (u2 σ 0 13 0)

def rmX5_take : Room := { frames := 2, cells := 0, slots := 0, locals := 45 }
theorem dvX5_take : ss_dV yX5_take 2 := by decide +kernel
set_option maxRecDepth 20000 in
def wX5_take (x1 : Int32) (x2 : Int32) (σ : ss_S) (post : Int32 → ss_S → Prop) : Prop := wX5_isSlot x1 σ (fun r2 σ1 => ((r2 = 0 → post ((-101)) σ1) ∧ (¬ r2 = 0 → wX5_in (Int32.toInt64 x2) 0 (Int32.toInt64 ((σ1 0 13) - 1)) σ1 (fun r4 σ3 => ((¬ r4 = 0 → wX5_loadHeap x2 (u2 σ3 0 7 0) (fun σ5 => wX5_save x1 σ5 (fun r7 σ6 => post r7 σ6))) ∧ (r4 = 0 → post ((-101)) σ3))))))

def rmX5_least : Room := { frames := 4, cells := 0, slots := 0, locals := 97 }
theorem dvX5_least : ss_dV yX5_least 0 := by decide +kernel
def lX5_least_14 (x2 : Int32) (post : Int32 → ss_S → Prop) (k84 : Int32 → Int32 → ss_S → Prop) : Nat → Int32 → Int32 → ss_S → Prop
  | 0, _, _, _ => False
  | n + 1, x1, x3, σ => ((x2 ≤ x3 → k84 x1 x3 σ) ∧ (¬ x2 ≤ x3 → wX5_loadHeap x2 (u2 σ 0 7 0) (fun σ1 => wX5_loadHeap x3 σ1 (fun σ2 => wX5_settle  σ2 (fun σ3 => (vp_in x2 40 ∧ (vp_in x3 40 ∧ ((x1 = ((-1)) → lX5_least_14 x2 post k84 n (((2 * (σ3 0 7)) - (σ3 8 (Int32.toNatClampNeg x2))) - (σ3 8 (Int32.toNatClampNeg x3))) (x3 + 1) σ3) ∧ (¬ x1 = ((-1)) → ((x1 ≤ (((2 * (σ3 0 7)) - (σ3 8 (Int32.toNatClampNeg x2))) - (σ3 8 (Int32.toNatClampNeg x3))) → lX5_least_14 x2 post k84 n x1 (x3 + 1) σ3) ∧ (¬ x1 ≤ (((2 * (σ3 0 7)) - (σ3 8 (Int32.toNatClampNeg x2))) - (σ3 8 (Int32.toNatClampNeg x3))) → lX5_least_14 x2 post k84 n (((2 * (σ3 0 7)) - (σ3 8 (Int32.toNatClampNeg x2))) - (σ3 8 (Int32.toNatClampNeg x3))) (x3 + 1) σ3)))))))))))
def lX5_least_4  (post : Int32 → ss_S → Prop) (k90 : Int32 → Int32 → ss_S → Prop) : Nat → Int32 → Int32 → ss_S → Prop
  | 0, _, _, _ => False
  | n + 1, x1, x2, σ => (((σ 0 13) ≤ x2 → k90 x1 x2 σ) ∧ (¬ (σ 0 13) ≤ x2 → (∃ f_14, lX5_least_14 x2 post (fun x1_4 x3_4 σ_4 => lX5_least_4 post k90 n x1_4 (x2 + 1) σ_4) f_14 x1 0 σ)))
set_option maxRecDepth 20000 in
def wX5_least  (σ : ss_S) (post : Int32 → ss_S → Prop) : Prop := (∃ f_4, lX5_least_4  post (fun x1_5 x2_5 σ_5 => post x1_5 σ_5) f_4 ((-1)) 0 σ)

def rmX5_bare : Room := { frames := 3, cells := 0, slots := 0, locals := 70 }
theorem dvX5_bare : ss_dV yX5_bare 0 := by decide +kernel
def lX5_bare_36 (x1 : Int32) (x2 : Int32) (x4 : Int32) (post : Int32 → ss_S → Prop) (k101 : Int32 → Int32 → ss_S → Prop) : Nat → Int32 → Int32 → ss_S → Prop
  | 0, _, _, _ => False
  | n + 1, x5, x6, σ => (vp_in x4 40 ∧ (((σ 8 (Int32.toNatClampNeg x4)) ≤ x6 → k101 x5 x6 σ) ∧ (¬ (σ 8 (Int32.toNatClampNeg x4)) ≤ x6 → (vp_in ((6 * x4) + x6) 240 ∧ wX5_pivot (σ 9 (Int32.toNatClampNeg ((6 * x4) + x6))) σ (fun r2 σ1 => wX5_figure x5 r2 σ1 (fun r4 σ3 => (¬ (σ3 0 0) = 0 ∧ wX5_sum x5 (σ 9 (Int32.toNatClampNeg ((6 * x4) + x6))) (((σ 0 0) - r4) - ((σ 0 0) - r4) / (σ3 0 0) * (σ3 0 0)) σ3 (fun r6 σ5 => lX5_bare_36 x1 x2 x4 post k101 n r6 (x6 + 1) σ5))))))))
def lX5_bare_17 (x1 : Int32) (x2 : Int32) (post : Int32 → ss_S → Prop) (k118 : Int32 → Int32 → ss_S → Prop) : Nat → Int32 → Int32 → ss_S → Prop
  | 0, _, _, _ => False
  | n + 1, x3, x4, σ => (((σ 0 13) ≤ x4 → k118 x3 x4 σ) ∧ (¬ (σ 0 13) ≤ x4 → ((x3 = 0 → k118 x3 x4 σ) ∧ (¬ x3 = 0 → (∃ f_36, lX5_bare_36 x1 x2 x4 post (fun x5_7 x6_7 σ_7 => ((x5_7 = 0 → lX5_bare_17 x1 x2 post k118 n 0 (x4 + 1) σ_7) ∧ (¬ x5_7 = 0 → lX5_bare_17 x1 x2 post k118 n 1 (x4 + 1) σ_7))) f_36 x2 0 σ)))))
def lX5_bare_4  (post : Int32 → ss_S → Prop) (k136 : Int32 → Int32 → ss_S → Prop) : Nat → Int32 → Int32 → ss_S → Prop
  | 0, _, _, _ => False
  | n + 1, x1, x2, σ => (((σ 0 2) ≤ x2 → k136 x1 x2 σ) ∧ (¬ (σ 0 2) ≤ x2 → (∃ f_17, lX5_bare_17 x1 x2 post (fun x3_8 x4_8 σ_8 => ((x3_8 = 0 → lX5_bare_4 post k136 n (x1 + 0) (x2 + 1) σ_8) ∧ (¬ x3_8 = 0 → lX5_bare_4 post k136 n (x1 + 1) (x2 + 1) σ_8))) f_17 1 0 σ)))
set_option maxRecDepth 20000 in
def wX5_bare  (σ : ss_S) (post : Int32 → ss_S → Prop) : Prop := (∃ f_4, lX5_bare_4  post (fun x1_9 x2_9 σ_9 => post x1_9 σ_9) f_4 0 0 σ)

def rmX5_greedy : Room := { frames := 4, cells := 0, slots := 0, locals := 97 }
theorem dvX5_greedy : ss_dV yX5_greedy 2 := by decide +kernel
def lX5_greedy_90 (x1 : Int32) (x2 : Int32) (x3 : Int32) (x4 : Int32) (post : Int32 → ss_S → Prop) (k148 : Int32 → Int32 → ss_S → Prop) : Nat → Int32 → Int32 → ss_S → Prop
  | 0, _, _, _ => False
  | n + 1, x5, x6, σ => (((σ 0 13) ≤ x6 → k148 x5 x6 σ) ∧ (¬ (σ 0 13) ≤ x6 → ((x5 = 0 → k148 x5 x6 σ) ∧ (¬ x5 = 0 → wX5_lay x1 x4 σ (fun σ7 => wX5_loadHeap x6 σ7 (fun σ8 => wX5_settle  σ8 (fun σ9 => ((((2 * (σ9 0 7)) - (2 * x1)) < x2 → lX5_greedy_90 x1 x2 x3 x4 post k148 n 0 (x6 + 1) σ9) ∧ (¬ ((2 * (σ9 0 7)) - (2 * x1)) < x2 → lX5_greedy_90 x1 x2 x3 x4 post k148 n 1 (x6 + 1) σ9)))))))))
def lX5_greedy_69 (x1 : Int32) (x2 : Int32) (x3 : Int32) (post : Int32 → ss_S → Prop) (k170 : Int32 → ss_S → Prop) : Nat → Int32 → ss_S → Prop
  | 0, _, _ => False
  | n + 1, x4, σ => ((x3 ≤ x4 → k170 x4 σ) ∧ (¬ x3 ≤ x4 → ((40 ≤ (σ 0 13) → k170 x4 σ) ∧ (¬ 40 ≤ (σ 0 13) → (∃ f_90, lX5_greedy_90 x1 x2 x3 x4 post (fun x5_10 x6_10 σ_10 => ((x5_10 = 0 → lX5_greedy_69 x1 x2 x3 post k170 n (x4 + 1) σ_10) ∧ (¬ x5_10 = 0 → wX5_lay x1 x4 σ_10 (fun σ11 => wX5_toHeap  σ11 (fun σ12 => lX5_greedy_69 x1 x2 x3 post k170 n (x4 + 1) σ12))))) f_90 1 0 σ)))))
set_option maxRecDepth 20000 in
def wX5_greedy (x1 : Int32) (x2 : Int32) (σ : ss_S) (post : Int32 → ss_S → Prop) : Prop := wX5_in (Int32.toInt64 x1) 0 (Int32.toInt64 (σ 0 1)) σ (fun r2 σ1 => ((r2 = 0 → post ((-102)) σ1) ∧ (¬ r2 = 0 → wX5_in (Int32.toInt64 x2) 1 12 σ1 (fun r4 σ3 => ((¬ r4 = 0 → ((¬ (σ3 0 4) = 10 → wX5_gauss ((u2 (u2 σ3 0 4 ((σ3 0 4) + 1)) 0 13 0) 0 1) x1 (u2 (u2 σ3 0 4 ((σ3 0 4) + 1)) 0 13 0) (fun r6 σ5 => (∃ f_69, lX5_greedy_69 x1 x2 r6 post (fun x4_13 σ_13 => post (σ_13 0 13) σ_13) f_69 0 σ5))) ∧ ((σ3 0 4) = 10 → post ((-103)) σ3))) ∧ (r4 = 0 → post ((-102)) σ3))))))

def rmX5_image : Room := { frames := 2, cells := 0, slots := 0, locals := 46 }
theorem dvX5_image : ss_dV yX5_image 2 := by decide +kernel
set_option maxRecDepth 20000 in
def wX5_image (x1 : Int32) (x2 : Int32) (σ : ss_S) (post : Int32 → ss_S → Prop) : Prop := wX5_in (Int32.toInt64 x1) 0 (Int32.toInt64 ((σ 0 1) - 1)) σ (fun r2 σ1 => ((r2 = 0 → post ((-101)) σ1) ∧ (¬ r2 = 0 → wX5_isVector x2 σ1 (fun r4 σ3 => ((¬ r4 = 0 → (vp_in x1 6 ∧ (vp_in x1 6 ∧ post (σ3 1 (Int32.toNatClampNeg x1)) (u2 σ3 1 (Int32.toNatClampNeg x1) x2)))) ∧ (r4 = 0 → post ((-101)) σ3))))))

def rmX5_mappedOf : Room := { frames := 3, cells := 0, slots := 0, locals := 70 }
theorem dvX5_mappedOf : ss_dV yX5_mappedOf 1 := by decide +kernel
def lX5_mappedOf_4 (x1 : Int32) (post : Int32 → ss_S → Prop) (k36 : Int32 → Int32 → ss_S → Prop) : Nat → Int32 → Int32 → ss_S → Prop
  | 0, _, _, _ => False
  | n + 1, x2, x3, σ => (((σ 0 1) ≤ x3 → k36 x2 x3 σ) ∧ (¬ (σ 0 1) ≤ x3 → (vp_in x3 6 ∧ wX5_figure x1 x3 σ (fun r2 σ1 => wX5_sum x2 (σ 1 (Int32.toNatClampNeg x3)) r2 σ1 (fun r4 σ3 => lX5_mappedOf_4 x1 post k36 n r4 (x3 + 1) σ3)))))
set_option maxRecDepth 20000 in
def wX5_mappedOf (x1 : Int32) (σ : ss_S) (post : Int32 → ss_S → Prop) : Prop := (∃ f_4, lX5_mappedOf_4 x1 post (fun x2_5 x3_5 σ_5 => post x2_5 σ_5) f_4 0 0 σ)

def rmX5_mapped : Room := { frames := 4, cells := 0, slots := 0, locals := 93 }
theorem dvX5_mapped : ss_dV yX5_mapped 1 := by decide +kernel
set_option maxRecDepth 20000 in
def wX5_mapped (x1 : Int32) (σ : ss_S) (post : Int32 → ss_S → Prop) : Prop := wX5_isVector x1 σ (fun r2 σ1 => ((r2 = 0 → post ((-101)) σ1) ∧ (¬ r2 = 0 → wX5_mappedOf x1 σ1 (fun r4 σ3 => post r4 σ3))))

def rmX5_step : Room := { frames := 4, cells := 0, slots := 0, locals := 97 }
theorem dvX5_step : ss_dV yX5_step 0 := by decide +kernel
def lX5_step_2  (post : ss_S → Prop) (k32 : Int32 → ss_S → Prop) : Nat → Int32 → ss_S → Prop
  | 0, _, _ => False
  | n + 1, x1, σ => (((σ 0 7) ≤ x1 → k32 x1 σ) ∧ (¬ (σ 0 7) ≤ x1 → (vp_in x1 24 ∧ wX5_mappedOf (σ 2 (Int32.toNatClampNeg x1)) σ (fun r2 σ1 => (vp_in x1 24 ∧ lX5_step_2 post k32 n (x1 + 1) (u2 σ1 2 (Int32.toNatClampNeg x1) r2))))))
set_option maxRecDepth 20000 in
def wX5_step  (σ : ss_S) (post : ss_S → Prop) : Prop := (∃ f_2, lX5_step_2  post (fun x1_3 σ_3 => wX5_settle  σ_3 (fun σ4 => post σ4)) f_2 0 σ)

def rmX5_map : Room := { frames := 5, cells := 0, slots := 0, locals := 118 }
theorem dvX5_map : ss_dV yX5_map 2 := by decide +kernel
set_option maxRecDepth 20000 in
def wX5_map (x1 : Int32) (x2 : Int32) (σ : ss_S) (post : Int32 → ss_S → Prop) : Prop := wX5_areSlots x1 x1 x2 σ (fun r2 σ1 => ((¬ r2 = 0 → wX5_load x1 (u2 σ1 0 7 0) (fun σ3 => wX5_step  σ3 (fun σ4 => wX5_save x2 σ4 (fun r6 σ5 => post r6 σ5)))) ∧ (r2 = 0 → post ((-101)) σ1)))

def rmX5_kernel : Room := { frames := 5, cells := 0, slots := 0, locals := 122 }
theorem dvX5_kernel : ss_dV yX5_kernel 1 := by decide +kernel
def lX5_kernel_33 (x1 : Int32) (x2 : Int32) (post : Int32 → ss_S → Prop) (k68 : Int32 → Int32 → ss_S → Prop) : Nat → Int32 → Int32 → ss_S → Prop
  | 0, _, _, _ => False
  | n + 1, x3, x4, σ => (((σ 0 1) ≤ x4 → k68 x3 x4 σ) ∧ (¬ (σ 0 1) ≤ x4 → (vp_in x4 6 ∧ wX5_figure (σ 1 (Int32.toNatClampNeg x4)) x2 σ (fun r4 σ3 => lX5_kernel_33 x1 x2 post k68 n ((x3 * (σ 0 0)) + r4) (x4 + 1) σ3))))
def lX5_kernel_20 (x1 : Int32) (post : Int32 → ss_S → Prop) (k81 : Int32 → ss_S → Prop) : Nat → Int32 → ss_S → Prop
  | 0, _, _ => False
  | n + 1, x2, σ => (((σ 0 1) ≤ x2 → k81 x2 σ) ∧ (¬ (σ 0 1) ≤ x2 → (∃ f_33, lX5_kernel_33 x1 x2 post (fun x3_5 x4_5 σ_5 => (vp_in x2 24 ∧ lX5_kernel_20 x1 post k81 n (x2 + 1) (u2 σ_5 2 (Int32.toNatClampNeg x2) x3_5))) f_33 0 0 σ)))
set_option maxRecDepth 20000 in
def wX5_kernel (x1 : Int32) (σ : ss_S) (post : Int32 → ss_S → Prop) : Prop := wX5_isSlot x1 σ (fun r2 σ1 => ((¬ r2 = 0 → (∃ f_20, lX5_kernel_20 x1 post (fun x2_6 σ_6 => wX5_settle  σ_6 (fun σ7 => wX5_turn  σ7 (fun σ8 => wX5_save x1 σ8 (fun r10 σ9 => post r10 σ9)))) f_20 0 (u2 σ1 0 7 (σ1 0 1)))) ∧ (r2 = 0 → post ((-101)) σ1)))

def rmX5_round : Room := { frames := 5, cells := 0, slots := 0, locals := 118 }
theorem dvX5_round : ss_dV yX5_round 1 := by decide +kernel
def lX5_round_77 (x1 : Int32) (x2 : Int32) (post : Int32 → ss_S → Prop) (k124 : Int32 → Int32 → ss_S → Prop) : Nat → Int32 → Int32 → ss_S → Prop
  | 0, _, _, _ => False
  | n + 1, x3, x4, σ => (((σ 0 7) ≤ x4 → k124 x3 x4 σ) ∧ (¬ (σ 0 7) ≤ x4 → ((x3 = 0 → k124 x3 x4 σ) ∧ (¬ x3 = 0 → (vp_in x4 24 ∧ (vp_in ((6 * x1) + x4) 72 ∧ ((¬ (σ 2 (Int32.toNatClampNeg x4)) = (σ 5 (Int32.toNatClampNeg ((6 * x1) + x4))) → lX5_round_77 x1 x2 post k124 n 0 (x4 + 1) σ) ∧ ((σ 2 (Int32.toNatClampNeg x4)) = (σ 5 (Int32.toNatClampNeg ((6 * x1) + x4))) → lX5_round_77 x1 x2 post k124 n 1 (x4 + 1) σ))))))))
def lX5_round_44 (x1 : Int32) (post : Int32 → ss_S → Prop) (k136 : Int32 → ss_S → Prop) : Nat → Int32 → ss_S → Prop
  | 0, _, _ => False
  | n + 1, x2, σ => ((3000 < x2 → k136 x2 σ) ∧ (¬ 3000 < x2 → wX5_step  σ (fun σ4 => (vp_in x1 12 ∧ ((¬ (σ4 0 7) = (σ4 4 (Int32.toNatClampNeg x1)) → (∃ f_77, lX5_round_77 x1 x2 post (fun x3_5 x4_5 σ_5 => ((x3_5 = 0 → lX5_round_44 x1 post k136 n (x2 + 1) σ_5) ∧ (¬ x3_5 = 0 → post x2 σ_5))) f_77 0 0 σ4)) ∧ ((σ4 0 7) = (σ4 4 (Int32.toNatClampNeg x1)) → (∃ f_77, lX5_round_77 x1 x2 post (fun x3_6 x4_6 σ_6 => ((x3_6 = 0 → lX5_round_44 x1 post k136 n (x2 + 1) σ_6) ∧ (¬ x3_6 = 0 → post x2 σ_6))) f_77 1 0 σ4)))))))
set_option maxRecDepth 20000 in
def wX5_round (x1 : Int32) (σ : ss_S) (post : Int32 → ss_S → Prop) : Prop := wX5_isSlot x1 σ (fun r2 σ1 => ((¬ r2 = 0 → ((¬ (σ1 0 5) = 60 → wX5_load x1 (u2 (u2 σ1 0 5 ((σ1 0 5) + 1)) 0 7 0) (fun σ3 => (∃ f_44, lX5_round_44 x1 post (fun x2_7 σ_7 => post ((-1)) σ_7) f_44 1 σ3))) ∧ ((σ1 0 5) = 60 → post ((-103)) σ1))) ∧ (r2 = 0 → post ((-101)) σ1)))

def rmX5_told : Room := { frames := 0, cells := 0, slots := 0, locals := 0 }
theorem dvX5_told : ss_dV yX5_told 1 := by decide +kernel
set_option maxRecDepth 20000 in
def wX5_told (x1 : Int32) (σ : ss_S) (post : Int32 → ss_S → Prop) : Prop := ((x1 = 0 → post (σ 0 0) σ) ∧ (¬ x1 = 0 → ((x1 = 1 → post (σ 0 1) σ) ∧ (¬ x1 = 1 → ((x1 = 2 → post (σ 0 2) σ) ∧ (¬ x1 = 2 → ((x1 = 3 → post (σ 0 13) σ) ∧ (¬ x1 = 3 → ((x1 = 4 → post (σ 0 4) σ) ∧ (¬ x1 = 4 → ((x1 = 5 → post (σ 0 5) σ) ∧ (¬ x1 = 5 → post ((-102)) σ))))))))))))

def rmX5_digest : Room := { frames := 0, cells := 0, slots := 0, locals := 0 }
theorem dvX5_digest : ss_dV yX5_digest 0 := by decide +kernel
def lX5_digest_53 (x3 : Int32) (post : Int64 → ss_S → Prop) (k90 : Int64 → Int32 → ss_S → Prop) : Nat → Int64 → Int32 → ss_S → Prop
  | 0, _, _, _ => False
  | n + 1, x1, x4, σ => (vp_in x3 12 ∧ (((σ 4 (Int32.toNatClampNeg x3)) ≤ x4 → k90 x1 x4 σ) ∧ (¬ (σ 4 (Int32.toNatClampNeg x3)) ≤ x4 → (vp_in ((6 * x3) + x4) 72 ∧ lX5_digest_53 x3 post k90 n ((31 * x1) + (Int32.toInt64 (σ 5 (Int32.toNatClampNeg ((6 * x3) + x4))))) (x4 + 1) σ))))
def lX5_digest_30  (post : Int64 → ss_S → Prop) (k96 : Int64 → Int32 → ss_S → Prop) : Nat → Int64 → Int32 → ss_S → Prop
  | 0, _, _, _ => False
  | n + 1, x1, x3, σ => ((12 ≤ x3 → k96 x1 x3 σ) ∧ (¬ 12 ≤ x3 → (vp_in x3 12 ∧ (∃ f_53, lX5_digest_53 x3 post (fun x1_1 x4_1 σ_1 => lX5_digest_30 post k96 n x1_1 (x3 + 1) σ_1) f_53 ((31 * x1) + (Int32.toInt64 (σ 4 (Int32.toNatClampNeg x3)))) 0 σ))))
def lX5_digest_123 (x3 : Int32) (post : Int64 → ss_S → Prop) (k160 : Int64 → Int32 → ss_S → Prop) : Nat → Int64 → Int32 → ss_S → Prop
  | 0, _, _, _ => False
  | n + 1, x1, x4, σ => (vp_in x3 40 ∧ (((σ 8 (Int32.toNatClampNeg x3)) ≤ x4 → k160 x1 x4 σ) ∧ (¬ (σ 8 (Int32.toNatClampNeg x3)) ≤ x4 → (vp_in ((6 * x3) + x4) 240 ∧ lX5_digest_123 x3 post k160 n ((31 * x1) + (Int32.toInt64 (σ 9 (Int32.toNatClampNeg ((6 * x3) + x4))))) (x4 + 1) σ))))
def lX5_digest_98  (post : Int64 → ss_S → Prop) (k166 : Int64 → Int32 → ss_S → Prop) : Nat → Int64 → Int32 → ss_S → Prop
  | 0, _, _, _ => False
  | n + 1, x1, x3, σ => (((σ 0 13) ≤ x3 → k166 x1 x3 σ) ∧ (¬ (σ 0 13) ≤ x3 → (vp_in x3 40 ∧ (∃ f_123, lX5_digest_123 x3 post (fun x1_3 x4_3 σ_3 => lX5_digest_98 post k166 n x1_3 (x3 + 1) σ_3) f_123 ((31 * x1) + (Int32.toInt64 (σ 8 (Int32.toNatClampNeg x3)))) 0 σ))))
def lX5_digest_168  (post : Int64 → ss_S → Prop) (k196 : Int64 → Int32 → ss_S → Prop) : Nat → Int64 → Int32 → ss_S → Prop
  | 0, _, _, _ => False
  | n + 1, x1, x3, σ => (((σ 0 1) ≤ x3 → k196 x1 x3 σ) ∧ (¬ (σ 0 1) ≤ x3 → (vp_in x3 6 ∧ lX5_digest_168 post k196 n ((31 * x1) + (Int32.toInt64 (σ 1 (Int32.toNatClampNeg x3)))) (x3 + 1) σ)))
set_option maxRecDepth 20000 in
def wX5_digest  (σ : ss_S) (post : Int64 → ss_S → Prop) : Prop := (∃ f_30, lX5_digest_30  post (fun x1_2 x3_2 σ_2 => (∃ f_98, lX5_digest_98  post (fun x1_4 x3_4 σ_4 => (∃ f_168, lX5_digest_168  post (fun x1_5 x3_5 σ_5 => post ((31 * ((31 * x1_5) + (Int32.toInt64 (σ_5 0 4)))) + (Int32.toInt64 (σ_5 0 5))) σ_5) f_168 x1_4 0 σ_4)) f_98 x1_2 0 σ_2)) f_30 ((31 * ((31 * 167) + (Int32.toInt64 (σ 0 0)))) + (Int32.toInt64 (σ 0 1))) 0 σ)
