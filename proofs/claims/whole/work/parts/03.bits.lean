/-! arrays of naturals as arrays of ints; digits and patches as ints -/
def dd_c (v : Nat → Nat) : Nat → Int32 := fun j => nI (v j)
theorem dd_at (v : Nat → Nat) {m : Nat} (hm : m < 2 ^ 31) : dd_c v (nI m).toNatClampNeg = nI (v m) := by
  rw [nI_clamp hm]; rfl
def dd_up (v : Nat → Nat) (k x : Nat) : Nat → Nat := fun j => if j = k then x else v j
theorem dd_up_c (v : Nat → Nat) (k x : Nat) : upd (dd_c v) k (nI x) = dd_c (dd_up v k x) := by
  funext j
  unfold upd dd_c dd_up
  split <;> rfl
theorem dd_up_s (v : Nat → Nat) (k x : Nat) : dd_up v k x k = x := if_pos rfl
theorem dd_up_n {v : Nat → Nat} {k x j : Nat} (h : j ≠ k) : dd_up v k x j = v j := if_neg h
theorem dd_up_lt {v : Nat → Nat} {k x N : Nat} (hv : ∀ j, v j < N) (hx : x < N) : ∀ j, dd_up v k x j < N := by
  intro j
  by_cases h : j = k
  · subst h; rw [dd_up_s]; exact hx
  · rw [dd_up_n h]; exact hv j
theorem dd_up_up (v : Nat → Nat) (k x : Nat) : dd_up (dd_up v k x) k (v k) = v := by
  funext j
  by_cases h : j = k
  · subst h; rw [dd_up_s]
  · rw [dd_up_n h, dd_up_n h]
theorem dd_pt_s (v w : Nat → Nat) (f b : Nat) : dd_up (dd_pt v w f b) (f + b) (w (f + b)) = dd_pt v w f (b + 1) := by
  funext j
  by_cases h : j = f + b
  · subst h; rw [dd_up_s, dd_pt_in (by omega)]
  · rw [dd_up_n h]
    by_cases h1 : f ≤ j ∧ j < f + b
    · rw [dd_pt_in h1, dd_pt_in (by omega)]
    · rw [dd_pt_out h1, dd_pt_out (by omega)]
-- the first i of a, the rest of b
def dd_mx (a b : Nat → Int32) (i : Nat) : Nat → Int32 := fun j => if j < i then a j else b j
theorem dd_mx_0 (a b : Nat → Int32) : dd_mx a b 0 = b := funext fun j => if_neg (Nat.not_lt_zero j)
theorem dd_mx_lo {a b : Nat → Int32} {i j : Nat} (h : j < i) : dd_mx a b i j = a j := if_pos h
theorem dd_mx_hi {a b : Nat → Int32} {i j : Nat} (h : i ≤ j) : dd_mx a b i j = b j := if_neg (by omega)
theorem dd_mx_s (a b : Nat → Int32) (i : Nat) : upd (dd_mx a b i) i (a i) = dd_mx a b (i + 1) := by
  funext j
  by_cases h : j = i
  · subst h; rw [pk_us, dd_mx_lo (by omega)]
  · rw [pk_un h]
    by_cases h1 : j < i
    · rw [dd_mx_lo h1, dd_mx_lo (by omega)]
    · rw [dd_mx_hi (by omega), dd_mx_hi (by omega)]
-- numbers
theorem dd_ne4 {j : Nat} (h : j < 2 ^ 31) : ¬ nI j = -4 := by
  intro e
  have h1 := congrArg Int32.toInt e
  rw [nI_toInt h, show (-4 : Int32).toInt = -4 from by decide] at h1
  omega
theorem dd_sh : ∀ i, i < 4 → (((3 : Int32) * nI i &&& 31).toBitVec.smod 32).toNat = 3 * i := by decide +kernel
theorem dd_sh1 : ∀ i, i < 3 → (((3 : Int32) * nI (i + 1) - 3 &&& 31).toBitVec.smod 32).toNat = 3 * i := by decide +kernel
theorem dd_p2 {x k : Nat} (h : x < 4096) : x / 2 ^ k < 4096 := Nat.lt_of_le_of_lt (Nat.div_le_self _ _) h
theorem dd_shr {x i : Nat} (hx : x < 4096) (hi : i < 4) : nI x >>> ((3 : Int32) * nI i &&& 31) = nI (x / 2 ^ (3 * i)) :=
  pk_shrN (by omega) _ _ (dd_sh i hi)
theorem dd_shr1 {x i : Nat} (hx : x < 4096) (hi : i < 3) : nI x >>> ((3 : Int32) * nI (i + 1) - 3 &&& 31) = nI (x / 2 ^ (3 * i)) :=
  pk_shrN (by omega) _ _ (dd_sh1 i hi)
theorem dd_rem {y : Nat} (h : y < 4096) : nI y - nI y / 8 * 8 = nI (y % 8) := pk_rem (d := 8) (by omega) (by omega) (by omega)
theorem dd_and7 {y : Nat} (h : y < 4096) : nI y &&& 7 = nI (y % 8) := pk_andN (by omega) 3 (by decide)
-- patches
def dd_pa (x i d : Nat) : Nat := x - dd_dg x i * 2 ^ (3 * i) + d * 2 ^ (3 * i)
theorem dd_pa_lt {x i d : Nat} (hx : x < 4096) (hi : i < 4) (hd : d < 8) : dd_pa x i d < 4096 := by
  rcases (by omega : i = 0 ∨ i = 1 ∨ i = 2 ∨ i = 3) with rfl | rfl | rfl | rfl
  · simp only [dd_pa, dd_dg, Nat.reduceMul, Nat.reducePow]; omega
  · simp only [dd_pa, dd_dg, Nat.reduceMul, Nat.reducePow]; omega
  · simp only [dd_pa, dd_dg, Nat.reduceMul, Nat.reducePow]; omega
  · simp only [dd_pa, dd_dg, Nat.reduceMul, Nat.reducePow]; omega
theorem dd_dg_le (x i : Nat) : dd_dg x i * 2 ^ (3 * i) ≤ x :=
  Nat.le_trans (Nat.mul_le_mul_right _ (Nat.mod_le _ _)) (Nat.div_mul_le_self _ _)
theorem dd_pX1 : ∀ i, i < 4 → ∀ d, d < 8 → ∀ b, b < 8 →
    (nI d - nI b) <<< ((3 : Int32) * nI i &&& 31) = nI (d * 2 ^ (3 * i)) - nI (b * 2 ^ (3 * i)) := by decide +kernel
theorem dd_ring (A B D : Int32) : A + B + (D - B) = A + D := by grind
theorem dd_patchX {x i d : Nat} (hi : i < 4) (hd : d < 8) :
    nI x + ((nI d - nI (dd_dg x i)) <<< ((3 : Int32) * nI i &&& 31)) = nI (dd_pa x i d) := by
  have e : nI x = nI (x - dd_dg x i * 2 ^ (3 * i)) + nI (dd_dg x i * 2 ^ (3 * i)) := by
    rw [nI_add, Nat.sub_add_cancel (dd_dg_le x i)]
  rw [dd_pX1 i hi d hd _ (dd_dg_lt x i)]
  unfold dd_pa
  rw [← nI_add]
  generalize nI (x - dd_dg x i * 2 ^ (3 * i)) = A at e ⊢
  rw [e]
  exact dd_ring _ _ _
def dd_mk (i : Nat) : Int32 := ((7 : Int32) <<< ((3 : Int32) * nI i &&& 31)) ^^^ (-1)
theorem dd_m0 : ∀ x, x < 4096 → nI x &&& dd_mk 0 = nI (x - dd_dg x 0 * 2 ^ (3 * 0)) := by decide +kernel
theorem dd_m1 : ∀ x, x < 4096 → nI x &&& dd_mk 1 = nI (x - dd_dg x 1 * 2 ^ (3 * 1)) := by decide +kernel
theorem dd_m2 : ∀ x, x < 4096 → nI x &&& dd_mk 2 = nI (x - dd_dg x 2 * 2 ^ (3 * 2)) := by decide +kernel
theorem dd_m3 : ∀ x, x < 4096 → nI x &&& dd_mk 3 = nI (x - dd_dg x 3 * 2 ^ (3 * 3)) := by decide +kernel
theorem dd_m {x i : Nat} (hx : x < 4096) (hi : i < 4) : nI x &&& dd_mk i = nI (x - dd_dg x i * 2 ^ (3 * i)) := by
  rcases (by omega : i = 0 ∨ i = 1 ∨ i = 2 ∨ i = 3) with rfl | rfl | rfl | rfl
  · exact dd_m0 x hx
  · exact dd_m1 x hx
  · exact dd_m2 x hx
  · exact dd_m3 x hx
theorem dd_md : ∀ i, i < 4 → ∀ d, d < 8 → dd_mk i &&& (nI d <<< ((3 : Int32) * nI i &&& 31)) = 0 := by decide +kernel
theorem dd_sd : ∀ i, i < 4 → ∀ d, d < 8 → nI d <<< ((3 : Int32) * nI i &&& 31) = nI (d * 2 ^ (3 * i)) := by decide +kernel
theorem dd_or (X M D : Int32) (h : M &&& D = 0) : (X &&& M) ||| D = (X &&& M) + D := by
  have h' : M.toBitVec &&& D.toBitVec = 0#32 := by
    rw [← Int32.toBitVec_and, h]; rfl
  apply Int32.toBitVec_inj.mp
  rw [Int32.toBitVec_or, Int32.toBitVec_add]
  symm
  apply BitVec.add_eq_or_of_and_eq_zero
  rw [Int32.toBitVec_and, BitVec.and_assoc, h', BitVec.and_zero]
theorem dd_patchY {x i d : Nat} (hx : x < 4096) (hi : i < 4) (hd : d < 8) :
    (nI x &&& (((7 : Int32) <<< ((3 : Int32) * nI i &&& 31)) ^^^ (-1))) ||| (nI d <<< ((3 : Int32) * nI i &&& 31)) = nI (dd_pa x i d) := by
  show (nI x &&& dd_mk i) ||| (nI d <<< ((3 : Int32) * nI i &&& 31)) = nI (dd_pa x i d)
  rw [dd_or _ _ _ (dd_md i hi d hd), dd_m hx hi, dd_sd i hi d hd, nI_add]
  rfl
