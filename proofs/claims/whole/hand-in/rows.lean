section
theorem pk_us {f : Nat → Int32} {k : Nat} {x : Int32} : upd f k x k = x := if_pos rfl
theorem pk_un {f : Nat → Int32} {k j : Nat} {x : Int32} (h : j ≠ k) : upd f k x j = f j := if_neg h
theorem pk_sub {a b : Nat} (h : b ≤ a) : nI a - nI b = nI (a - b) := by
  obtain ⟨c, rfl⟩ : ∃ c, a = c + b := ⟨a - b, by omega⟩
  rw [← nI_add, Int32.add_sub_cancel, Nat.add_sub_cancel]
theorem pk_mul (a b : Nat) : nI a * nI b = nI (a * b) := (Int32.ofNat_mul a b).symm
theorem pk_div {a d : Nat} (ha : a < 2 ^ 31) (h0 : 0 < d) (hd : d < 2 ^ 31) : nI a / nI d = nI (a / d) := by
  apply Int32.toInt_inj.mp
  rw [lg_idiv_nonneg (by rw [nI_toInt ha]; omega) (by rw [nI_toInt hd]; omega), nI_toInt ha, nI_toInt hd, nI_toInt (Nat.lt_of_le_of_lt (Nat.div_le_self a d) ha)]
  first | rfl | exact (Int.natCast_ediv _ _).symm
theorem pk_rem {a d : Nat} (ha : a < 2 ^ 31) (h0 : 0 < d) (hd : d < 2 ^ 31) : nI a - nI a / nI d * nI d = nI (a % d) := by
  rw [pk_div ha h0 hd, pk_mul, pk_sub (Nat.div_mul_le_self a d)]
  exact congrArg nI (by have := Nat.div_add_mod' a d; omega)
theorem pk_sub_toInt {a b : Nat} (ha : a < 2 ^ 30) (hb : b < 2 ^ 30) : (nI a - nI b).toInt = (a : Int) - b := by
  rw [Int32.toInt_sub, nI_toInt (by omega), nI_toInt (by omega)]
  exact Int.bmod_eq_of_le (by omega) (by omega)
theorem pk_ix (x : Int32) {n : Nat} (hn : n < 2 ^ 31) : x < 0 ∨ nI n ≤ x ∨ ∃ j : Nat, j < n ∧ x = nI j := by
  by_cases h : x < 0
  · exact Or.inl h
  · obtain ⟨j, hj, rfl⟩ := nI_of h
    by_cases h2 : j < n
    · exact Or.inr (Or.inr ⟨j, h2, rfl⟩)
    · exact Or.inr (Or.inl (nI_le (by omega) hj))
theorem pk_le {x y : Int32} {A B : Prop} (a b : Nat) (f : a ≤ b → A) (g : b < a → B) (hx : x = nI a := by rfl) (hy : y = nI b := by rfl) (ha : a < 2 ^ 31 := by omega) (hb : b < 2 ^ 31 := by omega) : (x ≤ y → A) ∧ (¬ x ≤ y → B) := by
  subst hx hy
  rw [nI_leI ha hb]
  exact ⟨f, fun z => g (by omega)⟩
theorem pk_lt {x y : Int32} {A B : Prop} (a b : Nat) (f : a < b → A) (g : b ≤ a → B) (hx : x = nI a := by rfl) (hy : y = nI b := by rfl) (ha : a < 2 ^ 31 := by omega) (hb : b < 2 ^ 31 := by omega) : (x < y → A) ∧ (¬ x < y → B) := by
  subst hx hy
  rw [nI_ltI ha hb]
  exact ⟨f, fun z => g (by omega)⟩
theorem pk_eq {x y : Int32} {A B : Prop} (a b : Nat) (f : a = b → A) (g : a ≠ b → B) (hx : x = nI a := by rfl) (hy : y = nI b := by rfl) (ha : a < 2 ^ 31 := by omega) (hb : b < 2 ^ 31 := by omega) : (x = y → A) ∧ (¬ x = y → B) := by
  subst hx hy
  rw [nI_eq ha hb]
  exact ⟨f, g⟩
theorem pk_in {x : Int32} (n N : Nat) (h : n < N) (hx : x = nI n := by rfl) (hN : N < 2 ^ 31 := by omega) : vp_in x N := by
  subst hx
  exact vp_in_nI h hN
theorem pk_cl {x : Int32} (n : Nat) (hx : x = nI n := by rfl) (h : n < 2 ^ 31 := by omega) : x.toNatClampNeg = n := by
  subst hx
  exact nI_clamp h
theorem pk_tn {n : Nat} (h : n < 2 ^ 32) : (nI n).toBitVec.toNat = n := Nat.mod_eq_of_lt h
theorem pk_and (x : Int32) {m : Int32} (k : Nat) (hm : m.toBitVec.toNat = 2 ^ k - 1) : x &&& m = nI (x.toBitVec.toNat % 2 ^ k) := by
  apply Int32.toBitVec_inj.mp
  apply BitVec.eq_of_toNat_eq
  rw [Int32.toBitVec_and, BitVec.toNat_and, hm, Nat.and_two_pow_sub_one_eq_mod]
  show _ = (BitVec.ofNat 32 _).toNat
  rw [BitVec.toNat_ofNat]
  exact (Nat.mod_eq_of_lt (Nat.lt_of_le_of_lt (Nat.mod_le _ _) x.toBitVec.isLt)).symm
theorem pk_andN {n : Nat} (h : n < 2 ^ 32) {m : Int32} (k : Nat) (hm : m.toBitVec.toNat = 2 ^ k - 1) : nI n &&& m = nI (n % 2 ^ k) := by
  rw [pk_and _ k hm, pk_tn h]
theorem pk_shl (a s : Int32) (k : Nat) (hs : (s.toBitVec.smod 32).toNat = k) : (a <<< s).toBitVec.toNat = a.toBitVec.toNat * 2 ^ k % 2 ^ 32 := by
  show (a.toBitVec <<< (s.toBitVec.smod 32).toNat).toNat = _
  rw [hs, BitVec.toNat_shiftLeft, Nat.shiftLeft_eq]
theorem pk_shlN {n : Nat} (s : Int32) (k : Nat) (hs : (s.toBitVec.smod 32).toNat = k) (h : n * 2 ^ k < 2 ^ 32) : nI n <<< s = nI (n * 2 ^ k) := by
  apply Int32.toBitVec_inj.mp
  apply BitVec.eq_of_toNat_eq
  have hn : n < 2 ^ 32 := Nat.lt_of_le_of_lt (Nat.le_mul_of_pos_right n (Nat.two_pow_pos k)) h
  rw [pk_shl _ _ k hs, pk_tn hn, pk_tn h, Nat.mod_eq_of_lt h]
theorem pk_shr (a s : Int32) (k : Nat) (hs : (s.toBitVec.smod 32).toNat = k) : (a >>> s).toInt = a.toInt >>> k := by
  show (a.toBitVec.sshiftRight (s.toBitVec.smod 32).toNat).toInt = _
  rw [hs, BitVec.toInt_sshiftRight]
  rfl
theorem pk_shrN {n : Nat} (h : n < 2 ^ 31) (s : Int32) (k : Nat) (hs : (s.toBitVec.smod 32).toNat = k) : nI n >>> s = nI (n / 2 ^ k) := by
  apply Int32.toInt_inj.mp
  have h2 : n / 2 ^ k ≤ n := Nat.div_le_self _ _
  rw [pk_shr _ _ k hs, nI_toInt h, nI_toInt (by omega), Int.shiftRight_eq_div_pow]
  rfl
theorem pk_loop {σ : Type} (W : Nat → Nat → σ → Prop) (I : Nat → σ → Prop) (e i0 : Nat) (s : σ) (hi : i0 ≤ e) (h0 : I i0 s) (hx : ∀ n s, I e s → W (n + 1) e s)
    (hs : ∀ n i s, i < e → I i s → (∀ s', I (i + 1) s' → W n (i + 1) s') → W (n + 1) i s) : ∃ n, W n i0 s :=
  ⟨e + 1, loop_i W I e hx hs (e + 1) i0 s hi (by omega) h0⟩
end
section
/-! the pictures: digits, room, held, used room, sums by values, stores of a stretch -/
def dd_dg (x i : Nat) : Nat := x / 2 ^ (3 * i) % 8
def dd_rr (x : Nat) : Nat → Nat
  | 0 => 1
  | k + 1 => dd_rr x k + if dd_dg x (k + 1) = dd_dg x k then 0 else 1
def dd_rm (x : Nat) : Nat := if x = 0 then 0 else dd_rr x 3 + 1
theorem dd_dg_lt (x i : Nat) : dd_dg x i < 8 := Nat.mod_lt _ (by decide)
theorem dd_rr_le (x : Nat) : ∀ k, dd_rr x k ≤ k + 1
  | 0 => Nat.le_refl _
  | k + 1 => by
    have ih := dd_rr_le x k
    simp only [dd_rr]
    split <;> omega
theorem dd_rr_t {x k : Nat} (h : dd_dg x (k + 1) = dd_dg x k) : dd_rr x (k + 1) = dd_rr x k := by
  simp only [dd_rr]; rw [if_pos h]; rfl
theorem dd_rr_f {x k : Nat} (h : dd_dg x (k + 1) ≠ dd_dg x k) : dd_rr x (k + 1) = dd_rr x k + 1 := by
  simp only [dd_rr]; rw [if_neg h]
theorem dd_rm0 : dd_rm 0 = 0 := rfl
theorem dd_rm_n {x : Nat} (h : x ≠ 0) : dd_rm x = dd_rr x 3 + 1 := if_neg h
theorem dd_rm_le (x : Nat) : dd_rm x ≤ 5 := by
  have h := dd_rr_le x 3
  unfold dd_rm
  split <;> omega
-- held below k
def dd_in (v : Nat → Nat) (x : Nat) : Nat → Bool
  | 0 => false
  | k + 1 => dd_in v x k || (v k == x)
theorem dd_in_iff (v : Nat → Nat) (x : Nat) : ∀ k, dd_in v x k = true ↔ ∃ m, m < k ∧ v m = x
  | 0 => by
    constructor
    · intro h; exact absurd h (by simp [dd_in])
    · rintro ⟨m, hm, _⟩; exact absurd hm (Nat.not_lt_zero m)
  | k + 1 => by
    have ih := dd_in_iff v x k
    simp only [dd_in, Bool.or_eq_true, beq_iff_eq]
    constructor
    · rintro (h | h)
      · obtain ⟨m, hm, e⟩ := ih.mp h
        exact ⟨m, by omega, e⟩
      · exact ⟨k, by omega, h⟩
    · rintro ⟨m, hm, e⟩
      by_cases hk : m = k
      · subst hk; exact Or.inr e
      · exact Or.inl (ih.mpr ⟨m, by omega, e⟩)
theorem dd_in_f {v : Nat → Nat} {x k : Nat} (h : ∀ m, m < k → v m ≠ x) : dd_in v x k = false := by
  cases e : dd_in v x k with
  | false => rfl
  | true =>
    obtain ⟨m, hm, e'⟩ := (dd_in_iff v x k).mp e
    exact absurd e' (h m hm)
theorem dd_in_t {v : Nat → Nat} {x k : Nat} (m : Nat) (h : m < k) (e : v m = x) : dd_in v x k = true :=
  (dd_in_iff v x k).mpr ⟨m, h, e⟩
-- used room
def dd_us (v : Nat → Nat) : Nat → Nat
  | 0 => 0
  | k + 1 => dd_us v k + if dd_in v (v k) k = true then 0 else dd_rm (v k)
theorem dd_us_t {v : Nat → Nat} {k : Nat} (h : dd_in v (v k) k = true) : dd_us v (k + 1) = dd_us v k := by
  simp only [dd_us]; rw [if_pos h]; rfl
theorem dd_us_f {v : Nat → Nat} {k : Nat} (h : dd_in v (v k) k = false) : dd_us v (k + 1) = dd_us v k + dd_rm (v k) := by
  simp only [dd_us]; rw [if_neg (by rw [h]; decide)]
theorem dd_us_b (v : Nat → Nat) : ∀ k, dd_us v k ≤ 5 * k
  | 0 => Nat.le_refl _
  | k + 1 => by
    have ih := dd_us_b v k
    have hr := dd_rm_le (v k)
    simp only [dd_us]
    split <;> omega
-- a sum by values
def dd_sv (p : Nat → Bool) : Nat → Nat
  | 0 => 0
  | x + 1 => dd_sv p x + if p x = true then dd_rm x else 0
theorem dd_sv_eq {p q : Nat → Bool} : ∀ (N : Nat), (∀ x, x < N → p x = q x) → dd_sv p N = dd_sv q N
  | 0, _ => rfl
  | N + 1, h => by
    simp only [dd_sv]
    rw [dd_sv_eq N (fun x hx => h x (by omega)), h N (by omega)]
theorem dd_sv_0 {p : Nat → Bool} (h : ∀ x, p x = false) : ∀ N, dd_sv p N = 0
  | 0 => rfl
  | N + 1 => by
    simp only [dd_sv]
    rw [dd_sv_0 h N, h N]
    rfl
-- two predicates that differ at y alone
theorem dd_sv_pt {p q : Nat → Bool} {y : Nat} (h : ∀ x, x ≠ y → q x = p x) : ∀ (N : Nat), y < N →
    dd_sv q N + (if p y = true then dd_rm y else 0) = dd_sv p N + (if q y = true then dd_rm y else 0)
  | 0, hy => absurd hy (Nat.not_lt_zero y)
  | N + 1, hy => by
    simp only [dd_sv]
    by_cases e : y = N
    · subst e
      rw [dd_sv_eq (p := q) (q := p) y (fun x hx => h x (by omega))]
      omega
    · have ih := dd_sv_pt h N (by omega)
      rw [h N (fun z => e z.symm)]
      omega
theorem dd_us_sv (v : Nat → Nat) (N : Nat) : ∀ k, (∀ m, m < k → v m < N) → dd_us v k = dd_sv (fun x => dd_in v x k) N
  | 0, _ => (dd_sv_0 (fun _ => rfl) N).symm
  | k + 1, h => by
    have ih := dd_us_sv v N k (fun m hm => h m (by omega))
    have s := dd_sv_pt (p := fun x => dd_in v x k) (q := fun x => dd_in v x (k + 1)) (y := v k)
      (fun x hx => by
        have e : (v k == x) = false := beq_eq_false_iff_ne.mpr (fun z => hx z.symm)
        simp only [dd_in, e, Bool.or_false]) N (h k (by omega))
    have t : dd_in v (v k) (k + 1) = true := by simp [dd_in]
    rw [if_pos t] at s
    cases c : dd_in v (v k) k with
    | true =>
      rw [dd_us_t c, ih]
      rw [if_pos c] at s
      omega
    | false =>
      rw [dd_us_f c, ih]
      rw [if_neg (by rw [c]; decide)] at s
      omega
theorem dd_sv_le {p q : Nat → Bool} : ∀ (N : Nat), (∀ x, x < N → p x = true → q x = true ∨ dd_rm x = 0) → dd_sv p N ≤ dd_sv q N
  | 0, _ => Nat.le_refl _
  | N + 1, h => by
    have ih := dd_sv_le N (fun x hx => h x (by omega))
    have hN := h N (by omega)
    simp only [dd_sv]
    by_cases c : p N = true
    · rcases hN c with d | d
      · rw [if_pos c, if_pos d]; omega
      · rw [d]; split <;> split <;> omega
    · rw [if_neg c]; omega
theorem dd_sv_add {p q r : Nat → Bool} : ∀ (N : Nat),
    (∀ x, x < N → (if p x = true then dd_rm x else 0) + (if q x = true then dd_rm x else 0) = if r x = true then dd_rm x else 0) →
    dd_sv p N + dd_sv q N = dd_sv r N
  | 0, _ => rfl
  | N + 1, h => by
    have ih := dd_sv_add N (fun x hx => h x (by omega))
    have hN := h N (by omega)
    simp only [dd_sv]; omega
-- what w holds v holds, or it costs nothing: w's room is no greater
theorem dd_us_le {v w : Nat → Nat} (hv : ∀ m, v m < 4096) (hw : ∀ m, w m < 4096)
    (h : ∀ m, m < 32 → w m = 0 ∨ ∃ j, j < 32 ∧ v j = w m) : dd_us w 32 ≤ dd_us v 32 := by
  rw [dd_us_sv v 4096 32 (fun m _ => hv m), dd_us_sv w 4096 32 (fun m _ => hw m)]
  refine dd_sv_le 4096 (fun x _ hx => ?_)
  obtain ⟨m, hm, e⟩ := (dd_in_iff w x 32).mp hx
  rcases h m hm with z | ⟨j, hj, ej⟩
  · right; rw [← e, z]; rfl
  · left; exact dd_in_t j hj (by rw [ej, e])
-- held from a on, k of them
def dd_bt (v : Nat → Nat) (x a : Nat) : Nat → Bool
  | 0 => false
  | k + 1 => dd_bt v x a k || (v (a + k) == x)
theorem dd_bt_iff (v : Nat → Nat) (x a : Nat) : ∀ k, dd_bt v x a k = true ↔ ∃ m, a ≤ m ∧ m < a + k ∧ v m = x
  | 0 => by
    constructor
    · intro h; exact absurd h (by simp [dd_bt])
    · rintro ⟨m, h1, h2, _⟩; omega
  | k + 1 => by
    have ih := dd_bt_iff v x a k
    simp only [dd_bt, Bool.or_eq_true, beq_iff_eq]
    constructor
    · rintro (h | h)
      · obtain ⟨m, h1, h2, e⟩ := ih.mp h
        exact ⟨m, h1, by omega, e⟩
      · exact ⟨a + k, by omega, by omega, h⟩
    · rintro ⟨m, h1, h2, e⟩
      by_cases hk : m = a + k
      · subst hk; exact Or.inr e
      · exact Or.inl (ih.mpr ⟨m, h1, by omega, e⟩)
theorem dd_bt_f {v : Nat → Nat} {x a k : Nat} (h : ∀ m, a ≤ m → m < a + k → v m ≠ x) : dd_bt v x a k = false := by
  cases e : dd_bt v x a k with
  | false => rfl
  | true =>
    obtain ⟨m, h1, h2, e'⟩ := (dd_bt_iff v x a k).mp e
    exact absurd e' (h m h1 h2)
theorem dd_bt_t {v : Nat → Nat} {x a k : Nat} (m : Nat) (h1 : a ≤ m) (h2 : m < a + k) (e : v m = x) : dd_bt v x a k = true :=
  (dd_bt_iff v x a k).mpr ⟨m, h1, h2, e⟩
-- aloneIn: first holders of the volume from a on with none from e on (d of them)
def dd_al (v : Nat → Nat) (a e d : Nat) : Nat → Nat
  | 0 => 0
  | k + 1 => dd_al v a e d k +
      if dd_in v (v (a + k)) (a + k) = false ∧ dd_bt v (v (a + k)) e d = false then dd_rm (v (a + k)) else 0
theorem dd_al_t {v : Nat → Nat} {a e d k : Nat} (h1 : dd_in v (v (a + k)) (a + k) = false) (h2 : dd_bt v (v (a + k)) e d = false) :
    dd_al v a e d (k + 1) = dd_al v a e d k + dd_rm (v (a + k)) := by
  simp only [dd_al]; rw [if_pos ⟨h1, h2⟩]
theorem dd_al_1 {v : Nat → Nat} {a e d k : Nat} (h1 : dd_in v (v (a + k)) (a + k) = true) : dd_al v a e d (k + 1) = dd_al v a e d k := by
  simp only [dd_al]; rw [if_neg (fun z => by rw [h1] at z; exact absurd z.1 (by decide))]; rfl
theorem dd_al_2 {v : Nat → Nat} {a e d k : Nat} (h2 : dd_bt v (v (a + k)) e d = true) : dd_al v a e d (k + 1) = dd_al v a e d k := by
  simp only [dd_al]; rw [if_neg (fun z => by rw [h2] at z; exact absurd z.2 (by decide))]; rfl
theorem dd_in_bt (v : Nat → Nat) (x a : Nat) : ∀ k, dd_in v x (a + k) = (dd_in v x a || dd_bt v x a k)
  | 0 => by simp [dd_bt]
  | k + 1 => by
    have ih := dd_in_bt v x a k
    show (dd_in v x (a + k) || (v (a + k) == x)) = _
    rw [ih]; simp only [dd_bt, Bool.or_assoc]
theorem dd_al_sv (v : Nat → Nat) (a e d N : Nat) : ∀ k, (∀ m, m < k → v (a + m) < N) →
    dd_al v a e d k = dd_sv (fun x => dd_bt v x a k && !dd_in v x a && !dd_bt v x e d) N
  | 0, _ => (dd_sv_0 (fun _ => rfl) N).symm
  | k + 1, h => by
    have ih := dd_al_sv v a e d N k (fun m hm => h m (by omega))
    have s := dd_sv_pt (p := fun x => dd_bt v x a k && !dd_in v x a && !dd_bt v x e d)
      (q := fun x => dd_bt v x a (k + 1) && !dd_in v x a && !dd_bt v x e d) (y := v (a + k))
      (fun x hx => by
        have e : (v (a + k) == x) = false := beq_eq_false_iff_ne.mpr (fun z => hx z.symm)
        simp only [dd_bt, e, Bool.or_false]) N (h k (by omega))
    have t : dd_bt v (v (a + k)) a (k + 1) = true := by simp [dd_bt]
    have b := dd_in_bt v (v (a + k)) a k
    rw [t] at s
    simp only [dd_al]
    rw [ih, b]
    generalize dd_sv (fun x => dd_bt v x a k && !dd_in v x a && !dd_bt v x e d) N = A at s ⊢
    generalize dd_sv (fun x => dd_bt v x a (k + 1) && !dd_in v x a && !dd_bt v x e d) N = B at s ⊢
    generalize dd_rm (v (a + k)) = R at s ⊢
    generalize dd_bt v (v (a + k)) a k = b1 at s ⊢
    generalize dd_in v (v (a + k)) a = b2 at s ⊢
    generalize dd_bt v (v (a + k)) e d = b3 at s ⊢
    cases b1 <;> cases b2 <;> cases b3 <;> simp at s ⊢ <;> omega
-- a stretch of b from f on with w's values, the rest v's
def dd_pt (v w : Nat → Nat) (f b : Nat) : Nat → Nat := fun j => if f ≤ j ∧ j < f + b then w j else v j
theorem dd_pt_in {v w : Nat → Nat} {f b j : Nat} (h : f ≤ j ∧ j < f + b) : dd_pt v w f b j = w j := if_pos h
theorem dd_pt_out {v w : Nat → Nat} {f b j : Nat} (h : ¬ (f ≤ j ∧ j < f + b)) : dd_pt v w f b j = v j := if_neg h
theorem dd_pt_0 (v w : Nat → Nat) (f : Nat) : dd_pt v w f 0 = v := funext fun j => dd_pt_out (by omega)
theorem dd_pt_k {v w : Nat → Nat} {f b : Nat} (h : v (f + b) = w (f + b)) : dd_pt v w f (b + 1) = dd_pt v w f b := by
  funext j
  by_cases h1 : f ≤ j ∧ j < f + b
  · rw [dd_pt_in h1, dd_pt_in (by omega)]
  · by_cases h2 : j = f + b
    · subst h2
      rw [dd_pt_in (by omega), dd_pt_out (by omega)]
      exact h.symm
    · rw [dd_pt_out h1, dd_pt_out (by omega)]
theorem dd_pt_lt {v w : Nat → Nat} {f b N : Nat} (hv : ∀ j, v j < N) (hw : ∀ j, w j < N) : ∀ j, dd_pt v w f b j < N := by
  intro j
  by_cases h1 : f ≤ j ∧ j < f + b
  · rw [dd_pt_in h1]; exact hw j
  · rw [dd_pt_out h1]; exact hv j
-- the room that a volume gives back
theorem dd_alone {v : Nat → Nat} (hv : ∀ j, v j < 4096) (f : Nat) (hf : f + 8 ≤ 32) :
    dd_al v f (f + 8) (32 - (f + 8)) 8 + dd_us (dd_pt v (fun _ => 0) f 8) 32 = dd_us v 32 := by
  rw [dd_us_sv v 4096 32 (fun m _ => hv m),
    dd_us_sv (dd_pt v (fun _ => 0) f 8) 4096 32 (fun m _ => dd_pt_lt hv (fun _ => by decide) m),
    dd_al_sv v f (f + 8) (32 - (f + 8)) 4096 8 (fun m _ => hv _)]
  refine dd_sv_add 4096 (fun x _ => ?_)
  by_cases hx : x = 0
  · subst hx
    rw [dd_rm0]
    simp only [ite_self]
  · have e1 : dd_in v x 32 = (dd_in v x f || dd_bt v x f 8 || dd_bt v x (f + 8) (32 - (f + 8))) := by
      have h1 := dd_in_bt v x f 8
      have h2 := dd_in_bt v x (f + 8) (32 - (f + 8))
      rw [show f + 8 + (32 - (f + 8)) = 32 from by omega] at h2
      rw [h2, h1]
    have e2 : dd_in (dd_pt v (fun _ => 0) f 8) x 32 = (dd_in v x f || dd_bt v x (f + 8) (32 - (f + 8))) := by
      apply Bool.eq_iff_iff.mpr
      rw [dd_in_iff, Bool.or_eq_true, dd_in_iff, dd_bt_iff]
      constructor
      · rintro ⟨m, hm, e⟩
        by_cases h : f ≤ m ∧ m < f + 8
        · rw [dd_pt_in h] at e
          exact absurd e.symm hx
        · rw [dd_pt_out h] at e
          by_cases h1 : m < f
          · exact Or.inl ⟨m, h1, e⟩
          · exact Or.inr ⟨m, by omega, by omega, e⟩
      · rintro (⟨m, hm, e⟩ | ⟨m, h1, h2, e⟩)
        · exact ⟨m, by omega, by rw [dd_pt_out (by omega)]; exact e⟩
        · exact ⟨m, by omega, by rw [dd_pt_out (by omega)]; exact e⟩
    rw [e1, e2]
    generalize dd_rm x = R
    generalize dd_in v x f = b1
    generalize dd_bt v x f 8 = b2
    generalize dd_bt v x (f + 8) (32 - (f + 8)) = b3
    cases b1 <;> cases b2 <;> cases b3 <;> simp
-- counts
def dd_ct (v : Nat → Nat) (x : Nat) : Nat → Nat
  | 0 => 0
  | k + 1 => dd_ct v x k + if v k = x then 1 else 0
theorem dd_ct_t {v : Nat → Nat} {x k : Nat} (h : v k = x) : dd_ct v x (k + 1) = dd_ct v x k + 1 := by
  simp only [dd_ct]; rw [if_pos h]
theorem dd_ct_f {v : Nat → Nat} {x k : Nat} (h : v k ≠ x) : dd_ct v x (k + 1) = dd_ct v x k := by
  simp only [dd_ct]; rw [if_neg h]; rfl
theorem dd_ct_b (v : Nat → Nat) (x : Nat) : ∀ k, dd_ct v x k ≤ k
  | 0 => Nat.le_refl _
  | k + 1 => by
    have ih := dd_ct_b v x k
    simp only [dd_ct]
    split <;> omega
def dd_ds (v : Nat → Nat) : Nat → Nat
  | 0 => 0
  | k + 1 => dd_ds v k + if v k ≠ 0 ∧ dd_in v (v k) k = false then 1 else 0
theorem dd_ds_t {v : Nat → Nat} {k : Nat} (h0 : v k ≠ 0) (h : dd_in v (v k) k = false) : dd_ds v (k + 1) = dd_ds v k + 1 := by
  simp only [dd_ds]; rw [if_pos ⟨h0, h⟩]
theorem dd_ds_1 {v : Nat → Nat} {k : Nat} (h0 : v k = 0) : dd_ds v (k + 1) = dd_ds v k := by
  simp only [dd_ds]; rw [if_neg (fun z => z.1 h0)]; rfl
theorem dd_ds_2 {v : Nat → Nat} {k : Nat} (h : dd_in v (v k) k = true) : dd_ds v (k + 1) = dd_ds v k := by
  simp only [dd_ds]; rw [if_neg (fun z => by rw [h] at z; exact absurd z.2 (by decide))]; rfl
def dd_sm (v : Nat → Nat) : Nat → Nat
  | 0 => 0
  | k + 1 => dd_sm v k + dd_rm (v k)
-- in how many of the first b places of the stretch from f on v and w differ
def dd_df (v w : Nat → Nat) (f : Nat) : Nat → Nat
  | 0 => 0
  | b + 1 => dd_df v w f b + if v (f + b) = w (f + b) then 0 else 1
theorem dd_df_t {v w : Nat → Nat} {f b : Nat} (h : v (f + b) = w (f + b)) : dd_df v w f (b + 1) = dd_df v w f b := by
  simp only [dd_df]; rw [if_pos h]; rfl
theorem dd_df_f {v w : Nat → Nat} {f b : Nat} (h : v (f + b) ≠ w (f + b)) : dd_df v w f (b + 1) = dd_df v w f b + 1 := by
  simp only [dd_df]; rw [if_neg h]
-- favourite: best and most after the first k blocks
def dd_fv (v : Nat → Nat) : Nat → Int32 × Int32
  | 0 => (-4, 0)
  | k + 1 =>
    if v k ≠ 0 ∧ ((dd_fv v k).2 < nI (dd_ct v (v k) 32) ∨ (nI (dd_ct v (v k) 32) = (dd_fv v k).2 ∧ nI (v k) < (dd_fv v k).1))
    then (nI (v k), nI (dd_ct v (v k) 32)) else dd_fv v k
theorem dd_fv_t {v : Nat → Nat} {k : Nat} (h0 : v k ≠ 0)
    (h : (dd_fv v k).2 < nI (dd_ct v (v k) 32) ∨ (nI (dd_ct v (v k) 32) = (dd_fv v k).2 ∧ nI (v k) < (dd_fv v k).1)) :
    dd_fv v (k + 1) = (nI (v k), nI (dd_ct v (v k) 32)) := by
  simp only [dd_fv]; rw [if_pos ⟨h0, h⟩]
theorem dd_fv_1 {v : Nat → Nat} {k : Nat} (h0 : v k = 0) : dd_fv v (k + 1) = dd_fv v k := by
  simp only [dd_fv]; rw [if_neg (fun z => z.1 h0)]
theorem dd_fv_2 {v : Nat → Nat} {k : Nat}
    (h : ¬ ((dd_fv v k).2 < nI (dd_ct v (v k) 32) ∨ (nI (dd_ct v (v k) 32) = (dd_fv v k).2 ∧ nI (v k) < (dd_fv v k).1))) :
    dd_fv v (k + 1) = dd_fv v k := by
  simp only [dd_fv]; rw [if_neg (fun z => h z.2)]
end
section
/-! arrays of naturals as arrays of ints; digits and patches as ints -/
def dd_c (v : Nat → Nat) : Nat → Int32 := fun j => nI (v j)
theorem dd_at (v : Nat → Nat) {m : Nat} (hm : m < 2 ^ 31) : dd_c v (nI m).toNatClampNeg = nI (v m) := by
  rw [nI_clamp hm]; rfl
def dd_up (v : Nat → Nat) (k x : Nat) : Nat → Nat := fun j => if j = k then x else v j
theorem dd_up_c (v : Nat → Nat) (k x : Nat) : upd (dd_c v) k (nI x) = dd_c (dd_up v k x) := by
  funext j
  unfold upd dd_c dd_up
  split <;> rfl
theorem dd_up_s (v : Nat → Nat) (k x : Nat) : dd_up v k x k = x := if_pos rfl
theorem dd_up_n {v : Nat → Nat} {k x j : Nat} (h : j ≠ k) : dd_up v k x j = v j := if_neg h
theorem dd_up_lt {v : Nat → Nat} {k x N : Nat} (hv : ∀ j, v j < N) (hx : x < N) : ∀ j, dd_up v k x j < N := by
  intro j
  by_cases h : j = k
  · subst h; rw [dd_up_s]; exact hx
  · rw [dd_up_n h]; exact hv j
theorem dd_up_up (v : Nat → Nat) (k x : Nat) : dd_up (dd_up v k x) k (v k) = v := by
  funext j
  by_cases h : j = k
  · subst h; rw [dd_up_s]
  · rw [dd_up_n h, dd_up_n h]
theorem dd_pt_s (v w : Nat → Nat) (f b : Nat) : dd_up (dd_pt v w f b) (f + b) (w (f + b)) = dd_pt v w f (b + 1) := by
  funext j
  by_cases h : j = f + b
  · subst h; rw [dd_up_s, dd_pt_in (by omega)]
  · rw [dd_up_n h]
    by_cases h1 : f ≤ j ∧ j < f + b
    · rw [dd_pt_in h1, dd_pt_in (by omega)]
    · rw [dd_pt_out h1, dd_pt_out (by omega)]
-- the first i of a, the rest of b
def dd_mx (a b : Nat → Int32) (i : Nat) : Nat → Int32 := fun j => if j < i then a j else b j
theorem dd_mx_0 (a b : Nat → Int32) : dd_mx a b 0 = b := funext fun j => if_neg (Nat.not_lt_zero j)
theorem dd_mx_lo {a b : Nat → Int32} {i j : Nat} (h : j < i) : dd_mx a b i j = a j := if_pos h
theorem dd_mx_hi {a b : Nat → Int32} {i j : Nat} (h : i ≤ j) : dd_mx a b i j = b j := if_neg (by omega)
theorem dd_mx_s (a b : Nat → Int32) (i : Nat) : upd (dd_mx a b i) i (a i) = dd_mx a b (i + 1) := by
  funext j
  by_cases h : j = i
  · subst h; rw [pk_us, dd_mx_lo (by omega)]
  · rw [pk_un h]
    by_cases h1 : j < i
    · rw [dd_mx_lo h1, dd_mx_lo (by omega)]
    · rw [dd_mx_hi (by omega), dd_mx_hi (by omega)]
-- numbers
theorem dd_ne4 {j : Nat} (h : j < 2 ^ 31) : ¬ nI j = -4 := by
  intro e
  have h1 := congrArg Int32.toInt e
  rw [nI_toInt h, show (-4 : Int32).toInt = -4 from by decide] at h1
  omega
theorem dd_sh : ∀ i, i < 4 → (((3 : Int32) * nI i &&& 31).toBitVec.smod 32).toNat = 3 * i := by decide +kernel
theorem dd_sh1 : ∀ i, i < 3 → (((3 : Int32) * nI (i + 1) - 3 &&& 31).toBitVec.smod 32).toNat = 3 * i := by decide +kernel
theorem dd_p2 {x k : Nat} (h : x < 4096) : x / 2 ^ k < 4096 := Nat.lt_of_le_of_lt (Nat.div_le_self _ _) h
theorem dd_shr {x i : Nat} (hx : x < 4096) (hi : i < 4) : nI x >>> ((3 : Int32) * nI i &&& 31) = nI (x / 2 ^ (3 * i)) :=
  pk_shrN (by omega) _ _ (dd_sh i hi)
theorem dd_shr1 {x i : Nat} (hx : x < 4096) (hi : i < 3) : nI x >>> ((3 : Int32) * nI (i + 1) - 3 &&& 31) = nI (x / 2 ^ (3 * i)) :=
  pk_shrN (by omega) _ _ (dd_sh1 i hi)
theorem dd_rem {y : Nat} (h : y < 4096) : nI y - nI y / 8 * 8 = nI (y % 8) := pk_rem (d := 8) (by omega) (by omega) (by omega)
theorem dd_and7 {y : Nat} (h : y < 4096) : nI y &&& 7 = nI (y % 8) := pk_andN (by omega) 3 (by decide)
-- patches
def dd_pa (x i d : Nat) : Nat := x - dd_dg x i * 2 ^ (3 * i) + d * 2 ^ (3 * i)
theorem dd_pa_lt {x i d : Nat} (hx : x < 4096) (hi : i < 4) (hd : d < 8) : dd_pa x i d < 4096 := by
  rcases (by omega : i = 0 ∨ i = 1 ∨ i = 2 ∨ i = 3) with rfl | rfl | rfl | rfl
  · simp only [dd_pa, dd_dg, Nat.reduceMul, Nat.reducePow]; omega
  · simp only [dd_pa, dd_dg, Nat.reduceMul, Nat.reducePow]; omega
  · simp only [dd_pa, dd_dg, Nat.reduceMul, Nat.reducePow]; omega
  · simp only [dd_pa, dd_dg, Nat.reduceMul, Nat.reducePow]; omega
theorem dd_dg_le (x i : Nat) : dd_dg x i * 2 ^ (3 * i) ≤ x :=
  Nat.le_trans (Nat.mul_le_mul_right _ (Nat.mod_le _ _)) (Nat.div_mul_le_self _ _)
theorem dd_pX1 : ∀ i, i < 4 → ∀ d, d < 8 → ∀ b, b < 8 →
    (nI d - nI b) <<< ((3 : Int32) * nI i &&& 31) = nI (d * 2 ^ (3 * i)) - nI (b * 2 ^ (3 * i)) := by decide +kernel
theorem dd_ring (A B D : Int32) : A + B + (D - B) = A + D := by grind
theorem dd_patchX {x i d : Nat} (hi : i < 4) (hd : d < 8) :
    nI x + ((nI d - nI (dd_dg x i)) <<< ((3 : Int32) * nI i &&& 31)) = nI (dd_pa x i d) := by
  have e : nI x = nI (x - dd_dg x i * 2 ^ (3 * i)) + nI (dd_dg x i * 2 ^ (3 * i)) := by
    rw [nI_add, Nat.sub_add_cancel (dd_dg_le x i)]
  rw [dd_pX1 i hi d hd _ (dd_dg_lt x i)]
  unfold dd_pa
  rw [← nI_add]
  generalize nI (x - dd_dg x i * 2 ^ (3 * i)) = A at e ⊢
  rw [e]
  exact dd_ring _ _ _
def dd_mk (i : Nat) : Int32 := ((7 : Int32) <<< ((3 : Int32) * nI i &&& 31)) ^^^ (-1)
theorem dd_m0 : ∀ x, x < 4096 → nI x &&& dd_mk 0 = nI (x - dd_dg x 0 * 2 ^ (3 * 0)) := by decide +kernel
theorem dd_m1 : ∀ x, x < 4096 → nI x &&& dd_mk 1 = nI (x - dd_dg x 1 * 2 ^ (3 * 1)) := by decide +kernel
theorem dd_m2 : ∀ x, x < 4096 → nI x &&& dd_mk 2 = nI (x - dd_dg x 2 * 2 ^ (3 * 2)) := by decide +kernel
theorem dd_m3 : ∀ x, x < 4096 → nI x &&& dd_mk 3 = nI (x - dd_dg x 3 * 2 ^ (3 * 3)) := by decide +kernel
theorem dd_m {x i : Nat} (hx : x < 4096) (hi : i < 4) : nI x &&& dd_mk i = nI (x - dd_dg x i * 2 ^ (3 * i)) := by
  rcases (by omega : i = 0 ∨ i = 1 ∨ i = 2 ∨ i = 3) with rfl | rfl | rfl | rfl
  · exact dd_m0 x hx
  · exact dd_m1 x hx
  · exact dd_m2 x hx
  · exact dd_m3 x hx
theorem dd_md : ∀ i, i < 4 → ∀ d, d < 8 → dd_mk i &&& (nI d <<< ((3 : Int32) * nI i &&& 31)) = 0 := by decide +kernel
theorem dd_sd : ∀ i, i < 4 → ∀ d, d < 8 → nI d <<< ((3 : Int32) * nI i &&& 31) = nI (d * 2 ^ (3 * i)) := by decide +kernel
theorem dd_or (X M D : Int32) (h : M &&& D = 0) : (X &&& M) ||| D = (X &&& M) + D := by
  have h' : M.toBitVec &&& D.toBitVec = 0#32 := by
    rw [← Int32.toBitVec_and, h]; rfl
  apply Int32.toBitVec_inj.mp
  rw [Int32.toBitVec_or, Int32.toBitVec_add]
  symm
  apply BitVec.add_eq_or_of_and_eq_zero
  rw [Int32.toBitVec_and, BitVec.and_assoc, h', BitVec.and_zero]
theorem dd_patchY {x i d : Nat} (hx : x < 4096) (hi : i < 4) (hd : d < 8) :
    (nI x &&& (((7 : Int32) <<< ((3 : Int32) * nI i &&& 31)) ^^^ (-1))) ||| (nI d <<< ((3 : Int32) * nI i &&& 31)) = nI (dd_pa x i d) := by
  show (nI x &&& dd_mk i) ||| (nI d <<< ((3 : Int32) * nI i &&& 31)) = nI (dd_pa x i d)
  rw [dd_or _ _ _ (dd_md i hi d hd), dd_m hx hi, dd_sd i hi d hd, nI_add]
  rfl
end
section
/-! X's methods against the pictures -/
theorem dd_lt {v : Nat → Nat} (hv : ∀ j, v j < 4096) (k : Nat) : v k < 2 ^ 31 := Nat.lt_trans (hv k) (by decide)
theorem dd_us_31 (v : Nat → Nat) : dd_us v 32 < 2 ^ 31 := Nat.lt_of_le_of_lt (dd_us_b v 32) (by decide)
theorem dd_ct_31 (v : Nat → Nat) (x : Nat) : dd_ct v x 32 < 2 ^ 31 := Nat.lt_of_le_of_lt (dd_ct_b v x 32) (by decide)
def dd_out (N p : Int32) : Prop := p < 0 ∨ N ≤ p
theorem dd_split (p : Int32) {N : Nat} (hN : N < 2 ^ 31) : dd_out (nI N) p ∨ ∃ n, n < N ∧ p = nI n := by
  rcases pk_ix p hN with h | h | h
  · exact Or.inl (Or.inl h)
  · exact Or.inl (Or.inr h)
  · exact Or.inr h
theorem dx_blk_t {post : Int32 → Prop} {n : Nat} (hn : n < 32) (h : post 1) : wpX_isBlock post (nI n) :=
  br_f (nI_pos (by omega)) (br_f (nI_ge (b := 32) hn (by decide)) h)
theorem dx_blk_f {post : Int32 → Prop} {p : Int32} (hp : dd_out 32 p) (h : post 0) : wpX_isBlock post p := by
  by_cases c : p < 0
  · exact br_t c h
  · exact br_f c (br_t (hp.resolve_left c) h)
theorem dx_vol_t {post : Int32 → Prop} {n : Nat} (hn : n < 4) (h : post 1) : wpX_isVolume post (nI n) :=
  br_f (nI_pos (by omega)) (br_f (nI_ge (b := 4) hn (by decide)) h)
theorem dx_vol_f {post : Int32 → Prop} {p : Int32} (hp : dd_out 4 p) (h : post 0) : wpX_isVolume post p := by
  by_cases c : p < 0
  · exact br_t c h
  · exact br_f c (br_t (hp.resolve_left c) h)
theorem dx_con_t {post : Int32 → Prop} {n : Nat} (hn : n < 4096) (h : post 1) : wpX_isContent post (nI n) :=
  br_f (nI_pos (by omega)) (br_f (nI_ge (b := 4096) hn (by decide)) h)
theorem dx_con_f {post : Int32 → Prop} {p : Int32} (hp : dd_out 4096 p) (h : post 0) : wpX_isContent post p := by
  by_cases c : p < 0
  · exact br_t c h
  · exact br_f c (br_t (hp.resolve_left c) h)
-- findHolder
theorem dx_find_l {post : Int32 → Prop} {v : Nat → Nat} {x a e : Nat} (hv : ∀ j, v j < 4096) (hx : x < 4096) (he : e ≤ 32)
    (hj : ∀ j, a ≤ j → j < e → v j = x → (∀ m, a ≤ m → m < j → v m ≠ x) → post (nI j))
    (hn : (∀ m, a ≤ m → m < e → v m ≠ x) → post (-4)) :
    ∀ d k, k + d = e → a ≤ k → (∀ m, a ≤ m → m < k → v m ≠ x) → wX_findHolder_3 post (nI x) (nI e) (dd_c v) (d + 1) (nI k)
  | 0, k, hd, _, hm => by
    obtain rfl : k = e := by omega
    exact br_t (nI_le (Nat.le_refl _) (by omega)) (hn hm)
  | d + 1, k, hd, hk, hm => by
    refine br_f (nI_ge (by omega) (by omega)) ⟨vp_in_nI (by omega) (by decide), ?_⟩
    refine pk_eq (v k) x (fun e => hj k hk (by omega) e hm) (fun ne => nm_r (nI_1 k) ?_) (dd_at v (by omega)) rfl (dd_lt hv k) (by omega)
    refine dx_find_l hv hx he hj hn d (k + 1) (by omega) (by omega) (fun m h1 h2 => ?_)
    by_cases c : m = k
    · subst c; exact ne
    · exact hm m h1 (by omega)
theorem dx_find {post : Int32 → Prop} {v : Nat → Nat} {x a e : Nat} (hv : ∀ j, v j < 4096) (hx : x < 4096) (ha : a ≤ e) (he : e ≤ 32)
    (hj : ∀ j, a ≤ j → j < e → v j = x → (∀ m, a ≤ m → m < j → v m ≠ x) → post (nI j))
    (hn : (∀ m, a ≤ m → m < e → v m ≠ x) → post (-4)) : wpX_findHolder post (dd_c v) (nI x) (nI a) (nI e) :=
  ⟨e - a + 1, dx_find_l hv hx he hj hn (e - a) a (by omega) (Nat.le_refl _) (fun m h1 h2 => absurd h1 (by omega))⟩
theorem dx_first {post : Int32 → Prop} {v : Nat → Nat} {n : Nat} (hv : ∀ j, v j < 4096) (hn : n < 32)
    (ht : dd_in v (v n) n = true → post 0) (hf : dd_in v (v n) n = false → post 1) : wpX_isFirstHolder post (dd_c v) (nI n) := by
  refine ⟨vp_in_nI hn (by decide), ?_⟩
  rw [dd_at v (by omega)]
  refine dx_find (a := 0) hv (hv n) (Nat.zero_le _) (by omega) (fun j _ h2 e _ => ?_) (fun h => ?_)
  · exact br_f (dd_ne4 (by omega)) (ht (dd_in_t j h2 e))
  · exact br_t rfl (hf (dd_in_f (fun m hm => h m (Nat.zero_le _) hm)))
-- room
theorem dx_digit {post : Int32 → Prop} {x i : Nat} (hx : x < 4096) (hi : i < 4) (h : post (nI (dd_dg x i))) : wpX_digit post (nI x) (nI i) := by
  refine ⟨by decide, ?_⟩
  rw [dd_shr hx hi, dd_rem (dd_p2 hx)]
  exact h
theorem dx_room_l {post : Int32 → Prop} {x : Nat} (hx : x < 4096) (h : post (nI (dd_rr x 3 + 1))) :
    ∀ d k, k + d = 3 → wX_room_10 post (nI x) (d + 1) (nI (dd_rr x k)) (nI (k + 1))
  | 0, k, hd => by
    obtain rfl : k = 3 := by omega
    refine br_t (by decide) ?_
    rw [nI_1]
    exact h
  | d + 1, k, hd => by
    have K : ∀ s, dd_rr x (k + 1) = s → wX_room_10 post (nI x) (d + 1) (nI s) (nI (k + 1 + 1)) := by
      intro s hs
      subst hs
      exact dx_room_l hx h d (k + 1) (by omega)
    refine br_f (nI_ge (b := 4) (by omega) (by decide)) ?_
    refine dx_digit hx (by omega) ?_
    rw [nI_pred]
    refine dx_digit hx (by omega) ?_
    exact pk_eq (dd_dg x (k + 1)) (dd_dg x k) (fun e => nm_r (nI_1 _) (K _ (dd_rr_t e)))
      (fun e => nm_r (nI_1 _) (nm_r (nI_1 _) (K _ (dd_rr_f e)))) rfl rfl
      (Nat.lt_trans (dd_dg_lt _ _) (by decide)) (Nat.lt_trans (dd_dg_lt _ _) (by decide))
theorem dx_room {post : Int32 → Prop} {x : Nat} (hx : x < 4096) (h : post (nI (dd_rm x))) : wpX_room post (nI x) := by
  refine pk_eq x 0 (fun e => ?_) (fun e => ⟨4, ?_⟩) rfl rfl (by omega) (by omega)
  · subst e
    exact h
  · rw [dd_rm_n e] at h
    exact dx_room_l hx h 3 0 rfl
-- usedRoom
theorem dx_used_l {post : Int32 → Prop} {v : Nat → Nat} (hv : ∀ j, v j < 4096) (h : post (nI (dd_us v 32))) :
    ∀ d k, k + d = 32 → wX_usedRoom_4 post (dd_c v) (d + 1) (nI (dd_us v k)) (nI k)
  | 0, k, hd => by
    obtain rfl : k = 32 := by omega
    exact br_t (by decide) h
  | d + 1, k, hd => by
    have K : ∀ s, dd_us v (k + 1) = s → wX_usedRoom_4 post (dd_c v) (d + 1) (nI s) (nI (k + 1)) := by
      intro s hs
      subst hs
      exact dx_used_l hv h d (k + 1) (by omega)
    refine br_f (nI_ge (b := 32) (by omega) (by decide)) ?_
    refine dx_first hv (by omega) (fun e => br_t rfl (nm_r (nI_1 k) (K _ (dd_us_t e))))
      (fun e => br_f (by decide) ⟨vp_in_nI (by omega) (by decide), ?_⟩)
    rw [dd_at v (by omega)]
    exact dx_room (hv k) (nm_r (nI_add _ _) (nm_r (nI_1 k) (K _ (dd_us_f e))))
theorem dx_used {post : Int32 → Prop} {v : Nat → Nat} (hv : ∀ j, v j < 4096) (h : post (nI (dd_us v 32))) : wpX_usedRoom post (dd_c v) :=
  ⟨33, dx_used_l hv h 32 0 rfl⟩
-- countHolders
theorem dx_count_l {post : Int32 → Prop} {v : Nat → Nat} {x : Nat} (hv : ∀ j, v j < 4096) (hx : x < 4096) (h : post (nI (dd_ct v x 32))) :
    ∀ d k, k + d = 32 → wX_countHolders_4 post (nI x) (dd_c v) (d + 1) (nI (dd_ct v x k)) (nI k)
  | 0, k, hd => by
    obtain rfl : k = 32 := by omega
    exact br_t (by decide) h
  | d + 1, k, hd => by
    have K : ∀ s, dd_ct v x (k + 1) = s → wX_countHolders_4 post (nI x) (dd_c v) (d + 1) (nI s) (nI (k + 1)) := by
      intro s hs
      subst hs
      exact dx_count_l hv hx h d (k + 1) (by omega)
    refine br_f (nI_ge (b := 32) (by omega) (by decide)) ⟨vp_in_nI (by omega) (by decide), ?_⟩
    exact pk_eq (v k) x (fun e => nm_r (nI_1 _) (nm_r (nI_1 k) (K _ (dd_ct_t e)))) (fun e => nm_r (nI_1 k) (K _ (dd_ct_f e)))
      (dd_at v (by omega)) rfl (dd_lt hv k) (by omega)
theorem dx_count {post : Int32 → Prop} {v : Nat → Nat} {x : Nat} (hv : ∀ j, v j < 4096) (hx : x < 4096) (h : post (nI (dd_ct v x 32))) :
    wpX_countHolders post (dd_c v) (nI x) := ⟨33, dx_count_l hv hx h 32 0 rfl⟩
-- put
theorem dx_put {post : Int32 → SX → Prop} {v : Nat → Nat} {n x : Nat} (hv : ∀ j, v j < 4096) (hn : n < 32) (hx : x < 4096)
    (h1 : dd_us (dd_up v n x) 32 ≤ 48 → post 1 (dd_c (dd_up v n x))) (h0 : 48 < dd_us (dd_up v n x) 32 → post 0 (dd_c v)) :
    wpX_put post (dd_c v) (nI n) (nI x) := by
  have hi : vp_in (nI n) 32 := vp_in_nI hn (by decide)
  have e1 : upd (dd_c v) (nI n).toNatClampNeg (nI x) = dd_c (dd_up v n x) := by rw [nI_clamp (by omega)]; exact dd_up_c v n x
  have e2 : upd (dd_c (dd_up v n x)) (nI n).toNatClampNeg (nI (v n)) = dd_c v := by
    rw [nI_clamp (by omega), dd_up_c, dd_up_up]
  refine ⟨hi, nm_r (dd_at v (by omega)) ⟨hi, nm_r e1 ?_⟩⟩
  refine dx_used (dd_up_lt hv hx) ?_
  exact pk_le (dd_us (dd_up v n x) 32) 48 h1 (fun g => ⟨hi, nm_r e2 (h0 g)⟩) rfl rfl (dd_us_31 _) (by decide)
end
section
/-! Y's methods against the pictures -/
theorem dd_31 {p : Int32} (h : (32 : Int32) ≤ p) : (31 : Int32) < p := Int32.lt_of_lt_of_le (by decide) h
theorem dd_3 {p : Int32} (h : (4 : Int32) ≤ p) : (3 : Int32) < p := Int32.lt_of_lt_of_le (by decide) h
theorem dd_4095 {p : Int32} (h : (4096 : Int32) ≤ p) : (4095 : Int32) < p := Int32.lt_of_lt_of_le (by decide) h
theorem dy_blk_t {post : Int32 → Prop} {c g : Nat → Int32} {n : Nat} (hn : n < 32) (h : post 1) : wpY_isBlock post (c, g) (nI n) :=
  br_f (nI_pos (by omega)) (br_f (nI_nlt (a := 31) (by omega) (by decide)) h)
theorem dy_blk_f {post : Int32 → Prop} {c g : Nat → Int32} {p : Int32} (hp : dd_out 32 p) (h : post 0) : wpY_isBlock post (c, g) p := by
  by_cases z : p < 0
  · exact br_t z h
  · exact br_f z (br_t (dd_31 (hp.resolve_left z)) h)
theorem dy_vol_t {post : Int32 → Prop} {c g : Nat → Int32} {n : Nat} (hn : n < 4) (h : post 1) : wpY_isVolume post (c, g) (nI n) :=
  br_f (nI_pos (by omega)) (br_f (nI_nlt (a := 3) (by omega) (by decide)) h)
theorem dy_vol_f {post : Int32 → Prop} {c g : Nat → Int32} {p : Int32} (hp : dd_out 4 p) (h : post 0) : wpY_isVolume post (c, g) p := by
  by_cases z : p < 0
  · exact br_t z h
  · exact br_f z (br_t (dd_3 (hp.resolve_left z)) h)
theorem dy_con_t {post : Int32 → Prop} {c g : Nat → Int32} {n : Nat} (hn : n < 4096) (h : post 1) : wpY_isContent post (c, g) (nI n) :=
  br_f (nI_pos (by omega)) (br_f (nI_nlt (a := 4095) (by omega) (by decide)) h)
theorem dy_con_f {post : Int32 → Prop} {c g : Nat → Int32} {p : Int32} (hp : dd_out 4096 p) (h : post 0) : wpY_isContent post (c, g) p := by
  by_cases z : p < 0
  · exact br_t z h
  · exact br_f z (br_t (dd_4095 (hp.resolve_left z)) h)
-- roomOf
theorem dy_room_l {post : Int32 → Prop} {c g : Nat → Int32} {x : Nat} (hx : x < 4096) (h : post (nI (dd_rr x 3 + 1))) :
    ∀ d k, k + d = 3 → wY_roomOf_10 post (nI x) c g (d + 1) (nI (dd_rr x k)) (nI (k + 1))
  | 0, k, hd => by
    obtain rfl : k = 3 := by omega
    refine br_t (by decide) ?_
    rw [nI_1]
    exact h
  | d + 1, k, hd => by
    have K : ∀ s, dd_rr x (k + 1) = s → wY_roomOf_10 post (nI x) c g (d + 1) (nI s) (nI (k + 1 + 1)) := by
      intro s hs
      subst hs
      exact dy_room_l hx h d (k + 1) (by omega)
    have e1 : (nI x >>> ((3 : Int32) * nI (k + 1) &&& 31)) &&& 7 = nI (dd_dg x (k + 1)) := by
      rw [dd_shr hx (by omega), dd_and7 (dd_p2 hx)]; rfl
    have e2 : (nI x >>> ((3 : Int32) * nI (k + 1) - 3 &&& 31)) &&& 7 = nI (dd_dg x k) := by
      rw [dd_shr1 hx (by omega), dd_and7 (dd_p2 hx)]; rfl
    refine br_f (nI_ge (b := 4) (by omega) (by decide)) (nm_r e1 (nm_r e2 ?_))
    exact pk_eq (dd_dg x (k + 1)) (dd_dg x k) (fun e => nm_r (nI_1 _) (K _ (dd_rr_t e)))
      (fun e => nm_r (nI_1 _) (nm_r (nI_1 _) (K _ (dd_rr_f e)))) rfl rfl
      (Nat.lt_trans (dd_dg_lt _ _) (by decide)) (Nat.lt_trans (dd_dg_lt _ _) (by decide))
theorem dy_room {post : Int32 → Prop} {c g : Nat → Int32} {x : Nat} (hx : x < 4096) (h : post (nI (dd_rm x))) : wpY_roomOf post (c, g) (nI x) := by
  refine pk_eq x 0 (fun e => ?_) (fun e => ⟨4, ?_⟩) rfl rfl (by omega) (by omega)
  · subst e
    exact h
  · rw [dd_rm_n e] at h
    exact dy_room_l hx h 3 0 rfl
-- keep
theorem dy_keep_l {post : SY → Prop} {c g : Nat → Int32} (h : post (c, dd_mx c g 32)) :
    ∀ d k, k + d = 32 → wY_keep_2 post (d + 1) (nI k) c (dd_mx c g k)
  | 0, k, hd => by
    obtain rfl : k = 32 := by omega
    exact br_t (by decide) h
  | d + 1, k, hd => by
    have hi : vp_in (nI k) 32 := vp_in_nI (by omega) (by decide)
    have e : upd (dd_mx c g k) (nI k).toNatClampNeg (c (nI k).toNatClampNeg) = dd_mx c g (k + 1) := by
      rw [nI_clamp (by omega)]; exact dd_mx_s c g k
    exact br_f (nI_ge (b := 32) (by omega) (by decide)) ⟨hi, hi, nm_r e (nm_r (nI_1 k) (dy_keep_l h d (k + 1) (by omega)))⟩
theorem dy_keep {post : SY → Prop} {c g : Nat → Int32} (h : post (c, dd_mx c g 32)) : wpY_keep post (c, g) := by
  have z := dy_keep_l h 32 0 rfl
  rw [dd_mx_0] at z
  exact ⟨33, z⟩
theorem dd_kp (v : Nat → Nat) (g : Nat → Int32) {m : Nat} (hm : m < 32) : dd_mx (dd_c v) g 32 (nI m).toNatClampNeg = nI (v m) := by
  rw [nI_clamp (by omega), dd_mx_lo hm]; rfl
-- isFirst
theorem dy_first_l {post : Int32 → Prop} {v : Nat → Nat} {g : Nat → Int32} {n : Nat} (hv : ∀ j, v j < 4096) (hn : n < 32)
    (ht : dd_in v (v n) n = true → post 0) (hf : dd_in v (v n) n = false → post 1) :
    ∀ d k, k + d = n → (∀ m, m < k → v m ≠ v n) → wY_isFirst_2 post (nI n) (dd_c v) g (d + 1) (nI k)
  | 0, k, hd, hm => by
    obtain rfl : k = n := by omega
    exact br_t (nI_le (Nat.le_refl _) (by omega)) (hf (dd_in_f hm))
  | d + 1, k, hd, hm => by
    refine br_f (nI_ge (by omega) (by omega)) ⟨vp_in_nI (by omega) (by decide), vp_in_nI hn (by decide), ?_⟩
    refine pk_eq (v k) (v n) (fun e => ht (dd_in_t k (by omega) e)) (fun ne => nm_r (nI_1 k) ?_)
      (dd_at v (by omega)) (dd_at v (by omega)) (dd_lt hv k) (dd_lt hv n)
    refine dy_first_l hv hn ht hf d (k + 1) (by omega) (fun m h2 => ?_)
    by_cases c : m = k
    · subst c; exact ne
    · exact hm m (by omega)
theorem dy_first {post : Int32 → Prop} {v : Nat → Nat} {g : Nat → Int32} {n : Nat} (hv : ∀ j, v j < 4096) (hn : n < 32)
    (ht : dd_in v (v n) n = true → post 0) (hf : dd_in v (v n) n = false → post 1) : wpY_isFirst post (dd_c v, g) (nI n) :=
  ⟨n + 1, dy_first_l hv hn ht hf n 0 (by omega) (fun m h => absurd h (Nat.not_lt_zero m))⟩
-- used
theorem dy_used_l {post : Int32 → Prop} {v : Nat → Nat} {g : Nat → Int32} (hv : ∀ j, v j < 4096) (h : post (nI (dd_us v 32))) :
    ∀ d k, k + d = 32 → wY_used_4 post (dd_c v) g (d + 1) (nI (dd_us v k)) (nI k)
  | 0, k, hd => by
    obtain rfl : k = 32 := by omega
    exact br_t (by decide) h
  | d + 1, k, hd => by
    have K : ∀ s, dd_us v (k + 1) = s → wY_used_4 post (dd_c v) g (d + 1) (nI s) (nI (k + 1)) := by
      intro s hs
      subst hs
      exact dy_used_l hv h d (k + 1) (by omega)
    refine br_f (nI_ge (b := 32) (by omega) (by decide)) ?_
    refine dy_first hv (by omega) (fun e => br_t rfl (nm_r (nI_1 k) (K _ (dd_us_t e))))
      (fun e => br_f (by decide) ⟨vp_in_nI (by omega) (by decide), ?_⟩)
    rw [dd_at v (by omega)]
    exact dy_room (hv k) (nm_r (nI_add _ _) (nm_r (nI_1 k) (K _ (dd_us_f e))))
theorem dy_used {post : Int32 → Prop} {v : Nat → Nat} {g : Nat → Int32} (hv : ∀ j, v j < 4096) (h : post (nI (dd_us v 32))) :
    wpY_used post (dd_c v, g) := ⟨33, dy_used_l hv h 32 0 rfl⟩
-- count
theorem dy_count_l {post : Int32 → Prop} {v : Nat → Nat} {g : Nat → Int32} {x : Nat} (hv : ∀ j, v j < 4096) (hx : x < 4096) (h : post (nI (dd_ct v x 32))) :
    ∀ d k, k + d = 32 → wY_count_4 post (nI x) (dd_c v) g (d + 1) (nI (dd_ct v x k)) (nI k)
  | 0, k, hd => by
    obtain rfl : k = 32 := by omega
    exact br_t (by decide) h
  | d + 1, k, hd => by
    have K : ∀ s, dd_ct v x (k + 1) = s → wY_count_4 post (nI x) (dd_c v) g (d + 1) (nI s) (nI (k + 1)) := by
      intro s hs
      subst hs
      exact dy_count_l hv hx h d (k + 1) (by omega)
    refine br_f (nI_ge (b := 32) (by omega) (by decide)) ⟨vp_in_nI (by omega) (by decide), ?_⟩
    exact pk_eq (v k) x (fun e => nm_r (nI_1 _) (nm_r (nI_1 k) (K _ (dd_ct_t e)))) (fun e => nm_r (nI_1 k) (K _ (dd_ct_f e)))
      (dd_at v (by omega)) rfl (dd_lt hv k) (by omega)
theorem dy_count {post : Int32 → Prop} {v : Nat → Nat} {g : Nat → Int32} {x : Nat} (hv : ∀ j, v j < 4096) (hx : x < 4096) (h : post (nI (dd_ct v x 32))) :
    wpY_count post (dd_c v, g) (nI x) := ⟨33, dy_count_l hv hx h 32 0 rfl⟩
-- isFull
theorem dy_full_l {post : Int32 → SY → Prop} {c g : Nat → Int32} (h : post 1 (dd_mx g c 32, g)) :
    ∀ d k, k + d = 32 → wY_isFull_13 post (d + 1) (nI k) (dd_mx g c k) g
  | 0, k, hd => by
    obtain rfl : k = 32 := by omega
    exact br_t (by decide) h
  | d + 1, k, hd => by
    have hi : vp_in (nI k) 32 := vp_in_nI (by omega) (by decide)
    have e : upd (dd_mx g c k) (nI k).toNatClampNeg (g (nI k).toNatClampNeg) = dd_mx g c (k + 1) := by
      rw [nI_clamp (by omega)]; exact dd_mx_s g c k
    exact br_f (nI_ge (b := 32) (by omega) (by decide)) ⟨hi, hi, nm_r e (nm_r (nI_1 k) (dy_full_l h d (k + 1) (by omega)))⟩
theorem dy_full {post : Int32 → SY → Prop} {w : Nat → Nat} {g : Nat → Int32} (hw : ∀ j, w j < 4096)
    (h0 : dd_us w 32 ≤ 48 → post 0 (dd_c w, g)) (h1 : 48 < dd_us w 32 → post 1 (dd_mx g (dd_c w) 32, g)) : wpY_isFull post (dd_c w, g) := by
  unfold wpY_isFull
  dsimp only
  refine dy_used hw ?_
  refine pk_lt 48 (dd_us w 32) (fun z => ⟨33, ?_⟩) h0 rfl rfl (by decide) (dd_us_31 _)
  have q := dy_full_l (h1 z) 32 0 rfl
  rw [dd_mx_0] at q
  exact q
-- what is restored from kept is what was kept
theorem dd_res {v w : Nat → Nat} {g : Nat → Int32} (h : ∀ j, 32 ≤ j → w j = v j) : dd_mx (dd_mx (dd_c v) g 32) (dd_c w) 32 = dd_c v := by
  funext j
  by_cases c : j < 32
  · rw [dd_mx_lo c, dd_mx_lo c]
  · rw [dd_mx_hi (by omega)]
    exact congrArg nI (h j (by omega))
end
section
/-! the methods that only read, both sides -/
-- distinct
theorem dx_ds_l {post : Int32 → Prop} {v : Nat → Nat} (hv : ∀ j, v j < 4096) (h : post (nI (dd_ds v 32))) :
    ∀ d k, k + d = 32 → wX_distinct_4 post (dd_c v) (d + 1) (nI (dd_ds v k)) (nI k)
  | 0, k, hd => by
    obtain rfl : k = 32 := by omega
    exact br_t (by decide) h
  | d + 1, k, hd => by
    have K : ∀ s, dd_ds v (k + 1) = s → wX_distinct_4 post (dd_c v) (d + 1) (nI s) (nI (k + 1)) := by
      intro s hs
      subst hs
      exact dx_ds_l hv h d (k + 1) (by omega)
    refine br_f (nI_ge (b := 32) (by omega) (by decide)) ⟨vp_in_nI (by omega) (by decide), ?_⟩
    refine pk_eq (v k) 0 (fun e => nm_r (nI_1 k) (K _ (dd_ds_1 e))) (fun e => ?_) (dd_at v (by omega)) rfl (dd_lt hv k) (by decide)
    exact dx_first hv (by omega) (fun t => br_t rfl (nm_r (nI_1 k) (K _ (dd_ds_2 t))))
      (fun t => br_f (by decide) (nm_r (nI_1 _) (nm_r (nI_1 k) (K _ (dd_ds_t e t)))))
theorem dx_ds {post : Int32 → Prop} {v : Nat → Nat} (hv : ∀ j, v j < 4096) (h : post (nI (dd_ds v 32))) : wpX_distinct post (dd_c v) :=
  ⟨33, dx_ds_l hv h 32 0 rfl⟩
theorem dy_ds_l {post : Int32 → Prop} {v : Nat → Nat} {g : Nat → Int32} (hv : ∀ j, v j < 4096) (h : post (nI (dd_ds v 32))) :
    ∀ d k, k + d = 32 → wY_distinct_4 post (dd_c v) g (d + 1) (nI (dd_ds v k)) (nI k)
  | 0, k, hd => by
    obtain rfl : k = 32 := by omega
    exact br_t (by decide) h
  | d + 1, k, hd => by
    have K : ∀ s, dd_ds v (k + 1) = s → wY_distinct_4 post (dd_c v) g (d + 1) (nI s) (nI (k + 1)) := by
      intro s hs
      subst hs
      exact dy_ds_l hv h d (k + 1) (by omega)
    refine br_f (nI_ge (b := 32) (by omega) (by decide)) ⟨vp_in_nI (by omega) (by decide), ?_⟩
    refine pk_eq (v k) 0 (fun e => nm_r (nI_1 k) (K _ (dd_ds_1 e))) (fun e => ?_) (dd_at v (by omega)) rfl (dd_lt hv k) (by decide)
    exact dy_first hv (by omega) (fun t => br_t rfl (nm_r (nI_1 k) (K _ (dd_ds_2 t))))
      (fun t => br_f (by decide) (nm_r (nI_1 _) (nm_r (nI_1 k) (K _ (dd_ds_t e t)))))
theorem dy_ds {post : Int32 → Prop} {v : Nat → Nat} {g : Nat → Int32} (hv : ∀ j, v j < 4096) (h : post (nI (dd_ds v 32))) : wpY_distinct post (dd_c v, g) :=
  ⟨33, dy_ds_l hv h 32 0 rfl⟩
-- saved
theorem dx_sm_l {post : Int32 → Prop} {v : Nat → Nat} (hv : ∀ j, v j < 4096) (h : post (nI (dd_sm v 32) - nI (dd_us v 32))) :
    ∀ d k, k + d = 32 → wX_saved_4 post (dd_c v) (d + 1) (nI (dd_sm v k)) (nI k)
  | 0, k, hd => by
    obtain rfl : k = 32 := by omega
    exact br_t (by decide) (dx_used hv h)
  | d + 1, k, hd => by
    refine br_f (nI_ge (b := 32) (by omega) (by decide)) ⟨vp_in_nI (by omega) (by decide), ?_⟩
    rw [dd_at v (by omega)]
    exact dx_room (hv k) (nm_r (nI_add _ _) (nm_r (nI_1 k) (dx_sm_l hv h d (k + 1) (by omega))))
theorem dx_sm {post : Int32 → Prop} {v : Nat → Nat} (hv : ∀ j, v j < 4096) (h : post (nI (dd_sm v 32) - nI (dd_us v 32))) : wpX_saved post (dd_c v) :=
  ⟨33, dx_sm_l hv h 32 0 rfl⟩
theorem dy_sm_l {post : Int32 → Prop} {v : Nat → Nat} {g : Nat → Int32} (hv : ∀ j, v j < 4096) (h : post (nI (dd_sm v 32) - nI (dd_us v 32))) :
    ∀ d k, k + d = 32 → wY_saved_4 post (dd_c v) g (d + 1) (nI (dd_sm v k)) (nI k)
  | 0, k, hd => by
    obtain rfl : k = 32 := by omega
    exact br_t (by decide) (dy_used hv h)
  | d + 1, k, hd => by
    refine br_f (nI_ge (b := 32) (by omega) (by decide)) ⟨vp_in_nI (by omega) (by decide), ?_⟩
    rw [dd_at v (by omega)]
    exact dy_room (hv k) (nm_r (nI_add _ _) (nm_r (nI_1 k) (dy_sm_l hv h d (k + 1) (by omega))))
theorem dy_sm {post : Int32 → Prop} {v : Nat → Nat} {g : Nat → Int32} (hv : ∀ j, v j < 4096) (h : post (nI (dd_sm v 32) - nI (dd_us v 32))) :
    wpY_saved post (dd_c v, g) := ⟨33, dy_sm_l hv h 32 0 rfl⟩
-- alone
theorem dx_alone {post : Int32 → Prop} {v : Nat → Nat} {n : Nat} (hv : ∀ j, v j < 4096) (hn : n < 32)
    (h1 : dd_ct v (v n) 32 = 1 → post (nI (dd_rm (v n)))) (h0 : dd_ct v (v n) 32 ≠ 1 → post 0) : wpX_alone post (dd_c v) (nI n) := by
  have hi : vp_in (nI n) 32 := vp_in_nI hn (by decide)
  unfold wpX_alone
  refine dx_blk_t hn ?_
  refine br_f (by decide) ⟨hi, ?_⟩
  rw [dd_at v (by omega)]
  refine dx_count hv (hv n) ?_
  exact pk_eq (dd_ct v (v n) 32) 1 (fun e => ⟨hi, dx_room (hv n) (h1 e)⟩) h0 rfl rfl (dd_ct_31 _ _) (by decide)
theorem dy_alone {post : Int32 → Prop} {v : Nat → Nat} {g : Nat → Int32} {n : Nat} (hv : ∀ j, v j < 4096) (hn : n < 32)
    (h1 : dd_ct v (v n) 32 = 1 → post (nI (dd_rm (v n)))) (h0 : dd_ct v (v n) 32 ≠ 1 → post 0) : wpY_alone post (dd_c v, g) (nI n) := by
  have hi : vp_in (nI n) 32 := vp_in_nI hn (by decide)
  unfold wpY_alone
  dsimp only
  refine dy_blk_t hn ?_
  refine br_f (by decide) ⟨hi, ?_⟩
  rw [dd_at v (by omega)]
  refine dy_count hv (hv n) ?_
  exact pk_eq (dd_ct v (v n) 32) 1 (fun e => ⟨hi, dy_room (hv n) (h1 e)⟩) h0 rfl rfl (dd_ct_31 _ _) (by decide)
-- twin
theorem dx_twin {post : Int32 → Prop} {v : Nat → Nat} {n : Nat} (hv : ∀ j, v j < 4096) (hn : n < 32)
    (hj : ∀ j, j < 32 → j ≠ n → v j = v n → (∀ m, m < j → m ≠ n → v m ≠ v n) → post (nI j))
    (h0 : (∀ m, m < 32 → m ≠ n → v m ≠ v n) → post (-4)) : wpX_twin post (dd_c v) (nI n) := by
  have hi : vp_in (nI n) 32 := vp_in_nI hn (by decide)
  unfold wpX_twin
  refine dx_blk_t hn ?_
  refine br_f (by decide) ⟨hi, ?_⟩
  rw [dd_at v (by omega), nI_1]
  refine dx_find (a := 0) hv (hv n) (Nat.zero_le _) (by omega) (fun j _ h2 e h3 => ?_) (fun h => ?_)
  · exact br_f (dd_ne4 (by omega)) (hj j (by omega) (by omega) e (fun m hm _ => h3 m (Nat.zero_le _) hm))
  · refine br_t rfl ⟨hi, ?_⟩
    refine dx_find (e := 32) hv (hv n) (by omega) (Nat.le_refl _) (fun j h1 h2 e h3 => ?_) (fun h' => ?_)
    · refine hj j h2 (by omega) e (fun m hm hmn => ?_)
      by_cases c : m < n
      · exact h m (Nat.zero_le _) c
      · exact h3 m (by omega) hm
    · refine h0 (fun m hm hmn => ?_)
      by_cases c : m < n
      · exact h m (Nat.zero_le _) c
      · exact h' m (by omega) hm
theorem dy_twin_l {post : Int32 → Prop} {v : Nat → Nat} {g : Nat → Int32} {n : Nat} (hv : ∀ j, v j < 4096) (hn : n < 32)
    (hj : ∀ j, j < 32 → j ≠ n → v j = v n → (∀ m, m < j → m ≠ n → v m ≠ v n) → post (nI j))
    (h0 : (∀ m, m < 32 → m ≠ n → v m ≠ v n) → post (-4)) :
    ∀ d k, k + d = 32 → (∀ m, m < k → m ≠ n → v m ≠ v n) → wY_twin_12 post (nI n) (dd_c v) g (d + 1) (nI k)
  | 0, k, hd, hm => by
    obtain rfl : k = 32 := by omega
    exact br_t (by decide) (h0 hm)
  | d + 1, k, hd, hm => by
    refine br_f (nI_ge (b := 32) (by omega) (by decide)) ?_
    refine pk_eq k n (fun e => nm_r (nI_1 k) ?_) (fun e => ⟨vp_in_nI (by omega) (by decide), vp_in_nI hn (by decide), ?_⟩) rfl rfl (by omega) (by omega)
    · refine dy_twin_l hv hn hj h0 d (k + 1) (by omega) (fun m h1 h2 => ?_)
      exact hm m (by omega) h2
    · refine pk_eq (v k) (v n) (fun q => hj k (by omega) e q hm) (fun ne => nm_r (nI_1 k) ?_)
        (dd_at v (by omega)) (dd_at v (by omega)) (dd_lt hv k) (dd_lt hv n)
      refine dy_twin_l hv hn hj h0 d (k + 1) (by omega) (fun m h1 h2 => ?_)
      by_cases c : m = k
      · subst c; exact ne
      · exact hm m (by omega) h2
theorem dy_twin {post : Int32 → Prop} {v : Nat → Nat} {g : Nat → Int32} {n : Nat} (hv : ∀ j, v j < 4096) (hn : n < 32)
    (hj : ∀ j, j < 32 → j ≠ n → v j = v n → (∀ m, m < j → m ≠ n → v m ≠ v n) → post (nI j))
    (h0 : (∀ m, m < 32 → m ≠ n → v m ≠ v n) → post (-4)) : wpY_twin post (dd_c v, g) (nI n) := by
  unfold wpY_twin
  dsimp only
  refine dy_blk_t hn ?_
  refine br_f (by decide) ⟨33, ?_⟩
  exact dy_twin_l hv hn hj h0 32 0 rfl (fun m h => absurd h (Nat.not_lt_zero m))
-- favourite
theorem dx_fv_l {post : Int32 → Prop} {v : Nat → Nat} (hv : ∀ j, v j < 4096) (h : post (dd_fv v 32).1) :
    ∀ d k, k + d = 32 → wX_favourite_7 post (dd_c v) (d + 1) (dd_fv v k).1 (dd_fv v k).2 (nI k)
  | 0, k, hd => by
    obtain rfl : k = 32 := by omega
    exact br_t (by decide) h
  | d + 1, k, hd => by
    have K : ∀ s, dd_fv v (k + 1) = s → wX_favourite_7 post (dd_c v) (d + 1) s.1 s.2 (nI (k + 1)) := by
      intro s hs
      subst hs
      exact dx_fv_l hv h d (k + 1) (by omega)
    refine br_f (nI_ge (b := 32) (by omega) (by decide)) ⟨vp_in_nI (by omega) (by decide), nm_r (dd_at v (by omega)) ?_⟩
    refine pk_eq (v k) 0 (fun e => nm_r (nI_1 k) (K _ (dd_fv_1 e))) (fun e => ?_) rfl rfl (dd_lt hv k) (by decide)
    refine dx_count hv (hv k) ?_
    refine br_c (fun a => nm_r (nI_1 k) (K _ (dd_fv_t e (Or.inl a)))) (fun a => ?_)
    refine br_c (fun b => ?_) (fun b => nm_r (nI_1 k) (K _ (dd_fv_2 (fun z => z.elim a (fun y => b y.1)))))
    exact br_c (fun c => nm_r (nI_1 k) (K _ (dd_fv_2 (fun z => z.elim a (fun y => Int32.not_lt.mpr c y.2)))))
      (fun c => nm_r (nI_1 k) (K _ (dd_fv_t e (Or.inr ⟨b, Int32.not_le.mp c⟩))))
theorem dx_fv {post : Int32 → Prop} {v : Nat → Nat} (hv : ∀ j, v j < 4096) (h : post (dd_fv v 32).1) : wpX_favourite post (dd_c v) :=
  ⟨33, dx_fv_l hv h 32 0 rfl⟩
theorem dy_fv_l {post : Int32 → Prop} {v : Nat → Nat} {g : Nat → Int32} (hv : ∀ j, v j < 4096) (h : post (dd_fv v 32).1) :
    ∀ d k, k + d = 32 → wY_favourite_7 post (dd_c v) g (d + 1) (dd_fv v k).1 (dd_fv v k).2 (nI k)
  | 0, k, hd => by
    obtain rfl : k = 32 := by omega
    exact br_t (by decide) h
  | d + 1, k, hd => by
    have K : ∀ s, dd_fv v (k + 1) = s → wY_favourite_7 post (dd_c v) g (d + 1) s.1 s.2 (nI (k + 1)) := by
      intro s hs
      subst hs
      exact dy_fv_l hv h d (k + 1) (by omega)
    refine br_f (nI_ge (b := 32) (by omega) (by decide)) ⟨vp_in_nI (by omega) (by decide), nm_r (dd_at v (by omega)) ?_⟩
    refine dy_count hv (hv k) ?_
    refine pk_eq (v k) 0 (fun e => nm_r (nI_1 k) (K _ (dd_fv_1 e))) (fun e => ?_) rfl rfl (dd_lt hv k) (by decide)
    refine br_c (fun a => nm_r (nI_1 k) (K _ (dd_fv_t e (Or.inl a)))) (fun a => ?_)
    refine br_c (fun b => ?_) (fun b => nm_r (nI_1 k) (K _ (dd_fv_2 (fun z => z.elim a (fun y => b y.1)))))
    exact br_c (fun c => nm_r (nI_1 k) (K _ (dd_fv_2 (fun z => z.elim a (fun y => Int32.not_lt.mpr c y.2)))))
      (fun c => nm_r (nI_1 k) (K _ (dd_fv_t e (Or.inr ⟨b, Int32.not_le.mp c⟩))))
theorem dy_fv {post : Int32 → Prop} {v : Nat → Nat} {g : Nat → Int32} (hv : ∀ j, v j < 4096) (h : post (dd_fv v 32).1) : wpY_favourite post (dd_c v, g) :=
  ⟨33, dy_fv_l hv h 32 0 rfl⟩
end
section
/-! the methods that store, both sides; aloneIn -/
theorem dd_8 (a : Nat) : (8 : Int32) * nI a = nI (8 * a) := pk_mul 8 a
def dd_z : Nat → Nat := fun _ => 0
-- erase
theorem dx_er_l {post : Int32 → SX → Prop} {v : Nat → Nat} {f : Nat} (hv : ∀ j, v j < 4096) (hf : f + 8 ≤ 32)
    (h : post (nI (dd_df v dd_z f 8)) (dd_c (dd_pt v dd_z f 8))) :
    ∀ d b, b + d = 8 → wX_erase_19 post (nI f) (d + 1) (nI (dd_df v dd_z f b)) (nI b) (dd_c (dd_pt v dd_z f b))
  | 0, b, hd => by
    obtain rfl : b = 8 := by omega
    exact br_t (by decide) h
  | d + 1, b, hd => by
    have K : ∀ s w, dd_df v dd_z f (b + 1) = s → dd_pt v dd_z f (b + 1) = w → wX_erase_19 post (nI f) (d + 1) (nI s) (nI (b + 1)) (dd_c w) := by
      intro s w hs hw
      subst hs hw
      exact dx_er_l hv hf h d (b + 1) (by omega)
    have hi : vp_in (nI (f + b)) 32 := vp_in_nI (by omega) (by decide)
    have e0 : dd_c (dd_pt v dd_z f b) (nI (f + b)).toNatClampNeg = nI (v (f + b)) := by
      rw [dd_at _ (by omega), dd_pt_out (by omega)]
    have e1 : upd (dd_c (dd_pt v dd_z f b)) (nI (f + b)).toNatClampNeg 0 = dd_c (dd_pt v dd_z f (b + 1)) := by
      rw [nI_clamp (by omega), ← dd_pt_s]
      exact dd_up_c _ _ 0
    refine br_f (nI_ge (b := 8) (by omega) (by decide)) ?_
    rw [nI_add f b]
    refine ⟨hi, ?_⟩
    exact pk_eq (v (f + b)) 0 (fun e => nm_r (nI_1 b) (K _ _ (dd_df_t e) (dd_pt_k e)))
      (fun e => ⟨hi, nm_r e1 (nm_r (nI_1 _) (nm_r (nI_1 b) (K _ _ (dd_df_f e) rfl)))⟩) e0 rfl (dd_lt hv _) (by decide)
theorem dx_er {post : Int32 → SX → Prop} {v : Nat → Nat} {a : Nat} (hv : ∀ j, v j < 4096) (ha : a < 4)
    (h : post (nI (dd_df v dd_z (8 * a) 8)) (dd_c (dd_pt v dd_z (8 * a) 8))) : wpX_erase post (dd_c v) (nI a) := by
  unfold wpX_erase
  refine dx_vol_t ha ?_
  refine br_f (by decide) ?_
  unfold wpX_firstBlock
  rw [dd_8]
  have q := dx_er_l (f := 8 * a) hv (by omega) h 8 0 rfl
  rw [dd_pt_0] at q
  exact ⟨9, q⟩
theorem dy_er_l {post : Int32 → SY → Prop} {v : Nat → Nat} {g : Nat → Int32} {a : Nat} (hv : ∀ j, v j < 4096) (ha : a < 4)
    (h : post (nI (dd_df v dd_z (8 * a) 8)) (dd_c (dd_pt v dd_z (8 * a) 8), g)) :
    ∀ d b, b + d = 8 → wY_erase_17 post (nI a) (d + 1) (nI (dd_df v dd_z (8 * a) b)) (nI (8 * a + b)) (dd_c (dd_pt v dd_z (8 * a) b)) g
  | 0, b, hd => by
    obtain rfl : b = 8 := by omega
    have e8 : (8 : Int32) * nI a + 8 ≤ nI (8 * a + 8) := by
      rw [dd_8, show (8 : Int32) = nI 8 from rfl, nI_add]
      exact nI_le (Nat.le_refl _) (by omega)
    exact br_t e8 h
  | d + 1, b, hd => by
    have K : ∀ s, dd_df v dd_z (8 * a) (b + 1) = s →
        wY_erase_17 post (nI a) (d + 1) (nI s) (nI (8 * a + b + 1)) (dd_c (dd_pt v dd_z (8 * a) (b + 1))) g := by
      intro s hs
      subst hs
      exact dy_er_l hv ha h d (b + 1) (by omega)
    have e8 : ¬ (8 : Int32) * nI a + 8 ≤ nI (8 * a + b) := by
      rw [dd_8, show (8 : Int32) = nI 8 from rfl, nI_add]
      exact nI_ge (by omega) (by omega)
    have hi : vp_in (nI (8 * a + b)) 32 := vp_in_nI (by omega) (by decide)
    have e0 : dd_c (dd_pt v dd_z (8 * a) b) (nI (8 * a + b)).toNatClampNeg = nI (v (8 * a + b)) := by
      rw [dd_at _ (by omega), dd_pt_out (by omega)]
    have e1 : upd (dd_c (dd_pt v dd_z (8 * a) b)) (nI (8 * a + b)).toNatClampNeg 0 = dd_c (dd_pt v dd_z (8 * a) (b + 1)) := by
      rw [nI_clamp (by omega), ← dd_pt_s]
      exact dd_up_c _ _ 0
    refine br_f e8 ⟨hi, ?_⟩
    refine pk_eq (v (8 * a + b)) 0 (fun e => ⟨hi, nm_r e1 (nm_r (nI_1 _) (K _ (dd_df_t e)))⟩) (fun e => ⟨hi, nm_r e1 (nm_r (nI_1 _) ?_)⟩) e0 rfl (dd_lt hv _) (by decide)
    rw [nI_1]
    exact K _ (dd_df_f e)
theorem dy_er {post : Int32 → SY → Prop} {v : Nat → Nat} {g : Nat → Int32} {a : Nat} (hv : ∀ j, v j < 4096) (ha : a < 4)
    (h : post (nI (dd_df v dd_z (8 * a) 8)) (dd_c (dd_pt v dd_z (8 * a) 8), g)) : wpY_erase post (dd_c v, g) (nI a) := by
  unfold wpY_erase
  dsimp only
  refine dy_vol_t ha ?_
  refine br_f (by decide) (nm_r (dd_8 a) ⟨9, ?_⟩)
  have q := dy_er_l hv ha h 8 0 rfl
  rw [dd_pt_0] at q
  exact q
-- aloneIn
theorem dx_55 {post : Int32 → Prop} {J : Int32 → Int32 → Prop} {v : Nat → Nat} {x3 z0 x4 : Int32} {m : Nat} (hv : ∀ j, v j < 4096) (hm : m < 32)
    (h1 : dd_in v (v m) m = true → J x4 (nI (m + 1))) (h2 : dd_in v (v m) m = false → z0 = 0 → J (x4 + nI (dd_rm (v m))) (nI (m + 1)))
    (h3 : dd_in v (v m) m = false → ¬ z0 = 0 → J x4 (nI (m + 1))) : wX_aloneIn_55 post J x3 x4 (nI m) z0 (dd_c v) := by
  unfold wX_aloneIn_55
  refine dx_first hv hm (fun e => br_t rfl (nm_r (nI_1 m) (h1 e))) (fun e => br_f (by decide) ?_)
  refine br_c (fun c => ⟨vp_in_nI hm (by decide), ?_⟩) (fun c => nm_r (nI_1 m) (h3 e c))
  rw [dd_at v (by omega)]
  exact dx_room (hv m) (nm_e (nm_r (nI_1 m) (h2 e c)))
theorem dx_al_l {post : Int32 → Prop} {v : Nat → Nat} {f : Nat} (hv : ∀ j, v j < 4096) (hf : f + 8 ≤ 32)
    (h : post (nI (dd_al v f (f + 8) (32 - (f + 8)) 8))) :
    ∀ d b, b + d = 8 → wX_aloneIn_25 post (nI (f + 8)) (dd_c v) (d + 1) (nI (dd_al v f (f + 8) (32 - (f + 8)) b)) (nI (f + b))
  | 0, b, hd => by
    obtain rfl : b = 8 := by omega
    exact br_t (nI_le (Nat.le_refl _) (by omega)) h
  | d + 1, b, hd => by
    have K : ∀ s, dd_al v f (f + 8) (32 - (f + 8)) (b + 1) = s → wX_aloneIn_25 post (nI (f + 8)) (dd_c v) (d + 1) (nI s) (nI (f + b + 1)) := by
      intro s hs
      subst hs
      exact dx_al_l hv hf h d (b + 1) (by omega)
    refine br_f (nI_ge (by omega) (by omega)) ⟨vp_in_nI (by omega) (by decide), ?_⟩
    rw [dd_at v (by omega)]
    refine dx_find (e := 32) hv (hv _) hf (Nat.le_refl _) (fun j h1 h2 e _ => br_f (dd_ne4 (by omega)) ?_) (fun n => br_t rfl ?_)
    · have t : dd_bt v (v (f + b)) (f + 8) (32 - (f + 8)) = true := dd_bt_t j h1 (by omega) e
      exact dx_55 hv (by omega) (fun i => K _ (dd_al_1 i)) (fun i z => absurd z (by decide)) (fun i _ => K _ (dd_al_2 t))
    · have t : dd_bt v (v (f + b)) (f + 8) (32 - (f + 8)) = false := dd_bt_f (fun m h1 h2 => n m h1 (by omega))
      refine dx_55 hv (by omega) (fun i => K _ (dd_al_1 i)) (fun i _ => ?_) (fun i z => absurd rfl z)
      rw [nI_add]
      exact K _ (dd_al_t i t)
theorem dx_al {post : Int32 → Prop} {v : Nat → Nat} {a : Nat} (hv : ∀ j, v j < 4096) (ha : a < 4)
    (h : post (nI (dd_al v (8 * a) (8 * a + 8) (32 - (8 * a + 8)) 8))) : wpX_aloneIn post (dd_c v) (nI a) := by
  unfold wpX_aloneIn
  refine dx_vol_t ha ?_
  refine br_f (by decide) ?_
  unfold wpX_firstBlock
  rw [dd_8]
  refine nm_r (nI_add (8 * a) 8) ⟨9, ?_⟩
  exact dx_al_l (f := 8 * a) hv (by omega) h 8 0 rfl
theorem dy_al_l {post : Int32 → SY → Prop} {c g : Nat → Int32} {x y : Int32} (h : post (x - y) (dd_mx g c 32, g)) :
    ∀ d k, k + d = 32 → wY_aloneIn_33 post x y (d + 1) (nI k) (dd_mx g c k) g
  | 0, k, hd => by
    obtain rfl : k = 32 := by omega
    exact br_t (by decide) h
  | d + 1, k, hd => by
    have hi : vp_in (nI k) 32 := vp_in_nI (by omega) (by decide)
    have e : upd (dd_mx g c k) (nI k).toNatClampNeg (g (nI k).toNatClampNeg) = dd_mx g c (k + 1) := by
      rw [nI_clamp (by omega)]; exact dd_mx_s g c k
    exact br_f (nI_ge (b := 32) (by omega) (by decide)) ⟨hi, hi, nm_r e (nm_r (nI_1 k) (dy_al_l h d (k + 1) (by omega)))⟩
theorem dy_al {post : Int32 → SY → Prop} {v : Nat → Nat} {g : Nat → Int32} {a : Nat} (hv : ∀ j, v j < 4096) (ha : a < 4)
    (h : post (nI (dd_al v (8 * a) (8 * a + 8) (32 - (8 * a + 8)) 8)) (dd_c v, dd_mx (dd_c v) g 32)) : wpY_aloneIn post (dd_c v, g) (nI a) := by
  have hz : ∀ j, dd_pt v dd_z (8 * a) 8 j < 4096 := dd_pt_lt hv (fun _ => (by decide : (0 : Nat) < 4096))
  have s := dd_alone hv (8 * a) (by omega)
  have e : nI (dd_us v 32) - nI (dd_us (dd_pt v dd_z (8 * a) 8) 32) = nI (dd_al v (8 * a) (8 * a + 8) (32 - (8 * a + 8)) 8) := by
    have s' : dd_al v (8 * a) (8 * a + 8) (32 - (8 * a + 8)) 8 + dd_us (dd_pt v dd_z (8 * a) 8) 32 = dd_us v 32 := s
    rw [pk_sub (by omega)]
    exact congrArg nI (by omega)
  have er : dd_mx (dd_mx (dd_c v) g 32) (dd_c (dd_pt v dd_z (8 * a) 8)) 32 = dd_c v := dd_res (fun j hj => dd_pt_out (by omega))
  unfold wpY_aloneIn
  dsimp only
  refine dy_vol_t ha ?_
  refine br_f (by decide) ?_
  refine dy_used hv ?_
  refine dy_keep ?_
  refine dy_er hv ha ?_
  refine dy_used hz ⟨33, ?_⟩
  have q := dy_al_l (post := post) (c := dd_c (dd_pt v dd_z (8 * a) 8)) (g := dd_mx (dd_c v) g 32)
    (x := nI (dd_us v 32)) (y := nI (dd_us (dd_pt v dd_z (8 * a) 8) 32)) (by rw [e, er]; exact h) 32 0 rfl
  rw [dd_mx_0] at q
  exact q
-- write
theorem dx_write {post : Int32 → SX → Prop} {v : Nat → Nat} {n x : Nat} (hv : ∀ j, v j < 4096) (hn : n < 32) (hx : x < 4096)
    (h1 : dd_us (dd_up v n x) 32 ≤ 48 → post (nI (v n)) (dd_c (dd_up v n x))) (h0 : 48 < dd_us (dd_up v n x) 32 → post (-2) (dd_c v)) :
    wpX_write post (dd_c v) (nI n) (nI x) := by
  unfold wpX_write
  refine dx_blk_t hn ?_
  refine br_f (by decide) ?_
  refine dx_con_t hx ?_
  refine br_f (by decide) ⟨vp_in_nI hn (by decide), nm_r (dd_at v (by omega)) ?_⟩
  exact dx_put hv hn hx (fun z => br_f (by decide) (h1 z)) (fun z => br_t rfl (h0 z))
theorem dd_up_hi {v : Nat → Nat} {n x : Nat} (hn : n < 32) : ∀ j, 32 ≤ j → dd_up v n x j = v j := fun j hj => dd_up_n (by omega)
theorem dy_write {post : Int32 → SY → Prop} {v : Nat → Nat} {g : Nat → Int32} {n x : Nat} (hv : ∀ j, v j < 4096) (hn : n < 32) (hx : x < 4096)
    (h1 : dd_us (dd_up v n x) 32 ≤ 48 → post (nI (v n)) (dd_c (dd_up v n x), dd_mx (dd_c v) g 32))
    (h0 : 48 < dd_us (dd_up v n x) 32 → post (-2) (dd_c v, dd_mx (dd_c v) g 32)) : wpY_write post (dd_c v, g) (nI n) (nI x) := by
  have hi : vp_in (nI n) 32 := vp_in_nI hn (by decide)
  have e1 : upd (dd_c v) (nI n).toNatClampNeg (nI x) = dd_c (dd_up v n x) := by rw [nI_clamp (by omega)]; exact dd_up_c v n x
  unfold wpY_write
  dsimp only
  refine dy_blk_t hn ?_
  refine br_f (by decide) ?_
  refine dy_con_t hx ?_
  refine br_f (by decide) ?_
  refine dy_keep ?_
  refine ⟨hi, nm_r e1 ?_⟩
  refine dy_full (dd_up_lt hv hx) (fun z => br_t rfl ⟨hi, ?_⟩) (fun z => br_f (by decide) ?_)
  · dsimp only
    rw [dd_kp v g hn]
    exact h1 z
  · rw [dd_res (dd_up_hi hn)]
    exact h0 z
-- patch
theorem dx_patch {post : Int32 → SX → Prop} {v : Nat → Nat} {n i d : Nat} (hv : ∀ j, v j < 4096) (hn : n < 32) (hi : i < 4) (hd : d < 8)
    (h1 : dd_us (dd_up v n (dd_pa (v n) i d)) 32 ≤ 48 → post (nI (dd_dg (v n) i)) (dd_c (dd_up v n (dd_pa (v n) i d))))
    (h0 : 48 < dd_us (dd_up v n (dd_pa (v n) i d)) 32 → post (-2) (dd_c v)) : wpX_patch post (dd_c v) (nI n) (nI i) (nI d) := by
  have hin : vp_in (nI n) 32 := vp_in_nI hn (by decide)
  unfold wpX_patch
  refine dx_blk_t hn ?_
  refine br_f (by decide) ?_
  refine br_f (nI_pos (by omega)) (br_f (nI_ge (b := 4) hi (by decide)) (br_f (nI_pos (by omega)) (br_t (nI_lt (b := 8) hd (by decide)) ⟨hin, ?_⟩)))
  rw [dd_at v (by omega)]
  refine dx_digit (hv n) hi ⟨hin, nm_r (dd_patchX hi hd) ?_⟩
  exact dx_put hv hn (dd_pa_lt (hv n) hi hd) (fun z => br_f (by decide) (h1 z)) (fun z => br_t rfl (h0 z))
theorem dy_patch {post : Int32 → SY → Prop} {v : Nat → Nat} {g : Nat → Int32} {n i d : Nat} (hv : ∀ j, v j < 4096) (hn : n < 32) (hi : i < 4) (hd : d < 8)
    (h1 : dd_us (dd_up v n (dd_pa (v n) i d)) 32 ≤ 48 → post (nI (dd_dg (v n) i)) (dd_c (dd_up v n (dd_pa (v n) i d)), dd_mx (dd_c v) g 32))
    (h0 : 48 < dd_us (dd_up v n (dd_pa (v n) i d)) 32 → post (-2) (dd_c v, dd_mx (dd_c v) g 32)) :
    wpY_patch post (dd_c v, g) (nI n) (nI i) (nI d) := by
  have hin : vp_in (nI n) 32 := vp_in_nI hn (by decide)
  have e1 : upd (dd_c v) (nI n).toNatClampNeg (nI (dd_pa (v n) i d)) = dd_c (dd_up v n (dd_pa (v n) i d)) := by
    rw [nI_clamp (by omega)]; exact dd_up_c v n _
  have e2 : nI (v n) >>> ((3 : Int32) * nI i &&& 31) &&& 7 = nI (dd_dg (v n) i) := by
    rw [dd_shr (hv n) hi, dd_and7 (dd_p2 (hv n))]; rfl
  unfold wpY_patch
  dsimp only
  refine dy_blk_t hn ?_
  refine br_f (by decide) ?_
  refine br_f (nI_pos (by omega)) (br_f (nI_nlt (a := 3) (by omega) (by decide)) (br_f (nI_pos (by omega)) (br_t (nI_le (b := 7) (by omega) (by decide)) ?_)))
  refine dy_keep ?_
  refine ⟨hin, hin, ?_⟩
  dsimp only
  rw [dd_at v (by omega), dd_patchY (hv n) hi hd]
  refine nm_r e1 ?_
  refine dy_full (dd_up_lt hv (dd_pa_lt (hv n) hi hd)) (fun z => br_t rfl ⟨hin, ?_⟩) (fun z => br_f (by decide) ?_)
  · dsimp only
    rw [dd_kp v g hn, e2]
    exact h1 z
  · rw [dd_res (dd_up_hi hn)]
    exact h0 z
end
section
/-! spread and clone, both sides -/
def dd_k (x : Nat) : Nat → Nat := fun _ => x
def dd_cn (n q : Nat) : Nat := if 8 - n % 8 ≤ q then 8 - n % 8 else q
theorem dd_cn_t {n q : Nat} (h : 8 - n % 8 ≤ q) : dd_cn n q = 8 - n % 8 := if_pos h
theorem dd_cn_f {n q : Nat} (h : q < 8 - n % 8) : dd_cn n q = q := if_neg (by omega)
theorem dd_d8 {a : Nat} (h : a < 4096) : nI a / 8 = nI (a / 8) := pk_div (d := 8) (by omega) (by omega) (by omega)
theorem dx_sp_l {post : Int32 → SX → Prop} {v : Nat → Nat} {n m t : Nat} (hn : n + t ≤ 32)
    (h : post (nI t) (dd_c (dd_pt v (dd_k (v m)) n t))) :
    ∀ d k, k + d = t → wX_spread_61 post (nI n) (nI t) (nI (v m)) (d + 1) (nI k) (dd_c (dd_pt v (dd_k (v m)) n k))
  | 0, k, hd => by
    obtain rfl : k = t := by omega
    exact br_t (nI_le (Nat.le_refl _) (by omega)) h
  | d + 1, k, hd => by
    have hi : vp_in (nI (n + k)) 32 := vp_in_nI (by omega) (by decide)
    have e1 : upd (dd_c (dd_pt v (dd_k (v m)) n k)) (nI (n + k)).toNatClampNeg (nI (v m)) = dd_c (dd_pt v (dd_k (v m)) n (k + 1)) := by
      rw [nI_clamp (by omega), ← dd_pt_s]
      exact dd_up_c _ _ _
    refine br_f (nI_ge (by omega) (by omega)) ?_
    rw [nI_add n k]
    exact ⟨hi, nm_r e1 (nm_r (nI_1 k) (dx_sp_l hn h d (k + 1) (by omega)))⟩
theorem dx_sp48 {post : Int32 → SX → Prop} {v : Nat → Nat} {n m t : Nat} (hm : m < 32) (hn : n + t ≤ 32)
    (h : post (nI t) (dd_c (dd_pt v (dd_k (v m)) n t))) : wX_spread_48 post (nI n) (nI m) (nI t) (dd_c v) := by
  refine ⟨vp_in_nI hm (by decide), nm_r (dd_at v (by omega)) ⟨t + 1, ?_⟩⟩
  have q := dx_sp_l hn h t 0 (by omega)
  rw [dd_pt_0] at q
  exact q
theorem dx_sp {post : Int32 → SX → Prop} {v : Nat → Nat} {n m q : Nat} (hn : n < 32) (hm : m < 32) (h1 : 1 ≤ q) (h8 : q ≤ 8)
    (h : post (nI (dd_cn n q)) (dd_c (dd_pt v (dd_k (v m)) n (dd_cn n q)))) : wpX_spread post (dd_c v) (nI n) (nI m) (nI q) := by
  have e8 : (8 : Int32) - (nI n - nI n / 8 * 8) = nI (8 - n % 8) := by
    rw [dd_rem (by omega)]
    exact pk_sub (a := 8) (by omega)
  unfold wpX_spread
  refine dx_blk_t hn ?_
  refine br_f (by decide) ?_
  refine dx_blk_t hm ?_
  refine br_f (by decide) (br_f (nI_nlt (b := 1) h1 (by omega)) (br_t (nI_le (b := 8) h8 (by decide)) ⟨by decide, nm_r e8 ?_⟩))
  refine pk_le (8 - n % 8) q (fun z => ?_) (fun z => ?_) rfl rfl (by omega) (by omega)
  · rw [dd_cn_t z] at h
    exact dx_sp48 hm (by omega) h
  · rw [dd_cn_f z] at h
    exact dx_sp48 hm (by omega) h
theorem dy_sp81 {post : Int32 → SY → Prop} {w : Nat → Nat} {g : Nat → Int32} {x : Int32} (hw : ∀ j, w j < 4096) (hu : dd_us w 32 ≤ 48)
    (h : post x (dd_c w, g)) : wY_spread_81 post x (dd_c w) g := by
  unfold wY_spread_81
  exact dy_full hw (fun _ => br_t rfl h) (fun z => absurd hu (by omega))
theorem dy_sp_l {post : Int32 → SY → Prop} {v : Nat → Nat} {g : Nat → Int32} {n m q t : Nat} (hn : n < 32) (hm : m < 32) (hq : q ≤ 8)
    (ht1 : t ≤ q) (ht2 : n % 8 + t ≤ 8) (ht3 : t = q ∨ n % 8 + t = 8)
    (F : wY_spread_81 post (nI t) (dd_c (dd_pt v (dd_k (v m)) n t)) (dd_mx (dd_c v) g 32)) :
    ∀ d k, k + d = t → wY_spread_39 post (nI n) (nI m) (nI q) (d + 1) (nI k) (nI (n + k)) (dd_c (dd_pt v (dd_k (v m)) n k)) (dd_mx (dd_c v) g 32)
  | 0, k, hd => by
    obtain rfl : k = t := by omega
    refine pk_le (n + q) (n + k) (fun _ => F) (fun z => ⟨by decide, by decide, ?_⟩) (nI_add n q) rfl (by omega) (by omega)
    exact pk_eq ((n + k) / 8) (n / 8) (fun e => absurd e (by omega)) (fun _ => F) (dd_d8 (by omega)) (dd_d8 (by omega)) (by omega) (by omega)
  | d + 1, k, hd => by
    have hi : vp_in (nI (n + k)) 32 := vp_in_nI (by omega) (by decide)
    have e1 : upd (dd_c (dd_pt v (dd_k (v m)) n k)) (nI (n + k)).toNatClampNeg (dd_mx (dd_c v) g 32 (nI m).toNatClampNeg)
        = dd_c (dd_pt v (dd_k (v m)) n (k + 1)) := by
      rw [nI_clamp (by omega), ← dd_pt_s, dd_kp v g hm]
      exact dd_up_c _ _ _
    refine pk_le (n + q) (n + k) (fun z => absurd z (by omega)) (fun z => ⟨by decide, by decide, ?_⟩) (nI_add n q) rfl (by omega) (by omega)
    refine pk_eq ((n + k) / 8) (n / 8) (fun _ => ⟨vp_in_nI hm (by decide), hi, nm_r e1 (nm_r (nI_1 k) (nm_r (nI_1 (n + k)) ?_))⟩)
      (fun e => absurd (by omega) e) (dd_d8 (by omega)) (dd_d8 (by omega)) (by omega) (by omega)
    exact dy_sp_l hn hm hq ht1 ht2 ht3 F d (k + 1) (by omega)
theorem dd_sp_lt {v : Nat → Nat} (hv : ∀ j, v j < 4096) (n m t : Nat) : ∀ j, dd_pt v (dd_k (v m)) n t j < 4096 := dd_pt_lt hv (fun _ => hv m)
theorem dd_sp_us {v : Nat → Nat} (hv : ∀ j, v j < 4096) {m : Nat} (hm : m < 32) (n t : Nat) : dd_us (dd_pt v (dd_k (v m)) n t) 32 ≤ dd_us v 32 := by
  refine dd_us_le hv (dd_sp_lt hv n m t) (fun j hj => Or.inr ?_)
  by_cases c : n ≤ j ∧ j < n + t
  · exact ⟨m, hm, (dd_pt_in (v := v) (w := dd_k (v m)) c).symm⟩
  · exact ⟨j, hj, (dd_pt_out c).symm⟩
theorem dy_sp {post : Int32 → SY → Prop} {v : Nat → Nat} {g : Nat → Int32} {n m q : Nat} (hv : ∀ j, v j < 4096) (hu : dd_us v 32 ≤ 48)
    (hn : n < 32) (hm : m < 32) (h1 : 1 ≤ q) (h8 : q ≤ 8)
    (h : post (nI (dd_cn n q)) (dd_c (dd_pt v (dd_k (v m)) n (dd_cn n q)), dd_mx (dd_c v) g 32)) : wpY_spread post (dd_c v, g) (nI n) (nI m) (nI q) := by
  unfold wpY_spread
  dsimp only
  refine dy_blk_t hn ?_
  refine br_f (by decide) ?_
  refine dy_blk_t hm ?_
  refine br_f (by decide) (br_f (nI_nlt (b := 1) h1 (by omega)) (br_t (nI_le (b := 8) h8 (by decide)) ?_))
  refine dy_keep ⟨dd_cn n q + 1, ?_⟩
  have F := dy_sp81 (dd_sp_lt hv n m (dd_cn n q)) (Nat.le_trans (dd_sp_us hv hm n (dd_cn n q)) hu) h
  have ht : dd_cn n q ≤ q ∧ n % 8 + dd_cn n q ≤ 8 ∧ (dd_cn n q = q ∨ n % 8 + dd_cn n q = 8) := by
    by_cases z : 8 - n % 8 ≤ q
    · rw [dd_cn_t z]; omega
    · rw [dd_cn_f (by omega)]; omega
  have s := dy_sp_l hn hm h8 ht.1 ht.2.1 ht.2.2 F (dd_cn n q) 0 (by omega)
  rw [dd_pt_0] at s
  exact s
-- clone
def dd_cl (v : Nat → Nat) (f e : Nat) : Nat → Nat := fun j => v (e + (j - f))
theorem dd_cl_at (v : Nat → Nat) (f e b : Nat) : dd_cl v f e (f + b) = v (e + b) := by
  show v (e + (f + b - f)) = v (e + b)
  rw [Nat.add_sub_cancel_left]
theorem dx_cl_l {post : Int32 → SX → Prop} {v : Nat → Nat} {a c : Nat} (hv : ∀ j, v j < 4096) (ha : a < 4) (hc : c < 4)
    (h : post (nI (dd_df v (dd_cl v (8 * a) (8 * c)) (8 * a) 8)) (dd_c (dd_pt v (dd_cl v (8 * a) (8 * c)) (8 * a) 8))) :
    ∀ d b, b + d = 8 → wX_clone_33 post (nI (8 * a)) (nI (8 * c)) (d + 1) (nI (dd_df v (dd_cl v (8 * a) (8 * c)) (8 * a) b)) (nI b)
      (dd_c (dd_pt v (dd_cl v (8 * a) (8 * c)) (8 * a) b))
  | 0, b, hd => by
    obtain rfl : b = 8 := by omega
    exact br_t (by decide) h
  | d + 1, b, hd => by
    have K : ∀ s w, dd_df v (dd_cl v (8 * a) (8 * c)) (8 * a) (b + 1) = s → dd_pt v (dd_cl v (8 * a) (8 * c)) (8 * a) (b + 1) = w →
        wX_clone_33 post (nI (8 * a)) (nI (8 * c)) (d + 1) (nI s) (nI (b + 1)) (dd_c w) := by
      intro s w hs hw
      subst hs hw
      exact dx_cl_l hv ha hc h d (b + 1) (by omega)
    have hi : vp_in (nI (8 * a + b)) 32 := vp_in_nI (by omega) (by decide)
    have hj : vp_in (nI (8 * c + b)) 32 := vp_in_nI (by omega) (by decide)
    have e0 : dd_c (dd_pt v (dd_cl v (8 * a) (8 * c)) (8 * a) b) (nI (8 * a + b)).toNatClampNeg = nI (v (8 * a + b)) := by
      rw [dd_at _ (by omega), dd_pt_out (by omega)]
    have e1 : dd_c (dd_pt v (dd_cl v (8 * a) (8 * c)) (8 * a) b) (nI (8 * c + b)).toNatClampNeg = nI (v (8 * c + b)) := by
      rw [dd_at _ (by omega), dd_pt_out (by omega)]
    have e2 : upd (dd_c (dd_pt v (dd_cl v (8 * a) (8 * c)) (8 * a) b)) (nI (8 * a + b)).toNatClampNeg (nI (v (8 * c + b)))
        = dd_c (dd_pt v (dd_cl v (8 * a) (8 * c)) (8 * a) (b + 1)) := by
      rw [nI_clamp (by omega), ← dd_pt_s, dd_cl_at]
      exact dd_up_c _ _ _
    refine br_f (nI_ge (b := 8) (by omega) (by decide)) ?_
    rw [nI_add (8 * a) b, nI_add (8 * c) b, e1]
    refine ⟨hi, hj, ?_⟩
    exact pk_eq (v (8 * a + b)) (v (8 * c + b))
      (fun e => nm_r (nI_1 b) (K _ _ (dd_df_t (by rw [dd_cl_at]; exact e)) (dd_pt_k (by rw [dd_cl_at]; exact e))))
      (fun e => ⟨hj, hi, nm_r e2 (nm_r (nI_1 _) (nm_r (nI_1 b) (K _ _ (dd_df_f (by rw [dd_cl_at]; exact e)) rfl)))⟩)
      e0 rfl (dd_lt hv _) (dd_lt hv _)
theorem dx_cl {post : Int32 → SX → Prop} {v : Nat → Nat} {a c : Nat} (hv : ∀ j, v j < 4096) (ha : a < 4) (hc : c < 4)
    (h : post (nI (dd_df v (dd_cl v (8 * a) (8 * c)) (8 * a) 8)) (dd_c (dd_pt v (dd_cl v (8 * a) (8 * c)) (8 * a) 8))) :
    wpX_clone post (dd_c v) (nI a) (nI c) := by
  unfold wpX_clone
  refine dx_vol_t ha ?_
  refine br_f (by decide) ?_
  refine dx_vol_t hc ?_
  refine br_f (by decide) ?_
  unfold wpX_firstBlock
  rw [dd_8, dd_8]
  have q := dx_cl_l hv ha hc h 8 0 rfl
  rw [dd_pt_0] at q
  exact ⟨9, q⟩
theorem dd_cl_lt {v : Nat → Nat} (hv : ∀ j, v j < 4096) (f e b : Nat) : ∀ j, dd_pt v (dd_cl v f e) f b j < 4096 := dd_pt_lt hv (fun _ => hv _)
theorem dd_cl_us {v : Nat → Nat} (hv : ∀ j, v j < 4096) (f e : Nat) (he : e + 8 ≤ 32) : dd_us (dd_pt v (dd_cl v f e) f 8) 32 ≤ dd_us v 32 := by
  refine dd_us_le hv (dd_cl_lt hv f e 8) (fun j hj => Or.inr ?_)
  by_cases c : f ≤ j ∧ j < f + 8
  · exact ⟨e + (j - f), by omega, (dd_pt_in (v := v) (w := dd_cl v f e) c).symm⟩
  · exact ⟨j, hj, (dd_pt_out c).symm⟩
theorem dd_8b (a b : Nat) : (8 : Int32) * nI a + nI b = nI (8 * a + b) := by rw [dd_8, nI_add]
theorem dy_cl_l {post : Int32 → SY → Prop} {v : Nat → Nat} {g : Nat → Int32} {a c : Nat} (hv : ∀ j, v j < 4096) (hu : dd_us v 32 ≤ 48) (ha : a < 4) (hc : c < 4)
    (h : post (nI (dd_df v (dd_cl v (8 * a) (8 * c)) (8 * a) 8)) (dd_c (dd_pt v (dd_cl v (8 * a) (8 * c)) (8 * a) 8), dd_mx (dd_c v) g 32)) :
    ∀ d b, b + d = 8 → wY_clone_27 post (nI a) (nI c) (d + 1) (nI (dd_df v (dd_cl v (8 * a) (8 * c)) (8 * a) b)) (nI b)
      (dd_c (dd_pt v (dd_cl v (8 * a) (8 * c)) (8 * a) b)) (dd_mx (dd_c v) g 32)
  | 0, b, hd => by
    obtain rfl : b = 8 := by omega
    have hw := Nat.le_trans (dd_cl_us hv (8 * a) (8 * c) (by omega)) hu
    refine br_t (by decide) ?_
    exact dy_full (dd_cl_lt hv _ _ _) (fun _ => br_t rfl h) (fun z => absurd hw (by omega))
  | d + 1, b, hd => by
    have K : ∀ s, dd_df v (dd_cl v (8 * a) (8 * c)) (8 * a) (b + 1) = s →
        wY_clone_27 post (nI a) (nI c) (d + 1) (nI s) (nI (b + 1)) (dd_c (dd_pt v (dd_cl v (8 * a) (8 * c)) (8 * a) (b + 1))) (dd_mx (dd_c v) g 32) := by
      intro s hs
      subst hs
      exact dy_cl_l hv hu ha hc h d (b + 1) (by omega)
    have hi : vp_in (nI (8 * a + b)) 32 := vp_in_nI (by omega) (by decide)
    have hj : vp_in (nI (8 * c + b)) 32 := vp_in_nI (by omega) (by decide)
    have e2 : upd (dd_c (dd_pt v (dd_cl v (8 * a) (8 * c)) (8 * a) b)) (nI (8 * a + b)).toNatClampNeg (dd_mx (dd_c v) g 32 (nI (8 * c + b)).toNatClampNeg)
        = dd_c (dd_pt v (dd_cl v (8 * a) (8 * c)) (8 * a) (b + 1)) := by
      rw [nI_clamp (n := 8 * a + b) (by omega), ← dd_pt_s, dd_cl_at, dd_kp v g (by omega)]
      exact dd_up_c _ _ _
    refine br_f (nI_ge (b := 8) (by omega) (by decide)) ?_
    rw [dd_8b a b, dd_8b c b]
    refine ⟨hj, hi, nm_r e2 ⟨hi, hj, ?_⟩⟩
    exact pk_eq (v (8 * a + b)) (v (8 * c + b))
      (fun e => nm_r (nI_1 b) (K _ (dd_df_t (by rw [dd_cl_at]; exact e))))
      (fun e => nm_r (nI_1 _) (nm_r (nI_1 b) (K _ (dd_df_f (by rw [dd_cl_at]; exact e)))))
      (dd_kp v g (by omega)) (dd_kp v g (by omega)) (dd_lt hv _) (dd_lt hv _)
theorem dy_cl {post : Int32 → SY → Prop} {v : Nat → Nat} {g : Nat → Int32} {a c : Nat} (hv : ∀ j, v j < 4096) (hu : dd_us v 32 ≤ 48) (ha : a < 4) (hc : c < 4)
    (h : post (nI (dd_df v (dd_cl v (8 * a) (8 * c)) (8 * a) 8)) (dd_c (dd_pt v (dd_cl v (8 * a) (8 * c)) (8 * a) 8), dd_mx (dd_c v) g 32)) :
    wpY_clone post (dd_c v, g) (nI a) (nI c) := by
  unfold wpY_clone
  dsimp only
  refine dy_vol_t ha ?_
  refine br_f (by decide) ?_
  refine dy_vol_t hc ?_
  refine br_f (by decide) ?_
  refine dy_keep ⟨9, ?_⟩
  have q := dy_cl_l hv hu ha hc h 8 0 rfl
  rw [dd_pt_0] at q
  exact q
end
section
/-! what is owed -/
/-- both hold the same contents, all of them contents, of at most 48 of room; what is kept is free -/
def i_Rel (_ : Nat) (u : SX) (v : SY) : Prop := ∃ (c : Nat → Nat) (g : Nat → Int32), u = dd_c c ∧ v = (dd_c c, g) ∧ (∀ j, c j < 4096) ∧ dd_us c 32 ≤ 48
theorem i_up {k : Nat} {u : SX} {v : SY} (h : i_Rel k u v) : i_Rel (k + 4) u v := h
theorem i_vc0 : wpX_init (fun u => wpY_init (fun v => i_Rel 0 u v)) :=
  ⟨fun _ => 0, fun _ => 0, rfl, rfl, fun _ => (by decide : (0 : Nat) < 4096), by decide⟩
theorem dd_rel {k : Nat} {c : Nat → Nat} {g : Nat → Int32} (hv : ∀ j, c j < 4096) (hu : dd_us c 32 ≤ 48) : i_Rel k (dd_c c) (dd_c c, g) :=
  ⟨c, g, rfl, rfl, hv, hu⟩
theorem i_vc_write {k : Nat} {u : SX} {v : SY} (I : i_Rel k u v) (hk : k + 4 ≤ 2048) (v1 : Int32) (v2 : Int32) : wpX_write (fun r u' => wpY_write (fun r' v' => r' = r ∧ i_Rel (k + 4) u' v') v v1 v2) u v1 v2 := by
  obtain ⟨c, g, rfl, rfl, hv, hu⟩ := I
  rcases dd_split v1 (N := 32) (by decide) with o | ⟨n, hn, rfl⟩
  · unfold wpX_write
    refine dx_blk_f o (br_t rfl ?_)
    unfold wpY_write
    dsimp only
    exact dy_blk_f o (br_t rfl ⟨rfl, dd_rel hv hu⟩)
  · rcases dd_split v2 (N := 4096) (by decide) with o | ⟨x, hx, rfl⟩
    · unfold wpX_write
      refine dx_blk_t hn ?_
      refine br_f (by decide) ?_
      refine dx_con_f o (br_t rfl ?_)
      unfold wpY_write
      dsimp only
      refine dy_blk_t hn ?_
      refine br_f (by decide) ?_
      exact dy_con_f o (br_t rfl ⟨rfl, dd_rel hv hu⟩)
    · refine dx_write hv hn hx (fun z => ?_) (fun z => ?_)
      · exact dy_write hv hn hx (fun _ => ⟨rfl, dd_rel (dd_up_lt hv hx) z⟩) (fun y => absurd z (by omega))
      · exact dy_write hv hn hx (fun y => absurd z (by omega)) (fun _ => ⟨rfl, dd_rel hv hu⟩)
theorem i_vc_read {k : Nat} {u : SX} {v : SY} (I : i_Rel k u v) (hk : k + 4 ≤ 2048) (v1 : Int32) : wpX_read (fun r => wpY_read (fun r' => r' = r ∧ i_Rel (k + 4) u v) v v1) u v1 := by
  obtain ⟨c, g, rfl, rfl, hv, hu⟩ := I
  unfold wpX_read wpY_read
  dsimp only
  rcases dd_split v1 (N := 32) (by decide) with o | ⟨n, hn, rfl⟩
  · refine dx_blk_f o (br_t rfl ?_)
    exact dy_blk_f o (br_t rfl ⟨rfl, dd_rel hv hu⟩)
  · have hi : vp_in (nI n) 32 := vp_in_nI hn (by decide)
    refine dx_blk_t hn ?_
    refine br_f (by decide) ⟨hi, ?_⟩
    refine dy_blk_t hn ?_
    exact br_f (by decide) ⟨hi, rfl, dd_rel hv hu⟩
theorem i_vc_patch {k : Nat} {u : SX} {v : SY} (I : i_Rel k u v) (hk : k + 4 ≤ 2048) (v1 : Int32) (v2 : Int32) (v3 : Int32) : wpX_patch (fun r u' => wpY_patch (fun r' v' => r' = r ∧ i_Rel (k + 4) u' v') v v1 v2 v3) u v1 v2 v3 := by
  obtain ⟨c, g, rfl, rfl, hv, hu⟩ := I
  rcases dd_split v1 (N := 32) (by decide) with o | ⟨n, hn, rfl⟩
  · unfold wpX_patch
    refine dx_blk_f o (br_t rfl ?_)
    unfold wpY_patch
    dsimp only
    exact dy_blk_f o (br_t rfl ⟨rfl, dd_rel hv hu⟩)
  · have B : ∀ {A : Prop}, (¬ (v2 < 0 ∨ 4 ≤ v2) → ¬ (v3 < 0 ∨ 8 ≤ v3) → A) → ((v2 < 0 ∨ 4 ≤ v2) ∨ (v3 < 0 ∨ 8 ≤ v3) → A) → A := by
      intro A f e
      by_cases h1 : v2 < 0 ∨ 4 ≤ v2
      · exact e (Or.inl h1)
      · by_cases h2 : v3 < 0 ∨ 8 ≤ v3
        · exact e (Or.inr h2)
        · exact f h1 h2
    refine B (fun h1 h2 => ?_) (fun o => ?_)
    · rcases dd_split v2 (N := 4) (by decide) with o | ⟨i, hi, rfl⟩
      · exact absurd o h1
      · rcases dd_split v3 (N := 8) (by decide) with o | ⟨d, hd, rfl⟩
        · exact absurd o h2
        · refine dx_patch hv hn hi hd (fun z => ?_) (fun z => ?_)
          · exact dy_patch hv hn hi hd (fun _ => ⟨rfl, dd_rel (dd_up_lt hv (dd_pa_lt (hv n) hi hd)) z⟩) (fun y => absurd z (by omega))
          · exact dy_patch hv hn hi hd (fun y => absurd z (by omega)) (fun _ => ⟨rfl, dd_rel hv hu⟩)
    · have Y : wpY_patch (fun r' v' => r' = -1 ∧ i_Rel (k + 4) (dd_c c) v') (dd_c c, g) (nI n) v2 v3 := by
        unfold wpY_patch
        dsimp only
        refine dy_blk_t hn ?_
        refine br_f (by decide) ?_
        refine br_c (fun _ => ⟨rfl, dd_rel hv hu⟩) (fun a => br_c (fun _ => ⟨rfl, dd_rel hv hu⟩) (fun b => br_c (fun _ => ⟨rfl, dd_rel hv hu⟩) (fun d => br_f (fun e => ?_) ⟨rfl, dd_rel hv hu⟩)))
        rcases o with (o | o) | (o | o)
        · exact a o
        · exact b (dd_3 o)
        · exact d o
        · exact absurd (Int32.lt_of_le_of_lt e (Int32.lt_of_lt_of_le (by decide) o)) Int32.lt_irrefl
      unfold wpX_patch
      refine dx_blk_t hn ?_
      refine br_f (by decide) ?_
      refine br_c (fun _ => Y) (fun a => br_c (fun _ => Y) (fun b => br_c (fun _ => Y) (fun d => br_f (fun e => ?_) Y)))
      rcases o with (o | o) | (o | o)
      · exact a o
      · exact b o
      · exact d o
      · exact absurd (Int32.lt_of_lt_of_le e o) Int32.lt_irrefl
theorem i_vc_spread {k : Nat} {u : SX} {v : SY} (I : i_Rel k u v) (hk : k + 4 ≤ 2048) (v1 : Int32) (v2 : Int32) (v3 : Int32) : wpX_spread (fun r u' => wpY_spread (fun r' v' => r' = r ∧ i_Rel (k + 4) u' v') v v1 v2 v3) u v1 v2 v3 := by
  obtain ⟨c, g, rfl, rfl, hv, hu⟩ := I
  rcases dd_split v1 (N := 32) (by decide) with o | ⟨n, hn, rfl⟩
  · unfold wpX_spread
    refine dx_blk_f o (br_t rfl ?_)
    unfold wpY_spread
    dsimp only
    exact dy_blk_f o (br_t rfl ⟨rfl, dd_rel hv hu⟩)
  · rcases dd_split v2 (N := 32) (by decide) with o | ⟨m, hm, rfl⟩
    · unfold wpX_spread
      refine dx_blk_t hn ?_
      refine br_f (by decide) ?_
      refine dx_blk_f o (br_t rfl ?_)
      unfold wpY_spread
      dsimp only
      refine dy_blk_t hn ?_
      refine br_f (by decide) ?_
      exact dy_blk_f o (br_t rfl ⟨rfl, dd_rel hv hu⟩)
    · by_cases h1 : v3 < 1
      · unfold wpX_spread
        refine dx_blk_t hn ?_
        refine br_f (by decide) ?_
        refine dx_blk_t hm ?_
        refine br_f (by decide) (br_t h1 ?_)
        unfold wpY_spread
        dsimp only
        refine dy_blk_t hn ?_
        refine br_f (by decide) ?_
        refine dy_blk_t hm ?_
        exact br_f (by decide) (br_t h1 ⟨rfl, dd_rel hv hu⟩)
      · by_cases h8 : v3 ≤ 8
        · have h0 : ¬ v3 < 0 := fun z => h1 (Int32.lt_trans z (by decide))
          obtain ⟨q, hq, rfl⟩ := nI_of h0
          have q1 : 1 ≤ q := by
            have z : ¬ nI q < nI 1 := h1
            rw [nI_ltI hq (by decide)] at z
            omega
          have q8 : q ≤ 8 := by
            have z : nI q ≤ nI 8 := h8
            rw [nI_leI hq (by decide)] at z
            exact z
          refine dx_sp hn hm q1 q8 ?_
          exact dy_sp hv hu hn hm q1 q8 ⟨rfl, dd_rel (dd_sp_lt hv _ _ _) (Nat.le_trans (dd_sp_us hv hm _ _) hu)⟩
        · unfold wpX_spread
          refine dx_blk_t hn ?_
          refine br_f (by decide) ?_
          refine dx_blk_t hm ?_
          refine br_f (by decide) (br_f h1 (br_f h8 ?_))
          unfold wpY_spread
          dsimp only
          refine dy_blk_t hn ?_
          refine br_f (by decide) ?_
          refine dy_blk_t hm ?_
          exact br_f (by decide) (br_f h1 (br_f h8 ⟨rfl, dd_rel hv hu⟩))
theorem i_vc_clone {k : Nat} {u : SX} {v : SY} (I : i_Rel k u v) (hk : k + 4 ≤ 2048) (v1 : Int32) (v2 : Int32) : wpX_clone (fun r u' => wpY_clone (fun r' v' => r' = r ∧ i_Rel (k + 4) u' v') v v1 v2) u v1 v2 := by
  obtain ⟨c, g, rfl, rfl, hv, hu⟩ := I
  rcases dd_split v1 (N := 4) (by decide) with o | ⟨a, ha, rfl⟩
  · unfold wpX_clone
    refine dx_vol_f o (br_t rfl ?_)
    unfold wpY_clone
    dsimp only
    exact dy_vol_f o (br_t rfl ⟨rfl, dd_rel hv hu⟩)
  · rcases dd_split v2 (N := 4) (by decide) with o | ⟨b, hb, rfl⟩
    · unfold wpX_clone
      refine dx_vol_t ha ?_
      refine br_f (by decide) ?_
      refine dx_vol_f o (br_t rfl ?_)
      unfold wpY_clone
      dsimp only
      refine dy_vol_t ha ?_
      refine br_f (by decide) ?_
      exact dy_vol_f o (br_t rfl ⟨rfl, dd_rel hv hu⟩)
    · refine dx_cl hv ha hb ?_
      exact dy_cl hv hu ha hb ⟨rfl, dd_rel (dd_cl_lt hv _ _ _) (Nat.le_trans (dd_cl_us hv _ _ (by omega)) hu)⟩
theorem dd_er_us {v : Nat → Nat} (hv : ∀ j, v j < 4096) (f : Nat) : dd_us (dd_pt v dd_z f 8) 32 ≤ dd_us v 32 := by
  refine dd_us_le hv (dd_pt_lt hv (fun _ => (by decide : (0 : Nat) < 4096))) (fun j hj => ?_)
  by_cases c : f ≤ j ∧ j < f + 8
  · exact Or.inl (dd_pt_in (v := v) (w := dd_z) c)
  · exact Or.inr ⟨j, hj, (dd_pt_out c).symm⟩
theorem i_vc_erase {k : Nat} {u : SX} {v : SY} (I : i_Rel k u v) (hk : k + 4 ≤ 2048) (v1 : Int32) : wpX_erase (fun r u' => wpY_erase (fun r' v' => r' = r ∧ i_Rel (k + 4) u' v') v v1) u v1 := by
  obtain ⟨c, g, rfl, rfl, hv, hu⟩ := I
  rcases dd_split v1 (N := 4) (by decide) with o | ⟨a, ha, rfl⟩
  · unfold wpX_erase
    refine dx_vol_f o (br_t rfl ?_)
    unfold wpY_erase
    dsimp only
    exact dy_vol_f o (br_t rfl ⟨rfl, dd_rel hv hu⟩)
  · refine dx_er hv ha ?_
    exact dy_er hv ha ⟨rfl, dd_rel (dd_pt_lt hv (fun _ => (by decide : (0 : Nat) < 4096))) (Nat.le_trans (dd_er_us hv _) hu)⟩
theorem i_vc_holders {k : Nat} {u : SX} {v : SY} (I : i_Rel k u v) (hk : k + 4 ≤ 2048) (v1 : Int32) : wpX_holders (fun r => wpY_holders (fun r' => r' = r ∧ i_Rel (k + 4) u v) v v1) u v1 := by
  obtain ⟨c, g, rfl, rfl, hv, hu⟩ := I
  unfold wpX_holders wpY_holders
  dsimp only
  rcases dd_split v1 (N := 4096) (by decide) with o | ⟨x, hx, rfl⟩
  · refine dx_con_f o (br_t rfl ?_)
    exact dy_con_f o (br_t rfl ⟨rfl, dd_rel hv hu⟩)
  · refine dx_con_t hx ?_
    refine br_f (by decide) ?_
    refine dx_count hv hx ?_
    refine dy_con_t hx ?_
    refine br_f (by decide) ?_
    exact dy_count hv hx ⟨rfl, dd_rel hv hu⟩
theorem i_vc_distinct {k : Nat} {u : SX} {v : SY} (I : i_Rel k u v) (hk : k + 4 ≤ 2048) : wpX_distinct (fun r => wpY_distinct (fun r' => r' = r ∧ i_Rel (k + 4) u v) v) u := by
  obtain ⟨c, g, rfl, rfl, hv, hu⟩ := I
  refine dx_ds hv ?_
  exact dy_ds hv ⟨rfl, dd_rel hv hu⟩
theorem i_vc_used {k : Nat} {u : SX} {v : SY} (I : i_Rel k u v) (hk : k + 4 ≤ 2048) : wpX_used (fun r => wpY_used (fun r' => r' = r ∧ i_Rel (k + 4) u v) v) u := by
  obtain ⟨c, g, rfl, rfl, hv, hu⟩ := I
  unfold wpX_used
  refine dx_used hv ?_
  exact dy_used hv ⟨rfl, dd_rel hv hu⟩
theorem i_vc_saved {k : Nat} {u : SX} {v : SY} (I : i_Rel k u v) (hk : k + 4 ≤ 2048) : wpX_saved (fun r => wpY_saved (fun r' => r' = r ∧ i_Rel (k + 4) u v) v) u := by
  obtain ⟨c, g, rfl, rfl, hv, hu⟩ := I
  refine dx_sm hv ?_
  exact dy_sm hv ⟨rfl, dd_rel hv hu⟩
theorem i_vc_alone {k : Nat} {u : SX} {v : SY} (I : i_Rel k u v) (hk : k + 4 ≤ 2048) (v1 : Int32) : wpX_alone (fun r => wpY_alone (fun r' => r' = r ∧ i_Rel (k + 4) u v) v v1) u v1 := by
  obtain ⟨c, g, rfl, rfl, hv, hu⟩ := I
  rcases dd_split v1 (N := 32) (by decide) with o | ⟨n, hn, rfl⟩
  · unfold wpX_alone
    refine dx_blk_f o (br_t rfl ?_)
    unfold wpY_alone
    dsimp only
    exact dy_blk_f o (br_t rfl ⟨rfl, dd_rel hv hu⟩)
  · refine dx_alone hv hn (fun e => ?_) (fun e => ?_)
    · exact dy_alone hv hn (fun _ => ⟨rfl, dd_rel hv hu⟩) (fun z => absurd e z)
    · exact dy_alone hv hn (fun z => absurd z e) (fun _ => ⟨rfl, dd_rel hv hu⟩)
theorem i_vc_aloneIn {k : Nat} {u : SX} {v : SY} (I : i_Rel k u v) (hk : k + 4 ≤ 2048) (v1 : Int32) : wpX_aloneIn (fun r => wpY_aloneIn (fun r' v' => r' = r ∧ i_Rel (k + 4) u v') v v1) u v1 := by
  obtain ⟨c, g, rfl, rfl, hv, hu⟩ := I
  rcases dd_split v1 (N := 4) (by decide) with o | ⟨a, ha, rfl⟩
  · unfold wpX_aloneIn
    refine dx_vol_f o (br_t rfl ?_)
    unfold wpY_aloneIn
    dsimp only
    exact dy_vol_f o (br_t rfl ⟨rfl, dd_rel hv hu⟩)
  · refine dx_al hv ha ?_
    exact dy_al hv ha ⟨rfl, dd_rel hv hu⟩
theorem i_vc_twin {k : Nat} {u : SX} {v : SY} (I : i_Rel k u v) (hk : k + 4 ≤ 2048) (v1 : Int32) : wpX_twin (fun r => wpY_twin (fun r' => r' = r ∧ i_Rel (k + 4) u v) v v1) u v1 := by
  obtain ⟨c, g, rfl, rfl, hv, hu⟩ := I
  rcases dd_split v1 (N := 32) (by decide) with o | ⟨n, hn, rfl⟩
  · unfold wpX_twin
    refine dx_blk_f o (br_t rfl ?_)
    unfold wpY_twin
    dsimp only
    exact dy_blk_f o (br_t rfl ⟨rfl, dd_rel hv hu⟩)
  · refine dx_twin hv hn (fun j h1 h2 e h3 => ?_) (fun h => ?_)
    · refine dy_twin hv hn (fun i g1 g2 e' g3 => ⟨?_, dd_rel hv hu⟩) (fun h => absurd e (h j h1 h2))
      by_cases a : i < j
      · exact absurd e' (h3 i a g2)
      · by_cases b : j < i
        · exact absurd e (g3 j b h2)
        · rw [show i = j from by omega]
    · exact dy_twin hv hn (fun i g1 g2 e' _ => absurd e' (h i g1 g2)) (fun _ => ⟨rfl, dd_rel hv hu⟩)
theorem i_vc_favourite {k : Nat} {u : SX} {v : SY} (I : i_Rel k u v) (hk : k + 4 ≤ 2048) : wpX_favourite (fun r => wpY_favourite (fun r' => r' = r ∧ i_Rel (k + 4) u v) v) u := by
  obtain ⟨c, g, rfl, rfl, hv, hu⟩ := I
  refine dx_fv hv ?_
  exact dy_fv hv ⟨rfl, dd_rel hv hu⟩
theorem i_vc_tidy {k : Nat} {u : SX} {v : SY} (I : i_Rel k u v) (hk : k + 4 ≤ 2048) : wpX_tidy (fun u' => wpY_tidy (fun v' => i_Rel (k + 4) u' v') v) u := by
  obtain ⟨c, g, rfl, rfl, hv, hu⟩ := I
  exact dd_rel (k := k + 4) hv hu
end
