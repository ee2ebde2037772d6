/-! the pictures: digits, room, held, used room, sums by values, stores of a stretch -/
def dd_dg (x i : Nat) : Nat := x / 2 ^ (3 * i) % 8
def dd_rr (x : Nat) : Nat → Nat
  | 0 => 1
  | k + 1 => dd_rr x k + if dd_dg x (k + 1) = dd_dg x k then 0 else 1
def dd_rm (x : Nat) : Nat := if x = 0 then 0 else dd_rr x 3 + 1
theorem dd_dg_lt (x i : Nat) : dd_dg x i < 8 := Nat.mod_lt _ (by decide)
theorem dd_rr_le (x : Nat) : ∀ k, dd_rr x k ≤ k + 1
  | 0 => Nat.le_refl _
  | k + 1 => by
    have ih := dd_rr_le x k
    simp only [dd_rr]
    split <;> omega
theorem dd_rr_t {x k : Nat} (h : dd_dg x (k + 1) = dd_dg x k) : dd_rr x (k + 1) = dd_rr x k := by
  simp only [dd_rr]; rw [if_pos h]; rfl
theorem dd_rr_f {x k : Nat} (h : dd_dg x (k + 1) ≠ dd_dg x k) : dd_rr x (k + 1) = dd_rr x k + 1 := by
  simp only [dd_rr]; rw [if_neg h]
theorem dd_rm0 : dd_rm 0 = 0 := rfl
theorem dd_rm_n {x : Nat} (h : x ≠ 0) : dd_rm x = dd_rr x 3 + 1 := if_neg h
theorem dd_rm_le (x : Nat) : dd_rm x ≤ 5 := by
  have h := dd_rr_le x 3
  unfold dd_rm
  split <;> omega
-- held below k
def dd_in (v : Nat → Nat) (x : Nat) : Nat → Bool
  | 0 => false
  | k + 1 => dd_in v x k || (v k == x)
theorem dd_in_iff (v : Nat → Nat) (x : Nat) : ∀ k, dd_in v x k = true ↔ ∃ m, m < k ∧ v m = x
  | 0 => by
    constructor
    · intro h; exact absurd h (by simp [dd_in])
    · rintro ⟨m, hm, _⟩; exact absurd hm (Nat.not_lt_zero m)
  | k + 1 => by
    have ih := dd_in_iff v x k
    simp only [dd_in, Bool.or_eq_true, beq_iff_eq]
    constructor
    · rintro (h | h)
      · obtain ⟨m, hm, e⟩ := ih.mp h
        exact ⟨m, by omega, e⟩
      · exact ⟨k, by omega, h⟩
    · rintro ⟨m, hm, e⟩
      by_cases hk : m = k
      · subst hk; exact Or.inr e
      · exact Or.inl (ih.mpr ⟨m, by omega, e⟩)
theorem dd_in_f {v : Nat → Nat} {x k : Nat} (h : ∀ m, m < k → v m ≠ x) : dd_in v x k = false := by
  cases e : dd_in v x k with
  | false => rfl
  | true =>
    obtain ⟨m, hm, e'⟩ := (dd_in_iff v x k).mp e
    exact absurd e' (h m hm)
theorem dd_in_t {v : Nat → Nat} {x k : Nat} (m : Nat) (h : m < k) (e : v m = x) : dd_in v x k = true :=
  (dd_in_iff v x k).mpr ⟨m, h, e⟩
-- used room
def dd_us (v : Nat → Nat) : Nat → Nat
  | 0 => 0
  | k + 1 => dd_us v k + if dd_in v (v k) k = true then 0 else dd_rm (v k)
theorem dd_us_t {v : Nat → Nat} {k : Nat} (h : dd_in v (v k) k = true) : dd_us v (k + 1) = dd_us v k := by
  simp only [dd_us]; rw [if_pos h]; rfl
theorem dd_us_f {v : Nat → Nat} {k : Nat} (h : dd_in v (v k) k = false) : dd_us v (k + 1) = dd_us v k + dd_rm (v k) := by
  simp only [dd_us]; rw [if_neg (by rw [h]; decide)]
theorem dd_us_b (v : Nat → Nat) : ∀ k, dd_us v k ≤ 5 * k
  | 0 => Nat.le_refl _
  | k + 1 => by
    have ih := dd_us_b v k
    have hr := dd_rm_le (v k)
    simp only [dd_us]
    split <;> omega
-- a sum by values
def dd_sv (p : Nat → Bool) : Nat → Nat
  | 0 => 0
  | x + 1 => dd_sv p x + if p x = true then dd_rm x else 0
theorem dd_sv_eq {p q : Nat → Bool} : ∀ (N : Nat), (∀ x, x < N → p x = q x) → dd_sv p N = dd_sv q N
  | 0, _ => rfl
  | N + 1, h => by
    simp only [dd_sv]
    rw [dd_sv_eq N (fun x hx => h x (by omega)), h N (by omega)]
theorem dd_sv_0 {p : Nat → Bool} (h : ∀ x, p x = false) : ∀ N, dd_sv p N = 0
  | 0 => rfl
  | N + 1 => by
    simp only [dd_sv]
    rw [dd_sv_0 h N, h N]
    rfl
-- two predicates that differ at y alone
theorem dd_sv_pt {p q : Nat → Bool} {y : Nat} (h : ∀ x, x ≠ y → q x = p x) : ∀ (N : Nat), y < N →
    dd_sv q N + (if p y = true then dd_rm y else 0) = dd_sv p N + (if q y = true then dd_rm y else 0)
  | 0, hy => absurd hy (Nat.not_lt_zero y)
  | N + 1, hy => by
    simp only [dd_sv]
    by_cases e : y = N
    · subst e
      rw [dd_sv_eq (p := q) (q := p) y (fun x hx => h x (by omega))]
      omega
    · have ih := dd_sv_pt h N (by omega)
      rw [h N (fun z => e z.symm)]
      omega
theorem dd_us_sv (v : Nat → Nat) (N : Nat) : ∀ k, (∀ m, m < k → v m < N) → dd_us v k = dd_sv (fun x => dd_in v x k) N
  | 0, _ => (dd_sv_0 (fun _ => rfl) N).symm
  | k + 1, h => by
    have ih := dd_us_sv v N k (fun m hm => h m (by omega))
    have s := dd_sv_pt (p := fun x => dd_in v x k) (q := fun x => dd_in v x (k + 1)) (y := v k)
      (fun x hx => by
        have e : (v k == x) = false := beq_eq_false_iff_ne.mpr (fun z => hx z.symm)
        simp only [dd_in, e, Bool.or_false]) N (h k (by omega))
    have t : dd_in v (v k) (k + 1) = true := by simp [dd_in]
    rw [if_pos t] at s
    cases c : dd_in v (v k) k with
    | true =>
      rw [dd_us_t c, ih]
      rw [if_pos c] at s
      omega
    | false =>
      rw [dd_us_f c, ih]
      rw [if_neg (by rw [c]; decide)] at s
      omega
theorem dd_sv_le {p q : Nat → Bool} : ∀ (N : Nat), (∀ x, x < N → p x = true → q x = true ∨ dd_rm x = 0) → dd_sv p N ≤ dd_sv q N
  | 0, _ => Nat.le_refl _
  | N + 1, h => by
    have ih := dd_sv_le N (fun x hx => h x (by omega))
    have hN := h N (by omega)
    simp only [dd_sv]
    by_cases c : p N = true
    · rcases hN c with d | d
      · rw [if_pos c, if_pos d]; omega
      · rw [d]; split <;> split <;> omega
    · rw [if_neg c]; omega
theorem dd_sv_add {p q r : Nat → Bool} : ∀ (N : Nat),
    (∀ x, x < N → (if p x = true then dd_rm x else 0) + (if q x = true then dd_rm x else 0) = if r x = true then dd_rm x else 0) →
    dd_sv p N + dd_sv q N = dd_sv r N
  | 0, _ => rfl
  | N + 1, h => by
    have ih := dd_sv_add N (fun x hx => h x (by omega))
    have hN := h N (by omega)
    simp only [dd_sv]; omega
-- what w holds v holds, or it costs nothing: w's room is no greater
theorem dd_us_le {v w : Nat → Nat} (hv : ∀ m, v m < 4096) (hw : ∀ m, w m < 4096)
    (h : ∀ m, m < 32 → w m = 0 ∨ ∃ j, j < 32 ∧ v j = w m) : dd_us w 32 ≤ dd_us v 32 := by
  rw [dd_us_sv v 4096 32 (fun m _ => hv m), dd_us_sv w 4096 32 (fun m _ => hw m)]
  refine dd_sv_le 4096 (fun x _ hx => ?_)
  obtain ⟨m, hm, e⟩ := (dd_in_iff w x 32).mp hx
  rcases h m hm with z | ⟨j, hj, ej⟩
  · right; rw [← e, z]; rfl
  · left; exact dd_in_t j hj (by rw [ej, e])
-- held from a on, k of them
def dd_bt (v : Nat → Nat) (x a : Nat) : Nat → Bool
  | 0 => false
  | k + 1 => dd_bt v x a k || (v (a + k) == x)
theorem dd_bt_iff (v : Nat → Nat) (x a : Nat) : ∀ k, dd_bt v x a k = true ↔ ∃ m, a ≤ m ∧ m < a + k ∧ v m = x
  | 0 => by
    constructor
    · intro h; exact absurd h (by simp [dd_bt])
    · rintro ⟨m, h1, h2, _⟩; omega
  | k + 1 => by
    have ih := dd_bt_iff v x a k
    simp only [dd_bt, Bool.or_eq_true, beq_iff_eq]
    constructor
    · rintro (h | h)
      · obtain ⟨m, h1, h2, e⟩ := ih.mp h
        exact ⟨m, h1, by omega, e⟩
      · exact ⟨a + k, by omega, by omega, h⟩
    · rintro ⟨m, h1, h2, e⟩
      by_cases hk : m = a + k
      · subst hk; exact Or.inr e
      · exact Or.inl (ih.mpr ⟨m, h1, by omega, e⟩)
theorem dd_bt_f {v : Nat → Nat} {x a k : Nat} (h : ∀ m, a ≤ m → m < a + k → v m ≠ x) : dd_bt v x a k = false := by
  cases e : dd_bt v x a k with
  | false => rfl
  | true =>
    obtain ⟨m, h1, h2, e'⟩ := (dd_bt_iff v x a k).mp e
    exact absurd e' (h m h1 h2)
theorem dd_bt_t {v : Nat → Nat} {x a k : Nat} (m : Nat) (h1 : a ≤ m) (h2 : m < a + k) (e : v m = x) : dd_bt v x a k = true :=
  (dd_bt_iff v x a k).mpr ⟨m, h1, h2, e⟩
-- aloneIn: first holders of the volume from a on with none from e on (d of them)
def dd_al (v : Nat → Nat) (a e d : Nat) : Nat → Nat
  | 0 => 0
  | k + 1 => dd_al v a e d k +
      if dd_in v (v (a + k)) (a + k) = false ∧ dd_bt v (v (a + k)) e d = false then dd_rm (v (a + k)) else 0
theorem dd_al_t {v : Nat → Nat} {a e d k : Nat} (h1 : dd_in v (v (a + k)) (a + k) = false) (h2 : dd_bt v (v (a + k)) e d = false) :
    dd_al v a e d (k + 1) = dd_al v a e d k + dd_rm (v (a + k)) := by
  simp only [dd_al]; rw [if_pos ⟨h1, h2⟩]
theorem dd_al_1 {v : Nat → Nat} {a e d k : Nat} (h1 : dd_in v (v (a + k)) (a + k) = true) : dd_al v a e d (k + 1) = dd_al v a e d k := by
  simp only [dd_al]; rw [if_neg (fun z => by rw [h1] at z; exact absurd z.1 (by decide))]; rfl
theorem dd_al_2 {v : Nat → Nat} {a e d k : Nat} (h2 : dd_bt v (v (a + k)) e d = true) : dd_al v a e d (k + 1) = dd_al v a e d k := by
  simp only [dd_al]; rw [if_neg (fun z => by rw [h2] at z; exact absurd z.2 (by decide))]; rfl
theorem dd_in_bt (v : Nat → Nat) (x a : Nat) : ∀ k, dd_in v x (a + k) = (dd_in v x a || dd_bt v x a k)
  | 0 => by simp [dd_bt]
  | k + 1 => by
    have ih := dd_in_bt v x a k
    show (dd_in v x (a + k) || (v (a + k) == x)) = _
    rw [ih]; simp only [dd_bt, Bool.or_assoc]
theorem dd_al_sv (v : Nat → Nat) (a e d N : Nat) : ∀ k, (∀ m, m < k → v (a + m) < N) →
    dd_al v a e d k = dd_sv (fun x => dd_bt v x a k && !dd_in v x a && !dd_bt v x e d) N
  | 0, _ => (dd_sv_0 (fun _ => rfl) N).symm
  | k + 1, h => by
    have ih := dd_al_sv v a e d N k (fun m hm => h m (by omega))
    have s := dd_sv_pt (p := fun x => dd_bt v x a k && !dd_in v x a && !dd_bt v x e d)
      (q := fun x => dd_bt v x a (k + 1) && !dd_in v x a && !dd_bt v x e d) (y := v (a + k))
      (fun x hx => by
        have e : (v (a + k) == x) = false := beq_eq_false_iff_ne.mpr (fun z => hx z.symm)
        simp only [dd_bt, e, Bool.or_false]) N (h k (by omega))
    have t : dd_bt v (v (a + k)) a (k + 1) = true := by simp [dd_bt]
    have b := dd_in_bt v (v (a + k)) a k
    rw [t] at s
    simp only [dd_al]
    rw [ih, b]
    generalize dd_sv (fun x => dd_bt v x a k && !dd_in v x a && !dd_bt v x e d) N = A at s ⊢
    generalize dd_sv (fun x => dd_bt v x a (k + 1) && !dd_in v x a && !dd_bt v x e d) N = B at s ⊢
    generalize dd_rm (v (a + k)) = R at s ⊢
    generalize dd_bt v (v (a + k)) a k = b1 at s ⊢
    generalize dd_in v (v (a + k)) a = b2 at s ⊢
    generalize dd_bt v (v (a + k)) e d = b3 at s ⊢
    cases b1 <;> cases b2 <;> cases b3 <;> simp at s ⊢ <;> omega
-- a stretch of b from f on with w's values, the rest v's
def dd_pt (v w : Nat → Nat) (f b : Nat) : Nat → Nat := fun j => if f ≤ j ∧ j < f + b then w j else v j
theorem dd_pt_in {v w : Nat → Nat} {f b j : Nat} (h : f ≤ j ∧ j < f + b) : dd_pt v w f b j = w j := if_pos h
theorem dd_pt_out {v w : Nat → Nat} {f b j : Nat} (h : ¬ (f ≤ j ∧ j < f + b)) : dd_pt v w f b j = v j := if_neg h
theorem dd_pt_0 (v w : Nat → Nat) (f : Nat) : dd_pt v w f 0 = v := funext fun j => dd_pt_out (by omega)
theorem dd_pt_k {v w : Nat → Nat} {f b : Nat} (h : v (f + b) = w (f + b)) : dd_pt v w f (b + 1) = dd_pt v w f b := by
  funext j
  by_cases h1 : f ≤ j ∧ j < f + b
  · rw [dd_pt_in h1, dd_pt_in (by omega)]
  · by_cases h2 : j = f + b
    · subst h2
      rw [dd_pt_in (by omega), dd_pt_out (by omega)]
      exact h.symm
    · rw [dd_pt_out h1, dd_pt_out (by omega)]
theorem dd_pt_lt {v w : Nat → Nat} {f b N : Nat} (hv : ∀ j, v j < N) (hw : ∀ j, w j < N) : ∀ j, dd_pt v w f b j < N := by
  intro j
  by_cases h1 : f ≤ j ∧ j < f + b
  · rw [dd_pt_in h1]; exact hw j
  · rw [dd_pt_out h1]; exact hv j
-- the room that a volume gives back
theorem dd_alone {v : Nat → Nat} (hv : ∀ j, v j < 4096) (f : Nat) (hf : f + 8 ≤ 32) :
    dd_al v f (f + 8) (32 - (f + 8)) 8 + dd_us (dd_pt v (fun _ => 0) f 8) 32 = dd_us v 32 := by
  rw [dd_us_sv v 4096 32 (fun m _ => hv m),
    dd_us_sv (dd_pt v (fun _ => 0) f 8) 4096 32 (fun m _ => dd_pt_lt hv (fun _ => by decide) m),
    dd_al_sv v f (f + 8) (32 - (f + 8)) 4096 8 (fun m _ => hv _)]
  refine dd_sv_add 4096 (fun x _ => ?_)
  by_cases hx : x = 0
  · subst hx
    rw [dd_rm0]
    simp only [ite_self]
  · have e1 : dd_in v x 32 = (dd_in v x f || dd_bt v x f 8 || dd_bt v x (f + 8) (32 - (f + 8))) := by
      have h1 := dd_in_bt v x f 8
      have h2 := dd_in_bt v x (f + 8) (32 - (f + 8))
      rw [show f + 8 + (32 - (f + 8)) = 32 from by omega] at h2
      rw [h2, h1]
    have e2 : dd_in (dd_pt v (fun _ => 0) f 8) x 32 = (dd_in v x f || dd_bt v x (f + 8) (32 - (f + 8))) := by
      apply Bool.eq_iff_iff.mpr
      rw [dd_in_iff, Bool.or_eq_true, dd_in_iff, dd_bt_iff]
      constructor
      · rintro ⟨m, hm, e⟩
        by_cases h : f ≤ m ∧ m < f + 8
        · rw [dd_pt_in h] at e
          exact absurd e.symm hx
        · rw [dd_pt_out h] at e
          by_cases h1 : m < f
          · exact Or.inl ⟨m, h1, e⟩
          · exact Or.inr ⟨m, by omega, by omega, e⟩
      · rintro (⟨m, hm, e⟩ | ⟨m, h1, h2, e⟩)
        · exact ⟨m, by omega, by rw [dd_pt_out (by omega)]; exact e⟩
        · exact ⟨m, by omega, by rw [dd_pt_out (by omega)]; exact e⟩
    rw [e1, e2]
    generalize dd_rm x = R
    generalize dd_in v x f = b1
    generalize dd_bt v x f 8 = b2
    generalize dd_bt v x (f + 8) (32 - (f + 8)) = b3
    cases b1 <;> cases b2 <;> cases b3 <;> simp
-- counts
def dd_ct (v : Nat → Nat) (x : Nat) : Nat → Nat
  | 0 => 0
  | k + 1 => dd_ct v x k + if v k = x then 1 else 0
theorem dd_ct_t {v : Nat → Nat} {x k : Nat} (h : v k = x) : dd_ct v x (k + 1) = dd_ct v x k + 1 := by
  simp only [dd_ct]; rw [if_pos h]
theorem dd_ct_f {v : Nat → Nat} {x k : Nat} (h : v k ≠ x) : dd_ct v x (k + 1) = dd_ct v x k := by
  simp only [dd_ct]; rw [if_neg h]; rfl
theorem dd_ct_b (v : Nat → Nat) (x : Nat) : ∀ k, dd_ct v x k ≤ k
  | 0 => Nat.le_refl _
  | k + 1 => by
    have ih := dd_ct_b v x k
    simp only [dd_ct]
    split <;> omega
def dd_ds (v : Nat → Nat) : Nat → Nat
  | 0 => 0
  | k + 1 => dd_ds v k + if v k ≠ 0 ∧ dd_in v (v k) k = false then 1 else 0
theorem dd_ds_t {v : Nat → Nat} {k : Nat} (h0 : v k ≠ 0) (h : dd_in v (v k) k = false) : dd_ds v (k + 1) = dd_ds v k + 1 := by
  simp only [dd_ds]; rw [if_pos ⟨h0, h⟩]
theorem dd_ds_1 {v : Nat → Nat} {k : Nat} (h0 : v k = 0) : dd_ds v (k + 1) = dd_ds v k := by
  simp only [dd_ds]; rw [if_neg (fun z => z.1 h0)]; rfl
theorem dd_ds_2 {v : Nat → Nat} {k : Nat} (h : dd_in v (v k) k = true) : dd_ds v (k + 1) = dd_ds v k := by
  simp only [dd_ds]; rw [if_neg (fun z => by rw [h] at z; exact absurd z.2 (by decide))]; rfl
def dd_sm (v : Nat → Nat) : Nat → Nat
  | 0 => 0
  | k + 1 => dd_sm v k + dd_rm (v k)
-- in how many of the first b places of the stretch from f on v and w differ
def dd_df (v w : Nat → Nat) (f : Nat) : Nat → Nat
  | 0 => 0
  | b + 1 => dd_df v w f b + if v (f + b) = w (f + b) then 0 else 1
theorem dd_df_t {v w : Nat → Nat} {f b : Nat} (h : v (f + b) = w (f + b)) : dd_df v w f (b + 1) = dd_df v w f b := by
  simp only [dd_df]; rw [if_pos h]; rfl
theorem dd_df_f {v w : Nat → Nat} {f b : Nat} (h : v (f + b) ≠ w (f + b)) : dd_df v w f (b + 1) = dd_df v w f b + 1 := by
  simp only [dd_df]; rw [if_neg h]
-- favourite: best and most after the first k blocks
def dd_fv (v : Nat → Nat) : Nat → Int32 × Int32
  | 0 => (-4, 0)
  | k + 1 =>
    if v k ≠ 0 ∧ ((dd_fv v k).2 < nI (dd_ct v (v k) 32) ∨ (nI (dd_ct v (v k) 32) = (dd_fv v k).2 ∧ nI (v k) < (dd_fv v k).1))
    then (nI (v k), nI (dd_ct v (v k) 32)) else dd_fv v k
theorem dd_fv_t {v : Nat → Nat} {k : Nat} (h0 : v k ≠ 0)
    (h : (dd_fv v k).2 < nI (dd_ct v (v k) 32) ∨ (nI (dd_ct v (v k) 32) = (dd_fv v k).2 ∧ nI (v k) < (dd_fv v k).1)) :
    dd_fv v (k + 1) = (nI (v k), nI (dd_ct v (v k) 32)) := by
  simp only [dd_fv]; rw [if_pos ⟨h0, h⟩]
theorem dd_fv_1 {v : Nat → Nat} {k : Nat} (h0 : v k = 0) : dd_fv v (k + 1) = dd_fv v k := by
  simp only [dd_fv]; rw [if_neg (fun z => z.1 h0)]
theorem dd_fv_2 {v : Nat → Nat} {k : Nat}
    (h : ¬ ((dd_fv v k).2 < nI (dd_ct v (v k) 32) ∨ (nI (dd_ct v (v k) 32) = (dd_fv v k).2 ∧ nI (v k) < (dd_fv v k).1))) :
    dd_fv v (k + 1) = dd_fv v k := by
  simp only [dd_fv]; rw [if_neg (fun z => h z.2)]
