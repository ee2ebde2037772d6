/-! the methods that only read, both sides -/
-- distinct
theorem dx_ds_l {post : Int32 → Prop} {v : Nat → Nat} (hv : ∀ j, v j < 4096) (h : post (nI (dd_ds v 32))) :
    ∀ d k, k + d = 32 → wX_distinct_4 post (dd_c v) (d + 1) (nI (dd_ds v k)) (nI k)
  | 0, k, hd => by
    obtain rfl : k = 32 := by omega
    exact br_t (by decide) h
  | d + 1, k, hd => by
    have K : ∀ s, dd_ds v (k + 1) = s → wX_distinct_4 post (dd_c v) (d + 1) (nI s) (nI (k + 1)) := by
      intro s hs
      subst hs
      exact dx_ds_l hv h d (k + 1) (by omega)
    refine br_f (nI_ge (b := 32) (by omega) (by decide)) ⟨vp_in_nI (by omega) (by decide), ?_⟩
    refine pk_eq (v k) 0 (fun e => nm_r (nI_1 k) (K _ (dd_ds_1 e))) (fun e => ?_) (dd_at v (by omega)) rfl (dd_lt hv k) (by decide)
    exact dx_first hv (by omega) (fun t => br_t rfl (nm_r (nI_1 k) (K _ (dd_ds_2 t))))
      (fun t => br_f (by decide) (nm_r (nI_1 _) (nm_r (nI_1 k) (K _ (dd_ds_t e t)))))
theorem dx_ds {post : Int32 → Prop} {v : Nat → Nat} (hv : ∀ j, v j < 4096) (h : post (nI (dd_ds v 32))) : wpX_distinct post (dd_c v) :=
  ⟨33, dx_ds_l hv h 32 0 rfl⟩
theorem dy_ds_l {post : Int32 → Prop} {v : Nat → Nat} {g : Nat → Int32} (hv : ∀ j, v j < 4096) (h : post (nI (dd_ds v 32))) :
    ∀ d k, k + d = 32 → wY_distinct_4 post (dd_c v) g (d + 1) (nI (dd_ds v k)) (nI k)
  | 0, k, hd => by
    obtain rfl : k = 32 := by omega
    exact br_t (by decide) h
  | d + 1, k, hd => by
    have K : ∀ s, dd_ds v (k + 1) = s → wY_distinct_4 post (dd_c v) g (d + 1) (nI s) (nI (k + 1)) := by
      intro s hs
      subst hs
      exact dy_ds_l hv h d (k + 1) (by omega)
    refine br_f (nI_ge (b := 32) (by omega) (by decide)) ⟨vp_in_nI (by omega) (by decide), ?_⟩
    refine pk_eq (v k) 0 (fun e => nm_r (nI_1 k) (K _ (dd_ds_1 e))) (fun e => ?_) (dd_at v (by omega)) rfl (dd_lt hv k) (by decide)
    exact dy_first hv (by omega) (fun t => br_t rfl (nm_r (nI_1 k) (K _ (dd_ds_2 t))))
      (fun t => br_f (by decide) (nm_r (nI_1 _) (nm_r (nI_1 k) (K _ (dd_ds_t e t)))))
theorem dy_ds {post : Int32 → Prop} {v : Nat → Nat} {g : Nat → Int32} (hv : ∀ j, v j < 4096) (h : post (nI (dd_ds v 32))) : wpY_distinct post (dd_c v, g) :=
  ⟨33, dy_ds_l hv h 32 0 rfl⟩
-- saved
theorem dx_sm_l {post : Int32 → Prop} {v : Nat → Nat} (hv : ∀ j, v j < 4096) (h : post (nI (dd_sm v 32) - nI (dd_us v 32))) :
    ∀ d k, k + d = 32 → wX_saved_4 post (dd_c v) (d + 1) (nI (dd_sm v k)) (nI k)
  | 0, k, hd => by
    obtain rfl : k = 32 := by omega
    exact br_t (by decide) (dx_used hv h)
  | d + 1, k, hd => by
    refine br_f (nI_ge (b := 32) (by omega) (by decide)) ⟨vp_in_nI (by omega) (by decide), ?_⟩
    rw [dd_at v (by omega)]
    exact dx_room (hv k) (nm_r (nI_add _ _) (nm_r (nI_1 k) (dx_sm_l hv h d (k + 1) (by omega))))
theorem dx_sm {post : Int32 → Prop} {v : Nat → Nat} (hv : ∀ j, v j < 4096) (h : post (nI (dd_sm v 32) - nI (dd_us v 32))) : wpX_saved post (dd_c v) :=
  ⟨33, dx_sm_l hv h 32 0 rfl⟩
theorem dy_sm_l {post : Int32 → Prop} {v : Nat → Nat} {g : Nat → Int32} (hv : ∀ j, v j < 4096) (h : post (nI (dd_sm v 32) - nI (dd_us v 32))) :
    ∀ d k, k + d = 32 → wY_saved_4 post (dd_c v) g (d + 1) (nI (dd_sm v k)) (nI k)
  | 0, k, hd => by
    obtain rfl : k = 32 := by omega
    exact br_t (by decide) (dy_used hv h)
  | d + 1, k, hd => by
    refine br_f (nI_ge (b := 32) (by omega) (by decide)) ⟨vp_in_nI (by omega) (by decide), ?_⟩
    rw [dd_at v (by omega)]
    exact dy_room (hv k) (nm_r (nI_add _ _) (nm_r (nI_1 k) (dy_sm_l hv h d (k + 1) (by omega))))
theorem dy_sm {post : Int32 → Prop} {v : Nat → Nat} {g : Nat → Int32} (hv : ∀ j, v j < 4096) (h : post (nI (dd_sm v 32) - nI (dd_us v 32))) :
    wpY_saved post (dd_c v, g) := ⟨33, dy_sm_l hv h 32 0 rfl⟩
-- alone
theorem dx_alone {post : Int32 → Prop} {v : Nat → Nat} {n : Nat} (hv : ∀ j, v j < 4096) (hn : n < 32)
    (h1 : dd_ct v (v n) 32 = 1 → post (nI (dd_rm (v n)))) (h0 : dd_ct v (v n) 32 ≠ 1 → post 0) : wpX_alone post (dd_c v) (nI n) := by
  have hi : vp_in (nI n) 32 := vp_in_nI hn (by decide)
  unfold wpX_alone
  refine dx_blk_t hn ?_
  refine br_f (by decide) ⟨hi, ?_⟩
  rw [dd_at v (by omega)]
  refine dx_count hv (hv n) ?_
  exact pk_eq (dd_ct v (v n) 32) 1 (fun e => ⟨hi, dx_room (hv n) (h1 e)⟩) h0 rfl rfl (dd_ct_31 _ _) (by decide)
theorem dy_alone {post : Int32 → Prop} {v : Nat → Nat} {g : Nat → Int32} {n : Nat} (hv : ∀ j, v j < 4096) (hn : n < 32)
    (h1 : dd_ct v (v n) 32 = 1 → post (nI (dd_rm (v n)))) (h0 : dd_ct v (v n) 32 ≠ 1 → post 0) : wpY_alone post (dd_c v, g) (nI n) := by
  have hi : vp_in (nI n) 32 := vp_in_nI hn (by decide)
  unfold wpY_alone
  dsimp only
  refine dy_blk_t hn ?_
  refine br_f (by decide) ⟨hi, ?_⟩
  rw [dd_at v (by omega)]
  refine dy_count hv (hv n) ?_
  exact pk_eq (dd_ct v (v n) 32) 1 (fun e => ⟨hi, dy_room (hv n) (h1 e)⟩) h0 rfl rfl (dd_ct_31 _ _) (by decide)
-- twin
theorem dx_twin {post : Int32 → Prop} {v : Nat → Nat} {n : Nat} (hv : ∀ j, v j < 4096) (hn : n < 32)
    (hj : ∀ j, j < 32 → j ≠ n → v j = v n → (∀ m, m < j → m ≠ n → v m ≠ v n) → post (nI j))
    (h0 : (∀ m, m < 32 → m ≠ n → v m ≠ v n) → post (-4)) : wpX_twin post (dd_c v) (nI n) := by
  have hi : vp_in (nI n) 32 := vp_in_nI hn (by decide)
  unfold wpX_twin
  refine dx_blk_t hn ?_
  refine br_f (by decide) ⟨hi, ?_⟩
  rw [dd_at v (by omega), nI_1]
  refine dx_find (a := 0) hv (hv n) (Nat.zero_le _) (by omega) (fun j _ h2 e h3 => ?_) (fun h => ?_)
  · exact br_f (dd_ne4 (by omega)) (hj j (by omega) (by omega) e (fun m hm _ => h3 m (Nat.zero_le _) hm))
  · refine br_t rfl ⟨hi, ?_⟩
    refine dx_find (e := 32) hv (hv n) (by omega) (Nat.le_refl _) (fun j h1 h2 e h3 => ?_) (fun h' => ?_)
    · refine hj j h2 (by omega) e (fun m hm hmn => ?_)
      by_cases c : m < n
      · exact h m (Nat.zero_le _) c
      · exact h3 m (by omega) hm
    · refine h0 (fun m hm hmn => ?_)
      by_cases c : m < n
      · exact h m (Nat.zero_le _) c
      · exact h' m (by omega) hm
theorem dy_twin_l {post : Int32 → Prop} {v : Nat → Nat} {g : Nat → Int32} {n : Nat} (hv : ∀ j, v j < 4096) (hn : n < 32)
    (hj : ∀ j, j < 32 → j ≠ n → v j = v n → (∀ m, m < j → m ≠ n → v m ≠ v n) → post (nI j))
    (h0 : (∀ m, m < 32 → m ≠ n → v m ≠ v n) → post (-4)) :
    ∀ d k, k + d = 32 → (∀ m, m < k → m ≠ n → v m ≠ v n) → wY_twin_12 post (nI n) (dd_c v) g (d + 1) (nI k)
  | 0, k, hd, hm => by
    obtain rfl : k = 32 := by omega
    exact br_t (by decide) (h0 hm)
  | d + 1, k, hd, hm => by
    refine br_f (nI_ge (b := 32) (by omega) (by decide)) ?_
    refine pk_eq k n (fun e => nm_r (nI_1 k) ?_) (fun e => ⟨vp_in_nI (by omega) (by decide), vp_in_nI hn (by decide), ?_⟩) rfl rfl (by omega) (by omega)
    · refine dy_twin_l hv hn hj h0 d (k + 1) (by omega) (fun m h1 h2 => ?_)
      exact hm m (by omega) h2
    · refine pk_eq (v k) (v n) (fun q => hj k (by omega) e q hm) (fun ne => nm_r (nI_1 k) ?_)
        (dd_at v (by omega)) (dd_at v (by omega)) (dd_lt hv k) (dd_lt hv n)
      refine dy_twin_l hv hn hj h0 d (k + 1) (by omega) (fun m h1 h2 => ?_)
      by_cases c : m = k
      · subst c; exact ne
      · exact hm m (by omega) h2
theorem dy_twin {post : Int32 → Prop} {v : Nat → Nat} {g : Nat → Int32} {n : Nat} (hv : ∀ j, v j < 4096) (hn : n < 32)
    (hj : ∀ j, j < 32 → j ≠ n → v j = v n → (∀ m, m < j → m ≠ n → v m ≠ v n) → post (nI j))
    (h0 : (∀ m, m < 32 → m ≠ n → v m ≠ v n) → post (-4)) : wpY_twin post (dd_c v, g) (nI n) := by
  unfold wpY_twin
  dsimp only
  refine dy_blk_t hn ?_
  refine br_f (by decide) ⟨33, ?_⟩
  exact dy_twin_l hv hn hj h0 32 0 rfl (fun m h => absurd h (Nat.not_lt_zero m))
-- favourite
theorem dx_fv_l {post : Int32 → Prop} {v : Nat → Nat} (hv : ∀ j, v j < 4096) (h : post (dd_fv v 32).1) :
    ∀ d k, k + d = 32 → wX_favourite_7 post (dd_c v) (d + 1) (dd_fv v k).1 (dd_fv v k).2 (nI k)
  | 0, k, hd => by
    obtain rfl : k = 32 := by omega
    exact br_t (by decide) h
  | d + 1, k, hd => by
    have K : ∀ s, dd_fv v (k + 1) = s → wX_favourite_7 post (dd_c v) (d + 1) s.1 s.2 (nI (k + 1)) := by
      intro s hs
      subst hs
      exact dx_fv_l hv h d (k + 1) (by omega)
    refine br_f (nI_ge (b := 32) (by omega) (by decide)) ⟨vp_in_nI (by omega) (by decide), nm_r (dd_at v (by omega)) ?_⟩
    refine pk_eq (v k) 0 (fun e => nm_r (nI_1 k) (K _ (dd_fv_1 e))) (fun e => ?_) rfl rfl (dd_lt hv k) (by decide)
    refine dx_count hv (hv k) ?_
    refine br_c (fun a => nm_r (nI_1 k) (K _ (dd_fv_t e (Or.inl a)))) (fun a => ?_)
    refine br_c (fun b => ?_) (fun b => nm_r (nI_1 k) (K _ (dd_fv_2 (fun z => z.elim a (fun y => b y.1)))))
    exact br_c (fun c => nm_r (nI_1 k) (K _ (dd_fv_2 (fun z => z.elim a (fun y => Int32.not_lt.mpr c y.2)))))
      (fun c => nm_r (nI_1 k) (K _ (dd_fv_t e (Or.inr ⟨b, Int32.not_le.mp c⟩))))
theorem dx_fv {post : Int32 → Prop} {v : Nat → Nat} (hv : ∀ j, v j < 4096) (h : post (dd_fv v 32).1) : wpX_favourite post (dd_c v) :=
  ⟨33, dx_fv_l hv h 32 0 rfl⟩
theorem dy_fv_l {post : Int32 → Prop} {v : Nat → Nat} {g : Nat → Int32} (hv : ∀ j, v j < 4096) (h : post (dd_fv v 32).1) :
    ∀ d k, k + d = 32 → wY_favourite_7 post (dd_c v) g (d + 1) (dd_fv v k).1 (dd_fv v k).2 (nI k)
  | 0, k, hd => by
    obtain rfl : k = 32 := by omega
    exact br_t (by decide) h
  | d + 1, k, hd => by
    have K : ∀ s, dd_fv v (k + 1) = s → wY_favourite_7 post (dd_c v) g (d + 1) s.1 s.2 (nI (k + 1)) := by
      intro s hs
      subst hs
      exact dy_fv_l hv h d (k + 1) (by omega)
    refine br_f (nI_ge (b := 32) (by omega) (by decide)) ⟨vp_in_nI (by omega) (by decide), nm_r (dd_at v (by omega)) ?_⟩
    refine dy_count hv (hv k) ?_
    refine pk_eq (v k) 0 (fun e => nm_r (nI_1 k) (K _ (dd_fv_1 e))) (fun e => ?_) rfl rfl (dd_lt hv k) (by decide)
    refine br_c (fun a => nm_r (nI_1 k) (K _ (dd_fv_t e (Or.inl a)))) (fun a => ?_)
    refine br_c (fun b => ?_) (fun b => nm_r (nI_1 k) (K _ (dd_fv_2 (fun z => z.elim a (fun y => b y.1)))))
    exact br_c (fun c => nm_r (nI_1 k) (K _ (dd_fv_2 (fun z => z.elim a (fun y => Int32.not_lt.mpr c y.2)))))
      (fun c => nm_r (nI_1 k) (K _ (dd_fv_t e (Or.inr ⟨b, Int32.not_le.mp c⟩))))
theorem dy_fv {post : Int32 → Prop} {v : Nat → Nat} {g : Nat → Int32} (hv : ∀ j, v j < 4096) (h : post (dd_fv v 32).1) : wpY_favourite post (dd_c v, g) :=
  ⟨33, dy_fv_l hv h 32 0 rfl⟩
