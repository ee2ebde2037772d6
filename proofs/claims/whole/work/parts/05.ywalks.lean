/-! Y's methods against the pictures -/
theorem dd_31 {p : Int32} (h : (32 : Int32) ≤ p) : (31 : Int32) < p := Int32.lt_of_lt_of_le (by decide) h
theorem dd_3 {p : Int32} (h : (4 : Int32) ≤ p) : (3 : Int32) < p := Int32.lt_of_lt_of_le (by decide) h
theorem dd_4095 {p : Int32} (h : (4096 : Int32) ≤ p) : (4095 : Int32) < p := Int32.lt_of_lt_of_le (by decide) h
theorem dy_blk_t {post : Int32 → Prop} {c g : Nat → Int32} {n : Nat} (hn : n < 32) (h : post 1) : wpY_isBlock post (c, g) (nI n) :=
  br_f (nI_pos (by omega)) (br_f (nI_nlt (a := 31) (by omega) (by decide)) h)
theorem dy_blk_f {post : Int32 → Prop} {c g : Nat → Int32} {p : Int32} (hp : dd_out 32 p) (h : post 0) : wpY_isBlock post (c, g) p := by
  by_cases z : p < 0
  · exact br_t z h
  · exact br_f z (br_t (dd_31 (hp.resolve_left z)) h)
theorem dy_vol_t {post : Int32 → Prop} {c g : Nat → Int32} {n : Nat} (hn : n < 4) (h : post 1) : wpY_isVolume post (c, g) (nI n) :=
  br_f (nI_pos (by omega)) (br_f (nI_nlt (a := 3) (by omega) (by decide)) h)
theorem dy_vol_f {post : Int32 → Prop} {c g : Nat → Int32} {p : Int32} (hp : dd_out 4 p) (h : post 0) : wpY_isVolume post (c, g) p := by
  by_cases z : p < 0
  · exact br_t z h
  · exact br_f z (br_t (dd_3 (hp.resolve_left z)) h)
theorem dy_con_t {post : Int32 → Prop} {c g : Nat → Int32} {n : Nat} (hn : n < 4096) (h : post 1) : wpY_isContent post (c, g) (nI n) :=
  br_f (nI_pos (by omega)) (br_f (nI_nlt (a := 4095) (by omega) (by decide)) h)
theorem dy_con_f {post : Int32 → Prop} {c g : Nat → Int32} {p : Int32} (hp : dd_out 4096 p) (h : post 0) : wpY_isContent post (c, g) p := by
  by_cases z : p < 0
  · exact br_t z h
  · exact br_f z (br_t (dd_4095 (hp.resolve_left z)) h)
-- roomOf
theorem dy_room_l {post : Int32 → Prop} {c g : Nat → Int32} {x : Nat} (hx : x < 4096) (h : post (nI (dd_rr x 3 + 1))) :
    ∀ d k, k + d = 3 → wY_roomOf_10 post (nI x) c g (d + 1) (nI (dd_rr x k)) (nI (k + 1))
  | 0, k, hd => by
    obtain rfl : k = 3 := by omega
    refine br_t (by decide) ?_
    rw [nI_1]
    exact h
  | d + 1, k, hd => by
    have K : ∀ s, dd_rr x (k + 1) = s → wY_roomOf_10 post (nI x) c g (d + 1) (nI s) (nI (k + 1 + 1)) := by
      intro s hs
      subst hs
      exact dy_room_l hx h d (k + 1) (by omega)
    have e1 : (nI x >>> ((3 : Int32) * nI (k + 1) &&& 31)) &&& 7 = nI (dd_dg x (k + 1)) := by
      rw [dd_shr hx (by omega), dd_and7 (dd_p2 hx)]; rfl
    have e2 : (nI x >>> ((3 : Int32) * nI (k + 1) - 3 &&& 31)) &&& 7 = nI (dd_dg x k) := by
      rw [dd_shr1 hx (by omega), dd_and7 (dd_p2 hx)]; rfl
    refine br_f (nI_ge (b := 4) (by omega) (by decide)) (nm_r e1 (nm_r e2 ?_))
    exact pk_eq (dd_dg x (k + 1)) (dd_dg x k) (fun e => nm_r (nI_1 _) (K _ (dd_rr_t e)))
      (fun e => nm_r (nI_1 _) (nm_r (nI_1 _) (K _ (dd_rr_f e)))) rfl rfl
      (Nat.lt_trans (dd_dg_lt _ _) (by decide)) (Nat.lt_trans (dd_dg_lt _ _) (by decide))
theorem dy_room {post : Int32 → Prop} {c g : Nat → Int32} {x : Nat} (hx : x < 4096) (h : post (nI (dd_rm x))) : wpY_roomOf post (c, g) (nI x) := by
  refine pk_eq x 0 (fun e => ?_) (fun e => ⟨4, ?_⟩) rfl rfl (by omega) (by omega)
  · subst e
    exact h
  · rw [dd_rm_n e] at h
    exact dy_room_l hx h 3 0 rfl
-- keep
theorem dy_keep_l {post : SY → Prop} {c g : Nat → Int32} (h : post (c, dd_mx c g 32)) :
    ∀ d k, k + d = 32 → wY_keep_2 post (d + 1) (nI k) c (dd_mx c g k)
  | 0, k, hd => by
    obtain rfl : k = 32 := by omega
    exact br_t (by decide) h
  | d + 1, k, hd => by
    have hi : vp_in (nI k) 32 := vp_in_nI (by omega) (by decide)
    have e : upd (dd_mx c g k) (nI k).toNatClampNeg (c (nI k).toNatClampNeg) = dd_mx c g (k + 1) := by
      rw [nI_clamp (by omega)]; exact dd_mx_s c g k
    exact br_f (nI_ge (b := 32) (by omega) (by decide)) ⟨hi, hi, nm_r e (nm_r (nI_1 k) (dy_keep_l h d (k + 1) (by omega)))⟩
theorem dy_keep {post : SY → Prop} {c g : Nat → Int32} (h : post (c, dd_mx c g 32)) : wpY_keep post (c, g) := by
  have z := dy_keep_l h 32 0 rfl
  rw [dd_mx_0] at z
  exact ⟨33, z⟩
theorem dd_kp (v : Nat → Nat) (g : Nat → Int32) {m : Nat} (hm : m < 32) : dd_mx (dd_c v) g 32 (nI m).toNatClampNeg = nI (v m) := by
  rw [nI_clamp (by omega), dd_mx_lo hm]; rfl
-- isFirst
theorem dy_first_l {post : Int32 → Prop} {v : Nat → Nat} {g : Nat → Int32} {n : Nat} (hv : ∀ j, v j < 4096) (hn : n < 32)
    (ht : dd_in v (v n) n = true → post 0) (hf : dd_in v (v n) n = false → post 1) :
    ∀ d k, k + d = n → (∀ m, m < k → v m ≠ v n) → wY_isFirst_2 post (nI n) (dd_c v) g (d + 1) (nI k)
  | 0, k, hd, hm => by
    obtain rfl : k = n := by omega
    exact br_t (nI_le (Nat.le_refl _) (by omega)) (hf (dd_in_f hm))
  | d + 1, k, hd, hm => by
    refine br_f (nI_ge (by omega) (by omega)) ⟨vp_in_nI (by omega) (by decide), vp_in_nI hn (by decide), ?_⟩
    refine pk_eq (v k) (v n) (fun e => ht (dd_in_t k (by omega) e)) (fun ne => nm_r (nI_1 k) ?_)
      (dd_at v (by omega)) (dd_at v (by omega)) (dd_lt hv k) (dd_lt hv n)
    refine dy_first_l hv hn ht hf d (k + 1) (by omega) (fun m h2 => ?_)
    by_cases c : m = k
    · subst c; exact ne
    · exact hm m (by omega)
theorem dy_first {post : Int32 → Prop} {v : Nat → Nat} {g : Nat → Int32} {n : Nat} (hv : ∀ j, v j < 4096) (hn : n < 32)
    (ht : dd_in v (v n) n = true → post 0) (hf : dd_in v (v n) n = false → post 1) : wpY_isFirst post (dd_c v, g) (nI n) :=
  ⟨n + 1, dy_first_l hv hn ht hf n 0 (by omega) (fun m h => absurd h (Nat.not_lt_zero m))⟩
-- used
theorem dy_used_l {post : Int32 → Prop} {v : Nat → Nat} {g : Nat → Int32} (hv : ∀ j, v j < 4096) (h : post (nI (dd_us v 32))) :
    ∀ d k, k + d = 32 → wY_used_4 post (dd_c v) g (d + 1) (nI (dd_us v k)) (nI k)
  | 0, k, hd => by
    obtain rfl : k = 32 := by omega
    exact br_t (by decide) h
  | d + 1, k, hd => by
    have K : ∀ s, dd_us v (k + 1) = s → wY_used_4 post (dd_c v) g (d + 1) (nI s) (nI (k + 1)) := by
      intro s hs
      subst hs
      exact dy_used_l hv h d (k + 1) (by omega)
    refine br_f (nI_ge (b := 32) (by omega) (by decide)) ?_
    refine dy_first hv (by omega) (fun e => br_t rfl (nm_r (nI_1 k) (K _ (dd_us_t e))))
      (fun e => br_f (by decide) ⟨vp_in_nI (by omega) (by decide), ?_⟩)
    rw [dd_at v (by omega)]
    exact dy_room (hv k) (nm_r (nI_add _ _) (nm_r (nI_1 k) (K _ (dd_us_f e))))
theorem dy_used {post : Int32 → Prop} {v : Nat → Nat} {g : Nat → Int32} (hv : ∀ j, v j < 4096) (h : post (nI (dd_us v 32))) :
    wpY_used post (dd_c v, g) := ⟨33, dy_used_l hv h 32 0 rfl⟩
-- count
theorem dy_count_l {post : Int32 → Prop} {v : Nat → Nat} {g : Nat → Int32} {x : Nat} (hv : ∀ j, v j < 4096) (hx : x < 4096) (h : post (nI (dd_ct v x 32))) :
    ∀ d k, k + d = 32 → wY_count_4 post (nI x) (dd_c v) g (d + 1) (nI (dd_ct v x k)) (nI k)
  | 0, k, hd => by
    obtain rfl : k = 32 := by omega
    exact br_t (by decide) h
  | d + 1, k, hd => by
    have K : ∀ s, dd_ct v x (k + 1) = s → wY_count_4 post (nI x) (dd_c v) g (d + 1) (nI s) (nI (k + 1)) := by
      intro s hs
      subst hs
      exact dy_count_l hv hx h d (k + 1) (by omega)
    refine br_f (nI_ge (b := 32) (by omega) (by decide)) ⟨vp_in_nI (by omega) (by decide), ?_⟩
    exact pk_eq (v k) x (fun e => nm_r (nI_1 _) (nm_r (nI_1 k) (K _ (dd_ct_t e)))) (fun e => nm_r (nI_1 k) (K _ (dd_ct_f e)))
      (dd_at v (by omega)) rfl (dd_lt hv k) (by omega)
theorem dy_count {post : Int32 → Prop} {v : Nat → Nat} {g : Nat → Int32} {x : Nat} (hv : ∀ j, v j < 4096) (hx : x < 4096) (h : post (nI (dd_ct v x 32))) :
    wpY_count post (dd_c v, g) (nI x) := ⟨33, dy_count_l hv hx h 32 0 rfl⟩
-- isFull
theorem dy_full_l {post : Int32 → SY → Prop} {c g : Nat → Int32} (h : post 1 (dd_mx g c 32, g)) :
    ∀ d k, k + d = 32 → wY_isFull_13 post (d + 1) (nI k) (dd_mx g c k) g
  | 0, k, hd => by
    obtain rfl : k = 32 := by omega
    exact br_t (by decide) h
  | d + 1, k, hd => by
    have hi : vp_in (nI k) 32 := vp_in_nI (by omega) (by decide)
    have e : upd (dd_mx g c k) (nI k).toNatClampNeg (g (nI k).toNatClampNeg) = dd_mx g c (k + 1) := by
      rw [nI_clamp (by omega)]; exact dd_mx_s g c k
    exact br_f (nI_ge (b := 32) (by omega) (by decide)) ⟨hi, hi, nm_r e (nm_r (nI_1 k) (dy_full_l h d (k + 1) (by omega)))⟩
theorem dy_full {post : Int32 → SY → Prop} {w : Nat → Nat} {g : Nat → Int32} (hw : ∀ j, w j < 4096)
    (h0 : dd_us w 32 ≤ 48 → post 0 (dd_c w, g)) (h1 : 48 < dd_us w 32 → post 1 (dd_mx g (dd_c w) 32, g)) : wpY_isFull post (dd_c w, g) := by
  unfold wpY_isFull
  dsimp only
  refine dy_used hw ?_
  refine pk_lt 48 (dd_us w 32) (fun z => ⟨33, ?_⟩) h0 rfl rfl (by decide) (dd_us_31 _)
  have q := dy_full_l (h1 z) 32 0 rfl
  rw [dd_mx_0] at q
  exact q
-- what is restored from kept is what was kept
theorem dd_res {v w : Nat → Nat} {g : Nat → Int32} (h : ∀ j, 32 ≤ j → w j = v j) : dd_mx (dd_mx (dd_c v) g 32) (dd_c w) 32 = dd_c v := by
  funext j
  by_cases c : j < 32
  · rw [dd_mx_lo c, dd_mx_lo c]
  · rw [dd_mx_hi (by omega)]
    exact congrArg nI (h j (by omega))
