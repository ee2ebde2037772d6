/-! spread and clone, both sides -/
def dd_k (x : Nat) : Nat → Nat := fun _ => x
def dd_cn (n q : Nat) : Nat := if 8 - n % 8 ≤ q then 8 - n % 8 else q
theorem dd_cn_t {n q : Nat} (h : 8 - n % 8 ≤ q) : dd_cn n q = 8 - n % 8 := if_pos h
theorem dd_cn_f {n q : Nat} (h : q < 8 - n % 8) : dd_cn n q = q := if_neg (by omega)
theorem dd_d8 {a : Nat} (h : a < 4096) : nI a / 8 = nI (a / 8) := pk_div (d := 8) (by omega) (by omega) (by omega)
theorem dx_sp_l {post : Int32 → SX → Prop} {v : Nat → Nat} {n m t : Nat} (hn : n + t ≤ 32)
    (h : post (nI t) (dd_c (dd_pt v (dd_k (v m)) n t))) :
    ∀ d k, k + d = t → wX_spread_61 post (nI n) (nI t) (nI (v m)) (d + 1) (nI k) (dd_c (dd_pt v (dd_k (v m)) n k))
  | 0, k, hd => by
    obtain rfl : k = t := by omega
    exact br_t (nI_le (Nat.le_refl _) (by omega)) h
  | d + 1, k, hd => by
    have hi : vp_in (nI (n + k)) 32 := vp_in_nI (by omega) (by decide)
    have e1 : upd (dd_c (dd_pt v (dd_k (v m)) n k)) (nI (n + k)).toNatClampNeg (nI (v m)) = dd_c (dd_pt v (dd_k (v m)) n (k + 1)) := by
      rw [nI_clamp (by omega), ← dd_pt_s]
      exact dd_up_c _ _ _
    refine br_f (nI_ge (by omega) (by omega)) ?_
    rw [nI_add n k]
    exact ⟨hi, nm_r e1 (nm_r (nI_1 k) (dx_sp_l hn h d (k + 1) (by omega)))⟩
theorem dx_sp48 {post : Int32 → SX → Prop} {v : Nat → Nat} {n m t : Nat} (hm : m < 32) (hn : n + t ≤ 32)
    (h : post (nI t) (dd_c (dd_pt v (dd_k (v m)) n t))) : wX_spread_48 post (nI n) (nI m) (nI t) (dd_c v) := by
  refine ⟨vp_in_nI hm (by decide), nm_r (dd_at v (by omega)) ⟨t + 1, ?_⟩⟩
  have q := dx_sp_l hn h t 0 (by omega)
  rw [dd_pt_0] at q
  exact q
theorem dx_sp {post : Int32 → SX → Prop} {v : Nat → Nat} {n m q : Nat} (hn : n < 32) (hm : m < 32) (h1 : 1 ≤ q) (h8 : q ≤ 8)
    (h : post (nI (dd_cn n q)) (dd_c (dd_pt v (dd_k (v m)) n (dd_cn n q)))) : wpX_spread post (dd_c v) (nI n) (nI m) (nI q) := by
  have e8 : (8 : Int32) - (nI n - nI n / 8 * 8) = nI (8 - n % 8) := by
    rw [dd_rem (by omega)]
    exact pk_sub (a := 8) (by omega)
  unfold wpX_spread
  refine dx_blk_t hn ?_
  refine br_f (by decide) ?_
  refine dx_blk_t hm ?_
  refine br_f (by decide) (br_f (nI_nlt (b := 1) h1 (by omega)) (br_t (nI_le (b := 8) h8 (by decide)) ⟨by decide, nm_r e8 ?_⟩))
  refine pk_le (8 - n % 8) q (fun z => ?_) (fun z => ?_) rfl rfl (by omega) (by omega)
  · rw [dd_cn_t z] at h
    exact dx_sp48 hm (by omega) h
  · rw [dd_cn_f z] at h
    exact dx_sp48 hm (by omega) h
theorem dy_sp81 {post : Int32 → SY → Prop} {w : Nat → Nat} {g : Nat → Int32} {x : Int32} (hw : ∀ j, w j < 4096) (hu : dd_us w 32 ≤ 48)
    (h : post x (dd_c w, g)) : wY_spread_81 post x (dd_c w) g := by
  unfold wY_spread_81
  exact dy_full hw (fun _ => br_t rfl h) (fun z => absurd hu (by omega))
theorem dy_sp_l {post : Int32 → SY → Prop} {v : Nat → Nat} {g : Nat → Int32} {n m q t : Nat} (hn : n < 32) (hm : m < 32) (hq : q ≤ 8)
    (ht1 : t ≤ q) (ht2 : n % 8 + t ≤ 8) (ht3 : t = q ∨ n % 8 + t = 8)
    (F : wY_spread_81 post (nI t) (dd_c (dd_pt v (dd_k (v m)) n t)) (dd_mx (dd_c v) g 32)) :
    ∀ d k, k + d = t → wY_spread_39 post (nI n) (nI m) (nI q) (d + 1) (nI k) (nI (n + k)) (dd_c (dd_pt v (dd_k (v m)) n k)) (dd_mx (dd_c v) g 32)
  | 0, k, hd => by
    obtain rfl : k = t := by omega
    refine pk_le (n + q) (n + k) (fun _ => F) (fun z => ⟨by decide, by decide, ?_⟩) (nI_add n q) rfl (by omega) (by omega)
    exact pk_eq ((n + k) / 8) (n / 8) (fun e => absurd e (by omega)) (fun _ => F) (dd_d8 (by omega)) (dd_d8 (by omega)) (by omega) (by omega)
  | d + 1, k, hd => by
    have hi : vp_in (nI (n + k)) 32 := vp_in_nI (by omega) (by decide)
    have e1 : upd (dd_c (dd_pt v (dd_k (v m)) n k)) (nI (n + k)).toNatClampNeg (dd_mx (dd_c v) g 32 (nI m).toNatClampNeg)
        = dd_c (dd_pt v (dd_k (v m)) n (k + 1)) := by
      rw [nI_clamp (by omega), ← dd_pt_s, dd_kp v g hm]
      exact dd_up_c _ _ _
    refine pk_le (n + q) (n + k) (fun z => absurd z (by omega)) (fun z => ⟨by decide, by decide, ?_⟩) (nI_add n q) rfl (by omega) (by omega)
    refine pk_eq ((n + k) / 8) (n / 8) (fun _ => ⟨vp_in_nI hm (by decide), hi, nm_r e1 (nm_r (nI_1 k) (nm_r (nI_1 (n + k)) ?_))⟩)
      (fun e => absurd (by omega) e) (dd_d8 (by omega)) (dd_d8 (by omega)) (by omega) (by omega)
    exact dy_sp_l hn hm hq ht1 ht2 ht3 F d (k + 1) (by omega)
theorem dd_sp_lt {v : Nat → Nat} (hv : ∀ j, v j < 4096) (n m t : Nat) : ∀ j, dd_pt v (dd_k (v m)) n t j < 4096 := dd_pt_lt hv (fun _ => hv m)
theorem dd_sp_us {v : Nat → Nat} (hv : ∀ j, v j < 4096) {m : Nat} (hm : m < 32) (n t : Nat) : dd_us (dd_pt v (dd_k (v m)) n t) 32 ≤ dd_us v 32 := by
  refine dd_us_le hv (dd_sp_lt hv n m t) (fun j hj => Or.inr ?_)
  by_cases c : n ≤ j ∧ j < n + t
  · exact ⟨m, hm, (dd_pt_in (v := v) (w := dd_k (v m)) c).symm⟩
  · exact ⟨j, hj, (dd_pt_out c).symm⟩
theorem dy_sp {post : Int32 → SY → Prop} {v : Nat → Nat} {g : Nat → Int32} {n m q : Nat} (hv : ∀ j, v j < 4096) (hu : dd_us v 32 ≤ 48)
    (hn : n < 32) (hm : m < 32) (h1 : 1 ≤ q) (h8 : q ≤ 8)
    (h : post (nI (dd_cn n q)) (dd_c (dd_pt v (dd_k (v m)) n (dd_cn n q)), dd_mx (dd_c v) g 32)) : wpY_spread post (dd_c v, g) (nI n) (nI m) (nI q) := by
  unfold wpY_spread
  dsimp only
  refine dy_blk_t hn ?_
  refine br_f (by decide) ?_
  refine dy_blk_t hm ?_
  refine br_f (by decide) (br_f (nI_nlt (b := 1) h1 (by omega)) (br_t (nI_le (b := 8) h8 (by decide)) ?_))
  refine dy_keep ⟨dd_cn n q + 1, ?_⟩
  have F := dy_sp81 (dd_sp_lt hv n m (dd_cn n q)) (Nat.le_trans (dd_sp_us hv hm n (dd_cn n q)) hu) h
  have ht : dd_cn n q ≤ q ∧ n % 8 + dd_cn n q ≤ 8 ∧ (dd_cn n q = q ∨ n % 8 + dd_cn n q = 8) := by
    by_cases z : 8 - n % 8 ≤ q
    · rw [dd_cn_t z]; omega
    · rw [dd_cn_f (by omega)]; omega
  have s := dy_sp_l hn hm h8 ht.1 ht.2.1 ht.2.2 F (dd_cn n q) 0 (by omega)
  rw [dd_pt_0] at s
  exact s
-- clone
def dd_cl (v : Nat → Nat) (f e : Nat) : Nat → Nat := fun j => v (e + (j - f))
theorem dd_cl_at (v : Nat → Nat) (f e b : Nat) : dd_cl v f e (f + b) = v (e + b) := by
  show v (e + (f + b - f)) = v (e + b)
  rw [Nat.add_sub_cancel_left]
theorem dx_cl_l {post : Int32 → SX → Prop} {v : Nat → Nat} {a c : Nat} (hv : ∀ j, v j < 4096) (ha : a < 4) (hc : c < 4)
    (h : post (nI (dd_df v (dd_cl v (8 * a) (8 * c)) (8 * a) 8)) (dd_c (dd_pt v (dd_cl v (8 * a) (8 * c)) (8 * a) 8))) :
    ∀ d b, b + d = 8 → wX_clone_33 post (nI (8 * a)) (nI (8 * c)) (d + 1) (nI (dd_df v (dd_cl v (8 * a) (8 * c)) (8 * a) b)) (nI b)
      (dd_c (dd_pt v (dd_cl v (8 * a) (8 * c)) (8 * a) b))
  | 0, b, hd => by
    obtain rfl : b = 8 := by omega
    exact br_t (by decide) h
  | d + 1, b, hd => by
    have K : ∀ s w, dd_df v (dd_cl v (8 * a) (8 * c)) (8 * a) (b + 1) = s → dd_pt v (dd_cl v (8 * a) (8 * c)) (8 * a) (b + 1) = w →
        wX_clone_33 post (nI (8 * a)) (nI (8 * c)) (d + 1) (nI s) (nI (b + 1)) (dd_c w) := by
      intro s w hs hw
      subst hs hw
      exact dx_cl_l hv ha hc h d (b + 1) (by omega)
    have hi : vp_in (nI (8 * a + b)) 32 := vp_in_nI (by omega) (by decide)
    have hj : vp_in (nI (8 * c + b)) 32 := vp_in_nI (by omega) (by decide)
    have e0 : dd_c (dd_pt v (dd_cl v (8 * a) (8 * c)) (8 * a) b) (nI (8 * a + b)).toNatClampNeg = nI (v (8 * a + b)) := by
      rw [dd_at _ (by omega), dd_pt_out (by omega)]
    have e1 : dd_c (dd_pt v (dd_cl v (8 * a) (8 * c)) (8 * a) b) (nI (8 * c + b)).toNatClampNeg = nI (v (8 * c + b)) := by
      rw [dd_at _ (by omega), dd_pt_out (by omega)]
    have e2 : upd (dd_c (dd_pt v (dd_cl v (8 * a) (8 * c)) (8 * a) b)) (nI (8 * a + b)).toNatClampNeg (nI (v (8 * c + b)))
        = dd_c (dd_pt v (dd_cl v (8 * a) (8 * c)) (8 * a) (b + 1)) := by
      rw [nI_clamp (by omega), ← dd_pt_s, dd_cl_at]
      exact dd_up_c _ _ _
    refine br_f (nI_ge (b := 8) (by omega) (by decide)) ?_
    rw [nI_add (8 * a) b, nI_add (8 * c) b, e1]
    refine ⟨hi, hj, ?_⟩
    exact pk_eq (v (8 * a + b)) (v (8 * c + b))
      (fun e => nm_r (nI_1 b) (K _ _ (dd_df_t (by rw [dd_cl_at]; exact e)) (dd_pt_k (by rw [dd_cl_at]; exact e))))
      (fun e => ⟨hj, hi, nm_r e2 (nm_r (nI_1 _) (nm_r (nI_1 b) (K _ _ (dd_df_f (by rw [dd_cl_at]; exact e)) rfl)))⟩)
      e0 rfl (dd_lt hv _) (dd_lt hv _)
theorem dx_cl {post : Int32 → SX → Prop} {v : Nat → Nat} {a c : Nat} (hv : ∀ j, v j < 4096) (ha : a < 4) (hc : c < 4)
    (h : post (nI (dd_df v (dd_cl v (8 * a) (8 * c)) (8 * a) 8)) (dd_c (dd_pt v (dd_cl v (8 * a) (8 * c)) (8 * a) 8))) :
    wpX_clone post (dd_c v) (nI a) (nI c) := by
  unfold wpX_clone
  refine dx_vol_t ha ?_
  refine br_f (by decide) ?_
  refine dx_vol_t hc ?_
  refine br_f (by decide) ?_
  unfold wpX_firstBlock
  rw [dd_8, dd_8]
  have q := dx_cl_l hv ha hc h 8 0 rfl
  rw [dd_pt_0] at q
  exact ⟨9, q⟩
theorem dd_cl_lt {v : Nat → Nat} (hv : ∀ j, v j < 4096) (f e b : Nat) : ∀ j, dd_pt v (dd_cl v f e) f b j < 4096 := dd_pt_lt hv (fun _ => hv _)
theorem dd_cl_us {v : Nat → Nat} (hv : ∀ j, v j < 4096) (f e : Nat) (he : e + 8 ≤ 32) : dd_us (dd_pt v (dd_cl v f e) f 8) 32 ≤ dd_us v 32 := by
  refine dd_us_le hv (dd_cl_lt hv f e 8) (fun j hj => Or.inr ?_)
  by_cases c : f ≤ j ∧ j < f + 8
  · exact ⟨e + (j - f), by omega, (dd_pt_in (v := v) (w := dd_cl v f e) c).symm⟩
  · exact ⟨j, hj, (dd_pt_out c).symm⟩
theorem dd_8b (a b : Nat) : (8 : Int32) * nI a + nI b = nI (8 * a + b) := by rw [dd_8, nI_add]
theorem dy_cl_l {post : Int32 → SY → Prop} {v : Nat → Nat} {g : Nat → Int32} {a c : Nat} (hv : ∀ j, v j < 4096) (hu : dd_us v 32 ≤ 48) (ha : a < 4) (hc : c < 4)
    (h : post (nI (dd_df v (dd_cl v (8 * a) (8 * c)) (8 * a) 8)) (dd_c (dd_pt v (dd_cl v (8 * a) (8 * c)) (8 * a) 8), dd_mx (dd_c v) g 32)) :
    ∀ d b, b + d = 8 → wY_clone_27 post (nI a) (nI c) (d + 1) (nI (dd_df v (dd_cl v (8 * a) (8 * c)) (8 * a) b)) (nI b)
      (dd_c (dd_pt v (dd_cl v (8 * a) (8 * c)) (8 * a) b)) (dd_mx (dd_c v) g 32)
  | 0, b, hd => by
    obtain rfl : b = 8 := by omega
    have hw := Nat.le_trans (dd_cl_us hv (8 * a) (8 * c) (by omega)) hu
    refine br_t (by decide) ?_
    exact dy_full (dd_cl_lt hv _ _ _) (fun _ => br_t rfl h) (fun z => absurd hw (by omega))
  | d + 1, b, hd => by
    have K : ∀ s, dd_df v (dd_cl v (8 * a) (8 * c)) (8 * a) (b + 1) = s →
        wY_clone_27 post (nI a) (nI c) (d + 1) (nI s) (nI (b + 1)) (dd_c (dd_pt v (dd_cl v (8 * a) (8 * c)) (8 * a) (b + 1))) (dd_mx (dd_c v) g 32) := by
      intro s hs
      subst hs
      exact dy_cl_l hv hu ha hc h d (b + 1) (by omega)
    have hi : vp_in (nI (8 * a + b)) 32 := vp_in_nI (by omega) (by decide)
    have hj : vp_in (nI (8 * c + b)) 32 := vp_in_nI (by omega) (by decide)
    have e2 : upd (dd_c (dd_pt v (dd_cl v (8 * a) (8 * c)) (8 * a) b)) (nI (8 * a + b)).toNatClampNeg (dd_mx (dd_c v) g 32 (nI (8 * c + b)).toNatClampNeg)
        = dd_c (dd_pt v (dd_cl v (8 * a) (8 * c)) (8 * a) (b + 1)) := by
      rw [nI_clamp (n := 8 * a + b) (by omega), ← dd_pt_s, dd_cl_at, dd_kp v g (by omega)]
      exact dd_up_c _ _ _
    refine br_f (nI_ge (b := 8) (by omega) (by decide)) ?_
    rw [dd_8b a b, dd_8b c b]
    refine ⟨hj, hi, nm_r e2 ⟨hi, hj, ?_⟩⟩
    exact pk_eq (v (8 * a + b)) (v (8 * c + b))
      (fun e => nm_r (nI_1 b) (K _ (dd_df_t (by rw [dd_cl_at]; exact e))))
      (fun e => nm_r (nI_1 _) (nm_r (nI_1 b) (K _ (dd_df_f (by rw [dd_cl_at]; exact e)))))
      (dd_kp v g (by omega)) (dd_kp v g (by omega)) (dd_lt hv _) (dd_lt hv _)
theorem dy_cl {post : Int32 → SY → Prop} {v : Nat → Nat} {g : Nat → Int32} {a c : Nat} (hv : ∀ j, v j < 4096) (hu : dd_us v 32 ≤ 48) (ha : a < 4) (hc : c < 4)
    (h : post (nI (dd_df v (dd_cl v (8 * a) (8 * c)) (8 * a) 8)) (dd_c (dd_pt v (dd_cl v (8 * a) (8 * c)) (8 * a) 8), dd_mx (dd_c v) g 32)) :
    wpY_clone post (dd_c v, g) (nI a) (nI c) := by
  unfold wpY_clone
  dsimp only
  refine dy_vol_t ha ?_
  refine br_f (by decide) ?_
  refine dy_vol_t hc ?_
  refine br_f (by decide) ?_
  refine dy_keep ⟨9, ?_⟩
  have q := dy_cl_l hv hu ha hc h 8 0 rfl
  rw [dd_pt_0] at q
  exact q
