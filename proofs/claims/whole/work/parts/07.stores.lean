/-! the methods that store, both sides; aloneIn -/
theorem dd_8 (a : Nat) : (8 : Int32) * nI a = nI (8 * a) := pk_mul 8 a
def dd_z : Nat → Nat := fun _ => 0
-- erase
theorem dx_er_l {post : Int32 → SX → Prop} {v : Nat → Nat} {f : Nat} (hv : ∀ j, v j < 4096) (hf : f + 8 ≤ 32)
    (h : post (nI (dd_df v dd_z f 8)) (dd_c (dd_pt v dd_z f 8))) :
    ∀ d b, b + d = 8 → wX_erase_19 post (nI f) (d + 1) (nI (dd_df v dd_z f b)) (nI b) (dd_c (dd_pt v dd_z f b))
  | 0, b, hd => by
    obtain rfl : b = 8 := by omega
    exact br_t (by decide) h
  | d + 1, b, hd => by
    have K : ∀ s w, dd_df v dd_z f (b + 1) = s → dd_pt v dd_z f (b + 1) = w → wX_erase_19 post (nI f) (d + 1) (nI s) (nI (b + 1)) (dd_c w) := by
      intro s w hs hw
      subst hs hw
      exact dx_er_l hv hf h d (b + 1) (by omega)
    have hi : vp_in (nI (f + b)) 32 := vp_in_nI (by omega) (by decide)
    have e0 : dd_c (dd_pt v dd_z f b) (nI (f + b)).toNatClampNeg = nI (v (f + b)) := by
      rw [dd_at _ (by omega), dd_pt_out (by omega)]
    have e1 : upd (dd_c (dd_pt v dd_z f b)) (nI (f + b)).toNatClampNeg 0 = dd_c (dd_pt v dd_z f (b + 1)) := by
      rw [nI_clamp (by omega), ← dd_pt_s]
      exact dd_up_c _ _ 0
    refine br_f (nI_ge (b := 8) (by omega) (by decide)) ?_
    rw [nI_add f b]
    refine ⟨hi, ?_⟩
    exact pk_eq (v (f + b)) 0 (fun e => nm_r (nI_1 b) (K _ _ (dd_df_t e) (dd_pt_k e)))
      (fun e => ⟨hi, nm_r e1 (nm_r (nI_1 _) (nm_r (nI_1 b) (K _ _ (dd_df_f e) rfl)))⟩) e0 rfl (dd_lt hv _) (by decide)
theorem dx_er {post : Int32 → SX → Prop} {v : Nat → Nat} {a : Nat} (hv : ∀ j, v j < 4096) (ha : a < 4)
    (h : post (nI (dd_df v dd_z (8 * a) 8)) (dd_c (dd_pt v dd_z (8 * a) 8))) : wpX_erase post (dd_c v) (nI a) := by
  unfold wpX_erase
  refine dx_vol_t ha ?_
  refine br_f (by decide) ?_
  unfold wpX_firstBlock
  rw [dd_8]
  have q := dx_er_l (f := 8 * a) hv (by omega) h 8 0 rfl
  rw [dd_pt_0] at q
  exact ⟨9, q⟩
theorem dy_er_l {post : Int32 → SY → Prop} {v : Nat → Nat} {g : Nat → Int32} {a : Nat} (hv : ∀ j, v j < 4096) (ha : a < 4)
    (h : post (nI (dd_df v dd_z (8 * a) 8)) (dd_c (dd_pt v dd_z (8 * a) 8), g)) :
    ∀ d b, b + d = 8 → wY_erase_17 post (nI a) (d + 1) (nI (dd_df v dd_z (8 * a) b)) (nI (8 * a + b)) (dd_c (dd_pt v dd_z (8 * a) b)) g
  | 0, b, hd => by
    obtain rfl : b = 8 := by omega
    have e8 : (8 : Int32) * nI a + 8 ≤ nI (8 * a + 8) := by
      rw [dd_8, show (8 : Int32) = nI 8 from rfl, nI_add]
      exact nI_le (Nat.le_refl _) (by omega)
    exact br_t e8 h
  | d + 1, b, hd => by
    have K : ∀ s, dd_df v dd_z (8 * a) (b + 1) = s →
        wY_erase_17 post (nI a) (d + 1) (nI s) (nI (8 * a + b + 1)) (dd_c (dd_pt v dd_z (8 * a) (b + 1))) g := by
      intro s hs
      subst hs
      exact dy_er_l hv ha h d (b + 1) (by omega)
    have e8 : ¬ (8 : Int32) * nI a + 8 ≤ nI (8 * a + b) := by
      rw [dd_8, show (8 : Int32) = nI 8 from rfl, nI_add]
      exact nI_ge (by omega) (by omega)
    have hi : vp_in (nI (8 * a + b)) 32 := vp_in_nI (by omega) (by decide)
    have e0 : dd_c (dd_pt v dd_z (8 * a) b) (nI (8 * a + b)).toNatClampNeg = nI (v (8 * a + b)) := by
      rw [dd_at _ (by omega), dd_pt_out (by omega)]
    have e1 : upd (dd_c (dd_pt v dd_z (8 * a) b)) (nI (8 * a + b)).toNatClampNeg 0 = dd_c (dd_pt v dd_z (8 * a) (b + 1)) := by
      rw [nI_clamp (by omega), ← dd_pt_s]
      exact dd_up_c _ _ 0
    refine br_f e8 ⟨hi, ?_⟩
    refine pk_eq (v (8 * a + b)) 0 (fun e => ⟨hi, nm_r e1 (nm_r (nI_1 _) (K _ (dd_df_t e)))⟩) (fun e => ⟨hi, nm_r e1 (nm_r (nI_1 _) ?_)⟩) e0 rfl (dd_lt hv _) (by decide)
    rw [nI_1]
    exact K _ (dd_df_f e)
theorem dy_er {post : Int32 → SY → Prop} {v : Nat → Nat} {g : Nat → Int32} {a : Nat} (hv : ∀ j, v j < 4096) (ha : a < 4)
    (h : post (nI (dd_df v dd_z (8 * a) 8)) (dd_c (dd_pt v dd_z (8 * a) 8), g)) : wpY_erase post (dd_c v, g) (nI a) := by
  unfold wpY_erase
  dsimp only
  refine dy_vol_t ha ?_
  refine br_f (by decide) (nm_r (dd_8 a) ⟨9, ?_⟩)
  have q := dy_er_l hv ha h 8 0 rfl
  rw [dd_pt_0] at q
  exact q
-- aloneIn
theorem dx_55 {post : Int32 → Prop} {J : Int32 → Int32 → Prop} {v : Nat → Nat} {x3 z0 x4 : Int32} {m : Nat} (hv : ∀ j, v j < 4096) (hm : m < 32)
    (h1 : dd_in v (v m) m = true → J x4 (nI (m + 1))) (h2 : dd_in v (v m) m = false → z0 = 0 → J (x4 + nI (dd_rm (v m))) (nI (m + 1)))
    (h3 : dd_in v (v m) m = false → ¬ z0 = 0 → J x4 (nI (m + 1))) : wX_aloneIn_55 post J x3 x4 (nI m) z0 (dd_c v) := by
  unfold wX_aloneIn_55
  refine dx_first hv hm (fun e => br_t rfl (nm_r (nI_1 m) (h1 e))) (fun e => br_f (by decide) ?_)
  refine br_c (fun c => ⟨vp_in_nI hm (by decide), ?_⟩) (fun c => nm_r (nI_1 m) (h3 e c))
  rw [dd_at v (by omega)]
  exact dx_room (hv m) (nm_e (nm_r (nI_1 m) (h2 e c)))
theorem dx_al_l {post : Int32 → Prop} {v : Nat → Nat} {f : Nat} (hv : ∀ j, v j < 4096) (hf : f + 8 ≤ 32)
    (h : post (nI (dd_al v f (f + 8) (32 - (f + 8)) 8))) :
    ∀ d b, b + d = 8 → wX_aloneIn_25 post (nI (f + 8)) (dd_c v) (d + 1) (nI (dd_al v f (f + 8) (32 - (f + 8)) b)) (nI (f + b))
  | 0, b, hd => by
    obtain rfl : b = 8 := by omega
    exact br_t (nI_le (Nat.le_refl _) (by omega)) h
  | d + 1, b, hd => by
    have K : ∀ s, dd_al v f (f + 8) (32 - (f + 8)) (b + 1) = s → wX_aloneIn_25 post (nI (f + 8)) (dd_c v) (d + 1) (nI s) (nI (f + b + 1)) := by
      intro s hs
      subst hs
      exact dx_al_l hv hf h d (b + 1) (by omega)
    refine br_f (nI_ge (by omega) (by omega)) ⟨vp_in_nI (by omega) (by decide), ?_⟩
    rw [dd_at v (by omega)]
    refine dx_find (e := 32) hv (hv _) hf (Nat.le_refl _) (fun j h1 h2 e _ => br_f (dd_ne4 (by omega)) ?_) (fun n => br_t rfl ?_)
    · have t : dd_bt v (v (f + b)) (f + 8) (32 - (f + 8)) = true := dd_bt_t j h1 (by omega) e
      exact dx_55 hv (by omega) (fun i => K _ (dd_al_1 i)) (fun i z => absurd z (by decide)) (fun i _ => K _ (dd_al_2 t))
    · have t : dd_bt v (v (f + b)) (f + 8) (32 - (f + 8)) = false := dd_bt_f (fun m h1 h2 => n m h1 (by omega))
      refine dx_55 hv (by omega) (fun i => K _ (dd_al_1 i)) (fun i _ => ?_) (fun i z => absurd rfl z)
      rw [nI_add]
      exact K _ (dd_al_t i t)
theorem dx_al {post : Int32 → Prop} {v : Nat → Nat} {a : Nat} (hv : ∀ j, v j < 4096) (ha : a < 4)
    (h : post (nI (dd_al v (8 * a) (8 * a + 8) (32 - (8 * a + 8)) 8))) : wpX_aloneIn post (dd_c v) (nI a) := by
  unfold wpX_aloneIn
  refine dx_vol_t ha ?_
  refine br_f (by decide) ?_
  unfold wpX_firstBlock
  rw [dd_8]
  refine nm_r (nI_add (8 * a) 8) ⟨9, ?_⟩
  exact dx_al_l (f := 8 * a) hv (by omega) h 8 0 rfl
theorem dy_al_l {post : Int32 → SY → Prop} {c g : Nat → Int32} {x y : Int32} (h : post (x - y) (dd_mx g c 32, g)) :
    ∀ d k, k + d = 32 → wY_aloneIn_33 post x y (d + 1) (nI k) (dd_mx g c k) g
  | 0, k, hd => by
    obtain rfl : k = 32 := by omega
    exact br_t (by decide) h
  | d + 1, k, hd => by
    have hi : vp_in (nI k) 32 := vp_in_nI (by omega) (by decide)
    have e : upd (dd_mx g c k) (nI k).toNatClampNeg (g (nI k).toNatClampNeg) = dd_mx g c (k + 1) := by
      rw [nI_clamp (by omega)]; exact dd_mx_s g c k
    exact br_f (nI_ge (b := 32) (by omega) (by decide)) ⟨hi, hi, nm_r e (nm_r (nI_1 k) (dy_al_l h d (k + 1) (by omega)))⟩
theorem dy_al {post : Int32 → SY → Prop} {v : Nat → Nat} {g : Nat → Int32} {a : Nat} (hv : ∀ j, v j < 4096) (ha : a < 4)
    (h : post (nI (dd_al v (8 * a) (8 * a + 8) (32 - (8 * a + 8)) 8)) (dd_c v, dd_mx (dd_c v) g 32)) : wpY_aloneIn post (dd_c v, g) (nI a) := by
  have hz : ∀ j, dd_pt v dd_z (8 * a) 8 j < 4096 := dd_pt_lt hv (fun _ => (by decide : (0 : Nat) < 4096))
  have s := dd_alone hv (8 * a) (by omega)
  have e : nI (dd_us v 32) - nI (dd_us (dd_pt v dd_z (8 * a) 8) 32) = nI (dd_al v (8 * a) (8 * a + 8) (32 - (8 * a + 8)) 8) := by
    have s' : dd_al v (8 * a) (8 * a + 8) (32 - (8 * a + 8)) 8 + dd_us (dd_pt v dd_z (8 * a) 8) 32 = dd_us v 32 := s
    rw [pk_sub (by omega)]
    exact congrArg nI (by omega)
  have er : dd_mx (dd_mx (dd_c v) g 32) (dd_c (dd_pt v dd_z (8 * a) 8)) 32 = dd_c v := dd_res (fun j hj => dd_pt_out (by omega))
  unfold wpY_aloneIn
  dsimp only
  refine dy_vol_t ha ?_
  refine br_f (by decide) ?_
  refine dy_used hv ?_
  refine dy_keep ?_
  refine dy_er hv ha ?_
  refine dy_used hz ⟨33, ?_⟩
  have q := dy_al_l (post := post) (c := dd_c (dd_pt v dd_z (8 * a) 8)) (g := dd_mx (dd_c v) g 32)
    (x := nI (dd_us v 32)) (y := nI (dd_us (dd_pt v dd_z (8 * a) 8) 32)) (by rw [e, er]; exact h) 32 0 rfl
  rw [dd_mx_0] at q
  exact q
-- write
theorem dx_write {post : Int32 → SX → Prop} {v : Nat → Nat} {n x : Nat} (hv : ∀ j, v j < 4096) (hn : n < 32) (hx : x < 4096)
    (h1 : dd_us (dd_up v n x) 32 ≤ 48 → post (nI (v n)) (dd_c (dd_up v n x))) (h0 : 48 < dd_us (dd_up v n x) 32 → post (-2) (dd_c v)) :
    wpX_write post (dd_c v) (nI n) (nI x) := by
  unfold wpX_write
  refine dx_blk_t hn ?_
  refine br_f (by decide) ?_
  refine dx_con_t hx ?_
  refine br_f (by decide) ⟨vp_in_nI hn (by decide), nm_r (dd_at v (by omega)) ?_⟩
  exact dx_put hv hn hx (fun z => br_f (by decide) (h1 z)) (fun z => br_t rfl (h0 z))
theorem dd_up_hi {v : Nat → Nat} {n x : Nat} (hn : n < 32) : ∀ j, 32 ≤ j → dd_up v n x j = v j := fun j hj => dd_up_n (by omega)
theorem dy_write {post : Int32 → SY → Prop} {v : Nat → Nat} {g : Nat → Int32} {n x : Nat} (hv : ∀ j, v j < 4096) (hn : n < 32) (hx : x < 4096)
    (h1 : dd_us (dd_up v n x) 32 ≤ 48 → post (nI (v n)) (dd_c (dd_up v n x), dd_mx (dd_c v) g 32))
    (h0 : 48 < dd_us (dd_up v n x) 32 → post (-2) (dd_c v, dd_mx (dd_c v) g 32)) : wpY_write post (dd_c v, g) (nI n) (nI x) := by
  have hi : vp_in (nI n) 32 := vp_in_nI hn (by decide)
  have e1 : upd (dd_c v) (nI n).toNatClampNeg (nI x) = dd_c (dd_up v n x) := by rw [nI_clamp (by omega)]; exact dd_up_c v n x
  unfold wpY_write
  dsimp only
  refine dy_blk_t hn ?_
  refine br_f (by decide) ?_
  refine dy_con_t hx ?_
  refine br_f (by decide) ?_
  refine dy_keep ?_
  refine ⟨hi, nm_r e1 ?_⟩
  refine dy_full (dd_up_lt hv hx) (fun z => br_t rfl ⟨hi, ?_⟩) (fun z => br_f (by decide) ?_)
  · dsimp only
    rw [dd_kp v g hn]
    exact h1 z
  · rw [dd_res (dd_up_hi hn)]
    exact h0 z
-- patch
theorem dx_patch {post : Int32 → SX → Prop} {v : Nat → Nat} {n i d : Nat} (hv : ∀ j, v j < 4096) (hn : n < 32) (hi : i < 4) (hd : d < 8)
    (h1 : dd_us (dd_up v n (dd_pa (v n) i d)) 32 ≤ 48 → post (nI (dd_dg (v n) i)) (dd_c (dd_up v n (dd_pa (v n) i d))))
    (h0 : 48 < dd_us (dd_up v n (dd_pa (v n) i d)) 32 → post (-2) (dd_c v)) : wpX_patch post (dd_c v) (nI n) (nI i) (nI d) := by
  have hin : vp_in (nI n) 32 := vp_in_nI hn (by decide)
  unfold wpX_patch
  refine dx_blk_t hn ?_
  refine br_f (by decide) ?_
  refine br_f (nI_pos (by omega)) (br_f (nI_ge (b := 4) hi (by decide)) (br_f (nI_pos (by omega)) (br_t (nI_lt (b := 8) hd (by decide)) ⟨hin, ?_⟩)))
  rw [dd_at v (by omega)]
  refine dx_digit (hv n) hi ⟨hin, nm_r (dd_patchX hi hd) ?_⟩
  exact dx_put hv hn (dd_pa_lt (hv n) hi hd) (fun z => br_f (by decide) (h1 z)) (fun z => br_t rfl (h0 z))
theorem dy_patch {post : Int32 → SY → Prop} {v : Nat → Nat} {g : Nat → Int32} {n i d : Nat} (hv : ∀ j, v j < 4096) (hn : n < 32) (hi : i < 4) (hd : d < 8)
    (h1 : dd_us (dd_up v n (dd_pa (v n) i d)) 32 ≤ 48 → post (nI (dd_dg (v n) i)) (dd_c (dd_up v n (dd_pa (v n) i d)), dd_mx (dd_c v) g 32))
    (h0 : 48 < dd_us (dd_up v n (dd_pa (v n) i d)) 32 → post (-2) (dd_c v, dd_mx (dd_c v) g 32)) :
    wpY_patch post (dd_c v, g) (nI n) (nI i) (nI d) := by
  have hin : vp_in (nI n) 32 := vp_in_nI hn (by decide)
  have e1 : upd (dd_c v) (nI n).toNatClampNeg (nI (dd_pa (v n) i d)) = dd_c (dd_up v n (dd_pa (v n) i d)) := by
    rw [nI_clamp (by omega)]; exact dd_up_c v n _
  have e2 : nI (v n) >>> ((3 : Int32) * nI i &&& 31) &&& 7 = nI (dd_dg (v n) i) := by
    rw [dd_shr (hv n) hi, dd_and7 (dd_p2 (hv n))]; rfl
  unfold wpY_patch
  dsimp only
  refine dy_blk_t hn ?_
  refine br_f (by decide) ?_
  refine br_f (nI_pos (by omega)) (br_f (nI_nlt (a := 3) (by omega) (by decide)) (br_f (nI_pos (by omega)) (br_t (nI_le (b := 7) (by omega) (by decide)) ?_)))
  refine dy_keep ?_
  refine ⟨hin, hin, ?_⟩
  dsimp only
  rw [dd_at v (by omega), dd_patchY (hv n) hi hd]
  refine nm_r e1 ?_
  refine dy_full (dd_up_lt hv (dd_pa_lt (hv n) hi hd)) (fun z => br_t rfl ⟨hin, ?_⟩) (fun z => br_f (by decide) ?_)
  · dsimp only
    rw [dd_kp v g hn, e2]
    exact h1 z
  · rw [dd_res (dd_up_hi hn)]
    exact h0 z
