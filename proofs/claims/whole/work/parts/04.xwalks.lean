/-! X's methods against the pictures -/
theorem dd_lt {v : Nat → Nat} (hv : ∀ j, v j < 4096) (k : Nat) : v k < 2 ^ 31 := Nat.lt_trans (hv k) (by decide)
theorem dd_us_31 (v : Nat → Nat) : dd_us v 32 < 2 ^ 31 := Nat.lt_of_le_of_lt (dd_us_b v 32) (by decide)
theorem dd_ct_31 (v : Nat → Nat) (x : Nat) : dd_ct v x 32 < 2 ^ 31 := Nat.lt_of_le_of_lt (dd_ct_b v x 32) (by decide)
def dd_out (N p : Int32) : Prop := p < 0 ∨ N ≤ p
theorem dd_split (p : Int32) {N : Nat} (hN : N < 2 ^ 31) : dd_out (nI N) p ∨ ∃ n, n < N ∧ p = nI n := by
  rcases pk_ix p hN with h | h | h
  · exact Or.inl (Or.inl h)
  · exact Or.inl (Or.inr h)
  · exact Or.inr h
theorem dx_blk_t {post : Int32 → Prop} {n : Nat} (hn : n < 32) (h : post 1) : wpX_isBlock post (nI n) :=
  br_f (nI_pos (by omega)) (br_f (nI_ge (b := 32) hn (by decide)) h)
theorem dx_blk_f {post : Int32 → Prop} {p : Int32} (hp : dd_out 32 p) (h : post 0) : wpX_isBlock post p := by
  by_cases c : p < 0
  · exact br_t c h
  · exact br_f c (br_t (hp.resolve_left c) h)
theorem dx_vol_t {post : Int32 → Prop} {n : Nat} (hn : n < 4) (h : post 1) : wpX_isVolume post (nI n) :=
  br_f (nI_pos (by omega)) (br_f (nI_ge (b := 4) hn (by decide)) h)
theorem dx_vol_f {post : Int32 → Prop} {p : Int32} (hp : dd_out 4 p) (h : post 0) : wpX_isVolume post p := by
  by_cases c : p < 0
  · exact br_t c h
  · exact br_f c (br_t (hp.resolve_left c) h)
theorem dx_con_t {post : Int32 → Prop} {n : Nat} (hn : n < 4096) (h : post 1) : wpX_isContent post (nI n) :=
  br_f (nI_pos (by omega)) (br_f (nI_ge (b := 4096) hn (by decide)) h)
theorem dx_con_f {post : Int32 → Prop} {p : Int32} (hp : dd_out 4096 p) (h : post 0) : wpX_isContent post p := by
  by_cases c : p < 0
  · exact br_t c h
  · exact br_f c (br_t (hp.resolve_left c) h)
-- findHolder
theorem dx_find_l {post : Int32 → Prop} {v : Nat → Nat} {x a e : Nat} (hv : ∀ j, v j < 4096) (hx : x < 4096) (he : e ≤ 32)
    (hj : ∀ j, a ≤ j → j < e → v j = x → (∀ m, a ≤ m → m < j → v m ≠ x) → post (nI j))
    (hn : (∀ m, a ≤ m → m < e → v m ≠ x) → post (-4)) :
    ∀ d k, k + d = e → a ≤ k → (∀ m, a ≤ m → m < k → v m ≠ x) → wX_findHolder_3 post (nI x) (nI e) (dd_c v) (d + 1) (nI k)
  | 0, k, hd, _, hm => by
    obtain rfl : k = e := by omega
    exact br_t (nI_le (Nat.le_refl _) (by omega)) (hn hm)
  | d + 1, k, hd, hk, hm => by
    refine br_f (nI_ge (by omega) (by omega)) ⟨vp_in_nI (by omega) (by decide), ?_⟩
    refine pk_eq (v k) x (fun e => hj k hk (by omega) e hm) (fun ne => nm_r (nI_1 k) ?_) (dd_at v (by omega)) rfl (dd_lt hv k) (by omega)
    refine dx_find_l hv hx he hj hn d (k + 1) (by omega) (by omega) (fun m h1 h2 => ?_)
    by_cases c : m = k
    · subst c; exact ne
    · exact hm m h1 (by omega)
theorem dx_find {post : Int32 → Prop} {v : Nat → Nat} {x a e : Nat} (hv : ∀ j, v j < 4096) (hx : x < 4096) (ha : a ≤ e) (he : e ≤ 32)
    (hj : ∀ j, a ≤ j → j < e → v j = x → (∀ m, a ≤ m → m < j → v m ≠ x) → post (nI j))
    (hn : (∀ m, a ≤ m → m < e → v m ≠ x) → post (-4)) : wpX_findHolder post (dd_c v) (nI x) (nI a) (nI e) :=
  ⟨e - a + 1, dx_find_l hv hx he hj hn (e - a) a (by omega) (Nat.le_refl _) (fun m h1 h2 => absurd h1 (by omega))⟩
theorem dx_first {post : Int32 → Prop} {v : Nat → Nat} {n : Nat} (hv : ∀ j, v j < 4096) (hn : n < 32)
    (ht : dd_in v (v n) n = true → post 0) (hf : dd_in v (v n) n = false → post 1) : wpX_isFirstHolder post (dd_c v) (nI n) := by
  refine ⟨vp_in_nI hn (by decide), ?_⟩
  rw [dd_at v (by omega)]
  refine dx_find (a := 0) hv (hv n) (Nat.zero_le _) (by omega) (fun j _ h2 e _ => ?_) (fun h => ?_)
  · exact br_f (dd_ne4 (by omega)) (ht (dd_in_t j h2 e))
  · exact br_t rfl (hf (dd_in_f (fun m hm => h m (Nat.zero_le _) hm)))
-- room
theorem dx_digit {post : Int32 → Prop} {x i : Nat} (hx : x < 4096) (hi : i < 4) (h : post (nI (dd_dg x i))) : wpX_digit post (nI x) (nI i) := by
  refine ⟨by decide, ?_⟩
  rw [dd_shr hx hi, dd_rem (dd_p2 hx)]
  exact h
theorem dx_room_l {post : Int32 → Prop} {x : Nat} (hx : x < 4096) (h : post (nI (dd_rr x 3 + 1))) :
    ∀ d k, k + d = 3 → wX_room_10 post (nI x) (d + 1) (nI (dd_rr x k)) (nI (k + 1))
  | 0, k, hd => by
    obtain rfl : k = 3 := by omega
    refine br_t (by decide) ?_
    rw [nI_1]
    exact h
  | d + 1, k, hd => by
    have K : ∀ s, dd_rr x (k + 1) = s → wX_room_10 post (nI x) (d + 1) (nI s) (nI (k + 1 + 1)) := by
      intro s hs
      subst hs
      exact dx_room_l hx h d (k + 1) (by omega)
    refine br_f (nI_ge (b := 4) (by omega) (by decide)) ?_
    refine dx_digit hx (by omega) ?_
    rw [nI_pred]
    refine dx_digit hx (by omega) ?_
    exact pk_eq (dd_dg x (k + 1)) (dd_dg x k) (fun e => nm_r (nI_1 _) (K _ (dd_rr_t e)))
      (fun e => nm_r (nI_1 _) (nm_r (nI_1 _) (K _ (dd_rr_f e)))) rfl rfl
      (Nat.lt_trans (dd_dg_lt _ _) (by decide)) (Nat.lt_trans (dd_dg_lt _ _) (by decide))
theorem dx_room {post : Int32 → Prop} {x : Nat} (hx : x < 4096) (h : post (nI (dd_rm x))) : wpX_room post (nI x) := by
  refine pk_eq x 0 (fun e => ?_) (fun e => ⟨4, ?_⟩) rfl rfl (by omega) (by omega)
  · subst e
    exact h
  · rw [dd_rm_n e] at h
    exact dx_room_l hx h 3 0 rfl
-- usedRoom
theorem dx_used_l {post : Int32 → Prop} {v : Nat → Nat} (hv : ∀ j, v j < 4096) (h : post (nI (dd_us v 32))) :
    ∀ d k, k + d = 32 → wX_usedRoom_4 post (dd_c v) (d + 1) (nI (dd_us v k)) (nI k)
  | 0, k, hd => by
    obtain rfl : k = 32 := by omega
    exact br_t (by decide) h
  | d + 1, k, hd => by
    have K : ∀ s, dd_us v (k + 1) = s → wX_usedRoom_4 post (dd_c v) (d + 1) (nI s) (nI (k + 1)) := by
      intro s hs
      subst hs
      exact dx_used_l hv h d (k + 1) (by omega)
    refine br_f (nI_ge (b := 32) (by omega) (by decide)) ?_
    refine dx_first hv (by omega) (fun e => br_t rfl (nm_r (nI_1 k) (K _ (dd_us_t e))))
      (fun e => br_f (by decide) ⟨vp_in_nI (by omega) (by decide), ?_⟩)
    rw [dd_at v (by omega)]
    exact dx_room (hv k) (nm_r (nI_add _ _) (nm_r (nI_1 k) (K _ (dd_us_f e))))
theorem dx_used {post : Int32 → Prop} {v : Nat → Nat} (hv : ∀ j, v j < 4096) (h : post (nI (dd_us v 32))) : wpX_usedRoom post (dd_c v) :=
  ⟨33, dx_used_l hv h 32 0 rfl⟩
-- countHolders
theorem dx_count_l {post : Int32 → Prop} {v : Nat → Nat} {x : Nat} (hv : ∀ j, v j < 4096) (hx : x < 4096) (h : post (nI (dd_ct v x 32))) :
    ∀ d k, k + d = 32 → wX_countHolders_4 post (nI x) (dd_c v) (d + 1) (nI (dd_ct v x k)) (nI k)
  | 0, k, hd => by
    obtain rfl : k = 32 := by omega
    exact br_t (by decide) h
  | d + 1, k, hd => by
    have K : ∀ s, dd_ct v x (k + 1) = s → wX_countHolders_4 post (nI x) (dd_c v) (d + 1) (nI s) (nI (k + 1)) := by
      intro s hs
      subst hs
      exact dx_count_l hv hx h d (k + 1) (by omega)
    refine br_f (nI_ge (b := 32) (by omega) (by decide)) ⟨vp_in_nI (by omega) (by decide), ?_⟩
    exact pk_eq (v k) x (fun e => nm_r (nI_1 _) (nm_r (nI_1 k) (K _ (dd_ct_t e)))) (fun e => nm_r (nI_1 k) (K _ (dd_ct_f e)))
      (dd_at v (by omega)) rfl (dd_lt hv k) (by omega)
theorem dx_count {post : Int32 → Prop} {v : Nat → Nat} {x : Nat} (hv : ∀ j, v j < 4096) (hx : x < 4096) (h : post (nI (dd_ct v x 32))) :
    wpX_countHolders post (dd_c v) (nI x) := ⟨33, dx_count_l hv hx h 32 0 rfl⟩
-- put
theorem dx_put {post : Int32 → SX → Prop} {v : Nat → Nat} {n x : Nat} (hv : ∀ j, v j < 4096) (hn : n < 32) (hx : x < 4096)
    (h1 : dd_us (dd_up v n x) 32 ≤ 48 → post 1 (dd_c (dd_up v n x))) (h0 : 48 < dd_us (dd_up v n x) 32 → post 0 (dd_c v)) :
    wpX_put post (dd_c v) (nI n) (nI x) := by
  have hi : vp_in (nI n) 32 := vp_in_nI hn (by decide)
  have e1 : upd (dd_c v) (nI n).toNatClampNeg (nI x) = dd_c (dd_up v n x) := by rw [nI_clamp (by omega)]; exact dd_up_c v n x
  have e2 : upd (dd_c (dd_up v n x)) (nI n).toNatClampNeg (nI (v n)) = dd_c v := by
    rw [nI_clamp (by omega), dd_up_c, dd_up_up]
  refine ⟨hi, nm_r (dd_at v (by omega)) ⟨hi, nm_r e1 ?_⟩⟩
  refine dx_used (dd_up_lt hv hx) ?_
  exact pk_le (dd_us (dd_up v n x) 32) 48 h1 (fun g => ⟨hi, nm_r e2 (h0 g)⟩) rfl rfl (dd_us_31 _) (by decide)
