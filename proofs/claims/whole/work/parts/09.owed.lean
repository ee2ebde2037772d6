/-! what is owed -/
/-- both hold the same contents, all of them contents, of at most 48 of room; what is kept is free -/
def i_Rel (_ : Nat) (u : SX) (v : SY) : Prop := ∃ (c : Nat → Nat) (g : Nat → Int32), u = dd_c c ∧ v = (dd_c c, g) ∧ (∀ j, c j < 4096) ∧ dd_us c 32 ≤ 48
theorem i_up {k : Nat} {u : SX} {v : SY} (h : i_Rel k u v) : i_Rel (k + 4) u v := h
theorem i_vc0 : wpX_init (fun u => wpY_init (fun v => i_Rel 0 u v)) :=
  ⟨fun _ => 0, fun _ => 0, rfl, rfl, fun _ => (by decide : (0 : Nat) < 4096), by decide⟩
theorem dd_rel {k : Nat} {c : Nat → Nat} {g : Nat → Int32} (hv : ∀ j, c j < 4096) (hu : dd_us c 32 ≤ 48) : i_Rel k (dd_c c) (dd_c c, g) :=
  ⟨c, g, rfl, rfl, hv, hu⟩
theorem i_vc_write {k : Nat} {u : SX} {v : SY} (I : i_Rel k u v) (hk : k + 4 ≤ 2048) (v1 : Int32) (v2 : Int32) : wpX_write (fun r u' => wpY_write (fun r' v' => r' = r ∧ i_Rel (k + 4) u' v') v v1 v2) u v1 v2 := by
  obtain ⟨c, g, rfl, rfl, hv, hu⟩ := I
  rcases dd_split v1 (N := 32) (by decide) with o | ⟨n, hn, rfl⟩
  · unfold wpX_write
    refine dx_blk_f o (br_t rfl ?_)
    unfold wpY_write
    dsimp only
    exact dy_blk_f o (br_t rfl ⟨rfl, dd_rel hv hu⟩)
  · rcases dd_split v2 (N := 4096) (by decide) with o | ⟨x, hx, rfl⟩
    · unfold wpX_write
      refine dx_blk_t hn ?_
      refine br_f (by decide) ?_
      refine dx_con_f o (br_t rfl ?_)
      unfold wpY_write
      dsimp only
      refine dy_blk_t hn ?_
      refine br_f (by decide) ?_
      exact dy_con_f o (br_t rfl ⟨rfl, dd_rel hv hu⟩)
    · refine dx_write hv hn hx (fun z => ?_) (fun z => ?_)
      · exact dy_write hv hn hx (fun _ => ⟨rfl, dd_rel (dd_up_lt hv hx) z⟩) (fun y => absurd z (by omega))
      · exact dy_write hv hn hx (fun y => absurd z (by omega)) (fun _ => ⟨rfl, dd_rel hv hu⟩)
theorem i_vc_read {k : Nat} {u : SX} {v : SY} (I : i_Rel k u v) (hk : k + 4 ≤ 2048) (v1 : Int32) : wpX_read (fun r => wpY_read (fun r' => r' = r ∧ i_Rel (k + 4) u v) v v1) u v1 := by
  obtain ⟨c, g, rfl, rfl, hv, hu⟩ := I
  unfold wpX_read wpY_read
  dsimp only
  rcases dd_split v1 (N := 32) (by decide) with o | ⟨n, hn, rfl⟩
  · refine dx_blk_f o (br_t rfl ?_)
    exact dy_blk_f o (br_t rfl ⟨rfl, dd_rel hv hu⟩)
  · have hi : vp_in (nI n) 32 := vp_in_nI hn (by decide)
    refine dx_blk_t hn ?_
    refine br_f (by decide) ⟨hi, ?_⟩
    refine dy_blk_t hn ?_
    exact br_f (by decide) ⟨hi, rfl, dd_rel hv hu⟩
theorem i_vc_patch {k : Nat} {u : SX} {v : SY} (I : i_Rel k u v) (hk : k + 4 ≤ 2048) (v1 : Int32) (v2 : Int32) (v3 : Int32) : wpX_patch (fun r u' => wpY_patch (fun r' v' => r' = r ∧ i_Rel (k + 4) u' v') v v1 v2 v3) u v1 v2 v3 := by
  obtain ⟨c, g, rfl, rfl, hv, hu⟩ := I
  rcases dd_split v1 (N := 32) (by decide) with o | ⟨n, hn, rfl⟩
  · unfold wpX_patch
    refine dx_blk_f o (br_t rfl ?_)
    unfold wpY_patch
    dsimp only
    exact dy_blk_f o (br_t rfl ⟨rfl, dd_rel hv hu⟩)
  · have B : ∀ {A : Prop}, (¬ (v2 < 0 ∨ 4 ≤ v2) → ¬ (v3 < 0 ∨ 8 ≤ v3) → A) → ((v2 < 0 ∨ 4 ≤ v2) ∨ (v3 < 0 ∨ 8 ≤ v3) → A) → A := by
      intro A f e
      by_cases h1 : v2 < 0 ∨ 4 ≤ v2
      · exact e (Or.inl h1)
      · by_cases h2 : v3 < 0 ∨ 8 ≤ v3
        · exact e (Or.inr h2)
        · exact f h1 h2
    refine B (fun h1 h2 => ?_) (fun o => ?_)
    · rcases dd_split v2 (N := 4) (by decide) with o | ⟨i, hi, rfl⟩
      · exact absurd o h1
      · rcases dd_split v3 (N := 8) (by decide) with o | ⟨d, hd, rfl⟩
        · exact absurd o h2
        · refine dx_patch hv hn hi hd (fun z => ?_) (fun z => ?_)
          · exact dy_patch hv hn hi hd (fun _ => ⟨rfl, dd_rel (dd_up_lt hv (dd_pa_lt (hv n) hi hd)) z⟩) (fun y => absurd z (by omega))
          · exact dy_patch hv hn hi hd (fun y => absurd z (by omega)) (fun _ => ⟨rfl, dd_rel hv hu⟩)
    · have Y : wpY_patch (fun r' v' => r' = -1 ∧ i_Rel (k + 4) (dd_c c) v') (dd_c c, g) (nI n) v2 v3 := by
        unfold wpY_patch
        dsimp only
        refine dy_blk_t hn ?_
        refine br_f (by decide) ?_
        refine br_c (fun _ => ⟨rfl, dd_rel hv hu⟩) (fun a => br_c (fun _ => ⟨rfl, dd_rel hv hu⟩) (fun b => br_c (fun _ => ⟨rfl, dd_rel hv hu⟩) (fun d => br_f (fun e => ?_) ⟨rfl, dd_rel hv hu⟩)))
        rcases o with (o | o) | (o | o)
        · exact a o
        · exact b (dd_3 o)
        · exact d o
        · exact absurd (Int32.lt_of_le_of_lt e (Int32.lt_of_lt_of_le (by decide) o)) Int32.lt_irrefl
      unfold wpX_patch
      refine dx_blk_t hn ?_
      refine br_f (by decide) ?_
      refine br_c (fun _ => Y) (fun a => br_c (fun _ => Y) (fun b => br_c (fun _ => Y) (fun d => br_f (fun e => ?_) Y)))
      rcases o with (o | o) | (o | o)
      · exact a o
      · exact b o
      · exact d o
      · exact absurd (Int32.lt_of_lt_of_le e o) Int32.lt_irrefl
theorem i_vc_spread {k : Nat} {u : SX} {v : SY} (I : i_Rel k u v) (hk : k + 4 ≤ 2048) (v1 : Int32) (v2 : Int32) (v3 : Int32) : wpX_spread (fun r u' => wpY_spread (fun r' v' => r' = r ∧ i_Rel (k + 4) u' v') v v1 v2 v3) u v1 v2 v3 := by
  obtain ⟨c, g, rfl, rfl, hv, hu⟩ := I
  rcases dd_split v1 (N := 32) (by decide) with o | ⟨n, hn, rfl⟩
  · unfold wpX_spread
    refine dx_blk_f o (br_t rfl ?_)
    unfold wpY_spread
    dsimp only
    exact dy_blk_f o (br_t rfl ⟨rfl, dd_rel hv hu⟩)
  · rcases dd_split v2 (N := 32) (by decide) with o | ⟨m, hm, rfl⟩
    · unfold wpX_spread
      refine dx_blk_t hn ?_
      refine br_f (by decide) ?_
      refine dx_blk_f o (br_t rfl ?_)
      unfold wpY_spread
      dsimp only
      refine dy_blk_t hn ?_
      refine br_f (by decide) ?_
      exact dy_blk_f o (br_t rfl ⟨rfl, dd_rel hv hu⟩)
    · by_cases h1 : v3 < 1
      · unfold wpX_spread
        refine dx_blk_t hn ?_
        refine br_f (by decide) ?_
        refine dx_blk_t hm ?_
        refine br_f (by decide) (br_t h1 ?_)
        unfold wpY_spread
        dsimp only
        refine dy_blk_t hn ?_
        refine br_f (by decide) ?_
        refine dy_blk_t hm ?_
        exact br_f (by decide) (br_t h1 ⟨rfl, dd_rel hv hu⟩)
      · by_cases h8 : v3 ≤ 8
        · have h0 : ¬ v3 < 0 := fun z => h1 (Int32.lt_trans z (by decide))
          obtain ⟨q, hq, rfl⟩ := nI_of h0
          have q1 : 1 ≤ q := by
            have z : ¬ nI q < nI 1 := h1
            rw [nI_ltI hq (by decide)] at z
            omega
          have q8 : q ≤ 8 := by
            have z : nI q ≤ nI 8 := h8
            rw [nI_leI hq (by decide)] at z
            exact z
          refine dx_sp hn hm q1 q8 ?_
          exact dy_sp hv hu hn hm q1 q8 ⟨rfl, dd_rel (dd_sp_lt hv _ _ _) (Nat.le_trans (dd_sp_us hv hm _ _) hu)⟩
        · unfold wpX_spread
          refine dx_blk_t hn ?_
          refine br_f (by decide) ?_
          refine dx_blk_t hm ?_
          refine br_f (by decide) (br_f h1 (br_f h8 ?_))
          unfold wpY_spread
          dsimp only
          refine dy_blk_t hn ?_
          refine br_f (by decide) ?_
          refine dy_blk_t hm ?_
          exact br_f (by decide) (br_f h1 (br_f h8 ⟨rfl, dd_rel hv hu⟩))
theorem i_vc_clone {k : Nat} {u : SX} {v : SY} (I : i_Rel k u v) (hk : k + 4 ≤ 2048) (v1 : Int32) (v2 : Int32) : wpX_clone (fun r u' => wpY_clone (fun r' v' => r' = r ∧ i_Rel (k + 4) u' v') v v1 v2) u v1 v2 := by
  obtain ⟨c, g, rfl, rfl, hv, hu⟩ := I
  rcases dd_split v1 (N := 4) (by decide) with o | ⟨a, ha, rfl⟩
  · unfold wpX_clone
    refine dx_vol_f o (br_t rfl ?_)
    unfold wpY_clone
    dsimp only
    exact dy_vol_f o (br_t rfl ⟨rfl, dd_rel hv hu⟩)
  · rcases dd_split v2 (N := 4) (by decide) with o | ⟨b, hb, rfl⟩
    · unfold wpX_clone
      refine dx_vol_t ha ?_
      refine br_f (by decide) ?_
      refine dx_vol_f o (br_t rfl ?_)
      unfold wpY_clone
      dsimp only
      refine dy_vol_t ha ?_
      refine br_f (by decide) ?_
      exact dy_vol_f o (br_t rfl ⟨rfl, dd_rel hv hu⟩)
    · refine dx_cl hv ha hb ?_
      exact dy_cl hv hu ha hb ⟨rfl, dd_rel (dd_cl_lt hv _ _ _) (Nat.le_trans (dd_cl_us hv _ _ (by omega)) hu)⟩
theorem dd_er_us {v : Nat → Nat} (hv : ∀ j, v j < 4096) (f : Nat) : dd_us (dd_pt v dd_z f 8) 32 ≤ dd_us v 32 := by
  refine dd_us_le hv (dd_pt_lt hv (fun _ => (by decide : (0 : Nat) < 4096))) (fun j hj => ?_)
  by_cases c : f ≤ j ∧ j < f + 8
  · exact Or.inl (dd_pt_in (v := v) (w := dd_z) c)
  · exact Or.inr ⟨j, hj, (dd_pt_out c).symm⟩
theorem i_vc_erase {k : Nat} {u : SX} {v : SY} (I : i_Rel k u v) (hk : k + 4 ≤ 2048) (v1 : Int32) : wpX_erase (fun r u' => wpY_erase (fun r' v' => r' = r ∧ i_Rel (k + 4) u' v') v v1) u v1 := by
  obtain ⟨c, g, rfl, rfl, hv, hu⟩ := I
  rcases dd_split v1 (N := 4) (by decide) with o | ⟨a, ha, rfl⟩
  · unfold wpX_erase
    refine dx_vol_f o (br_t rfl ?_)
    unfold wpY_erase
    dsimp only
    exact dy_vol_f o (br_t rfl ⟨rfl, dd_rel hv hu⟩)
  · refine dx_er hv ha ?_
    exact dy_er hv ha ⟨rfl, dd_rel (dd_pt_lt hv (fun _ => (by decide : (0 : Nat) < 4096))) (Nat.le_trans (dd_er_us hv _) hu)⟩
theorem i_vc_holders {k : Nat} {u : SX} {v : SY} (I : i_Rel k u v) (hk : k + 4 ≤ 2048) (v1 : Int32) : wpX_holders (fun r => wpY_holders (fun r' => r' = r ∧ i_Rel (k + 4) u v) v v1) u v1 := by
  obtain ⟨c, g, rfl, rfl, hv, hu⟩ := I
  unfold wpX_holders wpY_holders
  dsimp only
  rcases dd_split v1 (N := 4096) (by decide) with o | ⟨x, hx, rfl⟩
  · refine dx_con_f o (br_t rfl ?_)
    exact dy_con_f o (br_t rfl ⟨rfl, dd_rel hv hu⟩)
  · refine dx_con_t hx ?_
    refine br_f (by decide) ?_
    refine dx_count hv hx ?_
    refine dy_con_t hx ?_
    refine br_f (by decide) ?_
    exact dy_count hv hx ⟨rfl, dd_rel hv hu⟩
theorem i_vc_distinct {k : Nat} {u : SX} {v : SY} (I : i_Rel k u v) (hk : k + 4 ≤ 2048) : wpX_distinct (fun r => wpY_distinct (fun r' => r' = r ∧ i_Rel (k + 4) u v) v) u := by
  obtain ⟨c, g, rfl, rfl, hv, hu⟩ := I
  refine dx_ds hv ?_
  exact dy_ds hv ⟨rfl, dd_rel hv hu⟩
theorem i_vc_used {k : Nat} {u : SX} {v : SY} (I : i_Rel k u v) (hk : k + 4 ≤ 2048) : wpX_used (fun r => wpY_used (fun r' => r' = r ∧ i_Rel (k + 4) u v) v) u := by
  obtain ⟨c, g, rfl, rfl, hv, hu⟩ := I
  unfold wpX_used
  refine dx_used hv ?_
  exact dy_used hv ⟨rfl, dd_rel hv hu⟩
theorem i_vc_saved {k : Nat} {u : SX} {v : SY} (I : i_Rel k u v) (hk : k + 4 ≤ 2048) : wpX_saved (fun r => wpY_saved (fun r' => r' = r ∧ i_Rel (k + 4) u v) v) u := by
  obtain ⟨c, g, rfl, rfl, hv, hu⟩ := I
  refine dx_sm hv ?_
  exact dy_sm hv ⟨rfl, dd_rel hv hu⟩
theorem i_vc_alone {k : Nat} {u : SX} {v : SY} (I : i_Rel k u v) (hk : k + 4 ≤ 2048) (v1 : Int32) : wpX_alone (fun r => wpY_alone (fun r' => r' = r ∧ i_Rel (k + 4) u v) v v1) u v1 := by
  obtain ⟨c, g, rfl, rfl, hv, hu⟩ := I
  rcases dd_split v1 (N := 32) (by decide) with o | ⟨n, hn, rfl⟩
  · unfold wpX_alone
    refine dx_blk_f o (br_t rfl ?_)
    unfold wpY_alone
    dsimp only
    exact dy_blk_f o (br_t rfl ⟨rfl, dd_rel hv hu⟩)
  · refine dx_alone hv hn (fun e => ?_) (fun e => ?_)
    · exact dy_alone hv hn (fun _ => ⟨rfl, dd_rel hv hu⟩) (fun z => absurd e z)
    · exact dy_alone hv hn (fun z => absurd z e) (fun _ => ⟨rfl, dd_rel hv hu⟩)
theorem i_vc_aloneIn {k : Nat} {u : SX} {v : SY} (I : i_Rel k u v) (hk : k + 4 ≤ 2048) (v1 : Int32) : wpX_aloneIn (fun r => wpY_aloneIn (fun r' v' => r' = r ∧ i_Rel (k + 4) u v') v v1) u v1 := by
  obtain ⟨c, g, rfl, rfl, hv, hu⟩ := I
  rcases dd_split v1 (N := 4) (by decide) with o | ⟨a, ha, rfl⟩
  · unfold wpX_aloneIn
    refine dx_vol_f o (br_t rfl ?_)
    unfold wpY_aloneIn
    dsimp only
    exact dy_vol_f o (br_t rfl ⟨rfl, dd_rel hv hu⟩)
  · refine dx_al hv ha ?_
    exact dy_al hv ha ⟨rfl, dd_rel hv hu⟩
theorem i_vc_twin {k : Nat} {u : SX} {v : SY} (I : i_Rel k u v) (hk : k + 4 ≤ 2048) (v1 : Int32) : wpX_twin (fun r => wpY_twin (fun r' => r' = r ∧ i_Rel (k + 4) u v) v v1) u v1 := by
  obtain ⟨c, g, rfl, rfl, hv, hu⟩ := I
  rcases dd_split v1 (N := 32) (by decide) with o | ⟨n, hn, rfl⟩
  · unfold wpX_twin
    refine dx_blk_f o (br_t rfl ?_)
    unfold wpY_twin
    dsimp only
    exact dy_blk_f o (br_t rfl ⟨rfl, dd_rel hv hu⟩)
  · refine dx_twin hv hn (fun j h1 h2 e h3 => ?_) (fun h => ?_)
    · refine dy_twin hv hn (fun i g1 g2 e' g3 => ⟨?_, dd_rel hv hu⟩) (fun h => absurd e (h j h1 h2))
      by_cases a : i < j
      · exact absurd e' (h3 i a g2)
      · by_cases b : j < i
        · exact absurd e (g3 j b h2)
        · rw [show i = j from by omega]
    · exact dy_twin hv hn (fun i g1 g2 e' _ => absurd e' (h i g1 g2)) (fun _ => ⟨rfl, dd_rel hv hu⟩)
theorem i_vc_favourite {k : Nat} {u : SX} {v : SY} (I : i_Rel k u v) (hk : k + 4 ≤ 2048) : wpX_favourite (fun r => wpY_favourite (fun r' => r' = r ∧ i_Rel (k + 4) u v) v) u := by
  obtain ⟨c, g, rfl, rfl, hv, hu⟩ := I
  refine dx_fv hv ?_
  exact dy_fv hv ⟨rfl, dd_rel hv hu⟩
theorem i_vc_tidy {k : Nat} {u : SX} {v : SY} (I : i_Rel k u v) (hk : k + 4 ≤ 2048) : wpX_tidy (fun u' => wpY_tidy (fun v' => i_Rel (k + 4) u' v') v) u := by
  obtain ⟨c, g, rfl, rfl, hv, hu⟩ := I
  exact dd_rel (k := k + 4) hv hu
