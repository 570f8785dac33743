theorem rt_cs {f : Nat → Int32} {t : Nat} {x : Int32} (ht : t < 48) (h : f t = x) : f (nI t).toNatClampNeg = x := by rw [rt_ck ht]; exact h
theorem rt_cn {f : Nat → Int32} {t : Nat} {x : Int32} (ht : t < 48) (h : ¬ f t = x) : ¬ f (nI t).toNatClampNeg = x := by rw [rt_ck ht]; exact h
section
variable {post : Int32 → Prop} {up ln lr p : Int32} {va lo st ie fn cr iw ui : Nat → Int32} {t : Nat}
theorem rt_Xth5 (h : p < 0 ∨ 4 ≤ p) (hp : post 5) : wpX_refusalUnlessThere post (up, ln, lr, va, lo, st, ie, fn, cr, iw, ui) p := by
  unfold wpX_refusalUnlessThere
  refine rt_Xtn h ?_
  exact br_t rfl hp
theorem rt_Xth1 (ht : t < 4) (h : up = 0) (hp : post 1) : wpX_refusalUnlessThere post (up, ln, lr, va, lo, st, ie, fn, cr, iw, ui) (nI t) := by
  unfold wpX_refusalUnlessThere
  refine rt_Xty ht ?_
  exact br_f rt_10 (br_t h hp)
theorem rt_Xth2 (ht : t < 4) (h : up = 1) (hs : st t = 0) (hp : post 2) : wpX_refusalUnlessThere post (up, ln, lr, va, lo, st, ie, fn, cr, iw, ui) (nI t) := by
  subst h
  unfold wpX_refusalUnlessThere
  refine rt_Xty ht ?_
  exact br_f rt_10 (br_f rt_10 ⟨rt_i4 ht, br_t (rt_cs (by omega) hs) hp⟩)
theorem rt_Xth0 (ht : t < 4) (h : up = 1) (hs : ¬ st t = 0) (hp : post 0) : wpX_refusalUnlessThere post (up, ln, lr, va, lo, st, ie, fn, cr, iw, ui) (nI t) := by
  subst h
  unfold wpX_refusalUnlessThere
  refine rt_Xty ht ?_
  exact br_f rt_10 (br_f rt_10 ⟨rt_i4 ht, br_f (rt_cn (by omega) hs) hp⟩)
theorem rt_Xop5 (h : p < 0 ∨ 4 ≤ p) (hp : post 5) : wpX_refusalUnlessOpen post (up, ln, lr, va, lo, st, ie, fn, cr, iw, ui) p := by
  unfold wpX_refusalUnlessOpen
  refine rt_Xth5 h ?_
  exact br_f rt_50 hp
theorem rt_Xop1 (ht : t < 4) (h : up = 0) (hp : post 1) : wpX_refusalUnlessOpen post (up, ln, lr, va, lo, st, ie, fn, cr, iw, ui) (nI t) := by
  unfold wpX_refusalUnlessOpen
  refine rt_Xth1 ht h ?_
  exact br_f rt_10 hp
theorem rt_Xop2 (ht : t < 4) (h : up = 1) (hs : ¬ st t = 1) (hp : post 2) : wpX_refusalUnlessOpen post (up, ln, lr, va, lo, st, ie, fn, cr, iw, ui) (nI t) := by
  unfold wpX_refusalUnlessOpen
  by_cases h0 : st t = 0
  · refine rt_Xth2 ht h h0 ?_
    exact br_f rt_20 hp
  · refine rt_Xth0 ht h h0 ?_
    exact br_t rfl ⟨rt_i4 ht, br_f (rt_cn (by omega) hs) hp⟩
theorem rt_Xop0 (ht : t < 4) (h : up = 1) (hs : st t = 1) (hp : post 0) : wpX_refusalUnlessOpen post (up, ln, lr, va, lo, st, ie, fn, cr, iw, ui) (nI t) := by
  unfold wpX_refusalUnlessOpen
  refine rt_Xth0 ht h (by rw [hs]; exact rt_10) ?_
  exact br_t rfl ⟨rt_i4 ht, br_t (rt_cs (by omega) hs) hp⟩
theorem rt_Xis5 (h : p < 0 ∨ 4 ≤ p) (hp : post 0) : wpX_isThere post (up, ln, lr, va, lo, st, ie, fn, cr, iw, ui) p := by
  by_cases h0 : up = 0
  · exact br_t h0 hp
  · refine br_f h0 ?_
    refine rt_Xtn h ?_
    exact br_t rfl hp
theorem rt_Xis1 (h : up = 0) (hp : post 0) : wpX_isThere post (up, ln, lr, va, lo, st, ie, fn, cr, iw, ui) p := br_t h hp
theorem rt_Xis2 (ht : t < 4) (h : up = 1) (hs : st t = 0) (hp : post 0) : wpX_isThere post (up, ln, lr, va, lo, st, ie, fn, cr, iw, ui) (nI t) := by
  subst h
  refine br_f rt_10 ?_
  refine rt_Xty ht ?_
  exact br_f rt_10 ⟨rt_i4 ht, br_t (rt_cs (by omega) hs) hp⟩
theorem rt_Xis0 (ht : t < 4) (h : up = 1) (hs : ¬ st t = 0) (hp : post 1) : wpX_isThere post (up, ln, lr, va, lo, st, ie, fn, cr, iw, ui) (nI t) := by
  subst h
  refine br_f rt_10 ?_
  refine rt_Xty ht ?_
  exact br_f rt_10 ⟨rt_i4 ht, br_f (rt_cn (by omega) hs) hp⟩
end
section
variable {post : Int32 → Prop} {nu : Int64} {dn se p : Int32} {va st cn lk iw cr ui : Nat → Int32} {le : Nat → Int64} {t : Nat}
theorem rt_Yen5 (h : p < 0 ∨ 4 ≤ p) (hp : post 5) : wpY_ending post (nu, dn, se, va, st, cn, le, lk, iw, cr, ui) p := by
  unfold wpY_ending
  refine rt_Yan h ?_
  exact br_t rfl hp
theorem rt_Yen1 (ht : t < 4) (h : dn = 1) (hp : post 1) : wpY_ending post (nu, dn, se, va, st, cn, le, lk, iw, cr, ui) (nI t) := by
  subst h
  unfold wpY_ending
  refine rt_Ya4 ht ?_
  exact br_f rt_10 (br_f rt_10 hp)
theorem rt_Yen2 (ht : t < 4) (h : dn = 0) (hs : st t = 0) (hp : post 2) : wpY_ending post (nu, dn, se, va, st, cn, le, lk, iw, cr, ui) (nI t) := by
  unfold wpY_ending
  refine rt_Ya4 ht ?_
  exact br_f rt_10 (br_t h ⟨rt_i4 ht, br_t (rt_cs (by omega) hs) hp⟩)
theorem rt_Yen0 (ht : t < 4) (h : dn = 0) (hs : ¬ st t = 0) (hp : post 0) : wpY_ending post (nu, dn, se, va, st, cn, le, lk, iw, cr, ui) (nI t) := by
  unfold wpY_ending
  refine rt_Ya4 ht ?_
  exact br_f rt_10 (br_t h ⟨rt_i4 ht, br_f (rt_cn (by omega) hs) hp⟩)
end
theorem i_vc_value {k : Nat} {u : SX} {v : SY} (I : i_Rel k u v) (hk : k + 4 ≤ 2048) : wpX_value (fun r => wpY_value (fun r' => r' = r ∧ i_Rel (k + 4) u v) v) u := by
  obtain ⟨L, up, dn, lr, va, lo, st, ie, fn, cr, iw, ui, cn, lk, le, rfl, rfl, hu, hL, C⟩ := rt_el I
  exact And.intro rfl (i_up I)
theorem i_vc_changes {k : Nat} {u : SX} {v : SY} (I : i_Rel k u v) (hk : k + 4 ≤ 2048) (v1 : Int32) : wpX_changes (fun r => wpY_changes (fun r' => r' = r ∧ i_Rel (k + 4) u v) v v1) u v1 := by
  have J := i_up I
  obtain ⟨L, up, dn, lr, va, lo, st, ie, fn, cr, iw, ui, cn, lk, le, rfl, rfl, hu, hL, C⟩ := rt_el I
  unfold wpX_changes wpY_changes
  rcases rt_Pex st v1 hu with h | ⟨t, ht, rfl, rfl, rfl⟩ | ⟨t, ht, rfl, rfl, rfl, h0⟩ | ⟨t, ht, rfl, rfl, rfl, h0, _⟩ | ⟨t, ht, rfl, rfl, rfl, h0, _⟩
  · refine rt_Xis5 h ?_
    refine br_t rfl ?_
    refine rt_Yan h ?_
    exact br_t rfl ⟨rfl, J⟩
  · refine rt_Xis1 rfl ?_
    refine br_t rfl ?_
    refine rt_Ya4 ht ?_
    exact br_f rt_10 (br_f rt_10 ⟨rfl, J⟩)
  · refine rt_Xis2 ht rfl h0 ?_
    refine br_t rfl ?_
    refine rt_Ya4 ht ?_
    exact br_f rt_10 (br_t rfl ⟨rt_i4 ht, br_t (rt_cs (by omega) h0) ⟨rfl, J⟩⟩)
  all_goals
    obtain ⟨⟨c, hc, e1, e2, w⟩, _, _⟩ := (C t ht).2 h0
    refine rt_Xis0 ht rfl h0 ?_
    refine br_f rt_10 ⟨rt_i4 ht, ?_⟩
    refine rt_Ya4 ht ?_
    exact br_f rt_10 (br_t rfl ⟨rt_i4 ht, br_f (rt_cn (by omega) h0) ⟨rt_i4 ht, by rw [rt_ck (by omega), e1, e2], J⟩⟩)
theorem i_vc_state {k : Nat} {u : SX} {v : SY} (I : i_Rel k u v) (hk : k + 4 ≤ 2048) (v1 : Int32) : wpX_state (fun r => wpY_state (fun r' => r' = r ∧ i_Rel (k + 4) u v) v v1) u v1 := by
  have J := i_up I
  obtain ⟨L, up, dn, lr, va, lo, st, ie, fn, cr, iw, ui, cn, lk, le, rfl, rfl, hu, hL, C⟩ := rt_el I
  unfold wpX_state wpY_state
  rcases rt_Pex st v1 hu with h | ⟨t, ht, rfl, rfl, rfl⟩ | ⟨t, ht, rfl, rfl, rfl, h0⟩ | ⟨t, ht, rfl, rfl, rfl, h0, _⟩ | ⟨t, ht, rfl, rfl, rfl, h0, _⟩
  · refine rt_Xis5 h ?_
    refine br_t rfl ?_
    refine rt_Yan h ?_
    exact br_t rfl ⟨rfl, J⟩
  · refine rt_Xis1 rfl ?_
    refine br_t rfl ?_
    refine rt_Ya4 ht ?_
    exact br_f rt_10 (br_f rt_10 ⟨rfl, J⟩)
  · refine rt_Xis2 ht rfl h0 ?_
    refine br_t rfl ?_
    refine rt_Ya4 ht ?_
    exact br_f rt_10 (br_t rfl ⟨rt_i4 ht, rt_cs (by omega) h0, J⟩)
  all_goals
    refine rt_Xis0 ht rfl h0 ?_
    refine br_f rt_10 ⟨rt_i4 ht, ?_⟩
    refine rt_Ya4 ht ?_
    exact br_f rt_10 (br_t rfl ⟨rt_i4 ht, rfl, J⟩)
theorem i_vc_now {k : Nat} {u : SX} {v : SY} (I : i_Rel k u v) (hk : k + 4 ≤ 2048) (v1 : Int32) : wpX_now (fun r => wpY_now (fun r' => r' = r ∧ i_Rel (k + 4) u v) v v1) u v1 := by
  have J := i_up I
  obtain ⟨L, up, dn, lr, va, lo, st, ie, fn, cr, iw, ui, cn, lk, le, rfl, rfl, hu, hL, C⟩ := rt_el I
  unfold wpX_now wpY_now
  rcases hu with ⟨rfl, rfl⟩ | ⟨rfl, rfl⟩ <;> rcases rt_rng v1 12 (by decide) with h | ⟨r, hr, rfl⟩
  · refine br_f rt_10 ?_
    refine rt_Xrn h ?_
    refine br_t rfl ?_
    refine rt_Yan h ?_
    exact br_t rfl ⟨rfl, J⟩
  · refine br_f rt_10 ?_
    refine rt_Xry hr ?_
    refine br_f rt_10 ⟨rt_i12 hr, ?_⟩
    refine rt_Ya12 hr ?_
    exact br_f rt_10 (br_t rfl ⟨rt_i12 hr, rfl, J⟩)
  · refine br_t rfl ?_
    refine rt_Yan h ?_
    exact br_t rfl ⟨rfl, J⟩
  · refine br_t rfl ?_
    refine rt_Ya12 hr ?_
    exact br_f rt_10 (br_f rt_10 ⟨rfl, J⟩)
theorem i_vc_steal {k : Nat} {u : SX} {v : SY} (I : i_Rel k u v) (hk : k + 4 ≤ 2048) (v1 : Int32) : wpX_steal (fun r => wpY_steal (fun r' => r' = r ∧ i_Rel (k + 4) u v) v v1) u v1 := by
  have J := i_up I
  obtain ⟨L, up, dn, lr, va, lo, st, ie, fn, cr, iw, ui, cn, lk, le, rfl, rfl, hu, hL, C⟩ := rt_el I
  unfold wpX_steal wpY_steal
  rcases hu with ⟨rfl, rfl⟩ | ⟨rfl, rfl⟩ <;> rcases rt_rng v1 3 (by decide) with h | ⟨r, hr, rfl⟩
  · refine br_f rt_10 ?_
    by_cases h0 : v1 < 0
    · refine br_t h0 ?_
      refine rt_Yan h ?_
      exact br_t rfl ⟨rfl, J⟩
    · refine br_f h0 (br_t (h.resolve_left h0) ?_)
      refine rt_Yan h ?_
      exact br_t rfl ⟨rfl, J⟩
  · refine br_f rt_10 (br_f (nI_pos (by omega)) (br_f (nI_ge (b := 3) hr (by decide)) ?_))
    refine rt_Ya3 hr ?_
    exact br_f rt_10 (br_t rfl ⟨rfl, J⟩)
  · refine br_t rfl ?_
    refine rt_Yan h ?_
    exact br_t rfl ⟨rfl, J⟩
  · refine br_t rfl ?_
    refine rt_Ya3 hr ?_
    exact br_f rt_10 (br_f rt_10 ⟨rfl, J⟩)
theorem i_vc_checkpoint {k : Nat} {u : SX} {v : SY} (I : i_Rel k u v) (hk : k + 4 ≤ 2048) : wpX_checkpoint (fun r => wpY_checkpoint (fun r' => r' = r ∧ i_Rel (k + 4) u v) v) u := by
  have J := i_up I
  obtain ⟨L, up, dn, lr, va, lo, st, ie, fn, cr, iw, ui, cn, lk, le, rfl, rfl, hu, hL, C⟩ := rt_el I
  unfold wpX_checkpoint wpY_checkpoint
  rcases hu with ⟨rfl, rfl⟩ | ⟨rfl, rfl⟩
  · refine And.intro (by rfl) ?_
    exact br_t rfl ⟨rfl, J⟩
  · refine And.intro (by rfl) ?_
    exact br_f rt_10 ⟨rfl, J⟩
theorem i_vc_restart {k : Nat} {u : SX} {v : SY} (I : i_Rel k u v) (hk : k + 4 ≤ 2048) (v1 : Int32) : wpX_restart (fun r u' => wpY_restart (fun r' v' => r' = r ∧ i_Rel (k + 4) u' v') v v1) u v1 := by
  have J := i_up I
  obtain ⟨L, up, dn, lr, va, lo, st, ie, fn, cr, iw, ui, cn, lk, le, rfl, rfl, hu, hL, C⟩ := rt_el I
  unfold wpX_restart wpY_restart
  rcases hu with ⟨rfl, rfl⟩ | ⟨rfl, rfl⟩
  · refine br_f rt_10 ?_
    exact br_t rfl ⟨rfl, J⟩
  · refine br_t rfl ?_
    exact br_f rt_10 ⟨rfl, rt_mk (.inl ⟨rfl, rfl⟩) (by omega) C⟩
