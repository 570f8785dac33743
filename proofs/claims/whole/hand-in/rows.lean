section
/-- one transaction on both sides -/
def rt_T (L t : Nat) (lo st ie fn cr cn : Nat → Int32) (le : Nat → Int64) (lk : Nat → Int32) : Prop :=
  (st t = 0 → ie t = 0 ∧ fn t = 0 ∧ ∀ r, r < 12 → lo (t * 12 + r) = 0) ∧
  (¬ st t = 0 → (∃ c, c ≤ 10 ∧ ie t = nI c ∧ cn t = nI c ∧ ∀ i, i < c → ∃ r, r < 12 ∧ cr (t * 10 + i) = nI r) ∧
    (∃ F, F ≤ L ∧ fn t = nI F ∧ le t = lN F) ∧ ∀ r, r < 12 → lk (t * 12 + r) = lo (t * 12 + r))
def rt_C (L : Nat) (lo st ie fn cr cn : Nat → Int32) (le : Nat → Int64) (lk : Nat → Int32) : Prop :=
  ∀ t, t < 4 → rt_T L t lo st ie fn cr cn le lk
def rt_U (up dn : Int32) : Prop := (up = 1 ∧ dn = 0) ∨ (up = 0 ∧ dn = 1)
def i_Rel (k : Nat) (u : SX) (v : SY) : Prop :=
  match u, v with
  | (up, ln, lr, va, lo, st, ie, fn, cr, iw, ui), (nu, dn, se, ro, st', cn, le, lk, iw', wh, wt) =>
    rt_U up dn ∧ se = lr ∧ ro = va ∧ st' = st ∧ iw' = iw ∧ wh = cr ∧ wt = ui ∧
    ∃ L, L ≤ k ∧ ln = nI L ∧ nu = lN L ∧ rt_C L lo st ie fn cr cn le lk
theorem rt_mk {k L : Nat} {up dn lr : Int32} {va lo st ie fn cr iw ui cn lk : Nat → Int32} {le : Nat → Int64} (h : rt_U up dn) (hL : L ≤ k)
    (C : rt_C L lo st ie fn cr cn le lk) : i_Rel k (up, nI L, lr, va, lo, st, ie, fn, cr, iw, ui) (lN L, dn, lr, va, st, cn, le, lk, iw, cr, ui) :=
  ⟨h, rfl, rfl, rfl, rfl, rfl, rfl, L, hL, rfl, rfl, C⟩
theorem rt_el {k : Nat} {u : SX} {v : SY} (I : i_Rel k u v) : ∃ (L : Nat) (up dn lr : Int32) (va lo st ie fn cr iw ui cn lk : Nat → Int32) (le : Nat → Int64),
    u = (up, nI L, lr, va, lo, st, ie, fn, cr, iw, ui) ∧ v = (lN L, dn, lr, va, st, cn, le, lk, iw, cr, ui) ∧ rt_U up dn ∧ L ≤ k ∧ rt_C L lo st ie fn cr cn le lk := by
  obtain ⟨up, ln, lr, va, lo, st, ie, fn, cr, iw, ui⟩ := u
  obtain ⟨nu, dn, se, ro, st', cn, le, lk, iw', wh, wt⟩ := v
  obtain ⟨h, h1, h2, h3, h4, h5, h6, L, hL, h7, h8, C⟩ := I
  subst h1 h2 h3 h4 h5 h6 h7 h8
  exact ⟨L, up, dn, se, ro, lo, st', ie, fn, wh, iw', wt, cn, lk, le, rfl, rfl, h, hL, C⟩
theorem i_up {k : Nat} {u : SX} {v : SY} (h : i_Rel k u v) : i_Rel (k + 4) u v := by
  obtain ⟨L, up, dn, lr, va, lo, st, ie, fn, cr, iw, ui, cn, lk, le, rfl, rfl, hu, hL, C⟩ := rt_el h
  exact rt_mk hu (by omega) C
theorem i_vc0 : wpX_init (fun u => wpY_init (fun v => i_Rel 0 u v)) := by
  refine ⟨.inl ⟨rfl, rfl⟩, rfl, rfl, rfl, rfl, rfl, rfl, 0, Nat.le_refl _, rfl, rfl, fun t ht => ⟨fun _ => ⟨rfl, rfl, fun _ _ => rfl⟩, fun z => absurd rfl z⟩⟩
/-! numbers -/
theorem rt_ck {t : Nat} (h : t < 48) : (nI t).toNatClampNeg = t := nI_clamp (by omega)
theorem rt_s12 (t r : Nat) : nI t * 12 + nI r = nI (t * 12 + r) := by
  rw [← nI_add]; congr 1; exact (Int32.ofNat_mul t 12).symm
theorem rt_s10 (t r : Nat) : nI t * 10 + nI r = nI (t * 10 + r) := by
  rw [← nI_add]; congr 1; exact (Int32.ofNat_mul t 10).symm
theorem rt_rng (p : Int32) (b : Nat) (hb : b < 2 ^ 31) : (p < 0 ∨ nI b ≤ p) ∨ ∃ t, t < b ∧ p = nI t := by
  by_cases h : p < 0
  · exact .inl (.inl h)
  · obtain ⟨j, hj, rfl⟩ := nI_of h
    by_cases hc : j < b
    · exact .inr ⟨j, hc, rfl⟩
    · exact .inl (.inr ((nI_leI hb hj).2 (by omega)))
theorem rt_us (f : Nat → Int32) (k : Nat) (x : Int32) : upd f k x k = x := if_pos rfl
theorem rt_un (f : Nat → Int32) (k j : Nat) (x : Int32) (h : ¬ j = k) : upd f k x j = f j := if_neg h
theorem rt_uLs (f : Nat → Int64) (k : Nat) (x : Int64) : vp_updL f k x k = x := if_pos rfl
theorem rt_uLn (f : Nat → Int64) (k j : Nat) (x : Int64) (h : ¬ j = k) : vp_updL f k x j = f j := if_neg h
theorem rt_i4 {t : Nat} (h : t < 4) : vp_in (nI t) 4 := vp_in_nI h (by decide)
theorem rt_i12 {t : Nat} (h : t < 12) : vp_in (nI t) 12 := vp_in_nI h (by decide)
theorem rt_n4 {i : Nat} (h : i < 4) : ¬ (4 : Int32) ≤ nI i := nI_ge (b := 4) h (by decide)
theorem rt_n12 {i : Nat} (h : i < 12) : ¬ (12 : Int32) ≤ nI i := nI_ge (b := 12) h (by decide)
/-! a transaction whose own cells stay -/
theorem rt_Tf {L L' t : Nat} {lo st ie fn cr cn lk lo' st' ie' fn' cr' cn' lk' : Nat → Int32} {le le' : Nat → Int64}
    (T : rt_T L t lo st ie fn cr cn le lk) (hL : L ≤ L') (h1 : st' t = st t) (h2 : ie' t = ie t) (h3 : fn' t = fn t)
    (h4 : ∀ i, i < 10 → cr' (t * 10 + i) = cr (t * 10 + i)) (h5 : cn' t = cn t) (h6 : le' t = le t)
    (h7 : ∀ r, r < 12 → lo' (t * 12 + r) = lo (t * 12 + r)) (h8 : ∀ r, r < 12 → lk' (t * 12 + r) = lk (t * 12 + r)) :
    rt_T L' t lo' st' ie' fn' cr' cn' le' lk' := by
  obtain ⟨T0, T1⟩ := T
  refine ⟨fun z => ?_, fun z => ?_⟩
  · obtain ⟨a, b, c⟩ := T0 (h1 ▸ z)
    exact ⟨h2.trans a, h3.trans b, fun r hr => (h7 r hr).trans (c r hr)⟩
  · obtain ⟨⟨c, hc, e1, e2, w⟩, ⟨F, hF, e3, e4⟩, l⟩ := T1 (h1 ▸ z)
    refine ⟨⟨c, hc, h2.trans e1, h5.trans e2, fun i hi => ?_⟩, ⟨F, by omega, h3.trans e3, h6.trans e4⟩, fun r hr => ?_⟩
    · obtain ⟨r, hr, er⟩ := w i hi
      exact ⟨r, hr, (h4 i (by omega)).trans er⟩
    · rw [h8 r hr, h7 r hr]; exact l r hr
/-! small questions -/
theorem rt_Xtn {post : Int32 → Prop} {u : SX} {p : Int32} (h : p < 0 ∨ 4 ≤ p) (hp : post 0) : wpX_isTransaction post u p := by
  obtain ⟨up, ln, lr, va, lo, st, ie, fn, cr, iw, ui⟩ := u
  by_cases h0 : p < 0
  · exact br_t h0 hp
  · exact br_f h0 (br_t (h.resolve_left h0) hp)
theorem rt_Xty {post : Int32 → Prop} {u : SX} {t : Nat} (h : t < 4) (hp : post 1) : wpX_isTransaction post u (nI t) := by
  obtain ⟨up, ln, lr, va, lo, st, ie, fn, cr, iw, ui⟩ := u
  exact br_f (nI_pos (by omega)) (br_f (rt_n4 h) hp)
theorem rt_Xrn {post : Int32 → Prop} {u : SX} {p : Int32} (h : p < 0 ∨ 12 ≤ p) (hp : post 0) : wpX_isRecord post u p := by
  obtain ⟨up, ln, lr, va, lo, st, ie, fn, cr, iw, ui⟩ := u
  by_cases h0 : p < 0
  · exact br_t h0 hp
  · exact br_f h0 (br_t (h.resolve_left h0) hp)
theorem rt_Xry {post : Int32 → Prop} {u : SX} {t : Nat} (h : t < 12) (hp : post 1) : wpX_isRecord post u (nI t) := by
  obtain ⟨up, ln, lr, va, lo, st, ie, fn, cr, iw, ui⟩ := u
  exact br_f (nI_pos (by omega)) (br_f (rt_n12 h) hp)
theorem rt_Yan {post : Int32 → Prop} {v : SY} {p b : Int32} (h : p < 0 ∨ b ≤ p) (hp : post 0) : wpY_among post v p b := by
  obtain ⟨nu, dn, se, ro, st, cn, le, lk, iw, wh, wt⟩ := v
  by_cases h0 : p < 0
  · exact br_t h0 hp
  · exact br_f h0 (br_t (h.resolve_left h0) hp)
theorem rt_Yay {post : Int32 → Prop} {v : SY} {t b : Nat} (h : t < b) (hb : b < 2 ^ 31) (hp : post 1) : wpY_among post v (nI t) (nI b) := by
  obtain ⟨nu, dn, se, ro, st, cn, le, lk, iw, wh, wt⟩ := v
  exact br_f (nI_pos (by omega)) (br_f (nI_ge h hb) hp)
theorem rt_Ya4 {post : Int32 → Prop} {v : SY} {t : Nat} (h : t < 4) (hp : post 1) : wpY_among post v (nI t) 4 := rt_Yay (b := 4) h (by decide) hp
theorem rt_Ya12 {post : Int32 → Prop} {v : SY} {t : Nat} (h : t < 12) (hp : post 1) : wpY_among post v (nI t) 12 := rt_Yay (b := 12) h (by decide) hp
theorem rt_Ya3 {post : Int32 → Prop} {v : SY} {t : Nat} (h : t < 3) (hp : post 1) : wpY_among post v (nI t) 3 := rt_Yay (b := 3) h (by decide) hp
theorem rt_10 : ¬ (1 : Int32) = 0 := by decide
theorem rt_20 : ¬ (2 : Int32) = 0 := by decide
theorem rt_30 : ¬ (3 : Int32) = 0 := by decide
theorem rt_40 : ¬ (4 : Int32) = 0 := by decide
theorem rt_50 : ¬ (5 : Int32) = 0 := by decide
theorem rt_21 : ¬ (2 : Int32) = 1 := by decide
/-! how a number of a transaction stands: not one; down; there or not -/
def rt_P (up dn : Int32) (st : Nat → Int32) (p : Int32) : Prop :=
  (p < 0 ∨ 4 ≤ p) ∨ (∃ t, t < 4 ∧ p = nI t ∧ up = 0 ∧ dn = 1) ∨ (∃ t, t < 4 ∧ p = nI t ∧ up = 1 ∧ dn = 0 ∧ st t = 0) ∨
  (∃ t, t < 4 ∧ p = nI t ∧ up = 1 ∧ dn = 0 ∧ ¬ st t = 0 ∧ ¬ st t = 1) ∨ (∃ t, t < 4 ∧ p = nI t ∧ up = 1 ∧ dn = 0 ∧ ¬ st t = 0 ∧ st t = 1)
theorem rt_Pex {up dn : Int32} (st : Nat → Int32) (p : Int32) (hu : rt_U up dn) : rt_P up dn st p := by
  rcases rt_rng p 4 (by decide) with h | ⟨t, ht, e⟩
  · exact .inl h
  rcases hu with ⟨a, b⟩ | ⟨a, b⟩
  · by_cases h0 : st t = 0
    · exact .inr (.inr (.inl ⟨t, ht, e, a, b, h0⟩))
    · by_cases h1 : st t = 1
      · exact .inr (.inr (.inr (.inr ⟨t, ht, e, a, b, h0, h1⟩)))
      · exact .inr (.inr (.inr (.inl ⟨t, ht, e, a, b, h0, h1⟩)))
  · exact .inr (.inl ⟨t, ht, e, a, b⟩)
end
section
theorem rt_cs {f : Nat → Int32} {t : Nat} {x : Int32} (ht : t < 48) (h : f t = x) : f (nI t).toNatClampNeg = x := by rw [rt_ck ht]; exact h
theorem rt_cn {f : Nat → Int32} {t : Nat} {x : Int32} (ht : t < 48) (h : ¬ f t = x) : ¬ f (nI t).toNatClampNeg = x := by rw [rt_ck ht]; exact h
section
variable {post : Int32 → Prop} {up ln lr p : Int32} {va lo st ie fn cr iw ui : Nat → Int32} {t : Nat}
theorem rt_Xth5 (h : p < 0 ∨ 4 ≤ p) (hp : post 5) : wpX_refusalUnlessThere post (up, ln, lr, va, lo, st, ie, fn, cr, iw, ui) p := by
  unfold wpX_refusalUnlessThere
  refine rt_Xtn h ?_
  exact br_t rfl hp
theorem rt_Xth1 (ht : t < 4) (h : up = 0) (hp : post 1) : wpX_refusalUnlessThere post (up, ln, lr, va, lo, st, ie, fn, cr, iw, ui) (nI t) := by
  unfold wpX_refusalUnlessThere
  refine rt_Xty ht ?_
  exact br_f rt_10 (br_t h hp)
theorem rt_Xth2 (ht : t < 4) (h : up = 1) (hs : st t = 0) (hp : post 2) : wpX_refusalUnlessThere post (up, ln, lr, va, lo, st, ie, fn, cr, iw, ui) (nI t) := by
  subst h
  unfold wpX_refusalUnlessThere
  refine rt_Xty ht ?_
  exact br_f rt_10 (br_f rt_10 ⟨rt_i4 ht, br_t (rt_cs (by omega) hs) hp⟩)
theorem rt_Xth0 (ht : t < 4) (h : up = 1) (hs : ¬ st t = 0) (hp : post 0) : wpX_refusalUnlessThere post (up, ln, lr, va, lo, st, ie, fn, cr, iw, ui) (nI t) := by
  subst h
  unfold wpX_refusalUnlessThere
  refine rt_Xty ht ?_
  exact br_f rt_10 (br_f rt_10 ⟨rt_i4 ht, br_f (rt_cn (by omega) hs) hp⟩)
theorem rt_Xop5 (h : p < 0 ∨ 4 ≤ p) (hp : post 5) : wpX_refusalUnlessOpen post (up, ln, lr, va, lo, st, ie, fn, cr, iw, ui) p := by
  unfold wpX_refusalUnlessOpen
  refine rt_Xth5 h ?_
  exact br_f rt_50 hp
theorem rt_Xop1 (ht : t < 4) (h : up = 0) (hp : post 1) : wpX_refusalUnlessOpen post (up, ln, lr, va, lo, st, ie, fn, cr, iw, ui) (nI t) := by
  unfold wpX_refusalUnlessOpen
  refine rt_Xth1 ht h ?_
  exact br_f rt_10 hp
theorem rt_Xop2 (ht : t < 4) (h : up = 1) (hs : ¬ st t = 1) (hp : post 2) : wpX_refusalUnlessOpen post (up, ln, lr, va, lo, st, ie, fn, cr, iw, ui) (nI t) := by
  unfold wpX_refusalUnlessOpen
  by_cases h0 : st t = 0
  · refine rt_Xth2 ht h h0 ?_
    exact br_f rt_20 hp
  · refine rt_Xth0 ht h h0 ?_
    exact br_t rfl ⟨rt_i4 ht, br_f (rt_cn (by omega) hs) hp⟩
theorem rt_Xop0 (ht : t < 4) (h : up = 1) (hs : st t = 1) (hp : post 0) : wpX_refusalUnlessOpen post (up, ln, lr, va, lo, st, ie, fn, cr, iw, ui) (nI t) := by
  unfold wpX_refusalUnlessOpen
  refine rt_Xth0 ht h (by rw [hs]; exact rt_10) ?_
  exact br_t rfl ⟨rt_i4 ht, br_t (rt_cs (by omega) hs) hp⟩
theorem rt_Xis5 (h : p < 0 ∨ 4 ≤ p) (hp : post 0) : wpX_isThere post (up, ln, lr, va, lo, st, ie, fn, cr, iw, ui) p := by
  by_cases h0 : up = 0
  · exact br_t h0 hp
  · refine br_f h0 ?_
    refine rt_Xtn h ?_
    exact br_t rfl hp
theorem rt_Xis1 (h : up = 0) (hp : post 0) : wpX_isThere post (up, ln, lr, va, lo, st, ie, fn, cr, iw, ui) p := br_t h hp
theorem rt_Xis2 (ht : t < 4) (h : up = 1) (hs : st t = 0) (hp : post 0) : wpX_isThere post (up, ln, lr, va, lo, st, ie, fn, cr, iw, ui) (nI t) := by
  subst h
  refine br_f rt_10 ?_
  refine rt_Xty ht ?_
  exact br_f rt_10 ⟨rt_i4 ht, br_t (rt_cs (by omega) hs) hp⟩
theorem rt_Xis0 (ht : t < 4) (h : up = 1) (hs : ¬ st t = 0) (hp : post 1) : wpX_isThere post (up, ln, lr, va, lo, st, ie, fn, cr, iw, ui) (nI t) := by
  subst h
  refine br_f rt_10 ?_
  refine rt_Xty ht ?_
  exact br_f rt_10 ⟨rt_i4 ht, br_f (rt_cn (by omega) hs) hp⟩
end
section
variable {post : Int32 → Prop} {nu : Int64} {dn se p : Int32} {va st cn lk iw cr ui : Nat → Int32} {le : Nat → Int64} {t : Nat}
theorem rt_Yen5 (h : p < 0 ∨ 4 ≤ p) (hp : post 5) : wpY_ending post (nu, dn, se, va, st, cn, le, lk, iw, cr, ui) p := by
  unfold wpY_ending
  refine rt_Yan h ?_
  exact br_t rfl hp
theorem rt_Yen1 (ht : t < 4) (h : dn = 1) (hp : post 1) : wpY_ending post (nu, dn, se, va, st, cn, le, lk, iw, cr, ui) (nI t) := by
  subst h
  unfold wpY_ending
  refine rt_Ya4 ht ?_
  exact br_f rt_10 (br_f rt_10 hp)
theorem rt_Yen2 (ht : t < 4) (h : dn = 0) (hs : st t = 0) (hp : post 2) : wpY_ending post (nu, dn, se, va, st, cn, le, lk, iw, cr, ui) (nI t) := by
  unfold wpY_ending
  refine rt_Ya4 ht ?_
  exact br_f rt_10 (br_t h ⟨rt_i4 ht, br_t (rt_cs (by omega) hs) hp⟩)
theorem rt_Yen0 (ht : t < 4) (h : dn = 0) (hs : ¬ st t = 0) (hp : post 0) : wpY_ending post (nu, dn, se, va, st, cn, le, lk, iw, cr, ui) (nI t) := by
  unfold wpY_ending
  refine rt_Ya4 ht ?_
  exact br_f rt_10 (br_t h ⟨rt_i4 ht, br_f (rt_cn (by omega) hs) hp⟩)
end
theorem i_vc_value {k : Nat} {u : SX} {v : SY} (I : i_Rel k u v) (hk : k + 4 ≤ 2048) : wpX_value (fun r => wpY_value (fun r' => r' = r ∧ i_Rel (k + 4) u v) v) u := by
  obtain ⟨L, up, dn, lr, va, lo, st, ie, fn, cr, iw, ui, cn, lk, le, rfl, rfl, hu, hL, C⟩ := rt_el I
  exact And.intro rfl (i_up I)
theorem i_vc_changes {k : Nat} {u : SX} {v : SY} (I : i_Rel k u v) (hk : k + 4 ≤ 2048) (v1 : Int32) : wpX_changes (fun r => wpY_changes (fun r' => r' = r ∧ i_Rel (k + 4) u v) v v1) u v1 := by
  have J := i_up I
  obtain ⟨L, up, dn, lr, va, lo, st, ie, fn, cr, iw, ui, cn, lk, le, rfl, rfl, hu, hL, C⟩ := rt_el I
  unfold wpX_changes wpY_changes
  rcases rt_Pex st v1 hu with h | ⟨t, ht, rfl, rfl, rfl⟩ | ⟨t, ht, rfl, rfl, rfl, h0⟩ | ⟨t, ht, rfl, rfl, rfl, h0, _⟩ | ⟨t, ht, rfl, rfl, rfl, h0, _⟩
  · refine rt_Xis5 h ?_
    refine br_t rfl ?_
    refine rt_Yan h ?_
    exact br_t rfl ⟨rfl, J⟩
  · refine rt_Xis1 rfl ?_
    refine br_t rfl ?_
    refine rt_Ya4 ht ?_
    exact br_f rt_10 (br_f rt_10 ⟨rfl, J⟩)
  · refine rt_Xis2 ht rfl h0 ?_
    refine br_t rfl ?_
    refine rt_Ya4 ht ?_
    exact br_f rt_10 (br_t rfl ⟨rt_i4 ht, br_t (rt_cs (by omega) h0) ⟨rfl, J⟩⟩)
  all_goals
    obtain ⟨⟨c, hc, e1, e2, w⟩, _, _⟩ := (C t ht).2 h0
    refine rt_Xis0 ht rfl h0 ?_
    refine br_f rt_10 ⟨rt_i4 ht, ?_⟩
    refine rt_Ya4 ht ?_
    exact br_f rt_10 (br_t rfl ⟨rt_i4 ht, br_f (rt_cn (by omega) h0) ⟨rt_i4 ht, by rw [rt_ck (by omega), e1, e2], J⟩⟩)
theorem i_vc_state {k : Nat} {u : SX} {v : SY} (I : i_Rel k u v) (hk : k + 4 ≤ 2048) (v1 : Int32) : wpX_state (fun r => wpY_state (fun r' => r' = r ∧ i_Rel (k + 4) u v) v v1) u v1 := by
  have J := i_up I
  obtain ⟨L, up, dn, lr, va, lo, st, ie, fn, cr, iw, ui, cn, lk, le, rfl, rfl, hu, hL, C⟩ := rt_el I
  unfold wpX_state wpY_state
  rcases rt_Pex st v1 hu with h | ⟨t, ht, rfl, rfl, rfl⟩ | ⟨t, ht, rfl, rfl, rfl, h0⟩ | ⟨t, ht, rfl, rfl, rfl, h0, _⟩ | ⟨t, ht, rfl, rfl, rfl, h0, _⟩
  · refine rt_Xis5 h ?_
    refine br_t rfl ?_
    refine rt_Yan h ?_
    exact br_t rfl ⟨rfl, J⟩
  · refine rt_Xis1 rfl ?_
    refine br_t rfl ?_
    refine rt_Ya4 ht ?_
    exact br_f rt_10 (br_f rt_10 ⟨rfl, J⟩)
  · refine rt_Xis2 ht rfl h0 ?_
    refine br_t rfl ?_
    refine rt_Ya4 ht ?_
    exact br_f rt_10 (br_t rfl ⟨rt_i4 ht, rt_cs (by omega) h0, J⟩)
  all_goals
    refine rt_Xis0 ht rfl h0 ?_
    refine br_f rt_10 ⟨rt_i4 ht, ?_⟩
    refine rt_Ya4 ht ?_
    exact br_f rt_10 (br_t rfl ⟨rt_i4 ht, rfl, J⟩)
theorem i_vc_now {k : Nat} {u : SX} {v : SY} (I : i_Rel k u v) (hk : k + 4 ≤ 2048) (v1 : Int32) : wpX_now (fun r => wpY_now (fun r' => r' = r ∧ i_Rel (k + 4) u v) v v1) u v1 := by
  have J := i_up I
  obtain ⟨L, up, dn, lr, va, lo, st, ie, fn, cr, iw, ui, cn, lk, le, rfl, rfl, hu, hL, C⟩ := rt_el I
  unfold wpX_now wpY_now
  rcases hu with ⟨rfl, rfl⟩ | ⟨rfl, rfl⟩ <;> rcases rt_rng v1 12 (by decide) with h | ⟨r, hr, rfl⟩
  · refine br_f rt_10 ?_
    refine rt_Xrn h ?_
    refine br_t rfl ?_
    refine rt_Yan h ?_
    exact br_t rfl ⟨rfl, J⟩
  · refine br_f rt_10 ?_
    refine rt_Xry hr ?_
    refine br_f rt_10 ⟨rt_i12 hr, ?_⟩
    refine rt_Ya12 hr ?_
    exact br_f rt_10 (br_t rfl ⟨rt_i12 hr, rfl, J⟩)
  · refine br_t rfl ?_
    refine rt_Yan h ?_
    exact br_t rfl ⟨rfl, J⟩
  · refine br_t rfl ?_
    refine rt_Ya12 hr ?_
    exact br_f rt_10 (br_f rt_10 ⟨rfl, J⟩)
theorem i_vc_steal {k : Nat} {u : SX} {v : SY} (I : i_Rel k u v) (hk : k + 4 ≤ 2048) (v1 : Int32) : wpX_steal (fun r => wpY_steal (fun r' => r' = r ∧ i_Rel (k + 4) u v) v v1) u v1 := by
  have J := i_up I
  obtain ⟨L, up, dn, lr, va, lo, st, ie, fn, cr, iw, ui, cn, lk, le, rfl, rfl, hu, hL, C⟩ := rt_el I
  unfold wpX_steal wpY_steal
  rcases hu with ⟨rfl, rfl⟩ | ⟨rfl, rfl⟩ <;> rcases rt_rng v1 3 (by decide) with h | ⟨r, hr, rfl⟩
  · refine br_f rt_10 ?_
    by_cases h0 : v1 < 0
    · refine br_t h0 ?_
      refine rt_Yan h ?_
      exact br_t rfl ⟨rfl, J⟩
    · refine br_f h0 (br_t (h.resolve_left h0) ?_)
      refine rt_Yan h ?_
      exact br_t rfl ⟨rfl, J⟩
  · refine br_f rt_10 (br_f (nI_pos (by omega)) (br_f (nI_ge (b := 3) hr (by decide)) ?_))
    refine rt_Ya3 hr ?_
    exact br_f rt_10 (br_t rfl ⟨rfl, J⟩)
  · refine br_t rfl ?_
    refine rt_Yan h ?_
    exact br_t rfl ⟨rfl, J⟩
  · refine br_t rfl ?_
    refine rt_Ya3 hr ?_
    exact br_f rt_10 (br_f rt_10 ⟨rfl, J⟩)
theorem i_vc_checkpoint {k : Nat} {u : SX} {v : SY} (I : i_Rel k u v) (hk : k + 4 ≤ 2048) : wpX_checkpoint (fun r => wpY_checkpoint (fun r' => r' = r ∧ i_Rel (k + 4) u v) v) u := by
  have J := i_up I
  obtain ⟨L, up, dn, lr, va, lo, st, ie, fn, cr, iw, ui, cn, lk, le, rfl, rfl, hu, hL, C⟩ := rt_el I
  unfold wpX_checkpoint wpY_checkpoint
  rcases hu with ⟨rfl, rfl⟩ | ⟨rfl, rfl⟩
  · refine And.intro (by rfl) ?_
    exact br_t rfl ⟨rfl, J⟩
  · refine And.intro (by rfl) ?_
    exact br_f rt_10 ⟨rfl, J⟩
theorem i_vc_restart {k : Nat} {u : SX} {v : SY} (I : i_Rel k u v) (hk : k + 4 ≤ 2048) (v1 : Int32) : wpX_restart (fun r u' => wpY_restart (fun r' v' => r' = r ∧ i_Rel (k + 4) u' v') v v1) u v1 := by
  have J := i_up I
  obtain ⟨L, up, dn, lr, va, lo, st, ie, fn, cr, iw, ui, cn, lk, le, rfl, rfl, hu, hL, C⟩ := rt_el I
  unfold wpX_restart wpY_restart
  rcases hu with ⟨rfl, rfl⟩ | ⟨rfl, rfl⟩
  · refine br_f rt_10 ?_
    exact br_t rfl ⟨rfl, J⟩
  · refine br_t rfl ?_
    exact br_f rt_10 ⟨rfl, rt_mk (.inl ⟨rfl, rfl⟩) (by omega) C⟩
end
section
/-- a transaction's twelve cells, from i on, are 0; all else is as it was -/
def rt_Z (t i : Nat) (f g : Nat → Int32) : Prop := (∀ r, i ≤ r → r < 12 → g (t * 12 + r) = 0) ∧ ∀ j, (j < t * 12 + i ∨ t * 12 + 12 ≤ j) → g j = f j
theorem rt_Z0 (t : Nat) (f : Nat → Int32) {i : Nat} (h : i = 12) : rt_Z t i f f := ⟨fun r h1 h2 => absurd h1 (by omega), fun _ _ => rfl⟩
theorem rt_Zs {t i : Nat} {f g : Nat → Int32} (h : i < 12) (z : rt_Z t (i + 1) (upd f (t * 12 + i) 0) g) : rt_Z t i f g := by
  obtain ⟨z1, z2⟩ := z
  refine ⟨fun r h1 h2 => ?_, fun j hj => ?_⟩
  · by_cases e : r = i
    · subst e
      rw [z2 _ (.inl (by omega)), rt_us]
    · exact z1 r (by omega) h2
  · rw [z2 j (by omega), rt_un _ _ _ _ (by omega)]
theorem rt_Zo {t s r : Nat} {f g : Nat → Int32} (z : rt_Z t 0 f g) (h : ¬ s = t) (hr : r < 12) : g (s * 12 + r) = f (s * 12 + r) := z.2 _ (by omega)
theorem rt_g12 {i : Nat} (h : i = 12) : (12 : Int32) ≤ nI i := by subst h; exact nI_le (a := 12) (Nat.le_refl _) (by decide)
theorem rt_g4 {i : Nat} (h : i = 4) : (4 : Int32) ≤ nI i := by subst h; exact nI_le (a := 4) (Nat.le_refl _) (by decide)
theorem rt_i48 {t r : Nat} (ht : t < 4) (hr : r < 12) : vp_in (nI t * 12 + nI r) 48 := by rw [rt_s12]; exact vp_in_nI (by omega) (by decide)
theorem rt_c48 {t r : Nat} (ht : t < 4) (hr : r < 12) : (nI t * 12 + nI r).toNatClampNeg = t * 12 + r := by rw [rt_s12]; exact rt_ck (by omega)
theorem rt_i40 {t r : Nat} (ht : t < 4) (hr : r < 10) : vp_in (nI t * 10 + nI r) 40 := by rw [rt_s10]; exact vp_in_nI (by omega) (by decide)
theorem rt_c40 {t r : Nat} (ht : t < 4) (hr : r < 10) : (nI t * 10 + nI r).toNatClampNeg = t * 10 + r := by rw [rt_s10]; exact rt_ck (by omega)
section
variable {post : SX → Prop} {up ln lr : Int32} {va st ie fn cr iw ui : Nat → Int32} {t : Nat}
theorem rt_Xdl (ht : t < 4) : ∀ (m i : Nat) (lo : Nat → Int32), i + m = 12 → (∀ lo', rt_Z t i lo lo' → post (up, ln, lr, va, lo', st, ie, fn, cr, iw, ui)) → wX_dropLocks_2 post (nI t) up ln lr (m + 1) (nI i) va lo st ie fn cr iw ui := by
  intro m
  induction m with
  | zero =>
    intro i lo hi hp
    exact br_t (rt_g12 (by omega)) (hp lo (rt_Z0 t lo (by omega)))
  | succ m ih =>
    intro i lo hi hp
    refine br_f (rt_n12 (by omega)) ?_
    refine And.intro (rt_i48 ht (by omega)) (fun a ea x ex => ?_)
    rw [rt_c48 ht (by omega)] at ea
    rw [nI_1] at ex
    subst ea ex
    exact ih (i + 1) _ (by omega) (fun lo' z => hp lo' (rt_Zs (by omega) z))
theorem rt_Xdrop {lo : Nat → Int32} (ht : t < 4) (hp : ∀ lo', rt_Z t 0 lo lo' → post (up, ln, lr, va, lo', st, ie, fn, cr, iw, ui)) : wpX_dropLocks post (up, ln, lr, va, lo, st, ie, fn, cr, iw, ui) (nI t) :=
  Exists.intro 13 (rt_Xdl ht 12 0 lo rfl hp)
theorem rt_Xend {lo : Nat → Int32} (ht : t < 4) (hp : ∀ lo', rt_Z t 0 lo lo' → post (up, ln, lr, va, lo', upd st t 0, upd ie t 0, upd fn t 0, cr, iw, ui)) : wpX_end post (up, ln, lr, va, lo, st, ie, fn, cr, iw, ui) (nI t) := by
  unfold wpX_end
  refine rt_Xdrop ht (fun lo' z => ?_)
  refine And.intro (rt_i4 ht) (fun a ea => And.intro (rt_i4 ht) (fun b eb => And.intro (rt_i4 ht) (fun c ec => ?_)))
  rw [rt_ck (by omega)] at ea eb ec
  subst ea eb ec
  exact hp lo' z
end
section
variable {post : Int32 → SY → Prop} {nu : Int64} {dn se : Int32} {va st cn iw cr ui : Nat → Int32} {le : Nat → Int64} {t : Nat}
theorem rt_Ybl (ht : t < 4) : ∀ (m i : Nat) (lk : Nat → Int32), i + m = 12 → (∀ lk', rt_Z t i lk lk' → post (nI t) (nu, dn, se, va, st, cn, le, lk', iw, cr, ui)) → wY_begin_61 post (nI t) nu dn se (m + 1) (nI i) va st cn le lk iw cr ui := by
  intro m
  induction m with
  | zero =>
    intro i lk hi hp
    exact br_t (rt_g12 (by omega)) (hp lk (rt_Z0 t lk (by omega)))
  | succ m ih =>
    intro i lk hi hp
    refine br_f (rt_n12 (by omega)) ?_
    refine And.intro (rt_i48 ht (by omega)) (fun a ea x ex => ?_)
    rw [rt_c48 ht (by omega)] at ea
    rw [nI_1] at ex
    subst ea ex
    exact ih (i + 1) _ (by omega) (fun lk' z => hp lk' (rt_Zs (by omega) z))
theorem rt_Yb31 {lk : Nat → Int32} (ht : t < 4) (hp : ∀ lk', rt_Z t 0 lk lk' → post (nI t) (nu, dn, se, va, upd st t 1, upd cn t 0, vp_updL le t 0, lk', iw, cr, ui)) : wY_begin_31 post (nI t) nu dn se va st cn le lk iw cr ui := by
  have h4 : ¬ nI t = (4 : Int32) := fun z => by
    have := (nI_eq (a := t) (b := 4) (by omega) (by omega)).1 z
    omega
  unfold wY_begin_31
  refine br_f h4 ?_
  refine And.intro (rt_i4 ht) (fun a ea => And.intro (rt_i4 ht) (fun b eb => And.intro (rt_i4 ht) (fun c ec => ?_)))
  rw [rt_ck (by omega)] at ea eb ec
  subst ea eb ec
  exact Exists.intro 13 (rt_Ybl ht 12 0 lk rfl hp)
theorem rt_Ybs {lk : Nat → Int32} {q e : Nat} (he : e ≤ 4) : ∀ m i : Nat, i + m = e → (∀ j, j < e → ¬ st j = 0) → wY_begin_11 post nu dn se va st cn le lk iw cr ui q (nI e) → wY_begin_11 post nu dn se va st cn le lk iw cr ui (q + m) (nI i) := by
  intro m
  induction m with
  | zero =>
    intro i hi hs h
    have : i = e := by omega
    subst this
    exact h
  | succ m ih =>
    intro i hi hs h
    refine br_f (rt_n4 (by omega)) ⟨rt_i4 (by omega), br_f (rt_cn (by omega) (hs i (by omega))) (fun y ey => ?_)⟩
    rw [ey, nI_1]
    exact ih (i + 1) (by omega) hs h
end
section
variable {post : Int32 → SX → Prop} {up ln lr : Int32} {va lo st ie fn cr iw ui : Nat → Int32} {t : Nat}
theorem rt_Xbs {q e : Nat} (he : e ≤ 4) : ∀ m i : Nat, i + m = e → (∀ j, j < e → ¬ st j = 0) → wX_begin_11 post up ln lr va lo st ie fn cr iw ui q (nI e) → wX_begin_11 post up ln lr va lo st ie fn cr iw ui (q + m) (nI i) := by
  intro m
  induction m with
  | zero =>
    intro i hi hs h
    have : i = e := by omega
    subst this
    exact h
  | succ m ih =>
    intro i hi hs h
    refine br_f (rt_n4 (by omega)) ⟨rt_i4 (by omega), br_f (rt_cn (by omega) (hs i (by omega))) (fun y ey => ?_)⟩
    rw [ey, nI_1]
    exact ih (i + 1) (by omega) hs h
end
theorem rt_first (st : Nat → Int32) : (∀ t, t < 4 → ¬ st t = 0) ∨ ∃ t, t < 4 ∧ st t = 0 ∧ ∀ j, j < t → ¬ st j = 0 := by
  by_cases h0 : st 0 = 0
  · exact .inr ⟨0, by omega, h0, fun j hj => absurd hj (by omega)⟩
  by_cases h1 : st 1 = 0
  · refine .inr ⟨1, by omega, h1, fun j hj => ?_⟩
    have : j = 0 := by omega
    subst this; exact h0
  by_cases h2 : st 2 = 0
  · refine .inr ⟨2, by omega, h2, fun j hj => ?_⟩
    rcases (by omega : j = 0 ∨ j = 1) with rfl | rfl
    · exact h0
    · exact h1
  by_cases h3 : st 3 = 0
  · refine .inr ⟨3, by omega, h3, fun j hj => ?_⟩
    rcases (by omega : j = 0 ∨ j = 1 ∨ j = 2) with rfl | rfl | rfl
    · exact h0
    · exact h1
    · exact h2
  refine .inl fun j hj => ?_
  rcases (by omega : j = 0 ∨ j = 1 ∨ j = 2 ∨ j = 3) with rfl | rfl | rfl | rfl
  · exact h0
  · exact h1
  · exact h2
  · exact h3
section
variable {L t : Nat} {lo st ie fn cr cn lk : Nat → Int32} {le : Nat → Int64}
theorem rt_Cbegin {lk' : Nat → Int32} (C : rt_C L lo st ie fn cr cn le lk) (ht : t < 4) (h0 : st t = 0) (z : rt_Z t 0 lk lk') :
    rt_C L lo (upd st t 1) ie fn cr (upd cn t 0) (vp_updL le t 0) lk' := by
  intro s hs
  by_cases e : s = t
  · subst e
    obtain ⟨a, b, c⟩ := (C s hs).1 h0
    refine ⟨fun w => absurd (rt_us st s 1 ▸ w) rt_10, fun _ => ⟨⟨0, by omega, a, rt_us _ _ _, fun i hi => absurd hi (by omega)⟩, ⟨0, by omega, b, rt_uLs _ _ _⟩, fun r hr => ?_⟩⟩
    rw [z.1 r (by omega) hr, c r hr]
  · exact rt_Tf (C s hs) (Nat.le_refl _) (rt_un _ _ _ _ e) rfl rfl (fun _ _ => rfl) (rt_un _ _ _ _ e) (rt_uLn _ _ _ _ e) (fun _ _ => rfl) (fun r hr => rt_Zo z e hr)
theorem rt_Cend {lo' ie' cn' : Nat → Int32} (C : rt_C L lo st ie fn cr cn le lk) (z : rt_Z t 0 lo lo') (hi : ie' t = 0) (hi' : ∀ s, ¬ s = t → ie' s = ie s) (hc : ∀ s, ¬ s = t → cn' s = cn s) :
    rt_C L lo' (upd st t 0) ie' (upd fn t 0) cr cn' le lk := by
  intro s hs
  by_cases e : s = t
  · subst e
    exact ⟨fun _ => ⟨hi, rt_us _ _ _, fun r hr => z.1 r (by omega) hr⟩, fun w => absurd (rt_us st s 0) w⟩
  · exact rt_Tf (C s hs) (Nat.le_refl _) (rt_un _ _ _ _ e) (hi' s e) (rt_un _ _ _ _ e) (fun _ _ => rfl) (hc s e) rfl (fun r hr => rt_Zo z e hr) (fun _ _ => rfl)
end
theorem i_vc_begin {k : Nat} {u : SX} {v : SY} (I : i_Rel k u v) (hk : k + 4 ≤ 2048) : wpX_begin (fun r u' => wpY_begin (fun r' v' => r' = r ∧ i_Rel (k + 4) u' v') v) u := by
  have J := i_up I
  obtain ⟨L, up, dn, lr, va, lo, st, ie, fn, cr, iw, ui, cn, lk, le, rfl, rfl, hu, hL, C⟩ := rt_el I
  rcases hu with ⟨rfl, rfl⟩ | ⟨rfl, rfl⟩
  · rcases rt_first st with h | ⟨t, ht, h0, h1⟩
    · refine br_f rt_10 (Exists.intro 5 ?_)
      refine rt_Xbs (q := 1) (e := 4) (by omega) 4 0 rfl h ?_
      refine br_t (rt_g4 rfl) ?_
      refine br_t rfl (Exists.intro 5 ?_)
      refine rt_Ybs (q := 1) (e := 4) (by omega) 4 0 rfl h ?_
      refine br_t (rt_g4 rfl) ?_
      exact br_t rfl ⟨rfl, J⟩
    · refine br_f rt_10 (Exists.intro (1 + t) ?_)
      refine rt_Xbs (q := 1) (e := t) (by omega) t 0 (by omega) h1 ?_
      refine br_f (rt_n4 ht) ⟨rt_i4 ht, br_t (rt_cs (by omega) h0) ⟨rt_i4 ht, fun a ea => ?_⟩⟩
      rw [rt_ck (by omega)] at ea
      subst ea
      refine br_t rfl (Exists.intro (1 + t) ?_)
      refine rt_Ybs (q := 1) (e := t) (by omega) t 0 (by omega) h1 ?_
      refine br_f (rt_n4 ht) ⟨rt_i4 ht, br_t (rt_cs (by omega) h0) ?_⟩
      refine rt_Yb31 ht (fun lk' z => ?_)
      exact ⟨rfl, rt_mk (.inl ⟨rfl, rfl⟩) (by omega) (rt_Cbegin C ht h0 z)⟩
  · refine br_t rfl ?_
    exact br_f rt_10 ⟨rfl, J⟩
theorem i_vc_commit {k : Nat} {u : SX} {v : SY} (I : i_Rel k u v) (hk : k + 4 ≤ 2048) (v1 : Int32) : wpX_commit (fun r u' => wpY_commit (fun r' v' => r' = r ∧ i_Rel (k + 4) u' v') v v1) u v1 := by
  have J := i_up I
  obtain ⟨L, up, dn, lr, va, lo, st, ie, fn, cr, iw, ui, cn, lk, le, rfl, rfl, hu, hL, C⟩ := rt_el I
  unfold wpX_commit wpY_commit
  rcases rt_Pex st v1 hu with h | ⟨t, ht, rfl, rfl, rfl⟩ | ⟨t, ht, rfl, rfl, rfl, h0⟩ | ⟨t, ht, rfl, rfl, rfl, h0, _⟩ | ⟨t, ht, rfl, rfl, rfl, h0, _⟩
  · refine rt_Xth5 h ?_
    refine br_f rt_50 ?_
    refine rt_Yen5 h ?_
    exact br_f rt_50 ⟨rfl, J⟩
  · refine rt_Xth1 ht rfl ?_
    refine br_f rt_10 ?_
    refine rt_Yen1 ht rfl ?_
    exact br_f rt_10 ⟨rfl, J⟩
  · refine rt_Xth2 ht rfl h0 ?_
    refine br_f rt_20 ?_
    refine rt_Yen2 ht rfl h0 ?_
    exact br_f rt_20 ⟨rfl, J⟩
  all_goals
    refine rt_Xth0 ht rfl h0 ?_
    refine br_t rfl ?_
    refine rt_Xend ht (fun lo' z => ?_)
    refine rt_Yen0 ht rfl h0 ?_
    refine br_t rfl ⟨rt_i4 ht, fun a ea => ?_⟩
    rw [rt_ck (by omega)] at ea
    subst ea
    exact ⟨rfl, rt_mk (.inl ⟨rfl, rfl⟩) (by omega) (rt_Cend C z (rt_us _ _ _) (fun s hs => rt_un _ _ _ _ hs) (fun _ _ => rfl))⟩
end
section
def rt_uv (va iw ui : Nat → Int32) (j r : Nat) : Nat → Int32 := if iw j = 0 then upd va r (va r - ui j) else upd va r (ui j)
theorem rt_pl : ∀ c : Nat, c < 11 → nI c - 1 < nI c := by decide +kernel
theorem rt_m1 (c : Nat) : nI c + (-1) = nI c - 1 := (Int32.sub_eq_add_neg (a := nI c) (b := 1)).symm
theorem rt_Xcs {post : Int32 → Prop} {u : SX} {t i : Nat} (hp : post (nI (t * 10 + i))) : wpX_changeSlot post u (nI t) (nI i) := by
  obtain ⟨up, ln, lr, va, lo, st, ie, fn, cr, iw, ui⟩ := u
  rw [← rt_s10] at hp
  exact hp
theorem rt_Xls {post : Int32 → Prop} {u : SX} {t i : Nat} (hp : post (nI (t * 12 + i))) : wpX_lockSlot post u (nI t) (nI i) := by
  obtain ⟨up, ln, lr, va, lo, st, ie, fn, cr, iw, ui⟩ := u
  rw [← rt_s12] at hp
  exact hp
theorem rt_Xundo {post : SX → Prop} {up ln lr x : Int32} {va lo st ie fn cr iw ui : Nat → Int32} {j r : Nat} (hx : x = nI j) (hj : j < 40) (hr : r < 12) (er : cr j = nI r)
    (hp : post (up, ln, lr, rt_uv va iw ui j r, lo, st, ie, fn, cr, iw, ui)) : wpX_undo post (up, ln, lr, va, lo, st, ie, fn, cr, iw, ui) x := by
  subst hx
  have hi : vp_in (nI j) 40 := vp_in_nI hj (by decide)
  unfold wpX_undo
  refine And.intro hi (fun y ey => ⟨hi, ?_⟩)
  rw [rt_ck (by omega), er] at ey
  subst ey
  by_cases h : iw j = 0
  · refine br_t (rt_cs (by omega) h) ⟨rt_i12 hr, hi, rt_i12 hr, fun a ea => ?_⟩
    rw [rt_ck (by omega), rt_ck (by omega)] at ea
    subst ea
    have e : rt_uv va iw ui j r = upd va r (va r - ui j) := if_pos h
    rw [e] at hp
    exact hp
  · refine br_f (rt_cn (by omega) h) ⟨hi, rt_i12 hr, fun a ea => ?_⟩
    rw [rt_ck (by omega), rt_ck (by omega)] at ea
    subst ea
    have e : rt_uv va iw ui j r = upd va r (ui j) := if_neg h
    rw [e] at hp
    exact hp
section
variable {up ln lr dn se : Int32} {lo st ie fn cr iw ui lk : Nat → Int32} {nu : Int64} {le : Nat → Int64} {t n : Nat}
theorem rt_ul (ht : t < 4) : ∀ m c : Nat, c = n + m → c ≤ 10 → (∀ i, i < c → ∃ r, r < 12 ∧ cr (t * 10 + i) = nI r) → ∀ va cn : Nat → Int32, cn t = nI c →
    ∃ va' cn' : Nat → Int32, cn' t = nI n ∧ (∀ s, ¬ s = t → cn' s = cn s) ∧
      (∀ post : SX → Prop, post (up, ln, lr, va', lo, st, upd ie t (nI n), fn, cr, iw, ui) → wX_undoDownTo_9 post (nI t) (nI n) (m + 1) (nI c - 1) up ln lr va lo st ie fn cr iw ui) ∧
      (∀ post : SY → Prop, post (nu, dn, se, va', st, cn', le, lk, iw, cr, ui) → wY_undo_0 post (nI t) (nI n) nu dn se (m + 1) va st cn le lk iw cr ui) := by
  intro m
  induction m with
  | zero =>
    intro c hc hc10 w va cn hcn
    have e : c = n := hc
    subst e
    refine ⟨va, cn, hcn, fun _ _ => rfl, fun post hp => ?_, fun post hp => ?_⟩
    · refine br_t (rt_pl c (by omega)) ⟨rt_i4 ht, fun a ea => ?_⟩
      rw [rt_ck (by omega)] at ea
      subst ea
      exact hp
    · refine And.intro (rt_i4 ht) (br_t ?_ hp)
      rw [rt_ck (by omega), hcn]
      exact nI_le (Nat.le_refl _) (by omega)
  | succ m ih =>
    intro c hc hc10 w va cn hcn
    obtain ⟨d, rfl⟩ : ∃ d, c = d + 1 := ⟨n + m, hc⟩
    obtain ⟨r, hr, er⟩ := w d (by omega)
    have hi : vp_in (nI (t * 10 + d)) 40 := vp_in_nI (by omega) (by decide)
    obtain ⟨va', cn', h1, h2, hX, hY⟩ := ih d (by omega) (by omega) (fun i hi => w i (by omega)) (rt_uv va iw ui (t * 10 + d) r) (upd cn t (nI d)) (rt_us _ _ _)
    refine ⟨va', cn', h1, fun s hs => (h2 s hs).trans (rt_un _ _ _ _ hs), fun post hp => ?_, fun post hp => ?_⟩
    · rw [nI_pred]
      refine br_f (nI_nlt (by omega) (by omega)) ?_
      refine rt_Xcs ?_
      refine rt_Xundo rfl (by omega) hr er ?_
      intro x ex
      rw [rt_m1] at ex
      subst ex
      exact hX post hp
    · refine And.intro (rt_i4 ht) (br_f ?_ ⟨rt_i4 ht, rt_i4 ht, fun cn1 e1 => ⟨rt_i4 ht, fun x3 e3 => ?_⟩⟩)
      · rw [rt_ck (by omega), hcn]
        exact nI_ge (by omega) (by omega)
      · rw [rt_ck (by omega), hcn, nI_pred] at e1
        subst e1
        rw [rt_ck (by omega), rt_us, rt_s10] at e3
        subst e3
        refine ⟨hi, fun x4 e4 => ⟨hi, ?_⟩⟩
        rw [rt_ck (by omega), er] at e4
        subst e4
        by_cases h : iw (t * 10 + d) = 0
        · refine br_t (rt_cs (by omega) h) ⟨rt_i12 hr, hi, rt_i12 hr, fun a ea => ?_⟩
          rw [rt_ck (by omega), rt_ck (by omega)] at ea
          have e : rt_uv va iw ui (t * 10 + d) r = upd va r (va r - ui (t * 10 + d)) := if_pos h
          rw [← e] at ea
          subst ea
          exact hY post hp
        · refine br_f (rt_cn (by omega) h) ⟨hi, rt_i12 hr, fun a ea => ?_⟩
          rw [rt_ck (by omega), rt_ck (by omega)] at ea
          have e : rt_uv va iw ui (t * 10 + d) r = upd va r (ui (t * 10 + d)) := if_neg h
          rw [← e] at ea
          subst ea
          exact hY post hp
theorem rt_UN {va cn : Nat → Int32} {c : Nat} (ht : t < 4) (hn : n ≤ c) (hc : c ≤ 10) (e1 : ie t = nI c) (e2 : cn t = nI c) (w : ∀ i, i < c → ∃ r, r < 12 ∧ cr (t * 10 + i) = nI r) :
    ∃ va' cn' : Nat → Int32, cn' t = nI n ∧ (∀ s, ¬ s = t → cn' s = cn s) ∧
      (∀ post : SX → Prop, post (up, ln, lr, va', lo, st, upd ie t (nI n), fn, cr, iw, ui) → wpX_undoDownTo post (up, ln, lr, va, lo, st, ie, fn, cr, iw, ui) (nI t) (nI n)) ∧
      (∀ post : SY → Prop, post (nu, dn, se, va', st, cn', le, lk, iw, cr, ui) → wpY_undo post (nu, dn, se, va, st, cn, le, lk, iw, cr, ui) (nI t) (nI n)) := by
  obtain ⟨va', cn', h1, h2, hX, hY⟩ := rt_ul (up := up) (ln := ln) (lr := lr) (lo := lo) (st := st) (ie := ie) (fn := fn) (iw := iw) (ui := ui) (nu := nu) (dn := dn) (se := se) (le := le) (lk := lk) (n := n) ht (c - n) c (by omega) hc w va cn e2
  refine ⟨va', cn', h1, h2, fun post hp => ?_, fun post hp => ?_⟩
  · refine And.intro (rt_i4 ht) (fun x ex => Exists.intro (c - n + 1) ?_)
    rw [rt_ck (by omega), e1] at ex
    subst ex
    exact hX post hp
  · exact Exists.intro (c - n + 1) (hY post hp)
end
theorem rt_Cback {L t n c : Nat} {lo st ie fn cr cn lk cn' : Nat → Int32} {le : Nat → Int64} (C : rt_C L lo st ie fn cr cn le lk) (hn : n ≤ c) (hc : c ≤ 10) (w : ∀ i, i < c → ∃ r, r < 12 ∧ cr (t * 10 + i) = nI r)
    (h0 : ¬ st t = 0) (h1 : cn' t = nI n) (h2 : ∀ s, ¬ s = t → cn' s = cn s) : rt_C L lo st (upd ie t (nI n)) fn cr cn' le lk := by
  intro s hs
  by_cases e : s = t
  · subst e
    obtain ⟨_, F, l⟩ := (C s hs).2 h0
    exact ⟨fun z => absurd z h0, fun _ => ⟨⟨n, by omega, rt_us _ _ _, h1, fun i hi => w i (by omega)⟩, F, l⟩⟩
  · exact rt_Tf (C s hs) (Nat.le_refl _) rfl (rt_un _ _ _ _ e) rfl (fun _ _ => rfl) (h2 s e) rfl (fun _ _ => rfl) (fun _ _ => rfl)
theorem i_vc_back {k : Nat} {u : SX} {v : SY} (I : i_Rel k u v) (hk : k + 4 ≤ 2048) (v1 : Int32) (v2 : Int32) : wpX_back (fun r u' => wpY_back (fun r' v' => r' = r ∧ i_Rel (k + 4) u' v') v v1 v2) u v1 v2 := by
  have J := i_up I
  obtain ⟨L, up, dn, lr, va, lo, st, ie, fn, cr, iw, ui, cn, lk, le, rfl, rfl, hu, hL, C⟩ := rt_el I
  unfold wpX_back wpY_back
  rcases rt_Pex st v1 hu with h | ⟨t, ht, rfl, rfl, rfl⟩ | ⟨t, ht, rfl, rfl, rfl, h0⟩ | ⟨t, ht, rfl, rfl, rfl, h0, h1⟩ | ⟨t, ht, rfl, rfl, rfl, h0, h1⟩
  · refine rt_Xop5 h ?_
    refine br_f rt_50 ?_
    refine rt_Yan h ?_
    exact br_t rfl ⟨rfl, J⟩
  · refine rt_Xop1 ht rfl ?_
    refine br_f rt_10 ?_
    refine rt_Ya4 ht ?_
    exact br_f rt_10 (br_f rt_10 ⟨rfl, J⟩)
  · have h1 : ¬ st t = 1 := fun z => rt_10 (z.symm.trans h0)
    refine rt_Xop2 ht rfl h1 ?_
    refine br_f rt_20 ?_
    refine rt_Ya4 ht ?_
    exact br_f rt_10 (br_t rfl ⟨rt_i4 ht, br_f (rt_cn (by omega) h1) ⟨rfl, J⟩⟩)
  · refine rt_Xop2 ht rfl h1 ?_
    refine br_f rt_20 ?_
    refine rt_Ya4 ht ?_
    exact br_f rt_10 (br_t rfl ⟨rt_i4 ht, br_f (rt_cn (by omega) h1) ⟨rfl, J⟩⟩)
  · obtain ⟨⟨c, hc, e1, e2, w⟩, _, _⟩ := (C t ht).2 h0
    refine rt_Xop0 ht rfl h1 ?_
    refine br_t rfl ?_
    by_cases hn : v2 < 0
    · refine br_t hn ?_
      refine rt_Ya4 ht ?_
      exact br_f rt_10 (br_t rfl ⟨rt_i4 ht, br_t (rt_cs (by omega) h1) (br_t hn ⟨rfl, J⟩)⟩)
    · obtain ⟨n, hn31, rfl⟩ := nI_of hn
      refine br_f hn ⟨rt_i4 ht, ?_⟩
      by_cases hnc : n ≤ c
      · have q1 : nI n ≤ ie (nI t).toNatClampNeg := by rw [rt_ck (by omega), e1]; exact nI_le hnc (by omega)
        have q2 : nI n ≤ cn (nI t).toNatClampNeg := by rw [rt_ck (by omega), e2]; exact nI_le hnc (by omega)
        obtain ⟨va', cn', g1, g2, hX, hY⟩ := rt_UN (up := 1) (ln := nI L) (lr := lr) (lo := lo) (st := st) (fn := fn) (iw := iw) (ui := ui) (nu := lN L) (dn := 0) (se := lr) (le := le) (lk := lk) (va := va) ht hnc hc e1 e2 w
        refine br_t q1 ?_
        refine hX _ ?_
        refine rt_Ya4 ht ?_
        refine br_f rt_10 (br_t rfl ⟨rt_i4 ht, br_t (rt_cs (by omega) h1) (br_f hn ⟨rt_i4 ht, br_t q2 ?_⟩)⟩)
        refine hY _ ?_
        exact ⟨rfl, rt_mk (.inl ⟨rfl, rfl⟩) (by omega) (rt_Cback C hnc hc w h0 g1 g2)⟩
      · have q1 : ¬ nI n ≤ ie (nI t).toNatClampNeg := by rw [rt_ck (by omega), e1]; exact nI_ge (by omega) hn31
        have q2 : ¬ nI n ≤ cn (nI t).toNatClampNeg := by rw [rt_ck (by omega), e2]; exact nI_ge (by omega) hn31
        refine br_f q1 ?_
        refine rt_Ya4 ht ?_
        exact br_f rt_10 (br_t rfl ⟨rt_i4 ht, br_t (rt_cs (by omega) h1) (br_f hn ⟨rt_i4 ht, br_f q2 ⟨rfl, J⟩⟩)⟩)
theorem i_vc_abort {k : Nat} {u : SX} {v : SY} (I : i_Rel k u v) (hk : k + 4 ≤ 2048) (v1 : Int32) : wpX_abort (fun r u' => wpY_abort (fun r' v' => r' = r ∧ i_Rel (k + 4) u' v') v v1) u v1 := by
  have J := i_up I
  obtain ⟨L, up, dn, lr, va, lo, st, ie, fn, cr, iw, ui, cn, lk, le, rfl, rfl, hu, hL, C⟩ := rt_el I
  unfold wpX_abort wpY_abort
  rcases rt_Pex st v1 hu with h | ⟨t, ht, rfl, rfl, rfl⟩ | ⟨t, ht, rfl, rfl, rfl, h0⟩ | ⟨t, ht, rfl, rfl, rfl, h0, _⟩ | ⟨t, ht, rfl, rfl, rfl, h0, _⟩
  · refine rt_Xth5 h ?_
    refine br_f rt_50 ?_
    refine rt_Yen5 h ?_
    exact br_f rt_50 ⟨rfl, J⟩
  · refine rt_Xth1 ht rfl ?_
    refine br_f rt_10 ?_
    refine rt_Yen1 ht rfl ?_
    exact br_f rt_10 ⟨rfl, J⟩
  · refine rt_Xth2 ht rfl h0 ?_
    refine br_f rt_20 ?_
    refine rt_Yen2 ht rfl h0 ?_
    exact br_f rt_20 ⟨rfl, J⟩
  all_goals
    obtain ⟨⟨c, hc, e1, e2, w⟩, _, _⟩ := (C t ht).2 h0
    obtain ⟨va', cn', g1, g2, hX, hY⟩ := rt_UN (n := 0) (up := 1) (ln := nI L) (lr := lr) (lo := lo) (st := st) (fn := fn) (iw := iw) (ui := ui) (nu := lN L) (dn := 0) (se := lr) (le := le) (lk := lk) (va := va) ht (Nat.zero_le _) hc e1 e2 w
    refine rt_Xth0 ht rfl h0 ?_
    refine br_t rfl ?_
    refine hX _ ?_
    refine rt_Xend ht (fun lo' z => ?_)
    refine rt_Yen0 ht rfl h0 ?_
    refine br_t rfl ?_
    refine hY _ ?_
    refine And.intro (rt_i4 ht) (fun a ea => ?_)
    rw [rt_ck (by omega)] at ea
    subst ea
    refine ⟨rfl, rt_mk (.inl ⟨rfl, rfl⟩) (by omega) (rt_Cend C z (rt_us _ _ _) (fun s hs => ?_) g2)⟩
    rw [rt_un _ _ _ _ hs, rt_un _ _ _ _ hs]
def rt_Zf (t : Nat) (f : Nat → Int32) : Nat → Int32 := fun j => if t * 12 ≤ j ∧ j < t * 12 + 12 then 0 else f j
theorem rt_ZF (t : Nat) (f : Nat → Int32) : rt_Z t 0 f (rt_Zf t f) := ⟨fun r _ h2 => if_pos ⟨by omega, by omega⟩, fun j hj => if_neg (by omega)⟩
theorem rt_Ze {t : Nat} {f g : Nat → Int32} (z : rt_Z t 0 f g) : g = rt_Zf t f := by
  funext j
  by_cases h : t * 12 ≤ j ∧ j < t * 12 + 12
  · have e := z.1 (j - t * 12) (Nat.zero_le _) (by omega)
    have e2 : t * 12 + (j - t * 12) = j := by omega
    rw [e2] at e
    exact e.trans (if_pos h).symm
  · exact (z.2 j (by omega)).trans (if_neg h).symm
section
variable {L : Nat} {ln lr se : Int32} {cr iw ui lk : Nat → Int32} {nu : Int64} {le : Nat → Int64}
theorem rt_CR : ∀ m i : Nat, i + m = 4 → ∀ va lo st ie fn cn : Nat → Int32, rt_C L lo st ie fn cr cn le lk →
    ∃ va' lo' st' ie' fn' cn' : Nat → Int32, rt_C L lo' st' ie' fn' cr cn' le lk ∧
      (∀ post : Int32 → SX → Prop, post 1 (0, ln, lr, va', lo', st', ie', fn', cr, iw, ui) → wX_crash_11 post (m + 1) (nI i) 1 ln lr va lo st ie fn cr iw ui) ∧
      (∀ post : Int32 → SY → Prop, post 1 (nu, 1, se, va', st', cn', le, lk, iw, cr, ui) → wY_crash_11 post (m + 1) (nI i) nu 0 se va st cn le lk iw cr ui) := by
  intro m
  induction m with
  | zero =>
    intro i hi va lo st ie fn cn C
    exact ⟨va, lo, st, ie, fn, cn, C, fun post hp => br_t (rt_g4 (by omega)) hp, fun post hp => br_t (rt_g4 (by omega)) hp⟩
  | succ m ih =>
    intro i hi va lo st ie fn cn C
    have ht : i < 4 := by omega
    by_cases h1 : st i = 1
    · have h0 : ¬ st i = 0 := by rw [h1]; exact rt_10
      obtain ⟨⟨c, hc, e1, e2, w⟩, _, _⟩ := (C i ht).2 h0
      obtain ⟨va1, cn1, g1, g2, hX1, hY1⟩ := rt_UN (n := 0) (up := 1) (ln := ln) (lr := lr) (lo := lo) (st := st) (fn := fn) (iw := iw) (ui := ui) (nu := nu) (dn := 0) (se := se) (le := le) (lk := lk) (va := va) ht (Nat.zero_le _) hc e1 e2 w
      have C1 : rt_C L (rt_Zf i lo) (upd st i 0) (upd (upd ie i (nI 0)) i 0) (upd fn i 0) cr cn1 le lk :=
        rt_Cend C (rt_ZF i lo) (rt_us _ _ _) (fun s hs => by rw [rt_un _ _ _ _ hs, rt_un _ _ _ _ hs]) g2
      obtain ⟨va', lo', st', ie', fn', cn', C', hX, hY⟩ := ih (i + 1) (by omega) va1 _ _ _ _ _ C1
      refine ⟨va', lo', st', ie', fn', cn', C', fun post hp => ?_, fun post hp => ?_⟩
      · refine br_f (rt_n4 ht) ⟨rt_i4 ht, br_t (rt_cs (by omega) h1) ?_⟩
        refine hX1 _ ?_
        refine rt_Xend ht (fun lo2 z => ?_)
        have := rt_Ze z
        subst this
        intro x ex
        rw [nI_1] at ex
        subst ex
        exact hX post hp
      · refine br_f (rt_n4 ht) ⟨rt_i4 ht, br_t (rt_cs (by omega) h1) ?_⟩
        refine hY1 _ ?_
        refine And.intro (rt_i4 ht) (fun a ea x ex => ?_)
        rw [rt_ck (by omega)] at ea
        rw [nI_1] at ex
        subst ea ex
        exact hY post hp
    · obtain ⟨va', lo', st', ie', fn', cn', C', hX, hY⟩ := ih (i + 1) (by omega) va lo st ie fn cn C
      refine ⟨va', lo', st', ie', fn', cn', C', fun post hp => ?_, fun post hp => ?_⟩
      · refine br_f (rt_n4 ht) ⟨rt_i4 ht, br_f (rt_cn (by omega) h1) (fun x ex => ?_)⟩
        rw [nI_1] at ex
        subst ex
        exact hX post hp
      · refine br_f (rt_n4 ht) ⟨rt_i4 ht, br_f (rt_cn (by omega) h1) (fun x ex => ?_)⟩
        rw [nI_1] at ex
        subst ex
        exact hY post hp
end
theorem i_vc_crash {k : Nat} {u : SX} {v : SY} (I : i_Rel k u v) (hk : k + 4 ≤ 2048) : wpX_crash (fun r u' => wpY_crash (fun r' v' => r' = r ∧ i_Rel (k + 4) u' v') v) u := by
  have J := i_up I
  obtain ⟨L, up, dn, lr, va, lo, st, ie, fn, cr, iw, ui, cn, lk, le, rfl, rfl, hu, hL, C⟩ := rt_el I
  unfold wpX_crash wpY_crash
  rcases hu with ⟨rfl, rfl⟩ | ⟨rfl, rfl⟩
  · obtain ⟨va', lo', st', ie', fn', cn', C', hX, hY⟩ := rt_CR (ln := nI L) (lr := lr) (se := lr) (iw := iw) (ui := ui) (nu := lN L) 4 0 rfl va lo st ie fn cn C
    refine br_f rt_10 (Exists.intro 5 ?_)
    refine hX _ ?_
    refine br_t rfl (Exists.intro 5 ?_)
    refine hY _ ?_
    exact ⟨rfl, rt_mk (.inr ⟨rfl, rfl⟩) (by omega) C'⟩
  · refine br_t rfl ?_
    exact br_f rt_10 ⟨rfl, J⟩
end
section
def rt_nd (h w : Int32) : Int32 := if h = 0 then w else if h = w then w else 3
section
variable {post : Int32 → Prop} {up ln lr w : Int32} {va lo st ie fn cr iw ui : Nat → Int32} {t r : Nat}
theorem rt_Xnd (ht : t < 4) (hr : r < 12) (hp : post (rt_nd (lo (t * 12 + r)) w)) : wpX_neededLock post (up, ln, lr, va, lo, st, ie, fn, cr, iw, ui) (nI t) (nI r) w := by
  unfold wpX_neededLock
  refine rt_Xls ?_
  refine And.intro (vp_in_nI (by omega) (by decide)) (fun x ex => ?_)
  rw [rt_ck (by omega)] at ex
  subst ex
  by_cases h0 : lo (t * 12 + r) = 0
  · rw [show rt_nd (lo (t * 12 + r)) w = w from if_pos h0] at hp
    exact br_t h0 hp
  · by_cases h1 : lo (t * 12 + r) = w
    · rw [show rt_nd (lo (t * 12 + r)) w = w from (if_neg h0).trans (if_pos h1)] at hp
      exact br_f h0 (br_t h1 hp)
    · rw [show rt_nd (lo (t * 12 + r)) w = 3 from (if_neg h0).trans (if_neg h1)] at hp
      exact br_f h0 (br_f h1 hp)
end
theorem rt_Xtk {post : SX → Prop} {up ln lr w : Int32} {va lo st ie fn cr iw ui : Nat → Int32} {t r : Nat} (ht : t < 4) (hr : r < 12)
    (hp : post (up, ln, lr, va, upd lo (t * 12 + r) (rt_nd (lo (t * 12 + r)) w), st, ie, fn, cr, iw, ui)) : wpX_takeLock post (up, ln, lr, va, lo, st, ie, fn, cr, iw, ui) (nI t) (nI r) w := by
  unfold wpX_takeLock
  refine rt_Xls ?_
  refine rt_Xnd ht hr ?_
  refine And.intro (vp_in_nI (by omega) (by decide)) (fun a ea => ?_)
  rw [rt_ck (by omega)] at ea
  subst ea
  exact hp
theorem rt_Ynd {post : Int32 → Prop} {nu : Int64} {dn se w : Int32} {va st cn lk iw cr ui : Nat → Int32} {le : Nat → Int64} {t r : Nat} (ht : t < 4) (hr : r < 12)
    (hp : post (rt_nd (lk (t * 12 + r)) w)) : wpY_wanted post (nu, dn, se, va, st, cn, le, lk, iw, cr, ui) (nI t) (nI r) w := by
  unfold wpY_wanted
  refine And.intro (rt_i48 ht hr) (fun x ex => ?_)
  rw [rt_c48 ht hr] at ex
  subst ex
  by_cases h0 : lk (t * 12 + r) = 0
  · rw [show rt_nd (lk (t * 12 + r)) w = w from if_pos h0] at hp
    exact br_t h0 hp
  · by_cases h1 : lk (t * 12 + r) = w
    · rw [show rt_nd (lk (t * 12 + r)) w = w from (if_neg h0).trans (if_pos h1)] at hp
      exact br_f h0 (br_t h1 hp)
    · rw [show rt_nd (lk (t * 12 + r)) w = 3 from (if_neg h0).trans (if_neg h1)] at hp
      exact br_f h0 (br_f h1 hp)
section
variable {L t r : Nat} {up ln lr dn se w : Int32} {va lo st ie fn cr iw ui cn lk : Nat → Int32} {nu : Int64} {le : Nat → Int64}
theorem rt_Y25 {post J : Int32 → Prop} {x1 x2 x3 : Int32} {i : Nat} (h : J (nI (i + 1))) : wY_granted_25 post J x1 x2 x3 (nI i) nu dn se va st cn le lk iw cr ui := by
  unfold wY_granted_25 wY_granted_41
  refine br_t rfl (fun y ey => ?_)
  rw [ey, nI_1]
  exact h
theorem rt_GR (C : rt_C L lo st ie fn cr cn le lk) (ht : t < 4) (hr : r < 12) : ∀ m i : Nat, i + m = 4 →
    ∃ a : Int32, (∀ post : Int32 → Prop, post a → wX_isLockGranted_12 post (nI t) (nI r) w up ln lr va lo st ie fn cr iw ui (m + 1) (nI i)) ∧
      (∀ post : Int32 → Prop, post a → wY_granted_3 post (nI t) (nI r) w nu dn se va st cn le lk iw cr ui (m + 1) (nI i)) := by
  intro m
  induction m with
  | zero =>
    intro i hi
    exact ⟨1, fun post hp => br_t (rt_g4 (by omega)) hp, fun post hp => br_t (rt_g4 (by omega)) hp⟩
  | succ m ih =>
    intro i hi
    have hi4 : i < 4 := by omega
    have hin : vp_in (nI (i * 12 + r)) 48 := vp_in_nI (by omega) (by decide)
    have hc : (nI (i * 12 + r)).toNatClampNeg = i * 12 + r := rt_ck (by omega)
    obtain ⟨a, hX, hY⟩ := ih (i + 1) (by omega)
    by_cases hit : i = t
    · subst hit
      refine ⟨a, fun post hp => ?_, fun post hp => ?_⟩
      · refine br_f (rt_n4 hi4) ?_
        refine rt_Xls ?_
        refine And.intro hin (fun x ex => br_t rfl (fun y ey => ?_))
        rw [ey, nI_1]
        exact hX post hp
      · refine br_f (rt_n4 hi4) (br_t rfl ?_)
        exact rt_Y25 (hY post hp)
    · have hne : ¬ nI i = nI t := fun z => hit ((nI_eq (by omega) (by omega)).1 z)
      by_cases hs : st i = 0
      · have hlo := ((C i hi4).1 hs).2.2 r hr
        refine ⟨a, fun post hp => ?_, fun post hp => ?_⟩
        · refine br_f (rt_n4 hi4) ?_
          refine rt_Xls ?_
          refine And.intro hin (fun x ex => ?_)
          rw [hc, hlo] at ex
          refine br_f hne (br_t ex (fun y ey => ?_))
          rw [ey, nI_1]
          exact hX post hp
        · refine br_f (rt_n4 hi4) (br_f hne ⟨rt_i4 hi4, br_t (rt_cs (by omega) hs) ?_⟩)
          exact rt_Y25 (hY post hp)
      · have hlk := ((C i hi4).2 hs).2.2 r hr
        have hcl : lk (nI i * 12 + nI r).toNatClampNeg = lo (i * 12 + r) := by rw [rt_c48 hi4 hr]; exact hlk
        by_cases z0 : lo (i * 12 + r) = 0
        · refine ⟨a, fun post hp => ?_, fun post hp => ?_⟩
          · refine br_f (rt_n4 hi4) ?_
            refine rt_Xls ?_
            refine And.intro hin (fun x ex => ?_)
            rw [hc, z0] at ex
            refine br_f hne (br_t ex (fun y ey => ?_))
            rw [ey, nI_1]
            exact hX post hp
          · refine br_f (rt_n4 hi4) (br_f hne ⟨rt_i4 hi4, br_f (rt_cn (by omega) hs) ⟨rt_i48 hi4 hr, ?_⟩⟩)
            unfold wY_granted_41
            refine br_t (hcl.trans z0) (fun y ey => ?_)
            rw [ey, nI_1]
            exact hY post hp
        · by_cases zw : lo (i * 12 + r) = w
          · by_cases z3 : w = 3
            · refine ⟨0, fun post hp => ?_, fun post hp => ?_⟩
              · refine br_f (rt_n4 hi4) ?_
                refine rt_Xls ?_
                refine And.intro hin (fun x ex => ?_)
                rw [hc] at ex
                subst ex
                exact br_f hne (br_f z0 (br_t zw (br_t (zw.trans z3) hp)))
              · refine br_f (rt_n4 hi4) (br_f hne ⟨rt_i4 hi4, br_f (rt_cn (by omega) hs) ⟨rt_i48 hi4 hr, ?_⟩⟩)
                unfold wY_granted_41
                rw [hcl]
                exact br_f z0 (br_t zw (br_t z3 hp))
            · refine ⟨a, fun post hp => ?_, fun post hp => ?_⟩
              · refine br_f (rt_n4 hi4) ?_
                refine rt_Xls ?_
                refine And.intro hin (fun x ex => ?_)
                rw [hc] at ex
                subst ex
                refine br_f hne (br_f z0 (br_t zw (br_f (fun z => z3 (zw.symm.trans z)) (fun y ey => ?_))))
                rw [ey, nI_1]
                exact hX post hp
              · refine br_f (rt_n4 hi4) (br_f hne ⟨rt_i4 hi4, br_f (rt_cn (by omega) hs) ⟨rt_i48 hi4 hr, ?_⟩⟩)
                unfold wY_granted_41
                rw [hcl]
                refine br_f z0 (br_t zw (br_f z3 (fun y ey => ?_)))
                rw [ey, nI_1]
                exact hY post hp
          · refine ⟨0, fun post hp => ?_, fun post hp => ?_⟩
            · refine br_f (rt_n4 hi4) ?_
              refine rt_Xls ?_
              refine And.intro hin (fun x ex => ?_)
              rw [hc] at ex
              subst ex
              exact br_f hne (br_f z0 (br_f zw hp))
            · refine br_f (rt_n4 hi4) (br_f hne ⟨rt_i4 hi4, br_f (rt_cn (by omega) hs) ⟨rt_i48 hi4 hr, ?_⟩⟩)
              unfold wY_granted_41
              rw [hcl]
              exact br_f z0 (br_f zw hp)
theorem rt_RF (hu : rt_U up dn) (C : rt_C L lo st ie fn cr cn le lk) (p q : Int32) :
    ∃ a : Int32, (∀ post : Int32 → Prop, post a → wpX_refusalOfAccess post (up, ln, lr, va, lo, st, ie, fn, cr, iw, ui) p q w) ∧ (∀ post : Int32 → Prop, post a → wpY_refusal post (nu, dn, se, va, st, cn, le, lk, iw, cr, ui) p q w) ∧
      (a = 0 → ∃ t r, t < 4 ∧ r < 12 ∧ p = nI t ∧ q = nI r ∧ up = 1 ∧ dn = 0 ∧ st t = 1) := by
  rcases rt_rng q 12 (by decide) with hq | ⟨r, hr, rfl⟩
  · refine ⟨5, fun post hp => ?_, fun post hp => ?_, fun z => absurd z rt_50⟩
    · unfold wpX_refusalOfAccess
      refine rt_Xrn hq ?_
      exact br_t rfl hp
    · unfold wpY_refusal
      rcases rt_rng p 4 (by decide) with h | ⟨t, ht, rfl⟩
      · refine rt_Yan h ?_
        exact br_t rfl hp
      · refine rt_Ya4 ht ?_
        refine br_f rt_10 ?_
        refine rt_Yan hq ?_
        exact br_t rfl hp
  · rcases rt_Pex st p hu with h | ⟨t, ht, rfl, rfl, rfl⟩ | ⟨t, ht, rfl, rfl, rfl, h0⟩ | ⟨t, ht, rfl, rfl, rfl, h0, h1⟩ | ⟨t, ht, rfl, rfl, rfl, h0, h1⟩
    · refine ⟨5, fun post hp => ?_, fun post hp => ?_, fun z => absurd z rt_50⟩
      · unfold wpX_refusalOfAccess
        refine rt_Xry hr ?_
        refine br_f rt_10 ?_
        refine rt_Xop5 h ?_
        exact br_f rt_50 hp
      · unfold wpY_refusal
        refine rt_Yan h ?_
        exact br_t rfl hp
    · refine ⟨1, fun post hp => ?_, fun post hp => ?_, fun z => absurd z rt_10⟩
      · unfold wpX_refusalOfAccess
        refine rt_Xry hr ?_
        refine br_f rt_10 ?_
        refine rt_Xop1 ht rfl ?_
        exact br_f rt_10 hp
      · unfold wpY_refusal
        refine rt_Ya4 ht ?_
        refine br_f rt_10 ?_
        refine rt_Ya12 hr ?_
        exact br_f rt_10 (br_f rt_10 hp)
    · have h1 : ¬ st t = 1 := fun z => rt_10 (z.symm.trans h0)
      refine ⟨2, fun post hp => ?_, fun post hp => ?_, fun z => absurd z rt_20⟩
      · unfold wpX_refusalOfAccess
        refine rt_Xry hr ?_
        refine br_f rt_10 ?_
        refine rt_Xop2 ht rfl h1 ?_
        exact br_f rt_20 hp
      · unfold wpY_refusal
        refine rt_Ya4 ht ?_
        refine br_f rt_10 ?_
        refine rt_Ya12 hr ?_
        exact br_f rt_10 (br_t rfl ⟨rt_i4 ht, br_f (rt_cn (by omega) h1) hp⟩)
    · refine ⟨2, fun post hp => ?_, fun post hp => ?_, fun z => absurd z rt_20⟩
      · unfold wpX_refusalOfAccess
        refine rt_Xry hr ?_
        refine br_f rt_10 ?_
        refine rt_Xop2 ht rfl h1 ?_
        exact br_f rt_20 hp
      · unfold wpY_refusal
        refine rt_Ya4 ht ?_
        refine br_f rt_10 ?_
        refine rt_Ya12 hr ?_
        exact br_f rt_10 (br_t rfl ⟨rt_i4 ht, br_f (rt_cn (by omega) h1) hp⟩)
    · have hlk := ((C t ht).2 h0).2.2 r hr
      obtain ⟨a, hX, hY⟩ := rt_GR (up := 1) (ln := ln) (lr := lr) (va := va) (iw := iw) (ui := ui) (nu := nu) (dn := 0) (se := se) (w := rt_nd (lo (t * 12 + r)) w) C ht hr 4 0 rfl
      have kX : ∀ post : Int32 → Prop, ((a = 0 → post 3) ∧ (¬ a = 0 → post 0)) → wpX_refusalOfAccess post (1, ln, lr, va, lo, st, ie, fn, cr, iw, ui) (nI t) (nI r) w := by
        intro post hp
        unfold wpX_refusalOfAccess
        refine rt_Xry hr ?_
        refine br_f rt_10 ?_
        refine rt_Xop0 ht rfl h1 ?_
        refine br_t rfl ?_
        unfold wpX_isLockGranted
        refine rt_Xnd ht hr ?_
        exact Exists.intro 5 (hX _ hp)
      have kY : ∀ post : Int32 → Prop, ((a = 0 → post 3) ∧ (¬ a = 0 → post 0)) → wpY_refusal post (nu, 0, se, va, st, cn, le, lk, iw, cr, ui) (nI t) (nI r) w := by
        intro post hp
        unfold wpY_refusal
        refine rt_Ya4 ht ?_
        refine br_f rt_10 ?_
        refine rt_Ya12 hr ?_
        refine br_f rt_10 (br_t rfl ⟨rt_i4 ht, br_t (rt_cs (by omega) h1) ?_⟩)
        refine rt_Ynd ht hr ?_
        rw [hlk]
        exact Exists.intro 5 (hY _ hp)
      by_cases ha : a = 0
      · exact ⟨3, fun post hp => kX post (br_t ha hp), fun post hp => kY post (br_t ha hp), fun z => absurd z rt_30⟩
      · exact ⟨0, fun post hp => kX post (br_f ha hp), fun post hp => kY post (br_f ha hp), fun _ => ⟨t, r, ht, hr, rfl, rfl, rfl, rfl, h1⟩⟩
theorem rt_Clock (x : Int32) (C : rt_C L lo st ie fn cr cn le lk) (ht : t < 4) (hr : r < 12) (h0 : ¬ st t = 0) :
    rt_C L (upd lo (t * 12 + r) x) st ie fn cr cn le (upd lk (t * 12 + r) x) := by
  intro s hs
  by_cases e : s = t
  · subst e
    obtain ⟨c, F, l⟩ := (C s hs).2 h0
    refine ⟨fun z => absurd z h0, fun _ => ⟨c, F, fun q hq => ?_⟩⟩
    by_cases e : q = r
    · subst e
      rw [rt_us, rt_us]
    · rw [rt_un _ _ _ _ (by omega), rt_un _ _ _ _ (by omega)]
      exact l q hq
  · exact rt_Tf (C s hs) (Nat.le_refl _) rfl rfl rfl (fun _ _ => rfl) rfl rfl (fun q hq => rt_un _ _ _ _ (by omega)) (fun q hq => rt_un _ _ _ _ (by omega))
end
theorem i_vc_read {k : Nat} {u : SX} {v : SY} (I : i_Rel k u v) (hk : k + 4 ≤ 2048) (v1 : Int32) (v2 : Int32) : wpX_read (fun r u' => wpY_read (fun r' v' => r' = r ∧ i_Rel (k + 4) u' v') v v1 v2) u v1 v2 := by
  have J := i_up I
  obtain ⟨L, up, dn, lr, va, lo, st, ie, fn, cr, iw, ui, cn, lk, le, rfl, rfl, hu, hL, C⟩ := rt_el I
  unfold wpX_read wpY_read
  obtain ⟨a, hX, hY, h⟩ := rt_RF (ln := nI L) (lr := lr) (va := va) (iw := iw) (ui := ui) (nu := lN L) (se := lr) (w := 1) hu C v1 v2
  refine hX _ ?_
  by_cases ha : a = 0
  · obtain ⟨t, r, ht, hr, rfl, rfl, rfl, rfl, h1⟩ := h ha
    have h0 : ¬ st t = 0 := by rw [h1]; exact rt_10
    have hlk := ((C t ht).2 h0).2.2 r hr
    refine br_t ha ?_
    refine rt_Xtk ht hr ?_
    refine And.intro (rt_i12 hr) (fun x ex => ?_)
    subst ex
    refine hY _ ?_
    refine br_t ha ?_
    refine rt_Ynd ht hr ?_
    refine And.intro (rt_i48 ht hr) (fun b eb => ⟨rt_i12 hr, fun y ey => ?_⟩)
    rw [rt_c48 ht hr, hlk] at eb
    subst eb ey
    exact ⟨rfl, rt_mk (.inl ⟨rfl, rfl⟩) (by omega) (rt_Clock _ C ht hr h0)⟩
  · refine br_f ha ?_
    refine hY _ ?_
    exact br_f ha ⟨rfl, J⟩
end
section
theorem rt_sub {a b : Nat} (h : b ≤ a) : nI a - nI b = nI (a - b) := by
  obtain ⟨d, rfl⟩ : ∃ d, a = d + b := ⟨a - b, by omega⟩
  rw [← nI_add, Int32.add_sub_cancel, Nat.add_sub_cancel]
theorem rt_le30 {a : Nat} (h : a < 2 ^ 31) : nI a ≤ 30 ↔ a ≤ 30 := nI_leI (b := 30) h (by decide)
theorem rt_lle30 {a : Nat} (h : a < 2 ^ 31) : lN a ≤ 30 ↔ a ≤ 30 := lN_le (b := 30) h (by decide)
section
variable {L t r : Nat} {up lr dn se w : Int32} {va lo st ie fn cr iw ui cn lk : Nat → Int32} {le : Nat → Int64}
theorem rt_NX (C : rt_C L lo st ie fn cr cn le lk) (hL : L ≤ 2048) : ∀ m i : Nat, i + m = 4 →
    ∃ a : Int32, (∀ post : Int32 → Prop, post a → wX_isNextNumberTooHigh_9 post (nI (L + 1)) up (nI L) lr va lo st ie fn cr iw ui (m + 1) (nI i)) ∧
      (∀ post : Int32 → Prop, post a → wY_full_15 post (lN L) dn se va st cn le lk iw cr ui (m + 1) (nI i)) := by
  intro m
  induction m with
  | zero =>
    intro i hi
    exact ⟨0, fun post hp => br_t (rt_g4 (by omega)) hp, fun post hp => br_t (rt_g4 (by omega)) hp⟩
  | succ m ih =>
    intro i hi
    have hi4 : i < 4 := by omega
    have hin : vp_in (nI i) 4 := rt_i4 hi4
    have hc : (nI i).toNatClampNeg = i := rt_ck (by omega)
    obtain ⟨a, hX, hY⟩ := ih (i + 1) (by omega)
    by_cases hs : st i = 0
    · have hf := ((C i hi4).1 hs).2.1
      refine ⟨a, fun post hp => ?_, fun post hp => ?_⟩
      · refine br_f (rt_n4 hi4) ⟨hin, br_t (rt_cs (by omega) hf) (fun y ey => ?_)⟩
        rw [ey, nI_1]
        exact hX post hp
      · refine br_f (rt_n4 hi4) ⟨hin, br_t (rt_cs (by omega) hs) (fun y ey => ?_)⟩
        rw [ey, nI_1]
        exact hY post hp
    · obtain ⟨_, ⟨F, hF, f1, f2⟩, _⟩ := (C i hi4).2 hs
      by_cases hF0 : F = 0
      · subst hF0
        refine ⟨a, fun post hp => ?_, fun post hp => ?_⟩
        · refine br_f (rt_n4 hi4) ⟨hin, br_t (rt_cs (by omega) f1) (fun y ey => ?_)⟩
          rw [ey, nI_1]
          exact hX post hp
        · have q : le (nI i).toNatClampNeg ≤ 0 := by
            rw [hc, f2]
            exact (lN_le (a := 0) (b := 0) (by decide) (by decide)).2 (Nat.le_refl _)
          refine br_f (rt_n4 hi4) ⟨hin, br_f (rt_cn (by omega) hs) ⟨hin, br_t q (fun y ey => ?_)⟩⟩
          rw [ey, nI_1]
          exact hY post hp
      · have g1 : ¬ fn (nI i).toNatClampNeg = 0 := by
          rw [hc, f1]
          exact nI_ne0 (by omega) (by omega)
        have g2 : ¬ le (nI i).toNatClampNeg ≤ 0 := by
          rw [hc, f2]
          intro z
          have := (lN_le (a := F) (b := 0) (by omega) (by decide)).1 z
          omega
        have s1 : nI (L + 1) - fn (nI i).toNatClampNeg = nI (L + 1 - F) := by rw [hc, f1, rt_sub (by omega)]
        have s2 : lN L + 1 - le (nI i).toNatClampNeg = lN (L + 1 - F) := by rw [hc, f2, lN_1, lN_sub (by omega)]
        by_cases hb : L + 1 - F ≤ 30
        · refine ⟨a, fun post hp => ?_, fun post hp => ?_⟩
          · have q : nI (L + 1) - fn (nI i).toNatClampNeg ≤ 30 := by rw [s1]; exact (rt_le30 (by omega)).2 hb
            refine br_f (rt_n4 hi4) ⟨hin, br_f g1 ⟨hin, br_t q (fun y ey => ?_)⟩⟩
            rw [ey, nI_1]
            exact hX post hp
          · have q : lN L + 1 - le (nI i).toNatClampNeg ≤ 30 := by rw [s2]; exact (rt_lle30 (by omega)).2 hb
            refine br_f (rt_n4 hi4) ⟨hin, br_f (rt_cn (by omega) hs) ⟨hin, br_f g2 ⟨hin, br_t q (fun y ey => ?_)⟩⟩⟩
            rw [ey, nI_1]
            exact hY post hp
        · refine ⟨1, fun post hp => ?_, fun post hp => ?_⟩
          · have q : ¬ nI (L + 1) - fn (nI i).toNatClampNeg ≤ 30 := by rw [s1]; exact fun z => hb ((rt_le30 (by omega)).1 z)
            exact br_f (rt_n4 hi4) ⟨hin, br_f g1 ⟨hin, br_f q hp⟩⟩
          · have q : ¬ lN L + 1 - le (nI i).toNatClampNeg ≤ 30 := by rw [s2]; exact fun z => hb ((rt_lle30 (by omega)).1 z)
            exact br_f (rt_n4 hi4) ⟨hin, br_f (rt_cn (by omega) hs) ⟨hin, br_f g2 ⟨hin, br_f q hp⟩⟩⟩
theorem rt_RC (hu : rt_U up dn) (C : rt_C L lo st ie fn cr cn le lk) (hL : L ≤ 2048) (p q : Int32) :
    ∃ a : Int32, (∀ post : Int32 → Prop, post a → wpX_refusalOfChange post (up, nI L, lr, va, lo, st, ie, fn, cr, iw, ui) p q w) ∧
      ((¬ a = 0 ∧ ∀ (post : Int32 → SY → Prop) (x3 x4 : Int32), post a (lN L, dn, se, va, st, cn, le, lk, iw, cr, ui) → wY_change_13 post p q x3 x4 w q p (lN L) dn se va st cn le lk iw cr ui) ∨
       (a = 0 ∧ ∃ t r c, t < 4 ∧ r < 12 ∧ c < 10 ∧ p = nI t ∧ q = nI r ∧ up = 1 ∧ dn = 0 ∧ st t = 1 ∧ ie t = nI c ∧ cn t = nI c ∧
         ∀ (post : Int32 → SY → Prop) (x3 x4 : Int32), ((x4 = 0 → wY_change_59 post p q x3 x4 2 q p (p * 12 + q) (lN L) dn se va st cn le lk iw cr ui) ∧ (¬ x4 = 0 → wY_change_59 post p q x3 x4 3 q p (p * 12 + q) (lN L) dn se va st cn le lk iw cr ui)) →
           wY_change_13 post p q x3 x4 w q p (lN L) dn se va st cn le lk iw cr ui)) := by
  obtain ⟨a, hX, hY, h⟩ := rt_RF (ln := nI L) (lr := lr) (va := va) (iw := iw) (ui := ui) (nu := lN L) (se := se) (w := w) hu C p q
  by_cases ha : a = 0
  · obtain ⟨t, r, ht, hr, rfl, rfl, rfl, rfl, h1⟩ := h ha
    have h0 : ¬ st t = 0 := by rw [h1]; exact rt_10
    obtain ⟨⟨c, hc, e1, e2, wr⟩, _, _⟩ := (C t ht).2 h0
    by_cases hc10 : c = 10
    · subst hc10
      refine ⟨4, fun post hp => ?_, .inl ⟨rt_40, fun post x3 x4 hp => ?_⟩⟩
      · unfold wpX_refusalOfChange
        refine hX _ ?_
        refine br_t ha ⟨rt_i4 ht, br_t ?_ hp⟩
        rw [rt_ck (by omega), e1]
        exact nI_le (a := 10) (Nat.le_refl _) (by decide)
      · unfold wY_change_13
        refine hY _ ?_
        refine br_t ha ?_
        unfold wpY_full
        refine And.intro (rt_i4 ht) (br_t ?_ ?_)
        · rw [rt_ck (by omega), e2]
          exact rfl
        · exact br_f rt_10 hp
    · have q1 : ¬ (10 : Int32) ≤ ie (nI t).toNatClampNeg := by
        rw [rt_ck (by omega), e1]
        exact nI_ge (b := 10) (by omega) (by decide)
      have q2 : ¬ cn (nI t).toNatClampNeg = 10 := by
        rw [rt_ck (by omega), e2]
        exact fun z => hc10 ((nI_eq (b := 10) (by omega) (by decide)).1 z)
      obtain ⟨b, kX, kY⟩ := rt_NX (up := 1) (lr := lr) (va := va) (iw := iw) (ui := ui) (dn := 0) (se := se) C hL 4 0 rfl
      have jX : ∀ post : Int32 → Prop, ((b = 0 → post 0) ∧ (¬ b = 0 → post 4)) → wpX_refusalOfChange post (1, nI L, lr, va, lo, st, ie, fn, cr, iw, ui) (nI t) (nI r) w := by
        intro post hp
        unfold wpX_refusalOfChange
        refine hX _ ?_
        refine br_t ha ⟨rt_i4 ht, br_f q1 ?_⟩
        intro x ex
        rw [nI_1] at ex
        subst ex
        exact Exists.intro 5 (kX _ hp)
      by_cases hb : b = 0
      · refine ⟨0, fun post hp => jX post (br_t hb hp), .inr ⟨rfl, t, r, c, ht, hr, by omega, rfl, rfl, rfl, rfl, h1, e1, e2, fun post x3 x4 hp => ?_⟩⟩
        unfold wY_change_13
        refine hY _ ?_
        refine br_t ha ?_
        unfold wpY_full
        refine And.intro (rt_i4 ht) (br_f q2 (Exists.intro 5 (kY _ ?_)))
        exact br_t hb hp
      · refine ⟨4, fun post hp => jX post (br_f hb hp), .inl ⟨rt_40, fun post x3 x4 hp => ?_⟩⟩
        unfold wY_change_13
        refine hY _ ?_
        refine br_t ha ?_
        unfold wpY_full
        refine And.intro (rt_i4 ht) (br_f q2 (Exists.intro 5 (kY _ ?_)))
        exact br_f hb hp
  · refine ⟨a, fun post hp => ?_, .inl ⟨ha, fun post x3 x4 hp => ?_⟩⟩
    · unfold wpX_refusalOfChange
      refine hX _ ?_
      exact br_f ha hp
    · unfold wY_change_13
      refine hY _ ?_
      exact br_f ha hp
end
def rt_ff (fn : Nat → Int32) (t L : Nat) : Nat → Int32 := if fn t = 0 then upd fn t (nI (L + 1)) else fn
def rt_fl (le : Nat → Int64) (t L : Nat) : Nat → Int64 := if le t = 0 then vp_updL le t (lN (L + 1)) else le
theorem rt_Xnote {post : SX → Prop} {up lr x y z : Int32} {va lo st ie fn cr iw ui : Nat → Int32} {t c L : Nat} (ht : t < 4) (hc : c < 10) (e1 : ie t = nI c)
    (hp : post (up, nI (L + 1), lr, va, lo, st, upd ie t (nI (c + 1)), rt_ff fn t L, upd cr (t * 10 + c) x, upd iw (t * 10 + c) (vp_nar .boolean y), upd ui (t * 10 + c) z)) :
    wpX_noteChange post (up, nI L, lr, va, lo, st, ie, fn, cr, iw, ui) (nI t) x y z := by
  have hi : vp_in (nI (t * 10 + c)) 40 := vp_in_nI (by omega) (by decide)
  unfold wpX_noteChange
  refine And.intro (rt_i4 ht) ?_
  rw [rt_ck (by omega), e1]
  refine rt_Xcs ?_
  refine And.intro hi (fun cr' g1 => ⟨hi, fun iw' g2 => ⟨hi, fun ui' g3 => ⟨rt_i4 ht, rt_i4 ht, fun ie' g4 ln' g5 => ⟨rt_i4 ht, ?_⟩⟩⟩⟩)
  rw [rt_ck (by omega)] at g1 g2 g3
  rw [nI_1] at g4 g5
  subst g1 g2 g3 g4 g5
  by_cases h : fn t = 0
  · rw [show rt_ff fn t L = upd fn t (nI (L + 1)) from if_pos h] at hp
    refine br_t h ⟨rt_i4 ht, fun fn' g6 => ?_⟩
    subst g6
    exact hp
  · rw [show rt_ff fn t L = fn from if_neg h] at hp
    exact br_f h hp
section
variable {L t r c : Nat} {dn se w x3 x4 : Int32} {va st iw cr ui cn lk : Nat → Int32} {le : Nat → Int64} {post : Int32 → SY → Prop}
theorem rt_Y59 (ht : t < 4) (hr : r < 12) (hp : wY_change_94 post (nI t) (nI r) x3 x4 (lN (L + 1)) dn se va st cn (rt_fl le t L) (upd lk (t * 12 + r) (rt_nd (lk (t * 12 + r)) w)) iw cr ui) :
    wY_change_59 post (nI t) (nI r) x3 x4 w (nI r) (nI t) (nI t * 12 + nI r) (lN L) dn se va st cn le lk iw cr ui := by
  unfold wY_change_59
  refine rt_Ynd ht hr ?_
  refine And.intro (rt_i48 ht hr) (fun lk' g1 nu' g2 => ⟨rt_i4 ht, ?_⟩)
  rw [rt_c48 ht hr] at g1
  rw [lN_1] at g2
  subst g1 g2
  have ck : (nI t).toNatClampNeg = t := rt_ck (by omega)
  rw [ck]
  by_cases h : le t = 0
  · rw [show rt_fl le t L = vp_updL le t (lN (L + 1)) from if_pos h] at hp
    refine br_t h ⟨rt_i4 ht, fun le' g6 => ?_⟩
    subst g6
    exact hp
  · rw [show rt_fl le t L = le from if_neg h] at hp
    exact br_f h hp
theorem rt_Y94w {nu : Int64} (ht : t < 4) (hr : r < 12) (hc : c < 10) (e : cn t = nI c)
    (hp : post 0 (nu, dn, se, upd va r x3, st, upd cn t (nI (c + 1)), le, lk, upd iw (t * 10 + c) (vp_nar .boolean 1), upd cr (t * 10 + c) (nI r), upd ui (t * 10 + c) (va r))) :
    wY_change_94 post (nI t) (nI r) x3 1 nu dn se va st cn le lk iw cr ui := by
  have hi : vp_in (nI (t * 10 + c)) 40 := vp_in_nI (by omega) (by decide)
  unfold wY_change_94
  refine And.intro (rt_i4 ht) (fun x6 g0 => ⟨rt_i4 ht, rt_i4 ht, fun cn' g1 => ?_⟩)
  rw [rt_ck (by omega), e, rt_s10] at g0
  rw [rt_ck (by omega), e, nI_1] at g1
  subst g0 g1
  refine ⟨hi, fun iw' g2 => ⟨hi, fun cr' g3 => br_f rt_10 ⟨rt_i12 hr, ?_⟩⟩⟩
  rw [rt_ck (by omega)] at g2 g3
  subst g2 g3
  unfold wY_change_155
  refine And.intro hi (fun ui' g4 => br_f rt_10 ⟨rt_i12 hr, fun ro' g5 => ?_⟩)
  rw [rt_ck (by omega), rt_ck (by omega)] at g4
  rw [rt_ck (by omega)] at g5
  subst g4 g5
  exact hp
theorem rt_Y94a {nu : Int64} (ht : t < 4) (hr : r < 12) (hc : c < 10) (e : cn t = nI c)
    (hp : post 0 (nu, dn, se, upd va r (va r + x3), st, upd cn t (nI (c + 1)), le, lk, upd iw (t * 10 + c) (vp_nar .boolean 0), upd cr (t * 10 + c) (nI r), upd ui (t * 10 + c) x3)) :
    wY_change_94 post (nI t) (nI r) x3 0 nu dn se va st cn le lk iw cr ui := by
  have hi : vp_in (nI (t * 10 + c)) 40 := vp_in_nI (by omega) (by decide)
  unfold wY_change_94
  refine And.intro (rt_i4 ht) (fun x6 g0 => ⟨rt_i4 ht, rt_i4 ht, fun cn' g1 => ?_⟩)
  rw [rt_ck (by omega), e, rt_s10] at g0
  rw [rt_ck (by omega), e, nI_1] at g1
  subst g0 g1
  refine ⟨hi, fun iw' g2 => ⟨hi, fun cr' g3 => br_t rfl ?_⟩⟩
  rw [rt_ck (by omega)] at g2 g3
  subst g2 g3
  unfold wY_change_155
  refine And.intro hi (fun ui' g4 => br_t rfl ⟨rt_i12 hr, rt_i12 hr, fun ro' g5 => ?_⟩)
  rw [rt_ck (by omega)] at g4
  rw [rt_ck (by omega)] at g5
  subst g4 g5
  exact hp
end
theorem rt_Cchg {L t r c : Nat} {lo st ie fn cr cn lk : Nat → Int32} {le : Nat → Int64} (x : Int32) (C : rt_C L lo st ie fn cr cn le lk) (hL : L ≤ 2048) (ht : t < 4) (hr : r < 12) (hc : c < 10) (h0 : ¬ st t = 0) (e1 : ie t = nI c) :
    rt_C (L + 1) (upd lo (t * 12 + r) x) st (upd ie t (nI (c + 1))) (rt_ff fn t L) (upd cr (t * 10 + c) (nI r)) (upd cn t (nI (c + 1))) (rt_fl le t L) (upd lk (t * 12 + r) x) := by
  intro s hs
  by_cases e : s = t
  · subst e
    obtain ⟨⟨c', hc', d1, d2, wr⟩, ⟨F, hF, f1, f2⟩, l⟩ := (C s hs).2 h0
    have : c' = c := (nI_eq (by omega) (by omega)).1 (d1.symm.trans e1)
    subst this
    refine ⟨fun z => absurd z h0, fun _ => ⟨⟨c' + 1, by omega, rt_us _ _ _, rt_us _ _ _, fun i hi => ?_⟩, ?_, fun q hq => ?_⟩⟩
    · by_cases e : i = c'
      · subst e
        exact ⟨r, hr, rt_us _ _ _⟩
      · rw [rt_un _ _ _ _ (by omega)]
        exact wr i (by omega)
    · by_cases hF0 : F = 0
      · subst hF0
        refine ⟨L + 1, Nat.le_refl _, ?_, ?_⟩
        · rw [show rt_ff fn s L = upd fn s (nI (L + 1)) from if_pos f1]
          exact rt_us _ _ _
        · rw [show rt_fl le s L = vp_updL le s (lN (L + 1)) from if_pos f2]
          exact rt_uLs _ _ _
      · refine ⟨F, by omega, ?_, ?_⟩
        · rw [show rt_ff fn s L = fn from if_neg (by rw [f1]; exact nI_ne0 (by omega) (by omega))]
          exact f1
        · rw [show rt_fl le s L = le from if_neg (by rw [f2]; exact fun z => hF0 ((lN_eq (b := 0) (by omega) (by decide)).1 z))]
          exact f2
    · by_cases e : q = r
      · subst e
        rw [rt_us, rt_us]
      · rw [rt_un _ _ _ _ (by omega), rt_un _ _ _ _ (by omega)]
        exact l q hq
  · have k1 : rt_ff fn t L s = fn s := by
      unfold rt_ff
      split
      · exact rt_un _ _ _ _ e
      · rfl
    have k2 : rt_fl le t L s = le s := by
      unfold rt_fl
      split
      · exact rt_uLn _ _ _ _ e
      · rfl
    exact rt_Tf (C s hs) (by omega) rfl (rt_un _ _ _ _ e) k1 (fun i hi => rt_un _ _ _ _ (by omega)) (rt_un _ _ _ _ e) k2 (fun q hq => rt_un _ _ _ _ (by omega)) (fun q hq => rt_un _ _ _ _ (by omega))
theorem i_vc_write {k : Nat} {u : SX} {v : SY} (I : i_Rel k u v) (hk : k + 4 ≤ 2048) (v1 : Int32) (v2 : Int32) (v3 : Int32) : wpX_write (fun r u' => wpY_write (fun r' v' => r' = r ∧ i_Rel (k + 4) u' v') v v1 v2 v3) u v1 v2 v3 := by
  have J := i_up I
  obtain ⟨L, up, dn, lr, va, lo, st, ie, fn, cr, iw, ui, cn, lk, le, rfl, rfl, hu, hL, C⟩ := rt_el I
  unfold wpX_write wpY_write wpY_change
  obtain ⟨a, hX, ⟨ha, hY⟩ | ⟨ha, t, r, c, ht, hr, hc, rfl, rfl, rfl, rfl, h1, e1, e2, hY⟩⟩ := rt_RC (lr := lr) (va := va) (iw := iw) (ui := ui) (se := lr) (w := 3) hu C (by omega) v1 v2
  · refine hX _ ?_
    refine br_f ha ?_
    refine br_f rt_10 ?_
    refine hY _ _ _ ?_
    exact ⟨rfl, J⟩
  · have h0 : ¬ st t = 0 := by rw [h1]; exact rt_10
    have hlk := ((C t ht).2 h0).2.2 r hr
    refine hX _ ?_
    refine br_t ha ?_
    refine rt_Xtk ht hr ?_
    refine And.intro (rt_i12 hr) ?_
    refine rt_Xnote ht hc e1 ?_
    refine And.intro (rt_i12 hr) (fun va' g => ?_)
    rw [rt_ck (by omega)] at g
    subst g
    refine br_f rt_10 ?_
    refine hY _ _ _ ?_
    refine br_f rt_10 ?_
    refine rt_Y59 ht hr ?_
    refine rt_Y94w ht hr hc e2 ?_
    rw [hlk, rt_ck (by omega)]
    exact ⟨rfl, rt_mk (.inl ⟨rfl, rfl⟩) (by omega) (rt_Cchg _ C (by omega) ht hr hc h0 e1)⟩
theorem i_vc_add {k : Nat} {u : SX} {v : SY} (I : i_Rel k u v) (hk : k + 4 ≤ 2048) (v1 : Int32) (v2 : Int32) (v3 : Int32) : wpX_add (fun r u' => wpY_add (fun r' v' => r' = r ∧ i_Rel (k + 4) u' v') v v1 v2 v3) u v1 v2 v3 := by
  have J := i_up I
  obtain ⟨L, up, dn, lr, va, lo, st, ie, fn, cr, iw, ui, cn, lk, le, rfl, rfl, hu, hL, C⟩ := rt_el I
  unfold wpX_add wpY_add wpY_change
  obtain ⟨a, hX, ⟨ha, hY⟩ | ⟨ha, t, r, c, ht, hr, hc, rfl, rfl, rfl, rfl, h1, e1, e2, hY⟩⟩ := rt_RC (lr := lr) (va := va) (iw := iw) (ui := ui) (se := lr) (w := 2) hu C (by omega) v1 v2
  · refine hX _ ?_
    refine br_f ha ?_
    refine br_t rfl ?_
    refine hY _ _ _ ?_
    exact ⟨rfl, J⟩
  · have h0 : ¬ st t = 0 := by rw [h1]; exact rt_10
    have hlk := ((C t ht).2 h0).2.2 r hr
    refine hX _ ?_
    refine br_t ha ?_
    refine rt_Xtk ht hr ?_
    refine rt_Xnote ht hc e1 ?_
    refine And.intro (rt_i12 hr) ⟨rt_i12 hr, fun va' g => ?_⟩
    rw [rt_ck (by omega)] at g
    subst g
    refine br_t rfl ?_
    refine hY _ _ _ ?_
    refine br_t rfl ?_
    refine rt_Y59 ht hr ?_
    refine rt_Y94a ht hr hc e2 ?_
    rw [hlk]
    exact ⟨rfl, rt_mk (.inl ⟨rfl, rfl⟩) (by omega) (rt_Cchg _ C (by omega) ht hr hc h0 e1)⟩
end
section
/-- the lock that the first c changes of t ask for on record r -/
def rt_ask (cr iw : Nat → Int32) (t r : Nat) : Nat → Int32
  | 0 => 0
  | c + 1 => if cr (t * 10 + c) = nI r then (if iw (t * 10 + c) = 0 then (if rt_ask cr iw t r c = 0 then 2 else rt_ask cr iw t r c) else 3) else rt_ask cr iw t r c
def rt_A (cr iw : Nat → Int32) (t c b : Nat) (f g : Nat → Int32) : Prop := (∀ r, r < b → g (t * 12 + r) = rt_ask cr iw t r c) ∧ ∀ j, (j < t * 12 ∨ t * 12 + 12 ≤ j) → g j = f j
section
variable {cr iw : Nat → Int32} {t r c : Nat}
theorem rt_ask_o (h : ¬ cr (t * 10 + c) = nI r) : rt_ask cr iw t r (c + 1) = rt_ask cr iw t r c := if_neg h
theorem rt_ask_3 (h : cr (t * 10 + c) = nI r) (h1 : ¬ iw (t * 10 + c) = 0) : rt_ask cr iw t r (c + 1) = 3 := (if_pos h).trans (if_neg h1)
theorem rt_ask_2 (h : cr (t * 10 + c) = nI r) (h1 : iw (t * 10 + c) = 0) (h2 : rt_ask cr iw t r c = 0) : rt_ask cr iw t r (c + 1) = 2 := (if_pos h).trans ((if_pos h1).trans (if_pos h2))
theorem rt_ask_k (h : cr (t * 10 + c) = nI r) (h1 : iw (t * 10 + c) = 0) (h2 : ¬ rt_ask cr iw t r c = 0) : rt_ask cr iw t r (c + 1) = rt_ask cr iw t r c := (if_pos h).trans ((if_pos h1).trans (if_neg h2))
theorem rt_As {f g : Nat → Int32} {x : Int32} (A : rt_A cr iw t c 12 f g) (hr : r < 12) (h : cr (t * 10 + c) = nI r) (hx : x = rt_ask cr iw t r (c + 1)) : rt_A cr iw t (c + 1) 12 f (upd g (t * 12 + r) x) := by
  refine ⟨fun q hq => ?_, fun j hj => ?_⟩
  · by_cases e : q = r
    · subst e
      rw [rt_us]
      exact hx
    · rw [rt_un _ _ _ _ (by omega), A.1 q hq]
      exact (rt_ask_o (fun z => e ((nI_eq (by omega) (by omega)).1 (z.symm.trans h)))).symm
  · rw [rt_un _ _ _ _ (by omega)]
    exact A.2 j hj
theorem rt_Ak {f g : Nat → Int32} (A : rt_A cr iw t c 12 f g) (hr : r < 12) (h : cr (t * 10 + c) = nI r) (h1 : iw (t * 10 + c) = 0) (h2 : ¬ rt_ask cr iw t r c = 0) : rt_A cr iw t (c + 1) 12 f g := by
  refine ⟨fun q hq => ?_, A.2⟩
  rw [A.1 q hq]
  by_cases e : q = r
  · subst e
    exact (rt_ask_k h h1 h2).symm
  · exact (rt_ask_o (fun z => e ((nI_eq (by omega) (by omega)).1 (z.symm.trans h)))).symm
end
theorem rt_Xkl {post : SX → Prop} {up ln lr : Int32} {va st ie fn cr iw ui lo0 : Nat → Int32} {t c : Nat} (ht : t < 4) (hc : c ≤ 10) (e1 : ie t = nI c) (wr : ∀ i, i < c → ∃ r, r < 12 ∧ cr (t * 10 + i) = nI r)
    (hp : ∀ lo', rt_A cr iw t c 12 lo0 lo' → post (up, ln, lr, va, lo', st, ie, fn, cr, iw, ui)) : ∀ (m i : Nat) (lo : Nat → Int32), i + m = c → rt_A cr iw t i 12 lo0 lo → wX_keepLocksOfChanges_7 post (nI t) up ln lr (m + 1) (nI i) va lo st ie fn cr iw ui := by
  have ck : (nI t).toNatClampNeg = t := rt_ck (by omega)
  intro m
  induction m with
  | zero =>
    intro i lo hi A
    have : i = c := hi
    subst this
    refine And.intro (rt_i4 ht) (br_t ?_ (hp lo A))
    rw [ck, e1]
    exact nI_le (Nat.le_refl _) (by omega)
  | succ m ih =>
    intro i lo hi A
    obtain ⟨r, hr, er⟩ := wr i (by omega)
    have h40 : vp_in (nI (t * 10 + i)) 40 := vp_in_nI (by omega) (by decide)
    have h48 : vp_in (nI (t * 12 + r)) 48 := vp_in_nI (by omega) (by decide)
    have c40 : (nI (t * 10 + i)).toNatClampNeg = t * 10 + i := rt_ck (by omega)
    have c48 : (nI (t * 12 + r)).toNatClampNeg = t * 12 + r := rt_ck (by omega)
    refine And.intro (rt_i4 ht) (br_f ?_ ?_)
    · rw [ck, e1]
      exact nI_ge (by omega) (by omega)
    · refine rt_Xcs ?_
      refine And.intro h40 ?_
      rw [c40, er]
      refine rt_Xls ?_
      refine And.intro h40 ?_
      by_cases hw : iw (t * 10 + i) = 0
      · refine br_t hw ⟨h48, ?_⟩
        by_cases h0 : lo (t * 12 + r) = 0
        · refine br_t (by rw [c48]; exact h0) ⟨h48, fun a ea x ex => ?_⟩
          rw [c48] at ea
          rw [nI_1] at ex
          subst ea ex
          exact ih (i + 1) _ (by omega) (rt_As A hr er (rt_ask_2 er hw ((A.1 r hr).symm.trans h0)).symm)
        · refine br_f (by rw [c48]; exact h0) (fun x ex => ?_)
          rw [nI_1] at ex
          subst ex
          exact ih (i + 1) _ (by omega) (rt_Ak A hr er hw (fun z => h0 ((A.1 r hr).trans z)))
      · refine br_f hw ⟨h48, fun a ea x ex => ?_⟩
        rw [c48] at ea
        rw [nI_1] at ex
        subst ea ex
        exact ih (i + 1) _ (by omega) (rt_As A hr er (rt_ask_3 er hw).symm)
theorem rt_Xkeep {post : SX → Prop} {up ln lr : Int32} {va lo st ie fn cr iw ui : Nat → Int32} {t c : Nat} (ht : t < 4) (hc : c ≤ 10) (e1 : ie t = nI c) (wr : ∀ i, i < c → ∃ r, r < 12 ∧ cr (t * 10 + i) = nI r)
    (hp : ∀ lo', rt_A cr iw t c 12 lo lo' → post (up, ln, lr, va, lo', st, ie, fn, cr, iw, ui)) : wpX_keepLocksOfChanges post (up, ln, lr, va, lo, st, ie, fn, cr, iw, ui) (nI t) := by
  unfold wpX_keepLocksOfChanges
  refine rt_Xdrop ht (fun lo' z => ?_)
  exact Exists.intro (c + 1) (rt_Xkl ht hc e1 wr hp c 0 lo' (by omega) ⟨fun r hr => z.1 r (by omega) hr, fun j hj => z.2 j (by omega)⟩)
section
variable {nu : Int64} {dn se : Int32} {va st iw cr ui cn lk : Nat → Int32} {le : Nat → Int64} {t c r : Nat}
theorem rt_Y49 {post : Int32 → Prop} {J : Int32 → Int32 → Prop} {x1 x2 : Int32} {j : Nat} (hj : j < 40) (h2 : iw j = 0 → J 2 (nI (j + 1))) (h3 : ¬ iw j = 0 → J 3 (nI (j + 1))) : wY_asked_49 post J x1 x2 (nI j) nu dn se va st cn le lk iw cr ui := by
  unfold wY_asked_49
  refine And.intro (vp_in_nI hj (by decide)) ?_
  rw [rt_ck (by omega)]
  refine br_c (fun h x ex => ?_) (fun h x ex => ?_)
  · rw [ex, nI_1]; exact h2 h
  · rw [ex, nI_1]; exact h3 h
theorem rt_Yal (ht : t < 4) (hc : c ≤ 10) (e2 : cn t = nI c) (post : Int32 → Prop) (hp : post (rt_ask cr iw t r c)) : ∀ m i : Nat, i + m = c → wY_asked_8 post (nI t) (nI r) nu dn se va st cn le lk iw cr ui (m + 1) (rt_ask cr iw t r i) (nI (t * 10 + i)) := by
  have eq : nI t * 10 + cn (nI t).toNatClampNeg = nI (t * 10 + c) := by rw [rt_ck (by omega), e2, rt_s10]
  intro m
  induction m with
  | zero =>
    intro i hi
    have : i = c := hi
    subst this
    refine And.intro (rt_i4 ht) (br_t ?_ hp)
    rw [eq]
    exact nI_le (Nat.le_refl _) (by omega)
  | succ m ih =>
    intro i hi
    have h40 : vp_in (nI (t * 10 + i)) 40 := vp_in_nI (by omega) (by decide)
    have c40 : (nI (t * 10 + i)).toNatClampNeg = t * 10 + i := rt_ck (by omega)
    have ih' := ih (i + 1) (by omega)
    refine And.intro (rt_i4 ht) (br_f ?_ ⟨h40, ?_⟩)
    · rw [eq]
      exact nI_ge (by omega) (by omega)
    · by_cases er : cr (t * 10 + i) = nI r
      · refine br_t (by rw [c40]; exact er) ⟨h40, ?_⟩
        by_cases hw : iw (t * 10 + i) = 0
        · refine br_t (by rw [c40]; exact hw) ?_
          by_cases h0 : rt_ask cr iw t r i = 0
          · rw [rt_ask_2 er hw h0] at ih'
            exact br_t h0 (rt_Y49 (by omega) (fun _ => ih') (fun z => absurd hw z))
          · rw [rt_ask_k er hw h0] at ih'
            refine br_f h0 (fun x ex => ?_)
            rw [ex, nI_1]
            exact ih'
        · refine br_f (by rw [c40]; exact hw) ?_
          rw [rt_ask_3 er hw] at ih'
          exact rt_Y49 (by omega) (fun z => absurd z hw) (fun _ => ih')
      · refine br_f (by rw [c40]; exact er) (fun x ex => ?_)
        rw [rt_ask_o er] at ih'
        rw [ex, nI_1]
        exact ih'
theorem rt_Yask (ht : t < 4) (hc : c ≤ 10) (e2 : cn t = nI c) {post : Int32 → Prop} (hp : post (rt_ask cr iw t r c)) : wpY_asked post (nu, dn, se, va, st, cn, le, lk, iw, cr, ui) (nI t) (nI r) := by
  intro x ex
  have e : x = nI (t * 10 + 0) := by
    rw [ex]
    exact (Int32.ofNat_mul t 10).symm
  subst e
  exact Exists.intro (c + 1) (rt_Yal ht hc e2 post hp c 0 (by omega))
theorem rt_Ypl {post : Int32 → SY → Prop} {lk0 : Nat → Int32} (ht : t < 4) (hc : c ≤ 10) (e2 : cn t = nI c) (hp : ∀ lk', rt_A cr iw t c 12 lk0 lk' → post 0 (nu, dn, se, va, upd st t 2, cn, le, lk', iw, cr, ui)) :
    ∀ (m i : Nat) (lk : Nat → Int32), i + m = 12 → rt_A cr iw t c i lk0 lk → wY_prepare_45 post (nI t) nu dn se (m + 1) (nI i) va st cn le lk iw cr ui := by
  intro m
  induction m with
  | zero =>
    intro i lk hi A
    have : i = 12 := hi
    subst this
    refine br_t (rt_g12 rfl) ⟨rt_i4 ht, fun a ea => ?_⟩
    rw [rt_ck (by omega)] at ea
    subst ea
    exact hp lk A
  | succ m ih =>
    intro i lk hi A
    refine br_f (rt_n12 (by omega)) ?_
    refine rt_Yask ht hc e2 ?_
    refine And.intro (rt_i48 ht (by omega)) (fun a ea x ex => ?_)
    rw [rt_c48 ht (by omega)] at ea
    rw [nI_1] at ex
    subst ea ex
    refine ih (i + 1) _ (by omega) ⟨fun q hq => ?_, fun j hj => ?_⟩
    · by_cases e : q = i
      · subst e
        exact rt_us _ _ _
      · rw [rt_un _ _ _ _ (by omega)]
        exact A.1 q (by omega)
    · rw [rt_un _ _ _ _ (by omega)]
      exact A.2 j hj
end
theorem rt_Cprep {L t c : Nat} {lo st ie fn cr cn lk iw lo' lk' : Nat → Int32} {le : Nat → Int64} (C : rt_C L lo st ie fn cr cn le lk) (h0 : ¬ st t = 0) (A : rt_A cr iw t c 12 lo lo') (B : rt_A cr iw t c 12 lk lk') :
    rt_C L lo' (upd st t 2) ie fn cr cn le lk' := by
  intro s hs
  by_cases e : s = t
  · subst e
    obtain ⟨c, F, _⟩ := (C s hs).2 h0
    exact ⟨fun w => absurd (rt_us st s 2 ▸ w) rt_20, fun _ => ⟨c, F, fun r hr => (B.1 r hr).trans (A.1 r hr).symm⟩⟩
  · exact rt_Tf (C s hs) (Nat.le_refl _) (rt_un _ _ _ _ e) rfl rfl (fun _ _ => rfl) rfl rfl (fun r hr => A.2 _ (by omega)) (fun r hr => B.2 _ (by omega))
theorem i_vc_prepare {k : Nat} {u : SX} {v : SY} (I : i_Rel k u v) (hk : k + 4 ≤ 2048) (v1 : Int32) : wpX_prepare (fun r u' => wpY_prepare (fun r' v' => r' = r ∧ i_Rel (k + 4) u' v') v v1) u v1 := by
  have J := i_up I
  obtain ⟨L, up, dn, lr, va, lo, st, ie, fn, cr, iw, ui, cn, lk, le, rfl, rfl, hu, hL, C⟩ := rt_el I
  unfold wpX_prepare wpY_prepare
  rcases rt_Pex st v1 hu with h | ⟨t, ht, rfl, rfl, rfl⟩ | ⟨t, ht, rfl, rfl, rfl, h0⟩ | ⟨t, ht, rfl, rfl, rfl, h0, h1⟩ | ⟨t, ht, rfl, rfl, rfl, h0, h1⟩
  · refine rt_Xop5 h ?_
    refine br_f rt_50 ?_
    refine rt_Yan h ?_
    exact br_t rfl ⟨rfl, J⟩
  · refine rt_Xop1 ht rfl ?_
    refine br_f rt_10 ?_
    refine rt_Ya4 ht ?_
    exact br_f rt_10 (br_f rt_10 ⟨rfl, J⟩)
  · have h1 : ¬ st t = 1 := fun z => rt_10 (z.symm.trans h0)
    refine rt_Xop2 ht rfl h1 ?_
    refine br_f rt_20 ?_
    refine rt_Ya4 ht ?_
    exact br_f rt_10 (br_t rfl ⟨rt_i4 ht, br_f (rt_cn (by omega) h1) ⟨rfl, J⟩⟩)
  · refine rt_Xop2 ht rfl h1 ?_
    refine br_f rt_20 ?_
    refine rt_Ya4 ht ?_
    exact br_f rt_10 (br_t rfl ⟨rt_i4 ht, br_f (rt_cn (by omega) h1) ⟨rfl, J⟩⟩)
  · obtain ⟨⟨c, hc, e1, e2, wr⟩, _, _⟩ := (C t ht).2 h0
    refine rt_Xop0 ht rfl h1 ?_
    by_cases hc0 : c = 0
    · subst hc0
      refine br_t rfl ⟨rt_i4 ht, br_t (rt_cs (by omega) e1) ?_⟩
      refine rt_Ya4 ht ?_
      exact br_f rt_10 (br_t rfl ⟨rt_i4 ht, br_t (rt_cs (by omega) h1) ⟨rt_i4 ht, br_t (rt_cs (by omega) e2) ⟨rfl, J⟩⟩⟩)
    · have z1 : ¬ ie t = 0 := by rw [e1]; exact nI_ne0 (by omega) (by omega)
      have z2 : ¬ cn t = 0 := by rw [e2]; exact nI_ne0 (by omega) (by omega)
      refine br_t rfl ⟨rt_i4 ht, br_f (rt_cn (by omega) z1) ?_⟩
      refine rt_Xkeep ht hc e1 wr (fun lo' A => ?_)
      refine And.intro (rt_i4 ht) (fun a ea => ?_)
      rw [rt_ck (by omega)] at ea
      subst ea
      refine rt_Ya4 ht ?_
      refine br_f rt_10 (br_t rfl ⟨rt_i4 ht, br_t (rt_cs (by omega) h1) ⟨rt_i4 ht, br_f (rt_cn (by omega) z2) (Exists.intro 13 ?_)⟩⟩)
      refine rt_Ypl (lk0 := lk) ht hc e2 (fun lk' B => ?_) 12 0 lk rfl ⟨fun r hr => absurd hr (by omega), fun _ _ => rfl⟩
      exact ⟨rfl, rt_mk (.inl ⟨rfl, rfl⟩) (by omega) (rt_Cprep C h0 A B)⟩
end
