/-- a transaction's twelve cells, from i on, are 0; all else is as it was -/
def rt_Z (t i : Nat) (f g : Nat → Int32) : Prop := (∀ r, i ≤ r → r < 12 → g (t * 12 + r) = 0) ∧ ∀ j, (j < t * 12 + i ∨ t * 12 + 12 ≤ j) → g j = f j
theorem rt_Z0 (t : Nat) (f : Nat → Int32) {i : Nat} (h : i = 12) : rt_Z t i f f := ⟨fun r h1 h2 => absurd h1 (by omega), fun _ _ => rfl⟩
theorem rt_Zs {t i : Nat} {f g : Nat → Int32} (h : i < 12) (z : rt_Z t (i + 1) (upd f (t * 12 + i) 0) g) : rt_Z t i f g := by
  obtain ⟨z1, z2⟩ := z
  refine ⟨fun r h1 h2 => ?_, fun j hj => ?_⟩
  · by_cases e : r = i
    · subst e
      rw [z2 _ (.inl (by omega)), rt_us]
    · exact z1 r (by omega) h2
  · rw [z2 j (by omega), rt_un _ _ _ _ (by omega)]
theorem rt_Zo {t s r : Nat} {f g : Nat → Int32} (z : rt_Z t 0 f g) (h : ¬ s = t) (hr : r < 12) : g (s * 12 + r) = f (s * 12 + r) := z.2 _ (by omega)
theorem rt_g12 {i : Nat} (h : i = 12) : (12 : Int32) ≤ nI i := by subst h; exact nI_le (a := 12) (Nat.le_refl _) (by decide)
theorem rt_g4 {i : Nat} (h : i = 4) : (4 : Int32) ≤ nI i := by subst h; exact nI_le (a := 4) (Nat.le_refl _) (by decide)
theorem rt_i48 {t r : Nat} (ht : t < 4) (hr : r < 12) : vp_in (nI t * 12 + nI r) 48 := by rw [rt_s12]; exact vp_in_nI (by omega) (by decide)
theorem rt_c48 {t r : Nat} (ht : t < 4) (hr : r < 12) : (nI t * 12 + nI r).toNatClampNeg = t * 12 + r := by rw [rt_s12]; exact rt_ck (by omega)
theorem rt_i40 {t r : Nat} (ht : t < 4) (hr : r < 10) : vp_in (nI t * 10 + nI r) 40 := by rw [rt_s10]; exact vp_in_nI (by omega) (by decide)
theorem rt_c40 {t r : Nat} (ht : t < 4) (hr : r < 10) : (nI t * 10 + nI r).toNatClampNeg = t * 10 + r := by rw [rt_s10]; exact rt_ck (by omega)
section
variable {post : SX → Prop} {up ln lr : Int32} {va st ie fn cr iw ui : Nat → Int32} {t : Nat}
theorem rt_Xdl (ht : t < 4) : ∀ (m i : Nat) (lo : Nat → Int32), i + m = 12 → (∀ lo', rt_Z t i lo lo' → post (up, ln, lr, va, lo', st, ie, fn, cr, iw, ui)) → wX_dropLocks_2 post (nI t) up ln lr (m + 1) (nI i) va lo st ie fn cr iw ui := by
  intro m
  induction m with
  | zero =>
    intro i lo hi hp
    exact br_t (rt_g12 (by omega)) (hp lo (rt_Z0 t lo (by omega)))
  | succ m ih =>
    intro i lo hi hp
    refine br_f (rt_n12 (by omega)) ?_
    refine And.intro (rt_i48 ht (by omega)) (fun a ea x ex => ?_)
    rw [rt_c48 ht (by omega)] at ea
    rw [nI_1] at ex
    subst ea ex
    exact ih (i + 1) _ (by omega) (fun lo' z => hp lo' (rt_Zs (by omega) z))
theorem rt_Xdrop {lo : Nat → Int32} (ht : t < 4) (hp : ∀ lo', rt_Z t 0 lo lo' → post (up, ln, lr, va, lo', st, ie, fn, cr, iw, ui)) : wpX_dropLocks post (up, ln, lr, va, lo, st, ie, fn, cr, iw, ui) (nI t) :=
  Exists.intro 13 (rt_Xdl ht 12 0 lo rfl hp)
theorem rt_Xend {lo : Nat → Int32} (ht : t < 4) (hp : ∀ lo', rt_Z t 0 lo lo' → post (up, ln, lr, va, lo', upd st t 0, upd ie t 0, upd fn t 0, cr, iw, ui)) : wpX_end post (up, ln, lr, va, lo, st, ie, fn, cr, iw, ui) (nI t) := by
  unfold wpX_end
  refine rt_Xdrop ht (fun lo' z => ?_)
  refine And.intro (rt_i4 ht) (fun a ea => And.intro (rt_i4 ht) (fun b eb => And.intro (rt_i4 ht) (fun c ec => ?_)))
  rw [rt_ck (by omega)] at ea eb ec
  subst ea eb ec
  exact hp lo' z
end
section
variable {post : Int32 → SY → Prop} {nu : Int64} {dn se : Int32} {va st cn iw cr ui : Nat → Int32} {le : Nat → Int64} {t : Nat}
theorem rt_Ybl (ht : t < 4) : ∀ (m i : Nat) (lk : Nat → Int32), i + m = 12 → (∀ lk', rt_Z t i lk lk' → post (nI t) (nu, dn, se, va, st, cn, le, lk', iw, cr, ui)) → wY_begin_61 post (nI t) nu dn se (m + 1) (nI i) va st cn le lk iw cr ui := by
  intro m
  induction m with
  | zero =>
    intro i lk hi hp
    exact br_t (rt_g12 (by omega)) (hp lk (rt_Z0 t lk (by omega)))
  | succ m ih =>
    intro i lk hi hp
    refine br_f (rt_n12 (by omega)) ?_
    refine And.intro (rt_i48 ht (by omega)) (fun a ea x ex => ?_)
    rw [rt_c48 ht (by omega)] at ea
    rw [nI_1] at ex
    subst ea ex
    exact ih (i + 1) _ (by omega) (fun lk' z => hp lk' (rt_Zs (by omega) z))
theorem rt_Yb31 {lk : Nat → Int32} (ht : t < 4) (hp : ∀ lk', rt_Z t 0 lk lk' → post (nI t) (nu, dn, se, va, upd st t 1, upd cn t 0, vp_updL le t 0, lk', iw, cr, ui)) : wY_begin_31 post (nI t) nu dn se va st cn le lk iw cr ui := by
  have h4 : ¬ nI t = (4 : Int32) := fun z => by
    have := (nI_eq (a := t) (b := 4) (by omega) (by omega)).1 z
    omega
  unfold wY_begin_31
  refine br_f h4 ?_
  refine And.intro (rt_i4 ht) (fun a ea => And.intro (rt_i4 ht) (fun b eb => And.intro (rt_i4 ht) (fun c ec => ?_)))
  rw [rt_ck (by omega)] at ea eb ec
  subst ea eb ec
  exact Exists.intro 13 (rt_Ybl ht 12 0 lk rfl hp)
theorem rt_Ybs {lk : Nat → Int32} {q e : Nat} (he : e ≤ 4) : ∀ m i : Nat, i + m = e → (∀ j, j < e → ¬ st j = 0) → wY_begin_11 post nu dn se va st cn le lk iw cr ui q (nI e) → wY_begin_11 post nu dn se va st cn le lk iw cr ui (q + m) (nI i) := by
  intro m
  induction m with
  | zero =>
    intro i hi hs h
    have : i = e := by omega
    subst this
    exact h
  | succ m ih =>
    intro i hi hs h
    refine br_f (rt_n4 (by omega)) ⟨rt_i4 (by omega), br_f (rt_cn (by omega) (hs i (by omega))) (fun y ey => ?_)⟩
    rw [ey, nI_1]
    exact ih (i + 1) (by omega) hs h
end
section
variable {post : Int32 → SX → Prop} {up ln lr : Int32} {va lo st ie fn cr iw ui : Nat → Int32} {t : Nat}
theorem rt_Xbs {q e : Nat} (he : e ≤ 4) : ∀ m i : Nat, i + m = e → (∀ j, j < e → ¬ st j = 0) → wX_begin_11 post up ln lr va lo st ie fn cr iw ui q (nI e) → wX_begin_11 post up ln lr va lo st ie fn cr iw ui (q + m) (nI i) := by
  intro m
  induction m with
  | zero =>
    intro i hi hs h
    have : i = e := by omega
    subst this
    exact h
  | succ m ih =>
    intro i hi hs h
    refine br_f (rt_n4 (by omega)) ⟨rt_i4 (by omega), br_f (rt_cn (by omega) (hs i (by omega))) (fun y ey => ?_)⟩
    rw [ey, nI_1]
    exact ih (i + 1) (by omega) hs h
end
theorem rt_first (st : Nat → Int32) : (∀ t, t < 4 → ¬ st t = 0) ∨ ∃ t, t < 4 ∧ st t = 0 ∧ ∀ j, j < t → ¬ st j = 0 := by
  by_cases h0 : st 0 = 0
  · exact .inr ⟨0, by omega, h0, fun j hj => absurd hj (by omega)⟩
  by_cases h1 : st 1 = 0
  · refine .inr ⟨1, by omega, h1, fun j hj => ?_⟩
    have : j = 0 := by omega
    subst this; exact h0
  by_cases h2 : st 2 = 0
  · refine .inr ⟨2, by omega, h2, fun j hj => ?_⟩
    rcases (by omega : j = 0 ∨ j = 1) with rfl | rfl
    · exact h0
    · exact h1
  by_cases h3 : st 3 = 0
  · refine .inr ⟨3, by omega, h3, fun j hj => ?_⟩
    rcases (by omega : j = 0 ∨ j = 1 ∨ j = 2) with rfl | rfl | rfl
    · exact h0
    · exact h1
    · exact h2
  refine .inl fun j hj => ?_
  rcases (by omega : j = 0 ∨ j = 1 ∨ j = 2 ∨ j = 3) with rfl | rfl | rfl | rfl
  · exact h0
  · exact h1
  · exact h2
  · exact h3
section
variable {L t : Nat} {lo st ie fn cr cn lk : Nat → Int32} {le : Nat → Int64}
theorem rt_Cbegin {lk' : Nat → Int32} (C : rt_C L lo st ie fn cr cn le lk) (ht : t < 4) (h0 : st t = 0) (z : rt_Z t 0 lk lk') :
    rt_C L lo (upd st t 1) ie fn cr (upd cn t 0) (vp_updL le t 0) lk' := by
  intro s hs
  by_cases e : s = t
  · subst e
    obtain ⟨a, b, c⟩ := (C s hs).1 h0
    refine ⟨fun w => absurd (rt_us st s 1 ▸ w) rt_10, fun _ => ⟨⟨0, by omega, a, rt_us _ _ _, fun i hi => absurd hi (by omega)⟩, ⟨0, by omega, b, rt_uLs _ _ _⟩, fun r hr => ?_⟩⟩
    rw [z.1 r (by omega) hr, c r hr]
  · exact rt_Tf (C s hs) (Nat.le_refl _) (rt_un _ _ _ _ e) rfl rfl (fun _ _ => rfl) (rt_un _ _ _ _ e) (rt_uLn _ _ _ _ e) (fun _ _ => rfl) (fun r hr => rt_Zo z e hr)
theorem rt_Cend {lo' ie' cn' : Nat → Int32} (C : rt_C L lo st ie fn cr cn le lk) (z : rt_Z t 0 lo lo') (hi : ie' t = 0) (hi' : ∀ s, ¬ s = t → ie' s = ie s) (hc : ∀ s, ¬ s = t → cn' s = cn s) :
    rt_C L lo' (upd st t 0) ie' (upd fn t 0) cr cn' le lk := by
  intro s hs
  by_cases e : s = t
  · subst e
    exact ⟨fun _ => ⟨hi, rt_us _ _ _, fun r hr => z.1 r (by omega) hr⟩, fun w => absurd (rt_us st s 0) w⟩
  · exact rt_Tf (C s hs) (Nat.le_refl _) (rt_un _ _ _ _ e) (hi' s e) (rt_un _ _ _ _ e) (fun _ _ => rfl) (hc s e) rfl (fun r hr => rt_Zo z e hr) (fun _ _ => rfl)
end
theorem i_vc_begin {k : Nat} {u : SX} {v : SY} (I : i_Rel k u v) (hk : k + 4 ≤ 2048) : wpX_begin (fun r u' => wpY_begin (fun r' v' => r' = r ∧ i_Rel (k + 4) u' v') v) u := by
  have J := i_up I
  obtain ⟨L, up, dn, lr, va, lo, st, ie, fn, cr, iw, ui, cn, lk, le, rfl, rfl, hu, hL, C⟩ := rt_el I
  rcases hu with ⟨rfl, rfl⟩ | ⟨rfl, rfl⟩
  · rcases rt_first st with h | ⟨t, ht, h0, h1⟩
    · refine br_f rt_10 (Exists.intro 5 ?_)
      refine rt_Xbs (q := 1) (e := 4) (by omega) 4 0 rfl h ?_
      refine br_t (rt_g4 rfl) ?_
      refine br_t rfl (Exists.intro 5 ?_)
      refine rt_Ybs (q := 1) (e := 4) (by omega) 4 0 rfl h ?_
      refine br_t (rt_g4 rfl) ?_
      exact br_t rfl ⟨rfl, J⟩
    · refine br_f rt_10 (Exists.intro (1 + t) ?_)
      refine rt_Xbs (q := 1) (e := t) (by omega) t 0 (by omega) h1 ?_
      refine br_f (rt_n4 ht) ⟨rt_i4 ht, br_t (rt_cs (by omega) h0) ⟨rt_i4 ht, fun a ea => ?_⟩⟩
      rw [rt_ck (by omega)] at ea
      subst ea
      refine br_t rfl (Exists.intro (1 + t) ?_)
      refine rt_Ybs (q := 1) (e := t) (by omega) t 0 (by omega) h1 ?_
      refine br_f (rt_n4 ht) ⟨rt_i4 ht, br_t (rt_cs (by omega) h0) ?_⟩
      refine rt_Yb31 ht (fun lk' z => ?_)
      exact ⟨rfl, rt_mk (.inl ⟨rfl, rfl⟩) (by omega) (rt_Cbegin C ht h0 z)⟩
  · refine br_t rfl ?_
    exact br_f rt_10 ⟨rfl, J⟩
theorem i_vc_commit {k : Nat} {u : SX} {v : SY} (I : i_Rel k u v) (hk : k + 4 ≤ 2048) (v1 : Int32) : wpX_commit (fun r u' => wpY_commit (fun r' v' => r' = r ∧ i_Rel (k + 4) u' v') v v1) u v1 := by
  have J := i_up I
  obtain ⟨L, up, dn, lr, va, lo, st, ie, fn, cr, iw, ui, cn, lk, le, rfl, rfl, hu, hL, C⟩ := rt_el I
  unfold wpX_commit wpY_commit
  rcases rt_Pex st v1 hu with h | ⟨t, ht, rfl, rfl, rfl⟩ | ⟨t, ht, rfl, rfl, rfl, h0⟩ | ⟨t, ht, rfl, rfl, rfl, h0, _⟩ | ⟨t, ht, rfl, rfl, rfl, h0, _⟩
  · refine rt_Xth5 h ?_
    refine br_f rt_50 ?_
    refine rt_Yen5 h ?_
    exact br_f rt_50 ⟨rfl, J⟩
  · refine rt_Xth1 ht rfl ?_
    refine br_f rt_10 ?_
    refine rt_Yen1 ht rfl ?_
    exact br_f rt_10 ⟨rfl, J⟩
  · refine rt_Xth2 ht rfl h0 ?_
    refine br_f rt_20 ?_
    refine rt_Yen2 ht rfl h0 ?_
    exact br_f rt_20 ⟨rfl, J⟩
  all_goals
    refine rt_Xth0 ht rfl h0 ?_
    refine br_t rfl ?_
    refine rt_Xend ht (fun lo' z => ?_)
    refine rt_Yen0 ht rfl h0 ?_
    refine br_t rfl ⟨rt_i4 ht, fun a ea => ?_⟩
    rw [rt_ck (by omega)] at ea
    subst ea
    exact ⟨rfl, rt_mk (.inl ⟨rfl, rfl⟩) (by omega) (rt_Cend C z (rt_us _ _ _) (fun s hs => rt_un _ _ _ _ hs) (fun _ _ => rfl))⟩
