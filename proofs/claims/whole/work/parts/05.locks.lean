def rt_nd (h w : Int32) : Int32 := if h = 0 then w else if h = w then w else 3
section
variable {post : Int32 → Prop} {up ln lr w : Int32} {va lo st ie fn cr iw ui : Nat → Int32} {t r : Nat}
theorem rt_Xnd (ht : t < 4) (hr : r < 12) (hp : post (rt_nd (lo (t * 12 + r)) w)) : wpX_neededLock post (up, ln, lr, va, lo, st, ie, fn, cr, iw, ui) (nI t) (nI r) w := by
  unfold wpX_neededLock
  refine rt_Xls ?_
  refine And.intro (vp_in_nI (by omega) (by decide)) (fun x ex => ?_)
  rw [rt_ck (by omega)] at ex
  subst ex
  by_cases h0 : lo (t * 12 + r) = 0
  · rw [show rt_nd (lo (t * 12 + r)) w = w from if_pos h0] at hp
    exact br_t h0 hp
  · by_cases h1 : lo (t * 12 + r) = w
    · rw [show rt_nd (lo (t * 12 + r)) w = w from (if_neg h0).trans (if_pos h1)] at hp
      exact br_f h0 (br_t h1 hp)
    · rw [show rt_nd (lo (t * 12 + r)) w = 3 from (if_neg h0).trans (if_neg h1)] at hp
      exact br_f h0 (br_f h1 hp)
end
theorem rt_Xtk {post : SX → Prop} {up ln lr w : Int32} {va lo st ie fn cr iw ui : Nat → Int32} {t r : Nat} (ht : t < 4) (hr : r < 12)
    (hp : post (up, ln, lr, va, upd lo (t * 12 + r) (rt_nd (lo (t * 12 + r)) w), st, ie, fn, cr, iw, ui)) : wpX_takeLock post (up, ln, lr, va, lo, st, ie, fn, cr, iw, ui) (nI t) (nI r) w := by
  unfold wpX_takeLock
  refine rt_Xls ?_
  refine rt_Xnd ht hr ?_
  refine And.intro (vp_in_nI (by omega) (by decide)) (fun a ea => ?_)
  rw [rt_ck (by omega)] at ea
  subst ea
  exact hp
theorem rt_Ynd {post : Int32 → Prop} {nu : Int64} {dn se w : Int32} {va st cn lk iw cr ui : Nat → Int32} {le : Nat → Int64} {t r : Nat} (ht : t < 4) (hr : r < 12)
    (hp : post (rt_nd (lk (t * 12 + r)) w)) : wpY_wanted post (nu, dn, se, va, st, cn, le, lk, iw, cr, ui) (nI t) (nI r) w := by
  unfold wpY_wanted
  refine And.intro (rt_i48 ht hr) (fun x ex => ?_)
  rw [rt_c48 ht hr] at ex
  subst ex
  by_cases h0 : lk (t * 12 + r) = 0
  · rw [show rt_nd (lk (t * 12 + r)) w = w from if_pos h0] at hp
    exact br_t h0 hp
  · by_cases h1 : lk (t * 12 + r) = w
    · rw [show rt_nd (lk (t * 12 + r)) w = w from (if_neg h0).trans (if_pos h1)] at hp
      exact br_f h0 (br_t h1 hp)
    · rw [show rt_nd (lk (t * 12 + r)) w = 3 from (if_neg h0).trans (if_neg h1)] at hp
      exact br_f h0 (br_f h1 hp)
section
variable {L t r : Nat} {up ln lr dn se w : Int32} {va lo st ie fn cr iw ui cn lk : Nat → Int32} {nu : Int64} {le : Nat → Int64}
theorem rt_Y25 {post J : Int32 → Prop} {x1 x2 x3 : Int32} {i : Nat} (h : J (nI (i + 1))) : wY_granted_25 post J x1 x2 x3 (nI i) nu dn se va st cn le lk iw cr ui := by
  unfold wY_granted_25 wY_granted_41
  refine br_t rfl (fun y ey => ?_)
  rw [ey, nI_1]
  exact h
theorem rt_GR (C : rt_C L lo st ie fn cr cn le lk) (ht : t < 4) (hr : r < 12) : ∀ m i : Nat, i + m = 4 →
    ∃ a : Int32, (∀ post : Int32 → Prop, post a → wX_isLockGranted_12 post (nI t) (nI r) w up ln lr va lo st ie fn cr iw ui (m + 1) (nI i)) ∧
      (∀ post : Int32 → Prop, post a → wY_granted_3 post (nI t) (nI r) w nu dn se va st cn le lk iw cr ui (m + 1) (nI i)) := by
  intro m
  induction m with
  | zero =>
    intro i hi
    exact ⟨1, fun post hp => br_t (rt_g4 (by omega)) hp, fun post hp => br_t (rt_g4 (by omega)) hp⟩
  | succ m ih =>
    intro i hi
    have hi4 : i < 4 := by omega
    have hin : vp_in (nI (i * 12 + r)) 48 := vp_in_nI (by omega) (by decide)
    have hc : (nI (i * 12 + r)).toNatClampNeg = i * 12 + r := rt_ck (by omega)
    obtain ⟨a, hX, hY⟩ := ih (i + 1) (by omega)
    by_cases hit : i = t
    · subst hit
      refine ⟨a, fun post hp => ?_, fun post hp => ?_⟩
      · refine br_f (rt_n4 hi4) ?_
        refine rt_Xls ?_
        refine And.intro hin (fun x ex => br_t rfl (fun y ey => ?_))
        rw [ey, nI_1]
        exact hX post hp
      · refine br_f (rt_n4 hi4) (br_t rfl ?_)
        exact rt_Y25 (hY post hp)
    · have hne : ¬ nI i = nI t := fun z => hit ((nI_eq (by omega) (by omega)).1 z)
      by_cases hs : st i = 0
      · have hlo := ((C i hi4).1 hs).2.2 r hr
        refine ⟨a, fun post hp => ?_, fun post hp => ?_⟩
        · refine br_f (rt_n4 hi4) ?_
          refine rt_Xls ?_
          refine And.intro hin (fun x ex => ?_)
          rw [hc, hlo] at ex
          refine br_f hne (br_t ex (fun y ey => ?_))
          rw [ey, nI_1]
          exact hX post hp
        · refine br_f (rt_n4 hi4) (br_f hne ⟨rt_i4 hi4, br_t (rt_cs (by omega) hs) ?_⟩)
          exact rt_Y25 (hY post hp)
      · have hlk := ((C i hi4).2 hs).2.2 r hr
        have hcl : lk (nI i * 12 + nI r).toNatClampNeg = lo (i * 12 + r) := by rw [rt_c48 hi4 hr]; exact hlk
        by_cases z0 : lo (i * 12 + r) = 0
        · refine ⟨a, fun post hp => ?_, fun post hp => ?_⟩
          · refine br_f (rt_n4 hi4) ?_
            refine rt_Xls ?_
            refine And.intro hin (fun x ex => ?_)
            rw [hc, z0] at ex
            refine br_f hne (br_t ex (fun y ey => ?_))
            rw [ey, nI_1]
            exact hX post hp
          · refine br_f (rt_n4 hi4) (br_f hne ⟨rt_i4 hi4, br_f (rt_cn (by omega) hs) ⟨rt_i48 hi4 hr, ?_⟩⟩)
            unfold wY_granted_41
            refine br_t (hcl.trans z0) (fun y ey => ?_)
            rw [ey, nI_1]
            exact hY post hp
        · by_cases zw : lo (i * 12 + r) = w
          · by_cases z3 : w = 3
            · refine ⟨0, fun post hp => ?_, fun post hp => ?_⟩
              · refine br_f (rt_n4 hi4) ?_
                refine rt_Xls ?_
                refine And.intro hin (fun x ex => ?_)
                rw [hc] at ex
                subst ex
                exact br_f hne (br_f z0 (br_t zw (br_t (zw.trans z3) hp)))
              · refine br_f (rt_n4 hi4) (br_f hne ⟨rt_i4 hi4, br_f (rt_cn (by omega) hs) ⟨rt_i48 hi4 hr, ?_⟩⟩)
                unfold wY_granted_41
                rw [hcl]
                exact br_f z0 (br_t zw (br_t z3 hp))
            · refine ⟨a, fun post hp => ?_, fun post hp => ?_⟩
              · refine br_f (rt_n4 hi4) ?_
                refine rt_Xls ?_
                refine And.intro hin (fun x ex => ?_)
                rw [hc] at ex
                subst ex
                refine br_f hne (br_f z0 (br_t zw (br_f (fun z => z3 (zw.symm.trans z)) (fun y ey => ?_))))
                rw [ey, nI_1]
                exact hX post hp
              · refine br_f (rt_n4 hi4) (br_f hne ⟨rt_i4 hi4, br_f (rt_cn (by omega) hs) ⟨rt_i48 hi4 hr, ?_⟩⟩)
                unfold wY_granted_41
                rw [hcl]
                refine br_f z0 (br_t zw (br_f z3 (fun y ey => ?_)))
                rw [ey, nI_1]
                exact hY post hp
          · refine ⟨0, fun post hp => ?_, fun post hp => ?_⟩
            · refine br_f (rt_n4 hi4) ?_
              refine rt_Xls ?_
              refine And.intro hin (fun x ex => ?_)
              rw [hc] at ex
              subst ex
              exact br_f hne (br_f z0 (br_f zw hp))
            · refine br_f (rt_n4 hi4) (br_f hne ⟨rt_i4 hi4, br_f (rt_cn (by omega) hs) ⟨rt_i48 hi4 hr, ?_⟩⟩)
              unfold wY_granted_41
              rw [hcl]
              exact br_f z0 (br_f zw hp)
theorem rt_RF (hu : rt_U up dn) (C : rt_C L lo st ie fn cr cn le lk) (p q : Int32) :
    ∃ a : Int32, (∀ post : Int32 → Prop, post a → wpX_refusalOfAccess post (up, ln, lr, va, lo, st, ie, fn, cr, iw, ui) p q w) ∧ (∀ post : Int32 → Prop, post a → wpY_refusal post (nu, dn, se, va, st, cn, le, lk, iw, cr, ui) p q w) ∧
      (a = 0 → ∃ t r, t < 4 ∧ r < 12 ∧ p = nI t ∧ q = nI r ∧ up = 1 ∧ dn = 0 ∧ st t = 1) := by
  rcases rt_rng q 12 (by decide) with hq | ⟨r, hr, rfl⟩
  · refine ⟨5, fun post hp => ?_, fun post hp => ?_, fun z => absurd z rt_50⟩
    · unfold wpX_refusalOfAccess
      refine rt_Xrn hq ?_
      exact br_t rfl hp
    · unfold wpY_refusal
      rcases rt_rng p 4 (by decide) with h | ⟨t, ht, rfl⟩
      · refine rt_Yan h ?_
        exact br_t rfl hp
      · refine rt_Ya4 ht ?_
        refine br_f rt_10 ?_
        refine rt_Yan hq ?_
        exact br_t rfl hp
  · rcases rt_Pex st p hu with h | ⟨t, ht, rfl, rfl, rfl⟩ | ⟨t, ht, rfl, rfl, rfl, h0⟩ | ⟨t, ht, rfl, rfl, rfl, h0, h1⟩ | ⟨t, ht, rfl, rfl, rfl, h0, h1⟩
    · refine ⟨5, fun post hp => ?_, fun post hp => ?_, fun z => absurd z rt_50⟩
      · unfold wpX_refusalOfAccess
        refine rt_Xry hr ?_
        refine br_f rt_10 ?_
        refine rt_Xop5 h ?_
        exact br_f rt_50 hp
      · unfold wpY_refusal
        refine rt_Yan h ?_
        exact br_t rfl hp
    · refine ⟨1, fun post hp => ?_, fun post hp => ?_, fun z => absurd z rt_10⟩
      · unfold wpX_refusalOfAccess
        refine rt_Xry hr ?_
        refine br_f rt_10 ?_
        refine rt_Xop1 ht rfl ?_
        exact br_f rt_10 hp
      · unfold wpY_refusal
        refine rt_Ya4 ht ?_
        refine br_f rt_10 ?_
        refine rt_Ya12 hr ?_
        exact br_f rt_10 (br_f rt_10 hp)
    · have h1 : ¬ st t = 1 := fun z => rt_10 (z.symm.trans h0)
      refine ⟨2, fun post hp => ?_, fun post hp => ?_, fun z => absurd z rt_20⟩
      · unfold wpX_refusalOfAccess
        refine rt_Xry hr ?_
        refine br_f rt_10 ?_
        refine rt_Xop2 ht rfl h1 ?_
        exact br_f rt_20 hp
      · unfold wpY_refusal
        refine rt_Ya4 ht ?_
        refine br_f rt_10 ?_
        refine rt_Ya12 hr ?_
        exact br_f rt_10 (br_t rfl ⟨rt_i4 ht, br_f (rt_cn (by omega) h1) hp⟩)
    · refine ⟨2, fun post hp => ?_, fun post hp => ?_, fun z => absurd z rt_20⟩
      · unfold wpX_refusalOfAccess
        refine rt_Xry hr ?_
        refine br_f rt_10 ?_
        refine rt_Xop2 ht rfl h1 ?_
        exact br_f rt_20 hp
      · unfold wpY_refusal
        refine rt_Ya4 ht ?_
        refine br_f rt_10 ?_
        refine rt_Ya12 hr ?_
        exact br_f rt_10 (br_t rfl ⟨rt_i4 ht, br_f (rt_cn (by omega) h1) hp⟩)
    · have hlk := ((C t ht).2 h0).2.2 r hr
      obtain ⟨a, hX, hY⟩ := rt_GR (up := 1) (ln := ln) (lr := lr) (va := va) (iw := iw) (ui := ui) (nu := nu) (dn := 0) (se := se) (w := rt_nd (lo (t * 12 + r)) w) C ht hr 4 0 rfl
      have kX : ∀ post : Int32 → Prop, ((a = 0 → post 3) ∧ (¬ a = 0 → post 0)) → wpX_refusalOfAccess post (1, ln, lr, va, lo, st, ie, fn, cr, iw, ui) (nI t) (nI r) w := by
        intro post hp
        unfold wpX_refusalOfAccess
        refine rt_Xry hr ?_
        refine br_f rt_10 ?_
        refine rt_Xop0 ht rfl h1 ?_
        refine br_t rfl ?_
        unfold wpX_isLockGranted
        refine rt_Xnd ht hr ?_
        exact Exists.intro 5 (hX _ hp)
      have kY : ∀ post : Int32 → Prop, ((a = 0 → post 3) ∧ (¬ a = 0 → post 0)) → wpY_refusal post (nu, 0, se, va, st, cn, le, lk, iw, cr, ui) (nI t) (nI r) w := by
        intro post hp
        unfold wpY_refusal
        refine rt_Ya4 ht ?_
        refine br_f rt_10 ?_
        refine rt_Ya12 hr ?_
        refine br_f rt_10 (br_t rfl ⟨rt_i4 ht, br_t (rt_cs (by omega) h1) ?_⟩)
        refine rt_Ynd ht hr ?_
        rw [hlk]
        exact Exists.intro 5 (hY _ hp)
      by_cases ha : a = 0
      · exact ⟨3, fun post hp => kX post (br_t ha hp), fun post hp => kY post (br_t ha hp), fun z => absurd z rt_30⟩
      · exact ⟨0, fun post hp => kX post (br_f ha hp), fun post hp => kY post (br_f ha hp), fun _ => ⟨t, r, ht, hr, rfl, rfl, rfl, rfl, h1⟩⟩
theorem rt_Clock (x : Int32) (C : rt_C L lo st ie fn cr cn le lk) (ht : t < 4) (hr : r < 12) (h0 : ¬ st t = 0) :
    rt_C L (upd lo (t * 12 + r) x) st ie fn cr cn le (upd lk (t * 12 + r) x) := by
  intro s hs
  by_cases e : s = t
  · subst e
    obtain ⟨c, F, l⟩ := (C s hs).2 h0
    refine ⟨fun z => absurd z h0, fun _ => ⟨c, F, fun q hq => ?_⟩⟩
    by_cases e : q = r
    · subst e
      rw [rt_us, rt_us]
    · rw [rt_un _ _ _ _ (by omega), rt_un _ _ _ _ (by omega)]
      exact l q hq
  · exact rt_Tf (C s hs) (Nat.le_refl _) rfl rfl rfl (fun _ _ => rfl) rfl rfl (fun q hq => rt_un _ _ _ _ (by omega)) (fun q hq => rt_un _ _ _ _ (by omega))
end
theorem i_vc_read {k : Nat} {u : SX} {v : SY} (I : i_Rel k u v) (hk : k + 4 ≤ 2048) (v1 : Int32) (v2 : Int32) : wpX_read (fun r u' => wpY_read (fun r' v' => r' = r ∧ i_Rel (k + 4) u' v') v v1 v2) u v1 v2 := by
  have J := i_up I
  obtain ⟨L, up, dn, lr, va, lo, st, ie, fn, cr, iw, ui, cn, lk, le, rfl, rfl, hu, hL, C⟩ := rt_el I
  unfold wpX_read wpY_read
  obtain ⟨a, hX, hY, h⟩ := rt_RF (ln := nI L) (lr := lr) (va := va) (iw := iw) (ui := ui) (nu := lN L) (se := lr) (w := 1) hu C v1 v2
  refine hX _ ?_
  by_cases ha : a = 0
  · obtain ⟨t, r, ht, hr, rfl, rfl, rfl, rfl, h1⟩ := h ha
    have h0 : ¬ st t = 0 := by rw [h1]; exact rt_10
    have hlk := ((C t ht).2 h0).2.2 r hr
    refine br_t ha ?_
    refine rt_Xtk ht hr ?_
    refine And.intro (rt_i12 hr) (fun x ex => ?_)
    subst ex
    refine hY _ ?_
    refine br_t ha ?_
    refine rt_Ynd ht hr ?_
    refine And.intro (rt_i48 ht hr) (fun b eb => ⟨rt_i12 hr, fun y ey => ?_⟩)
    rw [rt_c48 ht hr, hlk] at eb
    subst eb ey
    exact ⟨rfl, rt_mk (.inl ⟨rfl, rfl⟩) (by omega) (rt_Clock _ C ht hr h0)⟩
  · refine br_f ha ?_
    refine hY _ ?_
    exact br_f ha ⟨rfl, J⟩
