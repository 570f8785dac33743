theorem rt_sub {a b : Nat} (h : b ≤ a) : nI a - nI b = nI (a - b) := by
  obtain ⟨d, rfl⟩ : ∃ d, a = d + b := ⟨a - b, by omega⟩
  rw [← nI_add, Int32.add_sub_cancel, Nat.add_sub_cancel]
theorem rt_le30 {a : Nat} (h : a < 2 ^ 31) : nI a ≤ 30 ↔ a ≤ 30 := nI_leI (b := 30) h (by decide)
theorem rt_lle30 {a : Nat} (h : a < 2 ^ 31) : lN a ≤ 30 ↔ a ≤ 30 := lN_le (b := 30) h (by decide)
section
variable {L t r : Nat} {up lr dn se w : Int32} {va lo st ie fn cr iw ui cn lk : Nat → Int32} {le : Nat → Int64}
theorem rt_NX (C : rt_C L lo st ie fn cr cn le lk) (hL : L ≤ 2048) : ∀ m i : Nat, i + m = 4 →
    ∃ a : Int32, (∀ post : Int32 → Prop, post a → wX_isNextNumberTooHigh_9 post (nI (L + 1)) up (nI L) lr va lo st ie fn cr iw ui (m + 1) (nI i)) ∧
      (∀ post : Int32 → Prop, post a → wY_full_15 post (lN L) dn se va st cn le lk iw cr ui (m + 1) (nI i)) := by
  intro m
  induction m with
  | zero =>
    intro i hi
    exact ⟨0, fun post hp => br_t (rt_g4 (by omega)) hp, fun post hp => br_t (rt_g4 (by omega)) hp⟩
  | succ m ih =>
    intro i hi
    have hi4 : i < 4 := by omega
    have hin : vp_in (nI i) 4 := rt_i4 hi4
    have hc : (nI i).toNatClampNeg = i := rt_ck (by omega)
    obtain ⟨a, hX, hY⟩ := ih (i + 1) (by omega)
    by_cases hs : st i = 0
    · have hf := ((C i hi4).1 hs).2.1
      refine ⟨a, fun post hp => ?_, fun post hp => ?_⟩
      · refine br_f (rt_n4 hi4) ⟨hin, br_t (rt_cs (by omega) hf) (fun y ey => ?_)⟩
        rw [ey, nI_1]
        exact hX post hp
      · refine br_f (rt_n4 hi4) ⟨hin, br_t (rt_cs (by omega) hs) (fun y ey => ?_)⟩
        rw [ey, nI_1]
        exact hY post hp
    · obtain ⟨_, ⟨F, hF, f1, f2⟩, _⟩ := (C i hi4).2 hs
      by_cases hF0 : F = 0
      · subst hF0
        refine ⟨a, fun post hp => ?_, fun post hp => ?_⟩
        · refine br_f (rt_n4 hi4) ⟨hin, br_t (rt_cs (by omega) f1) (fun y ey => ?_)⟩
          rw [ey, nI_1]
          exact hX post hp
        · have q : le (nI i).toNatClampNeg ≤ 0 := by
            rw [hc, f2]
            exact (lN_le (a := 0) (b := 0) (by decide) (by decide)).2 (Nat.le_refl _)
          refine br_f (rt_n4 hi4) ⟨hin, br_f (rt_cn (by omega) hs) ⟨hin, br_t q (fun y ey => ?_)⟩⟩
          rw [ey, nI_1]
          exact hY post hp
      · have g1 : ¬ fn (nI i).toNatClampNeg = 0 := by
          rw [hc, f1]
          exact nI_ne0 (by omega) (by omega)
        have g2 : ¬ le (nI i).toNatClampNeg ≤ 0 := by
          rw [hc, f2]
          intro z
          have := (lN_le (a := F) (b := 0) (by omega) (by decide)).1 z
          omega
        have s1 : nI (L + 1) - fn (nI i).toNatClampNeg = nI (L + 1 - F) := by rw [hc, f1, rt_sub (by omega)]
        have s2 : lN L + 1 - le (nI i).toNatClampNeg = lN (L + 1 - F) := by rw [hc, f2, lN_1, lN_sub (by omega)]
        by_cases hb : L + 1 - F ≤ 30
        · refine ⟨a, fun post hp => ?_, fun post hp => ?_⟩
          · have q : nI (L + 1) - fn (nI i).toNatClampNeg ≤ 30 := by rw [s1]; exact (rt_le30 (by omega)).2 hb
            refine br_f (rt_n4 hi4) ⟨hin, br_f g1 ⟨hin, br_t q (fun y ey => ?_)⟩⟩
            rw [ey, nI_1]
            exact hX post hp
          · have q : lN L + 1 - le (nI i).toNatClampNeg ≤ 30 := by rw [s2]; exact (rt_lle30 (by omega)).2 hb
            refine br_f (rt_n4 hi4) ⟨hin, br_f (rt_cn (by omega) hs) ⟨hin, br_f g2 ⟨hin, br_t q (fun y ey => ?_)⟩⟩⟩
            rw [ey, nI_1]
            exact hY post hp
        · refine ⟨1, fun post hp => ?_, fun post hp => ?_⟩
          · have q : ¬ nI (L + 1) - fn (nI i).toNatClampNeg ≤ 30 := by rw [s1]; exact fun z => hb ((rt_le30 (by omega)).1 z)
            exact br_f (rt_n4 hi4) ⟨hin, br_f g1 ⟨hin, br_f q hp⟩⟩
          · have q : ¬ lN L + 1 - le (nI i).toNatClampNeg ≤ 30 := by rw [s2]; exact fun z => hb ((rt_lle30 (by omega)).1 z)
            exact br_f (rt_n4 hi4) ⟨hin, br_f (rt_cn (by omega) hs) ⟨hin, br_f g2 ⟨hin, br_f q hp⟩⟩⟩
theorem rt_RC (hu : rt_U up dn) (C : rt_C L lo st ie fn cr cn le lk) (hL : L ≤ 2048) (p q : Int32) :
    ∃ a : Int32, (∀ post : Int32 → Prop, post a → wpX_refusalOfChange post (up, nI L, lr, va, lo, st, ie, fn, cr, iw, ui) p q w) ∧
      ((¬ a = 0 ∧ ∀ (post : Int32 → SY → Prop) (x3 x4 : Int32), post a (lN L, dn, se, va, st, cn, le, lk, iw, cr, ui) → wY_change_13 post p q x3 x4 w q p (lN L) dn se va st cn le lk iw cr ui) ∨
       (a = 0 ∧ ∃ t r c, t < 4 ∧ r < 12 ∧ c < 10 ∧ p = nI t ∧ q = nI r ∧ up = 1 ∧ dn = 0 ∧ st t = 1 ∧ ie t = nI c ∧ cn t = nI c ∧
         ∀ (post : Int32 → SY → Prop) (x3 x4 : Int32), ((x4 = 0 → wY_change_59 post p q x3 x4 2 q p (p * 12 + q) (lN L) dn se va st cn le lk iw cr ui) ∧ (¬ x4 = 0 → wY_change_59 post p q x3 x4 3 q p (p * 12 + q) (lN L) dn se va st cn le lk iw cr ui)) →
           wY_change_13 post p q x3 x4 w q p (lN L) dn se va st cn le lk iw cr ui)) := by
  obtain ⟨a, hX, hY, h⟩ := rt_RF (ln := nI L) (lr := lr) (va := va) (iw := iw) (ui := ui) (nu := lN L) (se := se) (w := w) hu C p q
  by_cases ha : a = 0
  · obtain ⟨t, r, ht, hr, rfl, rfl, rfl, rfl, h1⟩ := h ha
    have h0 : ¬ st t = 0 := by rw [h1]; exact rt_10
    obtain ⟨⟨c, hc, e1, e2, wr⟩, _, _⟩ := (C t ht).2 h0
    by_cases hc10 : c = 10
    · subst hc10
      refine ⟨4, fun post hp => ?_, .inl ⟨rt_40, fun post x3 x4 hp => ?_⟩⟩
      · unfold wpX_refusalOfChange
        refine hX _ ?_
        refine br_t ha ⟨rt_i4 ht, br_t ?_ hp⟩
        rw [rt_ck (by omega), e1]
        exact nI_le (a := 10) (Nat.le_refl _) (by decide)
      · unfold wY_change_13
        refine hY _ ?_
        refine br_t ha ?_
        unfold wpY_full
        refine And.intro (rt_i4 ht) (br_t ?_ ?_)
        · rw [rt_ck (by omega), e2]
          exact rfl
        · exact br_f rt_10 hp
    · have q1 : ¬ (10 : Int32) ≤ ie (nI t).toNatClampNeg := by
        rw [rt_ck (by omega), e1]
        exact nI_ge (b := 10) (by omega) (by decide)
      have q2 : ¬ cn (nI t).toNatClampNeg = 10 := by
        rw [rt_ck (by omega), e2]
        exact fun z => hc10 ((nI_eq (b := 10) (by omega) (by decide)).1 z)
      obtain ⟨b, kX, kY⟩ := rt_NX (up := 1) (lr := lr) (va := va) (iw := iw) (ui := ui) (dn := 0) (se := se) C hL 4 0 rfl
      have jX : ∀ post : Int32 → Prop, ((b = 0 → post 0) ∧ (¬ b = 0 → post 4)) → wpX_refusalOfChange post (1, nI L, lr, va, lo, st, ie, fn, cr, iw, ui) (nI t) (nI r) w := by
        intro post hp
        unfold wpX_refusalOfChange
        refine hX _ ?_
        refine br_t ha ⟨rt_i4 ht, br_f q1 ?_⟩
        intro x ex
        rw [nI_1] at ex
        subst ex
        exact Exists.intro 5 (kX _ hp)
      by_cases hb : b = 0
      · refine ⟨0, fun post hp => jX post (br_t hb hp), .inr ⟨rfl, t, r, c, ht, hr, by omega, rfl, rfl, rfl, rfl, h1, e1, e2, fun post x3 x4 hp => ?_⟩⟩
        unfold wY_change_13
        refine hY _ ?_
        refine br_t ha ?_
        unfold wpY_full
        refine And.intro (rt_i4 ht) (br_f q2 (Exists.intro 5 (kY _ ?_)))
        exact br_t hb hp
      · refine ⟨4, fun post hp => jX post (br_f hb hp), .inl ⟨rt_40, fun post x3 x4 hp => ?_⟩⟩
        unfold wY_change_13
        refine hY _ ?_
        refine br_t ha ?_
        unfold wpY_full
        refine And.intro (rt_i4 ht) (br_f q2 (Exists.intro 5 (kY _ ?_)))
        exact br_f hb hp
  · refine ⟨a, fun post hp => ?_, .inl ⟨ha, fun post x3 x4 hp => ?_⟩⟩
    · unfold wpX_refusalOfChange
      refine hX _ ?_
      exact br_f ha hp
    · unfold wY_change_13
      refine hY _ ?_
      exact br_f ha hp
end
def rt_ff (fn : Nat → Int32) (t L : Nat) : Nat → Int32 := if fn t = 0 then upd fn t (nI (L + 1)) else fn
def rt_fl (le : Nat → Int64) (t L : Nat) : Nat → Int64 := if le t = 0 then vp_updL le t (lN (L + 1)) else le
theorem rt_Xnote {post : SX → Prop} {up lr x y z : Int32} {va lo st ie fn cr iw ui : Nat → Int32} {t c L : Nat} (ht : t < 4) (hc : c < 10) (e1 : ie t = nI c)
    (hp : post (up, nI (L + 1), lr, va, lo, st, upd ie t (nI (c + 1)), rt_ff fn t L, upd cr (t * 10 + c) x, upd iw (t * 10 + c) (vp_nar .boolean y), upd ui (t * 10 + c) z)) :
    wpX_noteChange post (up, nI L, lr, va, lo, st, ie, fn, cr, iw, ui) (nI t) x y z := by
  have hi : vp_in (nI (t * 10 + c)) 40 := vp_in_nI (by omega) (by decide)
  unfold wpX_noteChange
  refine And.intro (rt_i4 ht) ?_
  rw [rt_ck (by omega), e1]
  refine rt_Xcs ?_
  refine And.intro hi (fun cr' g1 => ⟨hi, fun iw' g2 => ⟨hi, fun ui' g3 => ⟨rt_i4 ht, rt_i4 ht, fun ie' g4 ln' g5 => ⟨rt_i4 ht, ?_⟩⟩⟩⟩)
  rw [rt_ck (by omega)] at g1 g2 g3
  rw [nI_1] at g4 g5
  subst g1 g2 g3 g4 g5
  by_cases h : fn t = 0
  · rw [show rt_ff fn t L = upd fn t (nI (L + 1)) from if_pos h] at hp
    refine br_t h ⟨rt_i4 ht, fun fn' g6 => ?_⟩
    subst g6
    exact hp
  · rw [show rt_ff fn t L = fn from if_neg h] at hp
    exact br_f h hp
section
variable {L t r c : Nat} {dn se w x3 x4 : Int32} {va st iw cr ui cn lk : Nat → Int32} {le : Nat → Int64} {post : Int32 → SY → Prop}
theorem rt_Y59 (ht : t < 4) (hr : r < 12) (hp : wY_change_94 post (nI t) (nI r) x3 x4 (lN (L + 1)) dn se va st cn (rt_fl le t L) (upd lk (t * 12 + r) (rt_nd (lk (t * 12 + r)) w)) iw cr ui) :
    wY_change_59 post (nI t) (nI r) x3 x4 w (nI r) (nI t) (nI t * 12 + nI r) (lN L) dn se va st cn le lk iw cr ui := by
  unfold wY_change_59
  refine rt_Ynd ht hr ?_
  refine And.intro (rt_i48 ht hr) (fun lk' g1 nu' g2 => ⟨rt_i4 ht, ?_⟩)
  rw [rt_c48 ht hr] at g1
  rw [lN_1] at g2
  subst g1 g2
  have ck : (nI t).toNatClampNeg = t := rt_ck (by omega)
  rw [ck]
  by_cases h : le t = 0
  · rw [show rt_fl le t L = vp_updL le t (lN (L + 1)) from if_pos h] at hp
    refine br_t h ⟨rt_i4 ht, fun le' g6 => ?_⟩
    subst g6
    exact hp
  · rw [show rt_fl le t L = le from if_neg h] at hp
    exact br_f h hp
theorem rt_Y94w {nu : Int64} (ht : t < 4) (hr : r < 12) (hc : c < 10) (e : cn t = nI c)
    (hp : post 0 (nu, dn, se, upd va r x3, st, upd cn t (nI (c + 1)), le, lk, upd iw (t * 10 + c) (vp_nar .boolean 1), upd cr (t * 10 + c) (nI r), upd ui (t * 10 + c) (va r))) :
    wY_change_94 post (nI t) (nI r) x3 1 nu dn se va st cn le lk iw cr ui := by
  have hi : vp_in (nI (t * 10 + c)) 40 := vp_in_nI (by omega) (by decide)
  unfold wY_change_94
  refine And.intro (rt_i4 ht) (fun x6 g0 => ⟨rt_i4 ht, rt_i4 ht, fun cn' g1 => ?_⟩)
  rw [rt_ck (by omega), e, rt_s10] at g0
  rw [rt_ck (by omega), e, nI_1] at g1
  subst g0 g1
  refine ⟨hi, fun iw' g2 => ⟨hi, fun cr' g3 => br_f rt_10 ⟨rt_i12 hr, ?_⟩⟩⟩
  rw [rt_ck (by omega)] at g2 g3
  subst g2 g3
  unfold wY_change_155
  refine And.intro hi (fun ui' g4 => br_f rt_10 ⟨rt_i12 hr, fun ro' g5 => ?_⟩)
  rw [rt_ck (by omega), rt_ck (by omega)] at g4
  rw [rt_ck (by omega)] at g5
  subst g4 g5
  exact hp
theorem rt_Y94a {nu : Int64} (ht : t < 4) (hr : r < 12) (hc : c < 10) (e : cn t = nI c)
    (hp : post 0 (nu, dn, se, upd va r (va r + x3), st, upd cn t (nI (c + 1)), le, lk, upd iw (t * 10 + c) (vp_nar .boolean 0), upd cr (t * 10 + c) (nI r), upd ui (t * 10 + c) x3)) :
    wY_change_94 post (nI t) (nI r) x3 0 nu dn se va st cn le lk iw cr ui := by
  have hi : vp_in (nI (t * 10 + c)) 40 := vp_in_nI (by omega) (by decide)
  unfold wY_change_94
  refine And.intro (rt_i4 ht) (fun x6 g0 => ⟨rt_i4 ht, rt_i4 ht, fun cn' g1 => ?_⟩)
  rw [rt_ck (by omega), e, rt_s10] at g0
  rw [rt_ck (by omega), e, nI_1] at g1
  subst g0 g1
  refine ⟨hi, fun iw' g2 => ⟨hi, fun cr' g3 => br_t rfl ?_⟩⟩
  rw [rt_ck (by omega)] at g2 g3
  subst g2 g3
  unfold wY_change_155
  refine And.intro hi (fun ui' g4 => br_t rfl ⟨rt_i12 hr, rt_i12 hr, fun ro' g5 => ?_⟩)
  rw [rt_ck (by omega)] at g4
  rw [rt_ck (by omega)] at g5
  subst g4 g5
  exact hp
end
theorem rt_Cchg {L t r c : Nat} {lo st ie fn cr cn lk : Nat → Int32} {le : Nat → Int64} (x : Int32) (C : rt_C L lo st ie fn cr cn le lk) (hL : L ≤ 2048) (ht : t < 4) (hr : r < 12) (hc : c < 10) (h0 : ¬ st t = 0) (e1 : ie t = nI c) :
    rt_C (L + 1) (upd lo (t * 12 + r) x) st (upd ie t (nI (c + 1))) (rt_ff fn t L) (upd cr (t * 10 + c) (nI r)) (upd cn t (nI (c + 1))) (rt_fl le t L) (upd lk (t * 12 + r) x) := by
  intro s hs
  by_cases e : s = t
  · subst e
    obtain ⟨⟨c', hc', d1, d2, wr⟩, ⟨F, hF, f1, f2⟩, l⟩ := (C s hs).2 h0
    have : c' = c := (nI_eq (by omega) (by omega)).1 (d1.symm.trans e1)
    subst this
    refine ⟨fun z => absurd z h0, fun _ => ⟨⟨c' + 1, by omega, rt_us _ _ _, rt_us _ _ _, fun i hi => ?_⟩, ?_, fun q hq => ?_⟩⟩
    · by_cases e : i = c'
      · subst e
        exact ⟨r, hr, rt_us _ _ _⟩
      · rw [rt_un _ _ _ _ (by omega)]
        exact wr i (by omega)
    · by_cases hF0 : F = 0
      · subst hF0
        refine ⟨L + 1, Nat.le_refl _, ?_, ?_⟩
        · rw [show rt_ff fn s L = upd fn s (nI (L + 1)) from if_pos f1]
          exact rt_us _ _ _
        · rw [show rt_fl le s L = vp_updL le s (lN (L + 1)) from if_pos f2]
          exact rt_uLs _ _ _
      · refine ⟨F, by omega, ?_, ?_⟩
        · rw [show rt_ff fn s L = fn from if_neg (by rw [f1]; exact nI_ne0 (by omega) (by omega))]
          exact f1
        · rw [show rt_fl le s L = le from if_neg (by rw [f2]; exact fun z => hF0 ((lN_eq (b := 0) (by omega) (by decide)).1 z))]
          exact f2
    · by_cases e : q = r
      · subst e
        rw [rt_us, rt_us]
      · rw [rt_un _ _ _ _ (by omega), rt_un _ _ _ _ (by omega)]
        exact l q hq
  · have k1 : rt_ff fn t L s = fn s := by
      unfold rt_ff
      split
      · exact rt_un _ _ _ _ e
      · rfl
    have k2 : rt_fl le t L s = le s := by
      unfold rt_fl
      split
      · exact rt_uLn _ _ _ _ e
      · rfl
    exact rt_Tf (C s hs) (by omega) rfl (rt_un _ _ _ _ e) k1 (fun i hi => rt_un _ _ _ _ (by omega)) (rt_un _ _ _ _ e) k2 (fun q hq => rt_un _ _ _ _ (by omega)) (fun q hq => rt_un _ _ _ _ (by omega))
theorem i_vc_write {k : Nat} {u : SX} {v : SY} (I : i_Rel k u v) (hk : k + 4 ≤ 2048) (v1 : Int32) (v2 : Int32) (v3 : Int32) : wpX_write (fun r u' => wpY_write (fun r' v' => r' = r ∧ i_Rel (k + 4) u' v') v v1 v2 v3) u v1 v2 v3 := by
  have J := i_up I
  obtain ⟨L, up, dn, lr, va, lo, st, ie, fn, cr, iw, ui, cn, lk, le, rfl, rfl, hu, hL, C⟩ := rt_el I
  unfold wpX_write wpY_write wpY_change
  obtain ⟨a, hX, ⟨ha, hY⟩ | ⟨ha, t, r, c, ht, hr, hc, rfl, rfl, rfl, rfl, h1, e1, e2, hY⟩⟩ := rt_RC (lr := lr) (va := va) (iw := iw) (ui := ui) (se := lr) (w := 3) hu C (by omega) v1 v2
  · refine hX _ ?_
    refine br_f ha ?_
    refine br_f rt_10 ?_
    refine hY _ _ _ ?_
    exact ⟨rfl, J⟩
  · have h0 : ¬ st t = 0 := by rw [h1]; exact rt_10
    have hlk := ((C t ht).2 h0).2.2 r hr
    refine hX _ ?_
    refine br_t ha ?_
    refine rt_Xtk ht hr ?_
    refine And.intro (rt_i12 hr) ?_
    refine rt_Xnote ht hc e1 ?_
    refine And.intro (rt_i12 hr) (fun va' g => ?_)
    rw [rt_ck (by omega)] at g
    subst g
    refine br_f rt_10 ?_
    refine hY _ _ _ ?_
    refine br_f rt_10 ?_
    refine rt_Y59 ht hr ?_
    refine rt_Y94w ht hr hc e2 ?_
    rw [hlk, rt_ck (by omega)]
    exact ⟨rfl, rt_mk (.inl ⟨rfl, rfl⟩) (by omega) (rt_Cchg _ C (by omega) ht hr hc h0 e1)⟩
theorem i_vc_add {k : Nat} {u : SX} {v : SY} (I : i_Rel k u v) (hk : k + 4 ≤ 2048) (v1 : Int32) (v2 : Int32) (v3 : Int32) : wpX_add (fun r u' => wpY_add (fun r' v' => r' = r ∧ i_Rel (k + 4) u' v') v v1 v2 v3) u v1 v2 v3 := by
  have J := i_up I
  obtain ⟨L, up, dn, lr, va, lo, st, ie, fn, cr, iw, ui, cn, lk, le, rfl, rfl, hu, hL, C⟩ := rt_el I
  unfold wpX_add wpY_add wpY_change
  obtain ⟨a, hX, ⟨ha, hY⟩ | ⟨ha, t, r, c, ht, hr, hc, rfl, rfl, rfl, rfl, h1, e1, e2, hY⟩⟩ := rt_RC (lr := lr) (va := va) (iw := iw) (ui := ui) (se := lr) (w := 2) hu C (by omega) v1 v2
  · refine hX _ ?_
    refine br_f ha ?_
    refine br_t rfl ?_
    refine hY _ _ _ ?_
    exact ⟨rfl, J⟩
  · have h0 : ¬ st t = 0 := by rw [h1]; exact rt_10
    have hlk := ((C t ht).2 h0).2.2 r hr
    refine hX _ ?_
    refine br_t ha ?_
    refine rt_Xtk ht hr ?_
    refine rt_Xnote ht hc e1 ?_
    refine And.intro (rt_i12 hr) ⟨rt_i12 hr, fun va' g => ?_⟩
    rw [rt_ck (by omega)] at g
    subst g
    refine br_t rfl ?_
    refine hY _ _ _ ?_
    refine br_t rfl ?_
    refine rt_Y59 ht hr ?_
    refine rt_Y94a ht hr hc e2 ?_
    rw [hlk]
    exact ⟨rfl, rt_mk (.inl ⟨rfl, rfl⟩) (by omega) (rt_Cchg _ C (by omega) ht hr hc h0 e1)⟩
