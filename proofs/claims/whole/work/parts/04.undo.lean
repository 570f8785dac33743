def rt_uv (va iw ui : Nat → Int32) (j r : Nat) : Nat → Int32 := if iw j = 0 then upd va r (va r - ui j) else upd va r (ui j)
theorem rt_pl : ∀ c : Nat, c < 11 → nI c - 1 < nI c := by decide +kernel
theorem rt_m1 (c : Nat) : nI c + (-1) = nI c - 1 := (Int32.sub_eq_add_neg (a := nI c) (b := 1)).symm
theorem rt_Xcs {post : Int32 → Prop} {u : SX} {t i : Nat} (hp : post (nI (t * 10 + i))) : wpX_changeSlot post u (nI t) (nI i) := by
  obtain ⟨up, ln, lr, va, lo, st, ie, fn, cr, iw, ui⟩ := u
  rw [← rt_s10] at hp
  exact hp
theorem rt_Xls {post : Int32 → Prop} {u : SX} {t i : Nat} (hp : post (nI (t * 12 + i))) : wpX_lockSlot post u (nI t) (nI i) := by
  obtain ⟨up, ln, lr, va, lo, st, ie, fn, cr, iw, ui⟩ := u
  rw [← rt_s12] at hp
  exact hp
theorem rt_Xundo {post : SX → Prop} {up ln lr x : Int32} {va lo st ie fn cr iw ui : Nat → Int32} {j r : Nat} (hx : x = nI j) (hj : j < 40) (hr : r < 12) (er : cr j = nI r)
    (hp : post (up, ln, lr, rt_uv va iw ui j r, lo, st, ie, fn, cr, iw, ui)) : wpX_undo post (up, ln, lr, va, lo, st, ie, fn, cr, iw, ui) x := by
  subst hx
  have hi : vp_in (nI j) 40 := vp_in_nI hj (by decide)
  unfold wpX_undo
  refine And.intro hi (fun y ey => ⟨hi, ?_⟩)
  rw [rt_ck (by omega), er] at ey
  subst ey
  by_cases h : iw j = 0
  · refine br_t (rt_cs (by omega) h) ⟨rt_i12 hr, hi, rt_i12 hr, fun a ea => ?_⟩
    rw [rt_ck (by omega), rt_ck (by omega)] at ea
    subst ea
    have e : rt_uv va iw ui j r = upd va r (va r - ui j) := if_pos h
    rw [e] at hp
    exact hp
  · refine br_f (rt_cn (by omega) h) ⟨hi, rt_i12 hr, fun a ea => ?_⟩
    rw [rt_ck (by omega), rt_ck (by omega)] at ea
    subst ea
    have e : rt_uv va iw ui j r = upd va r (ui j) := if_neg h
    rw [e] at hp
    exact hp
section
variable {up ln lr dn se : Int32} {lo st ie fn cr iw ui lk : Nat → Int32} {nu : Int64} {le : Nat → Int64} {t n : Nat}
theorem rt_ul (ht : t < 4) : ∀ m c : Nat, c = n + m → c ≤ 10 → (∀ i, i < c → ∃ r, r < 12 ∧ cr (t * 10 + i) = nI r) → ∀ va cn : Nat → Int32, cn t = nI c →
    ∃ va' cn' : Nat → Int32, cn' t = nI n ∧ (∀ s, ¬ s = t → cn' s = cn s) ∧
      (∀ post : SX → Prop, post (up, ln, lr, va', lo, st, upd ie t (nI n), fn, cr, iw, ui) → wX_undoDownTo_9 post (nI t) (nI n) (m + 1) (nI c - 1) up ln lr va lo st ie fn cr iw ui) ∧
      (∀ post : SY → Prop, post (nu, dn, se, va', st, cn', le, lk, iw, cr, ui) → wY_undo_0 post (nI t) (nI n) nu dn se (m + 1) va st cn le lk iw cr ui) := by
  intro m
  induction m with
  | zero =>
    intro c hc hc10 w va cn hcn
    have e : c = n := hc
    subst e
    refine ⟨va, cn, hcn, fun _ _ => rfl, fun post hp => ?_, fun post hp => ?_⟩
    · refine br_t (rt_pl c (by omega)) ⟨rt_i4 ht, fun a ea => ?_⟩
      rw [rt_ck (by omega)] at ea
      subst ea
      exact hp
    · refine And.intro (rt_i4 ht) (br_t ?_ hp)
      rw [rt_ck (by omega), hcn]
      exact nI_le (Nat.le_refl _) (by omega)
  | succ m ih =>
    intro c hc hc10 w va cn hcn
    obtain ⟨d, rfl⟩ : ∃ d, c = d + 1 := ⟨n + m, hc⟩
    obtain ⟨r, hr, er⟩ := w d (by omega)
    have hi : vp_in (nI (t * 10 + d)) 40 := vp_in_nI (by omega) (by decide)
    obtain ⟨va', cn', h1, h2, hX, hY⟩ := ih d (by omega) (by omega) (fun i hi => w i (by omega)) (rt_uv va iw ui (t * 10 + d) r) (upd cn t (nI d)) (rt_us _ _ _)
    refine ⟨va', cn', h1, fun s hs => (h2 s hs).trans (rt_un _ _ _ _ hs), fun post hp => ?_, fun post hp => ?_⟩
    · rw [nI_pred]
      refine br_f (nI_nlt (by omega) (by omega)) ?_
      refine rt_Xcs ?_
      refine rt_Xundo rfl (by omega) hr er ?_
      intro x ex
      rw [rt_m1] at ex
      subst ex
      exact hX post hp
    · refine And.intro (rt_i4 ht) (br_f ?_ ⟨rt_i4 ht, rt_i4 ht, fun cn1 e1 => ⟨rt_i4 ht, fun x3 e3 => ?_⟩⟩)
      · rw [rt_ck (by omega), hcn]
        exact nI_ge (by omega) (by omega)
      · rw [rt_ck (by omega), hcn, nI_pred] at e1
        subst e1
        rw [rt_ck (by omega), rt_us, rt_s10] at e3
        subst e3
        refine ⟨hi, fun x4 e4 => ⟨hi, ?_⟩⟩
        rw [rt_ck (by omega), er] at e4
        subst e4
        by_cases h : iw (t * 10 + d) = 0
        · refine br_t (rt_cs (by omega) h) ⟨rt_i12 hr, hi, rt_i12 hr, fun a ea => ?_⟩
          rw [rt_ck (by omega), rt_ck (by omega)] at ea
          have e : rt_uv va iw ui (t * 10 + d) r = upd va r (va r - ui (t * 10 + d)) := if_pos h
          rw [← e] at ea
          subst ea
          exact hY post hp
        · refine br_f (rt_cn (by omega) h) ⟨hi, rt_i12 hr, fun a ea => ?_⟩
          rw [rt_ck (by omega), rt_ck (by omega)] at ea
          have e : rt_uv va iw ui (t * 10 + d) r = upd va r (ui (t * 10 + d)) := if_neg h
          rw [← e] at ea
          subst ea
          exact hY post hp
theorem rt_UN {va cn : Nat → Int32} {c : Nat} (ht : t < 4) (hn : n ≤ c) (hc : c ≤ 10) (e1 : ie t = nI c) (e2 : cn t = nI c) (w : ∀ i, i < c → ∃ r, r < 12 ∧ cr (t * 10 + i) = nI r) :
    ∃ va' cn' : Nat → Int32, cn' t = nI n ∧ (∀ s, ¬ s = t → cn' s = cn s) ∧
      (∀ post : SX → Prop, post (up, ln, lr, va', lo, st, upd ie t (nI n), fn, cr, iw, ui) → wpX_undoDownTo post (up, ln, lr, va, lo, st, ie, fn, cr, iw, ui) (nI t) (nI n)) ∧
      (∀ post : SY → Prop, post (nu, dn, se, va', st, cn', le, lk, iw, cr, ui) → wpY_undo post (nu, dn, se, va, st, cn, le, lk, iw, cr, ui) (nI t) (nI n)) := by
  obtain ⟨va', cn', h1, h2, hX, hY⟩ := rt_ul (up := up) (ln := ln) (lr := lr) (lo := lo) (st := st) (ie := ie) (fn := fn) (iw := iw) (ui := ui) (nu := nu) (dn := dn) (se := se) (le := le) (lk := lk) (n := n) ht (c - n) c (by omega) hc w va cn e2
  refine ⟨va', cn', h1, h2, fun post hp => ?_, fun post hp => ?_⟩
  · refine And.intro (rt_i4 ht) (fun x ex => Exists.intro (c - n + 1) ?_)
    rw [rt_ck (by omega), e1] at ex
    subst ex
    exact hX post hp
  · exact Exists.intro (c - n + 1) (hY post hp)
end
theorem rt_Cback {L t n c : Nat} {lo st ie fn cr cn lk cn' : Nat → Int32} {le : Nat → Int64} (C : rt_C L lo st ie fn cr cn le lk) (hn : n ≤ c) (hc : c ≤ 10) (w : ∀ i, i < c → ∃ r, r < 12 ∧ cr (t * 10 + i) = nI r)
    (h0 : ¬ st t = 0) (h1 : cn' t = nI n) (h2 : ∀ s, ¬ s = t → cn' s = cn s) : rt_C L lo st (upd ie t (nI n)) fn cr cn' le lk := by
  intro s hs
  by_cases e : s = t
  · subst e
    obtain ⟨_, F, l⟩ := (C s hs).2 h0
    exact ⟨fun z => absurd z h0, fun _ => ⟨⟨n, by omega, rt_us _ _ _, h1, fun i hi => w i (by omega)⟩, F, l⟩⟩
  · exact rt_Tf (C s hs) (Nat.le_refl _) rfl (rt_un _ _ _ _ e) rfl (fun _ _ => rfl) (h2 s e) rfl (fun _ _ => rfl) (fun _ _ => rfl)
theorem i_vc_back {k : Nat} {u : SX} {v : SY} (I : i_Rel k u v) (hk : k + 4 ≤ 2048) (v1 : Int32) (v2 : Int32) : wpX_back (fun r u' => wpY_back (fun r' v' => r' = r ∧ i_Rel (k + 4) u' v') v v1 v2) u v1 v2 := by
  have J := i_up I
  obtain ⟨L, up, dn, lr, va, lo, st, ie, fn, cr, iw, ui, cn, lk, le, rfl, rfl, hu, hL, C⟩ := rt_el I
  unfold wpX_back wpY_back
  rcases rt_Pex st v1 hu with h | ⟨t, ht, rfl, rfl, rfl⟩ | ⟨t, ht, rfl, rfl, rfl, h0⟩ | ⟨t, ht, rfl, rfl, rfl, h0, h1⟩ | ⟨t, ht, rfl, rfl, rfl, h0, h1⟩
  · refine rt_Xop5 h ?_
    refine br_f rt_50 ?_
    refine rt_Yan h ?_
    exact br_t rfl ⟨rfl, J⟩
  · refine rt_Xop1 ht rfl ?_
    refine br_f rt_10 ?_
    refine rt_Ya4 ht ?_
    exact br_f rt_10 (br_f rt_10 ⟨rfl, J⟩)
  · have h1 : ¬ st t = 1 := fun z => rt_10 (z.symm.trans h0)
    refine rt_Xop2 ht rfl h1 ?_
    refine br_f rt_20 ?_
    refine rt_Ya4 ht ?_
    exact br_f rt_10 (br_t rfl ⟨rt_i4 ht, br_f (rt_cn (by omega) h1) ⟨rfl, J⟩⟩)
  · refine rt_Xop2 ht rfl h1 ?_
    refine br_f rt_20 ?_
    refine rt_Ya4 ht ?_
    exact br_f rt_10 (br_t rfl ⟨rt_i4 ht, br_f (rt_cn (by omega) h1) ⟨rfl, J⟩⟩)
  · obtain ⟨⟨c, hc, e1, e2, w⟩, _, _⟩ := (C t ht).2 h0
    refine rt_Xop0 ht rfl h1 ?_
    refine br_t rfl ?_
    by_cases hn : v2 < 0
    · refine br_t hn ?_
      refine rt_Ya4 ht ?_
      exact br_f rt_10 (br_t rfl ⟨rt_i4 ht, br_t (rt_cs (by omega) h1) (br_t hn ⟨rfl, J⟩)⟩)
    · obtain ⟨n, hn31, rfl⟩ := nI_of hn
      refine br_f hn ⟨rt_i4 ht, ?_⟩
      by_cases hnc : n ≤ c
      · have q1 : nI n ≤ ie (nI t).toNatClampNeg := by rw [rt_ck (by omega), e1]; exact nI_le hnc (by omega)
        have q2 : nI n ≤ cn (nI t).toNatClampNeg := by rw [rt_ck (by omega), e2]; exact nI_le hnc (by omega)
        obtain ⟨va', cn', g1, g2, hX, hY⟩ := rt_UN (up := 1) (ln := nI L) (lr := lr) (lo := lo) (st := st) (fn := fn) (iw := iw) (ui := ui) (nu := lN L) (dn := 0) (se := lr) (le := le) (lk := lk) (va := va) ht hnc hc e1 e2 w
        refine br_t q1 ?_
        refine hX _ ?_
        refine rt_Ya4 ht ?_
        refine br_f rt_10 (br_t rfl ⟨rt_i4 ht, br_t (rt_cs (by omega) h1) (br_f hn ⟨rt_i4 ht, br_t q2 ?_⟩)⟩)
        refine hY _ ?_
        exact ⟨rfl, rt_mk (.inl ⟨rfl, rfl⟩) (by omega) (rt_Cback C hnc hc w h0 g1 g2)⟩
      · have q1 : ¬ nI n ≤ ie (nI t).toNatClampNeg := by rw [rt_ck (by omega), e1]; exact nI_ge (by omega) hn31
        have q2 : ¬ nI n ≤ cn (nI t).toNatClampNeg := by rw [rt_ck (by omega), e2]; exact nI_ge (by omega) hn31
        refine br_f q1 ?_
        refine rt_Ya4 ht ?_
        exact br_f rt_10 (br_t rfl ⟨rt_i4 ht, br_t (rt_cs (by omega) h1) (br_f hn ⟨rt_i4 ht, br_f q2 ⟨rfl, J⟩⟩)⟩)
theorem i_vc_abort {k : Nat} {u : SX} {v : SY} (I : i_Rel k u v) (hk : k + 4 ≤ 2048) (v1 : Int32) : wpX_abort (fun r u' => wpY_abort (fun r' v' => r' = r ∧ i_Rel (k + 4) u' v') v v1) u v1 := by
  have J := i_up I
  obtain ⟨L, up, dn, lr, va, lo, st, ie, fn, cr, iw, ui, cn, lk, le, rfl, rfl, hu, hL, C⟩ := rt_el I
  unfold wpX_abort wpY_abort
  rcases rt_Pex st v1 hu with h | ⟨t, ht, rfl, rfl, rfl⟩ | ⟨t, ht, rfl, rfl, rfl, h0⟩ | ⟨t, ht, rfl, rfl, rfl, h0, _⟩ | ⟨t, ht, rfl, rfl, rfl, h0, _⟩
  · refine rt_Xth5 h ?_
    refine br_f rt_50 ?_
    refine rt_Yen5 h ?_
    exact br_f rt_50 ⟨rfl, J⟩
  · refine rt_Xth1 ht rfl ?_
    refine br_f rt_10 ?_
    refine rt_Yen1 ht rfl ?_
    exact br_f rt_10 ⟨rfl, J⟩
  · refine rt_Xth2 ht rfl h0 ?_
    refine br_f rt_20 ?_
    refine rt_Yen2 ht rfl h0 ?_
    exact br_f rt_20 ⟨rfl, J⟩
  all_goals
    obtain ⟨⟨c, hc, e1, e2, w⟩, _, _⟩ := (C t ht).2 h0
    obtain ⟨va', cn', g1, g2, hX, hY⟩ := rt_UN (n := 0) (up := 1) (ln := nI L) (lr := lr) (lo := lo) (st := st) (fn := fn) (iw := iw) (ui := ui) (nu := lN L) (dn := 0) (se := lr) (le := le) (lk := lk) (va := va) ht (Nat.zero_le _) hc e1 e2 w
    refine rt_Xth0 ht rfl h0 ?_
    refine br_t rfl ?_
    refine hX _ ?_
    refine rt_Xend ht (fun lo' z => ?_)
    refine rt_Yen0 ht rfl h0 ?_
    refine br_t rfl ?_
    refine hY _ ?_
    refine And.intro (rt_i4 ht) (fun a ea => ?_)
    rw [rt_ck (by omega)] at ea
    subst ea
    refine ⟨rfl, rt_mk (.inl ⟨rfl, rfl⟩) (by omega) (rt_Cend C z (rt_us _ _ _) (fun s hs => ?_) g2)⟩
    rw [rt_un _ _ _ _ hs, rt_un _ _ _ _ hs]
def rt_Zf (t : Nat) (f : Nat → Int32) : Nat → Int32 := fun j => if t * 12 ≤ j ∧ j < t * 12 + 12 then 0 else f j
theorem rt_ZF (t : Nat) (f : Nat → Int32) : rt_Z t 0 f (rt_Zf t f) := ⟨fun r _ h2 => if_pos ⟨by omega, by omega⟩, fun j hj => if_neg (by omega)⟩
theorem rt_Ze {t : Nat} {f g : Nat → Int32} (z : rt_Z t 0 f g) : g = rt_Zf t f := by
  funext j
  by_cases h : t * 12 ≤ j ∧ j < t * 12 + 12
  · have e := z.1 (j - t * 12) (Nat.zero_le _) (by omega)
    have e2 : t * 12 + (j - t * 12) = j := by omega
    rw [e2] at e
    exact e.trans (if_pos h).symm
  · exact (z.2 j (by omega)).trans (if_neg h).symm
section
variable {L : Nat} {ln lr se : Int32} {cr iw ui lk : Nat → Int32} {nu : Int64} {le : Nat → Int64}
theorem rt_CR : ∀ m i : Nat, i + m = 4 → ∀ va lo st ie fn cn : Nat → Int32, rt_C L lo st ie fn cr cn le lk →
    ∃ va' lo' st' ie' fn' cn' : Nat → Int32, rt_C L lo' st' ie' fn' cr cn' le lk ∧
      (∀ post : Int32 → SX → Prop, post 1 (0, ln, lr, va', lo', st', ie', fn', cr, iw, ui) → wX_crash_11 post (m + 1) (nI i) 1 ln lr va lo st ie fn cr iw ui) ∧
      (∀ post : Int32 → SY → Prop, post 1 (nu, 1, se, va', st', cn', le, lk, iw, cr, ui) → wY_crash_11 post (m + 1) (nI i) nu 0 se va st cn le lk iw cr ui) := by
  intro m
  induction m with
  | zero =>
    intro i hi va lo st ie fn cn C
    exact ⟨va, lo, st, ie, fn, cn, C, fun post hp => br_t (rt_g4 (by omega)) hp, fun post hp => br_t (rt_g4 (by omega)) hp⟩
  | succ m ih =>
    intro i hi va lo st ie fn cn C
    have ht : i < 4 := by omega
    by_cases h1 : st i = 1
    · have h0 : ¬ st i = 0 := by rw [h1]; exact rt_10
      obtain ⟨⟨c, hc, e1, e2, w⟩, _, _⟩ := (C i ht).2 h0
      obtain ⟨va1, cn1, g1, g2, hX1, hY1⟩ := rt_UN (n := 0) (up := 1) (ln := ln) (lr := lr) (lo := lo) (st := st) (fn := fn) (iw := iw) (ui := ui) (nu := nu) (dn := 0) (se := se) (le := le) (lk := lk) (va := va) ht (Nat.zero_le _) hc e1 e2 w
      have C1 : rt_C L (rt_Zf i lo) (upd st i 0) (upd (upd ie i (nI 0)) i 0) (upd fn i 0) cr cn1 le lk :=
        rt_Cend C (rt_ZF i lo) (rt_us _ _ _) (fun s hs => by rw [rt_un _ _ _ _ hs, rt_un _ _ _ _ hs]) g2
      obtain ⟨va', lo', st', ie', fn', cn', C', hX, hY⟩ := ih (i + 1) (by omega) va1 _ _ _ _ _ C1
      refine ⟨va', lo', st', ie', fn', cn', C', fun post hp => ?_, fun post hp => ?_⟩
      · refine br_f (rt_n4 ht) ⟨rt_i4 ht, br_t (rt_cs (by omega) h1) ?_⟩
        refine hX1 _ ?_
        refine rt_Xend ht (fun lo2 z => ?_)
        have := rt_Ze z
        subst this
        intro x ex
        rw [nI_1] at ex
        subst ex
        exact hX post hp
      · refine br_f (rt_n4 ht) ⟨rt_i4 ht, br_t (rt_cs (by omega) h1) ?_⟩
        refine hY1 _ ?_
        refine And.intro (rt_i4 ht) (fun a ea x ex => ?_)
        rw [rt_ck (by omega)] at ea
        rw [nI_1] at ex
        subst ea ex
        exact hY post hp
    · obtain ⟨va', lo', st', ie', fn', cn', C', hX, hY⟩ := ih (i + 1) (by omega) va lo st ie fn cn C
      refine ⟨va', lo', st', ie', fn', cn', C', fun post hp => ?_, fun post hp => ?_⟩
      · refine br_f (rt_n4 ht) ⟨rt_i4 ht, br_f (rt_cn (by omega) h1) (fun x ex => ?_)⟩
        rw [nI_1] at ex
        subst ex
        exact hX post hp
      · refine br_f (rt_n4 ht) ⟨rt_i4 ht, br_f (rt_cn (by omega) h1) (fun x ex => ?_)⟩
        rw [nI_1] at ex
        subst ex
        exact hY post hp
end
theorem i_vc_crash {k : Nat} {u : SX} {v : SY} (I : i_Rel k u v) (hk : k + 4 ≤ 2048) : wpX_crash (fun r u' => wpY_crash (fun r' v' => r' = r ∧ i_Rel (k + 4) u' v') v) u := by
  have J := i_up I
  obtain ⟨L, up, dn, lr, va, lo, st, ie, fn, cr, iw, ui, cn, lk, le, rfl, rfl, hu, hL, C⟩ := rt_el I
  unfold wpX_crash wpY_crash
  rcases hu with ⟨rfl, rfl⟩ | ⟨rfl, rfl⟩
  · obtain ⟨va', lo', st', ie', fn', cn', C', hX, hY⟩ := rt_CR (ln := nI L) (lr := lr) (se := lr) (iw := iw) (ui := ui) (nu := lN L) 4 0 rfl va lo st ie fn cn C
    refine br_f rt_10 (Exists.intro 5 ?_)
    refine hX _ ?_
    refine br_t rfl (Exists.intro 5 ?_)
    refine hY _ ?_
    exact ⟨rfl, rt_mk (.inr ⟨rfl, rfl⟩) (by omega) C'⟩
  · refine br_t rfl ?_
    exact br_f rt_10 ⟨rfl, J⟩
