/-- the lock that the first c changes of t ask for on record r -/
def rt_ask (cr iw : Nat → Int32) (t r : Nat) : Nat → Int32
  | 0 => 0
  | c + 1 => if cr (t * 10 + c) = nI r then (if iw (t * 10 + c) = 0 then (if rt_ask cr iw t r c = 0 then 2 else rt_ask cr iw t r c) else 3) else rt_ask cr iw t r c
def rt_A (cr iw : Nat → Int32) (t c b : Nat) (f g : Nat → Int32) : Prop := (∀ r, r < b → g (t * 12 + r) = rt_ask cr iw t r c) ∧ ∀ j, (j < t * 12 ∨ t * 12 + 12 ≤ j) → g j = f j
section
variable {cr iw : Nat → Int32} {t r c : Nat}
theorem rt_ask_o (h : ¬ cr (t * 10 + c) = nI r) : rt_ask cr iw t r (c + 1) = rt_ask cr iw t r c := if_neg h
theorem rt_ask_3 (h : cr (t * 10 + c) = nI r) (h1 : ¬ iw (t * 10 + c) = 0) : rt_ask cr iw t r (c + 1) = 3 := (if_pos h).trans (if_neg h1)
theorem rt_ask_2 (h : cr (t * 10 + c) = nI r) (h1 : iw (t * 10 + c) = 0) (h2 : rt_ask cr iw t r c = 0) : rt_ask cr iw t r (c + 1) = 2 := (if_pos h).trans ((if_pos h1).trans (if_pos h2))
theorem rt_ask_k (h : cr (t * 10 + c) = nI r) (h1 : iw (t * 10 + c) = 0) (h2 : ¬ rt_ask cr iw t r c = 0) : rt_ask cr iw t r (c + 1) = rt_ask cr iw t r c := (if_pos h).trans ((if_pos h1).trans (if_neg h2))
theorem rt_As {f g : Nat → Int32} {x : Int32} (A : rt_A cr iw t c 12 f g) (hr : r < 12) (h : cr (t * 10 + c) = nI r) (hx : x = rt_ask cr iw t r (c + 1)) : rt_A cr iw t (c + 1) 12 f (upd g (t * 12 + r) x) := by
  refine ⟨fun q hq => ?_, fun j hj => ?_⟩
  · by_cases e : q = r
    · subst e
      rw [rt_us]
      exact hx
    · rw [rt_un _ _ _ _ (by omega), A.1 q hq]
      exact (rt_ask_o (fun z => e ((nI_eq (by omega) (by omega)).1 (z.symm.trans h)))).symm
  · rw [rt_un _ _ _ _ (by omega)]
    exact A.2 j hj
theorem rt_Ak {f g : Nat → Int32} (A : rt_A cr iw t c 12 f g) (hr : r < 12) (h : cr (t * 10 + c) = nI r) (h1 : iw (t * 10 + c) = 0) (h2 : ¬ rt_ask cr iw t r c = 0) : rt_A cr iw t (c + 1) 12 f g := by
  refine ⟨fun q hq => ?_, A.2⟩
  rw [A.1 q hq]
  by_cases e : q = r
  · subst e
    exact (rt_ask_k h h1 h2).symm
  · exact (rt_ask_o (fun z => e ((nI_eq (by omega) (by omega)).1 (z.symm.trans h)))).symm
end
theorem rt_Xkl {post : SX → Prop} {up ln lr : Int32} {va st ie fn cr iw ui lo0 : Nat → Int32} {t c : Nat} (ht : t < 4) (hc : c ≤ 10) (e1 : ie t = nI c) (wr : ∀ i, i < c → ∃ r, r < 12 ∧ cr (t * 10 + i) = nI r)
    (hp : ∀ lo', rt_A cr iw t c 12 lo0 lo' → post (up, ln, lr, va, lo', st, ie, fn, cr, iw, ui)) : ∀ (m i : Nat) (lo : Nat → Int32), i + m = c → rt_A cr iw t i 12 lo0 lo → wX_keepLocksOfChanges_7 post (nI t) up ln lr (m + 1) (nI i) va lo st ie fn cr iw ui := by
  have ck : (nI t).toNatClampNeg = t := rt_ck (by omega)
  intro m
  induction m with
  | zero =>
    intro i lo hi A
    have : i = c := hi
    subst this
    refine And.intro (rt_i4 ht) (br_t ?_ (hp lo A))
    rw [ck, e1]
    exact nI_le (Nat.le_refl _) (by omega)
  | succ m ih =>
    intro i lo hi A
    obtain ⟨r, hr, er⟩ := wr i (by omega)
    have h40 : vp_in (nI (t * 10 + i)) 40 := vp_in_nI (by omega) (by decide)
    have h48 : vp_in (nI (t * 12 + r)) 48 := vp_in_nI (by omega) (by decide)
    have c40 : (nI (t * 10 + i)).toNatClampNeg = t * 10 + i := rt_ck (by omega)
    have c48 : (nI (t * 12 + r)).toNatClampNeg = t * 12 + r := rt_ck (by omega)
    refine And.intro (rt_i4 ht) (br_f ?_ ?_)
    · rw [ck, e1]
      exact nI_ge (by omega) (by omega)
    · refine rt_Xcs ?_
      refine And.intro h40 ?_
      rw [c40, er]
      refine rt_Xls ?_
      refine And.intro h40 ?_
      by_cases hw : iw (t * 10 + i) = 0
      · refine br_t hw ⟨h48, ?_⟩
        by_cases h0 : lo (t * 12 + r) = 0
        · refine br_t (by rw [c48]; exact h0) ⟨h48, fun a ea x ex => ?_⟩
          rw [c48] at ea
          rw [nI_1] at ex
          subst ea ex
          exact ih (i + 1) _ (by omega) (rt_As A hr er (rt_ask_2 er hw ((A.1 r hr).symm.trans h0)).symm)
        · refine br_f (by rw [c48]; exact h0) (fun x ex => ?_)
          rw [nI_1] at ex
          subst ex
          exact ih (i + 1) _ (by omega) (rt_Ak A hr er hw (fun z => h0 ((A.1 r hr).trans z)))
      · refine br_f hw ⟨h48, fun a ea x ex => ?_⟩
        rw [c48] at ea
        rw [nI_1] at ex
        subst ea ex
        exact ih (i + 1) _ (by omega) (rt_As A hr er (rt_ask_3 er hw).symm)
theorem rt_Xkeep {post : SX → Prop} {up ln lr : Int32} {va lo st ie fn cr iw ui : Nat → Int32} {t c : Nat} (ht : t < 4) (hc : c ≤ 10) (e1 : ie t = nI c) (wr : ∀ i, i < c → ∃ r, r < 12 ∧ cr (t * 10 + i) = nI r)
    (hp : ∀ lo', rt_A cr iw t c 12 lo lo' → post (up, ln, lr, va, lo', st, ie, fn, cr, iw, ui)) : wpX_keepLocksOfChanges post (up, ln, lr, va, lo, st, ie, fn, cr, iw, ui) (nI t) := by
  unfold wpX_keepLocksOfChanges
  refine rt_Xdrop ht (fun lo' z => ?_)
  exact Exists.intro (c + 1) (rt_Xkl ht hc e1 wr hp c 0 lo' (by omega) ⟨fun r hr => z.1 r (by omega) hr, fun j hj => z.2 j (by omega)⟩)
section
variable {nu : Int64} {dn se : Int32} {va st iw cr ui cn lk : Nat → Int32} {le : Nat → Int64} {t c r : Nat}
theorem rt_Y49 {post : Int32 → Prop} {J : Int32 → Int32 → Prop} {x1 x2 : Int32} {j : Nat} (hj : j < 40) (h2 : iw j = 0 → J 2 (nI (j + 1))) (h3 : ¬ iw j = 0 → J 3 (nI (j + 1))) : wY_asked_49 post J x1 x2 (nI j) nu dn se va st cn le lk iw cr ui := by
  unfold wY_asked_49
  refine And.intro (vp_in_nI hj (by decide)) ?_
  rw [rt_ck (by omega)]
  refine br_c (fun h x ex => ?_) (fun h x ex => ?_)
  · rw [ex, nI_1]; exact h2 h
  · rw [ex, nI_1]; exact h3 h
theorem rt_Yal (ht : t < 4) (hc : c ≤ 10) (e2 : cn t = nI c) (post : Int32 → Prop) (hp : post (rt_ask cr iw t r c)) : ∀ m i : Nat, i + m = c → wY_asked_8 post (nI t) (nI r) nu dn se va st cn le lk iw cr ui (m + 1) (rt_ask cr iw t r i) (nI (t * 10 + i)) := by
  have eq : nI t * 10 + cn (nI t).toNatClampNeg = nI (t * 10 + c) := by rw [rt_ck (by omega), e2, rt_s10]
  intro m
  induction m with
  | zero =>
    intro i hi
    have : i = c := hi
    subst this
    refine And.intro (rt_i4 ht) (br_t ?_ hp)
    rw [eq]
    exact nI_le (Nat.le_refl _) (by omega)
  | succ m ih =>
    intro i hi
    have h40 : vp_in (nI (t * 10 + i)) 40 := vp_in_nI (by omega) (by decide)
    have c40 : (nI (t * 10 + i)).toNatClampNeg = t * 10 + i := rt_ck (by omega)
    have ih' := ih (i + 1) (by omega)
    refine And.intro (rt_i4 ht) (br_f ?_ ⟨h40, ?_⟩)
    · rw [eq]
      exact nI_ge (by omega) (by omega)
    · by_cases er : cr (t * 10 + i) = nI r
      · refine br_t (by rw [c40]; exact er) ⟨h40, ?_⟩
        by_cases hw : iw (t * 10 + i) = 0
        · refine br_t (by rw [c40]; exact hw) ?_
          by_cases h0 : rt_ask cr iw t r i = 0
          · rw [rt_ask_2 er hw h0] at ih'
            exact br_t h0 (rt_Y49 (by omega) (fun _ => ih') (fun z => absurd hw z))
          · rw [rt_ask_k er hw h0] at ih'
            refine br_f h0 (fun x ex => ?_)
            rw [ex, nI_1]
            exact ih'
        · refine br_f (by rw [c40]; exact hw) ?_
          rw [rt_ask_3 er hw] at ih'
          exact rt_Y49 (by omega) (fun z => absurd z hw) (fun _ => ih')
      · refine br_f (by rw [c40]; exact er) (fun x ex => ?_)
        rw [rt_ask_o er] at ih'
        rw [ex, nI_1]
        exact ih'
theorem rt_Yask (ht : t < 4) (hc : c ≤ 10) (e2 : cn t = nI c) {post : Int32 → Prop} (hp : post (rt_ask cr iw t r c)) : wpY_asked post (nu, dn, se, va, st, cn, le, lk, iw, cr, ui) (nI t) (nI r) := by
  intro x ex
  have e : x = nI (t * 10 + 0) := by
    rw [ex]
    exact (Int32.ofNat_mul t 10).symm
  subst e
  exact Exists.intro (c + 1) (rt_Yal ht hc e2 post hp c 0 (by omega))
theorem rt_Ypl {post : Int32 → SY → Prop} {lk0 : Nat → Int32} (ht : t < 4) (hc : c ≤ 10) (e2 : cn t = nI c) (hp : ∀ lk', rt_A cr iw t c 12 lk0 lk' → post 0 (nu, dn, se, va, upd st t 2, cn, le, lk', iw, cr, ui)) :
    ∀ (m i : Nat) (lk : Nat → Int32), i + m = 12 → rt_A cr iw t c i lk0 lk → wY_prepare_45 post (nI t) nu dn se (m + 1) (nI i) va st cn le lk iw cr ui := by
  intro m
  induction m with
  | zero =>
    intro i lk hi A
    have : i = 12 := hi
    subst this
    refine br_t (rt_g12 rfl) ⟨rt_i4 ht, fun a ea => ?_⟩
    rw [rt_ck (by omega)] at ea
    subst ea
    exact hp lk A
  | succ m ih =>
    intro i lk hi A
    refine br_f (rt_n12 (by omega)) ?_
    refine rt_Yask ht hc e2 ?_
    refine And.intro (rt_i48 ht (by omega)) (fun a ea x ex => ?_)
    rw [rt_c48 ht (by omega)] at ea
    rw [nI_1] at ex
    subst ea ex
    refine ih (i + 1) _ (by omega) ⟨fun q hq => ?_, fun j hj => ?_⟩
    · by_cases e : q = i
      · subst e
        exact rt_us _ _ _
      · rw [rt_un _ _ _ _ (by omega)]
        exact A.1 q (by omega)
    · rw [rt_un _ _ _ _ (by omega)]
      exact A.2 j hj
end
theorem rt_Cprep {L t c : Nat} {lo st ie fn cr cn lk iw lo' lk' : Nat → Int32} {le : Nat → Int64} (C : rt_C L lo st ie fn cr cn le lk) (h0 : ¬ st t = 0) (A : rt_A cr iw t c 12 lo lo') (B : rt_A cr iw t c 12 lk lk') :
    rt_C L lo' (upd st t 2) ie fn cr cn le lk' := by
  intro s hs
  by_cases e : s = t
  · subst e
    obtain ⟨c, F, _⟩ := (C s hs).2 h0
    exact ⟨fun w => absurd (rt_us st s 2 ▸ w) rt_20, fun _ => ⟨c, F, fun r hr => (B.1 r hr).trans (A.1 r hr).symm⟩⟩
  · exact rt_Tf (C s hs) (Nat.le_refl _) (rt_un _ _ _ _ e) rfl rfl (fun _ _ => rfl) rfl rfl (fun r hr => A.2 _ (by omega)) (fun r hr => B.2 _ (by omega))
theorem i_vc_prepare {k : Nat} {u : SX} {v : SY} (I : i_Rel k u v) (hk : k + 4 ≤ 2048) (v1 : Int32) : wpX_prepare (fun r u' => wpY_prepare (fun r' v' => r' = r ∧ i_Rel (k + 4) u' v') v v1) u v1 := by
  have J := i_up I
  obtain ⟨L, up, dn, lr, va, lo, st, ie, fn, cr, iw, ui, cn, lk, le, rfl, rfl, hu, hL, C⟩ := rt_el I
  unfold wpX_prepare wpY_prepare
  rcases rt_Pex st v1 hu with h | ⟨t, ht, rfl, rfl, rfl⟩ | ⟨t, ht, rfl, rfl, rfl, h0⟩ | ⟨t, ht, rfl, rfl, rfl, h0, h1⟩ | ⟨t, ht, rfl, rfl, rfl, h0, h1⟩
  · refine rt_Xop5 h ?_
    refine br_f rt_50 ?_
    refine rt_Yan h ?_
    exact br_t rfl ⟨rfl, J⟩
  · refine rt_Xop1 ht rfl ?_
    refine br_f rt_10 ?_
    refine rt_Ya4 ht ?_
    exact br_f rt_10 (br_f rt_10 ⟨rfl, J⟩)
  · have h1 : ¬ st t = 1 := fun z => rt_10 (z.symm.trans h0)
    refine rt_Xop2 ht rfl h1 ?_
    refine br_f rt_20 ?_
    refine rt_Ya4 ht ?_
    exact br_f rt_10 (br_t rfl ⟨rt_i4 ht, br_f (rt_cn (by omega) h1) ⟨rfl, J⟩⟩)
  · refine rt_Xop2 ht rfl h1 ?_
    refine br_f rt_20 ?_
    refine rt_Ya4 ht ?_
    exact br_f rt_10 (br_t rfl ⟨rt_i4 ht, br_f (rt_cn (by omega) h1) ⟨rfl, J⟩⟩)
  · obtain ⟨⟨c, hc, e1, e2, wr⟩, _, _⟩ := (C t ht).2 h0
    refine rt_Xop0 ht rfl h1 ?_
    by_cases hc0 : c = 0
    · subst hc0
      refine br_t rfl ⟨rt_i4 ht, br_t (rt_cs (by omega) e1) ?_⟩
      refine rt_Ya4 ht ?_
      exact br_f rt_10 (br_t rfl ⟨rt_i4 ht, br_t (rt_cs (by omega) h1) ⟨rt_i4 ht, br_t (rt_cs (by omega) e2) ⟨rfl, J⟩⟩⟩)
    · have z1 : ¬ ie t = 0 := by rw [e1]; exact nI_ne0 (by omega) (by omega)
      have z2 : ¬ cn t = 0 := by rw [e2]; exact nI_ne0 (by omega) (by omega)
      refine br_t rfl ⟨rt_i4 ht, br_f (rt_cn (by omega) z1) ?_⟩
      refine rt_Xkeep ht hc e1 wr (fun lo' A => ?_)
      refine And.intro (rt_i4 ht) (fun a ea => ?_)
      rw [rt_ck (by omega)] at ea
      subst ea
      refine rt_Ya4 ht ?_
      refine br_f rt_10 (br_t rfl ⟨rt_i4 ht, br_t (rt_cs (by omega) h1) ⟨rt_i4 ht, br_f (rt_cn (by omega) z2) (Exists.intro 13 ?_)⟩⟩)
      refine rt_Ypl (lk0 := lk) ht hc e2 (fun lk' B => ?_) 12 0 lk rfl ⟨fun r hr => absurd hr (by omega), fun _ _ => rfl⟩
      exact ⟨rfl, rt_mk (.inl ⟨rfl, rfl⟩) (by omega) (rt_Cprep C h0 A B)⟩
