/-! the relation -/
def wc_P (rg ra rb rc : Nat → Int32) : Prop := ∀ j, ra j = rg j &&& 7 ∧ rb j = (rg j >>> ((3 : Int32) &&& 31)) &&& 7 ∧ rc j = (rg j >>> ((6 : Int32) &&& 31)) &&& 7
def i_Rel (_ : Nat) (u : SX) (v : SY) : Prop := ∃ (L c : Nat) (p co st : Int32) (ops rg ns cells row bk ra rb rc : Nat → Int32), L ≤ 24 ∧ c ≤ 29 ∧ (st = 0 ∨ st = 1) ∧ (∀ j, j < 4 * c + 8 → cells j = row j) ∧ wc_P rg ra rb rc ∧ u = (nI L, nI (c + 1), p, co, st, ops, rg, ns, cells, bk) ∧ v = (nI L, nI c, p, st, co, ops, ra, rb, rc, ns, row, bk)
theorem wc_mk (k : Nat) {L c : Nat} {p co st : Int32} {ops rg ns cells row bk ra rb rc : Nat → Int32} (hL : L ≤ 24) (hc : c ≤ 29) (hs : st = 0 ∨ st = 1) (hA : ∀ j, j < 4 * c + 8 → cells j = row j) (hP : wc_P rg ra rb rc) : i_Rel k (nI L, nI (c + 1), p, co, st, ops, rg, ns, cells, bk) (nI L, nI c, p, st, co, ops, ra, rb, rc, ns, row, bk) :=
  ⟨L, c, p, co, st, ops, rg, ns, cells, row, bk, ra, rb, rc, hL, hc, hs, hA, hP, rfl, rfl⟩
theorem i_up {k : Nat} {u : SX} {v : SY} (h : i_Rel k u v) : i_Rel (k + 4) u v := h
theorem wc_00 : (0 : Int32) = 0 &&& 7 ∧ (0 : Int32) = (0 >>> ((3 : Int32) &&& 31)) &&& 7 ∧ (0 : Int32) = (0 >>> ((6 : Int32) &&& 31)) &&& 7 := by decide
theorem wc_P0 : wc_P (fun _ => 0) (fun _ => 0) (fun _ => 0) (fun _ => 0) := fun _ => wc_00
theorem i_vc0 : wpX_init (fun u => wpY_init (fun v => i_Rel 0 u v)) := wc_mk 0 (L := 0) (c := 0) (by omega) (by omega) (Or.inl rfl) (fun _ _ => rfl) wc_P0
theorem wc_PU {rg ra rb rc : Nat → Int32} {L r : Nat} (hP : wc_P rg ra rb rc) (hr : r ≤ 511) : wc_P (upd rg L (nI r)) (upd ra L (nI r &&& 7)) (upd rb L ((nI r >>> ((3 : Int32) &&& 31)) &&& 7)) (upd rc L (nI r >>> ((6 : Int32) &&& 31))) := by
  intro j
  unfold upd
  by_cases e : j = L
  · simp only [if_pos e]
    exact ⟨by trivial, by trivial, wc_hi hr⟩
  · simp only [if_neg e]
    exact hP j
/-! the private methods that only read -/
theorem wc_isX {post : Int32 → Prop} {ln ca p co st : Int32} {ops rg ns cells bk : Nat → Int32} {x : Int32} (h : x < 0 ∨ nI 8 ≤ x) (g : post 0) : wpX_isRegister post (ln, ca, p, co, st, ops, rg, ns, cells, bk) x := by
  show (x < 0 → post 0) ∧ (¬ x < 0 → ((8 ≤ x → post 0) ∧ (¬ 8 ≤ x → post 1)))
  cases h with
  | inl h => exact br_t h g
  | inr h => exact br_c (fun _ => g) (fun _ => br_t h g)
theorem wc_isX1 {post : Int32 → Prop} {ln ca p co st : Int32} {ops rg ns cells bk : Nat → Int32} {r : Nat} (h : r < 8) (g : post 1) : wpX_isRegister post (ln, ca, p, co, st, ops, rg, ns, cells, bk) (nI r) := by
  show (nI r < 0 → post 0) ∧ (¬ nI r < 0 → ((8 ≤ nI r → post 0) ∧ (¬ 8 ≤ nI r → post 1)))
  exact br_f (nI_pos (by omega)) (br_f (nI_ge (b := 8) h (by decide)) g)
theorem wc_isY {post : Int32 → Prop} {ln ca p ov co : Int32} {ops ra rb rc ns row bk : Nat → Int32} {x : Int32} (h : x < 0 ∨ nI 8 ≤ x) (g : post 0) : wpY_isRegister post (ln, ca, p, ov, co, ops, ra, rb, rc, ns, row, bk) x := by
  show (x < 0 → post 0) ∧ (¬ x < 0 → ((7 < x → post 0) ∧ (¬ 7 < x → post 1)))
  refine br_c (fun _ => g) (fun e => ?_)
  obtain ⟨j, hj, rfl⟩ := nI_of e
  have h8 : nI 8 ≤ nI j := h.resolve_left e
  rw [nI_leI (by decide) hj] at h8
  exact br_t (nI_lt (a := 7) (by omega) hj) g
theorem wc_isY1 {post : Int32 → Prop} {ln ca p ov co : Int32} {ops ra rb rc ns row bk : Nat → Int32} {r : Nat} (h : r < 8) (g : post 1) : wpY_isRegister post (ln, ca, p, ov, co, ops, ra, rb, rc, ns, row, bk) (nI r) := by
  show (nI r < 0 → post 0) ∧ (¬ nI r < 0 → ((7 < nI r → post 0) ∧ (¬ 7 < nI r → post 1)))
  exact br_f (nI_pos (by omega)) (br_f (nI_nlt (a := 7) (by omega) (by decide)) g)
theorem wc_wsX {post : Int32 → Prop} {ln p co st : Int32} {ops rg ns cells bk : Nat → Int32} {c d : Nat} (h : d ≤ c) (g : post (nI (4 * (c - d)))) : wpX_windowStart post (ln, nI (c + 1), p, co, st, ops, rg, ns, cells, bk) (nI d) := by
  show post (4 * ((nI (c + 1) - 1) - nI d))
  rw [wc_ws h]
  exact g
theorem wc_wsX0 {post : Int32 → Prop} {ln p co st : Int32} {ops rg ns cells bk : Nat → Int32} {c : Nat} (g : post (nI (4 * c))) : wpX_windowStart post (ln, nI (c + 1), p, co, st, ops, rg, ns, cells, bk) 0 := by
  show post (4 * ((nI (c + 1) - 1) - 0))
  rw [wc_ws0]
  exact g
/-! the methods without a loop -/
theorem i_vc_emit {k : Nat} {u : SX} {v : SY} (I : i_Rel k u v) (hk : k + 4 ≤ 2048) (v1 : Int32) (v2 : Int32) (v3 : Int32) : wpX_emit (fun r u' => wpY_emit (fun r' v' => r' = r ∧ i_Rel (k + 4) u' v') v v1 v2 v3) u v1 v2 v3 := by
  obtain ⟨L, c, p, co, st, ops, rg, ns, cells, row, bk, ra, rb, rc, hL, hc, hs, hA, hP, rfl, rfl⟩ := I
  have J := wc_mk (k + 4) (p := p) (co := co) (ops := ops) (ns := ns) (bk := bk) hL hc hs hA hP
  by_cases h1 : v1 < 0
  · exact br_t h1 (br_t h1 ⟨rfl, J⟩)
  by_cases h2 : 7 < v1
  · exact br_f h1 (br_t h2 (br_f h1 (br_t h2 ⟨rfl, J⟩)))
  by_cases h3 : v2 < 0
  · exact br_f h1 (br_f h2 (br_t h3 (br_f h1 (br_f h2 (br_t h3 ⟨rfl, J⟩)))))
  by_cases h4 : v2 ≤ 511
  · obtain ⟨r, hr, rfl⟩ := nI_of2 (M := 511) (n := 511) (by decide) h3 h4
    by_cases h5 : L < 24
    · have h6 : nI L < 24 := nI_lt (b := 24) h5 (by decide)
      have e : (nI L).toNatClampNeg = L := nI_clamp (by omega)
      have w : vp_in (nI L) 24 := vp_in_nI h5 (by omega)
      refine br_f h1 (br_f h2 (br_f h3 (br_t h4 (br_t h6 ⟨w, nm_r (e' := upd ops L v1) (by rw [e]) ⟨w, nm_r (e' := upd rg L (nI r)) (by rw [e]) ⟨w, nm_r (e' := upd ns L v3) (by rw [e]) (nm_r (nI_1 L) ?_)⟩⟩⟩))))
      exact br_f h1 (br_f h2 (br_f h3 (br_t h4 (br_t h6 ⟨w, nm_r (e' := upd ops L v1) (by rw [e]) ⟨w, nm_r (e' := upd ra L (nI r &&& 7)) (by rw [e]) ⟨w, nm_r (e' := upd rb L ((nI r >>> ((3 : Int32) &&& 31)) &&& 7)) (by rw [e]) ⟨w, nm_r (e' := upd rc L (nI r >>> ((6 : Int32) &&& 31))) (by rw [e]) ⟨w, nm_r (e' := upd ns L v3) (by rw [e]) (nm_r (nI_1 L) ⟨nI_pred L, wc_mk (k + 4) (by omega) hc hs hA (wc_PU hP hr)⟩)⟩⟩⟩⟩⟩))))
    · have h6 : ¬ nI L < 24 := nI_nlt (b := 24) (by omega) (by omega)
      exact br_f h1 (br_f h2 (br_f h3 (br_t h4 (br_f h6 (br_f h1 (br_f h2 (br_f h3 (br_t h4 (br_f h6 ⟨rfl, J⟩)))))))))
  · exact br_f h1 (br_f h2 (br_f h3 (br_f h4 (br_f h1 (br_f h2 (br_f h3 (br_f h4 ⟨rfl, J⟩)))))))
theorem i_vc_drop {k : Nat} {u : SX} {v : SY} (I : i_Rel k u v) (hk : k + 4 ≤ 2048) : wpX_drop (fun r u' => wpY_drop (fun r' v' => r' = r ∧ i_Rel (k + 4) u' v') v) u := by
  obtain ⟨L, c, p, co, st, ops, rg, ns, cells, row, bk, ra, rb, rc, hL, hc, hs, hA, hP, rfl, rfl⟩ := I
  cases L with
  | zero =>
    have J := wc_mk (k + 4) (p := p) (co := co) (ops := ops) (ns := ns) (bk := bk) hL hc hs hA hP
    exact br_f (nI_nlt (a := 0) (b := 0) (by omega) (by omega)) (br_t nI_0 ⟨rfl, J⟩)
  | succ L =>
    have J := wc_mk (k + 4) (L := L) (p := p) (co := co) (ops := ops) (ns := ns) (bk := bk) (by omega) hc hs hA hP
    exact br_t (nI_lt (a := 0) (b := L + 1) (by omega) (by omega)) (nm_r (nI_pred L) (br_f (nI_ne0 (by omega) (by omega)) (nm_r (nI_pred L) ⟨rfl, J⟩)))
theorem i_vc_halted {k : Nat} {u : SX} {v : SY} (I : i_Rel k u v) (hk : k + 4 ≤ 2048) : wpX_halted (fun r => wpY_halted (fun r' => r' = r ∧ i_Rel (k + 4) u v) v) u := by
  have J : i_Rel (k + 4) u v := i_up I
  obtain ⟨L, c, p, co, st, ops, rg, ns, cells, row, bk, ra, rb, rc, hL, hc, hs, hA, hP, rfl, rfl⟩ := I
  exact ⟨wc_b hs, wc_b hs, rfl, J⟩
theorem i_vc_position {k : Nat} {u : SX} {v : SY} (I : i_Rel k u v) (hk : k + 4 ≤ 2048) : wpX_position (fun r => wpY_position (fun r' => r' = r ∧ i_Rel (k + 4) u v) v) u := by
  have J : i_Rel (k + 4) u v := i_up I
  obtain ⟨L, c, p, co, st, ops, rg, ns, cells, row, bk, ra, rb, rc, hL, hc, hs, hA, hP, rfl, rfl⟩ := I
  exact ⟨rfl, J⟩
theorem i_vc_depth {k : Nat} {u : SX} {v : SY} (I : i_Rel k u v) (hk : k + 4 ≤ 2048) : wpX_depth (fun r => wpY_depth (fun r' => r' = r ∧ i_Rel (k + 4) u v) v) u := by
  have J : i_Rel (k + 4) u v := i_up I
  obtain ⟨L, c, p, co, st, ops, rg, ns, cells, row, bk, ra, rb, rc, hL, hc, hs, hA, hP, rfl, rfl⟩ := I
  exact ⟨nI_1 c, J⟩
theorem i_vc_done {k : Nat} {u : SX} {v : SY} (I : i_Rel k u v) (hk : k + 4 ≤ 2048) : wpX_done (fun r => wpY_done (fun r' => r' = r ∧ i_Rel (k + 4) u v) v) u := by
  have J : i_Rel (k + 4) u v := i_up I
  obtain ⟨L, c, p, co, st, ops, rg, ns, cells, row, bk, ra, rb, rc, hL, hc, hs, hA, hP, rfl, rfl⟩ := I
  exact ⟨rfl, J⟩
theorem i_vc_below {k : Nat} {u : SX} {v : SY} (I : i_Rel k u v) (hk : k + 4 ≤ 2048) (v1 : Int32) (v2 : Int32) : wpX_below (fun r => wpY_below (fun r' => r' = r ∧ i_Rel (k + 4) u v) v v1 v2) u v1 v2 := by
  have J : i_Rel (k + 4) u v := i_up I
  obtain ⟨L, c, p, co, st, ops, rg, ns, cells, row, bk, ra, rb, rc, hL, hc, hs, hA, hP, rfl, rfl⟩ := I
  by_cases h1 : v1 < 0
  · exact br_t h1 (br_t h1 ⟨rfl, J⟩)
  obtain ⟨d, hd, rfl⟩ := nI_of h1
  by_cases h2 : c < d
  · exact br_f h1 (br_t (nI_le (a := c + 1) (by omega) hd) (br_f h1 (br_t (nI_lt h2 hd) ⟨rfl, J⟩)))
  have h3 : ¬ nI (c + 1) ≤ nI d := nI_ge (by omega) (by omega)
  have h4 : ¬ nI c < nI d := nI_nlt (by omega) (by omega)
  have hO : (v2 < 0 ∨ nI 8 ≤ v2) → wpX_below (fun r => wpY_below (fun r' => r' = r ∧ i_Rel (k + 4) (nI L, nI (c + 1), p, co, st, ops, rg, ns, cells, bk) (nI L, nI c, p, st, co, ops, ra, rb, rc, ns, row, bk)) (nI L, nI c, p, st, co, ops, ra, rb, rc, ns, row, bk) (nI d) v2) (nI L, nI (c + 1), p, co, st, ops, rg, ns, cells, bk) (nI d) v2 := by
    intro h
    exact br_f h1 (br_f h3 (wc_isX h (br_t rfl (br_f h1 (br_f h4 (wc_isY h (br_t rfl ⟨rfl, J⟩)))))))
  obtain h | h | ⟨r, hr, rfl⟩ := pk_ix v2 (n := 8) (by decide)
  · exact hO (Or.inl h)
  · exact hO (Or.inr h)
  · have e1 : nI (4 * (c - d)) + nI r = nI (4 * (c - d) + r) := nI_add _ _
    have e2 : (4 : Int32) * (nI c - nI d) + nI r = nI (4 * (c - d) + r) := by
      rw [pk_sub (by omega), wc_4, nI_add]
    refine br_f h1 (br_f h3 (wc_isX1 hr (br_f (by decide) (wc_wsX (by omega) ⟨pk_in _ 124 (by omega) e1, ?_⟩))))
    refine br_f h1 (br_f h4 (wc_isY1 hr (br_f (by decide) ⟨pk_in _ 124 (by omega) e2, ?_, J⟩)))
    rw [pk_cl _ e1 (by omega), pk_cl _ e2 (by omega)]
    exact (hA _ (by omega)).symm
theorem i_vc_register {k : Nat} {u : SX} {v : SY} (I : i_Rel k u v) (hk : k + 4 ≤ 2048) (v1 : Int32) : wpX_register (fun r => wpY_register (fun r' => r' = r ∧ i_Rel (k + 4) u v) v v1) u v1 := by
  have J : i_Rel (k + 4) u v := i_up I
  obtain ⟨L, c, p, co, st, ops, rg, ns, cells, row, bk, ra, rb, rc, hL, hc, hs, hA, hP, rfl, rfl⟩ := I
  have h1 : ¬ (0 : Int32) < 0 := by decide
  have h4 : ¬ nI c < (0 : Int32) := nI_pos (by omega)
  unfold wpX_register wpY_register
  dsimp only
  obtain h | h | ⟨r, hr, rfl⟩ := pk_ix v1 (n := 8) (by decide)
  · exact wc_isX (Or.inl h) (br_t rfl (br_f h1 (br_f h4 (wc_isY (Or.inl h) (br_t rfl ⟨rfl, J⟩)))))
  · exact wc_isX (Or.inr h) (br_t rfl (br_f h1 (br_f h4 (wc_isY (Or.inr h) (br_t rfl ⟨rfl, J⟩)))))
  · have e1 : nI (4 * c) + nI r = nI (4 * c + r) := nI_add _ _
    have e2 : (4 : Int32) * (nI c - 0) + nI r = nI (4 * c + r) := by
      rw [Int32.sub_zero, wc_4, nI_add]
    refine wc_isX1 hr (br_f (by decide) (wc_wsX0 ⟨pk_in _ 124 (by omega) e1, ?_⟩))
    refine br_f h1 (br_f h4 (wc_isY1 hr (br_f (by decide) ⟨pk_in _ 124 (by omega) e2, ?_, J⟩)))
    rw [pk_cl _ e1 (by omega), pk_cl _ e2 (by omega)]
    exact (hA _ (by omega)).symm
theorem i_vc_put {k : Nat} {u : SX} {v : SY} (I : i_Rel k u v) (hk : k + 4 ≤ 2048) (v1 : Int32) (v2 : Int32) : wpX_put (fun r u' => wpY_put (fun r' v' => r' = r ∧ i_Rel (k + 4) u' v') v v1 v2) u v1 v2 := by
  have J : i_Rel (k + 4) u v := i_up I
  obtain ⟨L, c, p, co, st, ops, rg, ns, cells, row, bk, ra, rb, rc, hL, hc, hs, hA, hP, rfl, rfl⟩ := I
  unfold wpX_put wpY_put
  dsimp only
  obtain h | h | ⟨r, hr, rfl⟩ := pk_ix v1 (n := 8) (by decide)
  · exact wc_isX (Or.inl h) (br_t rfl (wc_isY (Or.inl h) (br_t rfl ⟨rfl, J⟩)))
  · exact wc_isX (Or.inr h) (br_t rfl (wc_isY (Or.inr h) (br_t rfl ⟨rfl, J⟩)))
  · have e1 : nI (4 * c) + nI r = nI (4 * c + r) := nI_add _ _
    have e2 : (4 : Int32) * nI c + nI r = nI (4 * c + r) := by rw [wc_4, nI_add]
    refine wc_isX1 hr (br_f (by decide) (wc_wsX0 ⟨pk_in _ 124 (by omega) e1, nm_r (e' := upd cells (4 * c + r) v2) (by rw [pk_cl _ e1 (by omega)]) ?_⟩))
    refine wc_isY1 hr (br_f (by decide) ⟨pk_in _ 124 (by omega) e2, nm_r (e' := upd row (4 * c + r) v2) (by rw [pk_cl _ e2 (by omega)]) ⟨rfl, ?_⟩⟩)
    exact wc_mk (k + 4) hL hc hs (wc_ag hA) hP
theorem i_vc_backTo {k : Nat} {u : SX} {v : SY} (I : i_Rel k u v) (hk : k + 4 ≤ 2048) (v1 : Int32) : wpX_backTo (fun r => wpY_backTo (fun r' => r' = r ∧ i_Rel (k + 4) u v) v v1) u v1 := by
  have J : i_Rel (k + 4) u v := i_up I
  obtain ⟨L, c, p, co, st, ops, rg, ns, cells, row, bk, ra, rb, rc, hL, hc, hs, hA, hP, rfl, rfl⟩ := I
  by_cases h1 : v1 < 0
  · exact br_t h1 (br_t h1 ⟨rfl, J⟩)
  obtain ⟨d, hd, rfl⟩ := nI_of h1
  by_cases h2 : d < c
  · have h3 : nI d < nI (c + 1) - 1 := by
      rw [nI_pred]
      exact nI_lt h2 (by omega)
    have e1 : nI (c + 1) - 1 - nI d = nI (c - d) := by rw [nI_pred, pk_sub (by omega)]
    have e2 : nI c - nI d = nI (c - d) := pk_sub (by omega)
    refine br_f h1 (br_t h3 ⟨pk_in _ 30 (by omega) e1, br_f h1 (br_f (nI_ge h2 (by omega)) ⟨pk_in _ 30 (by omega) e2, ?_, J⟩)⟩)
    rw [e1, e2]
  · have h3 : ¬ nI d < nI (c + 1) - 1 := by
      rw [nI_pred]
      exact nI_nlt (by omega) hd
    exact br_f h1 (br_f h3 (br_f h1 (br_t (nI_le (by omega) hd) ⟨rfl, J⟩)))
