/-! restart -/
theorem wc_rsX {post : SX → Prop} {ln ca p co st : Int32} {ops rg ns cells bk : Nat → Int32} (h : post (ln, 1, 0, 0, 0, ops, rg, ns, wc_z cells 0 8, bk)) : ∀ d i n : Nat, i + d = 8 → d < n → wX_restart_2 post ln ca p co st n (nI i) ops rg ns (wc_z cells 0 i) bk := by
  intro d
  induction d with
  | zero =>
    intro i n hi hn
    obtain ⟨n, rfl⟩ : ∃ m, n = m + 1 := ⟨n - 1, by omega⟩
    have e : i = 8 := by omega
    subst e
    exact br_t (nI_le (a := 8) (b := 8) (by omega) (by decide)) h
  | succ d ih =>
    intro i n hi hn
    obtain ⟨n, rfl⟩ : ∃ m, n = m + 1 := ⟨n - 1, by omega⟩
    refine br_f (nI_ge (b := 8) (by omega) (by decide)) ⟨vp_in_nI (by omega) (by omega), nm_r (e' := wc_z cells 0 (i + 1)) ?_ (nm_r (nI_1 i) (ih (i + 1) n (by omega) (by omega)))⟩
    show upd (wc_z cells 0 i) (nI i).toNatClampNeg 0 = upd (wc_z cells 0 i) (0 + i) 0
    rw [nI_clamp (by omega), Nat.zero_add]
theorem wc_rsY {post : SY → Prop} {ln ca p ov co : Int32} {ops ra rb rc ns row bk : Nat → Int32} (h : post (ln, 0, 0, 0, 0, ops, ra, rb, rc, ns, wc_z row 0 124, bk)) : ∀ d i n : Nat, i + d = 124 → d < n → wY_restart_2 post ln ca p ov co n (nI i) ops ra rb rc ns (wc_z row 0 i) bk := by
  intro d
  induction d with
  | zero =>
    intro i n hi hn
    obtain ⟨n, rfl⟩ : ∃ m, n = m + 1 := ⟨n - 1, by omega⟩
    have e : i = 124 := by omega
    subst e
    exact br_t (nI_le (a := 124) (b := 124) (by omega) (by decide)) h
  | succ d ih =>
    intro i n hi hn
    obtain ⟨n, rfl⟩ : ∃ m, n = m + 1 := ⟨n - 1, by omega⟩
    refine br_f (nI_ge (b := 124) (by omega) (by decide)) ⟨vp_in_nI (by omega) (by omega), nm_r (e' := wc_z row 0 (i + 1)) ?_ (nm_r (nI_1 i) (ih (i + 1) n (by omega) (by omega)))⟩
    show upd (wc_z row 0 i) (nI i).toNatClampNeg 0 = upd (wc_z row 0 i) (0 + i) 0
    rw [nI_clamp (by omega), Nat.zero_add]
theorem i_vc_restart {k : Nat} {u : SX} {v : SY} (I : i_Rel k u v) (hk : k + 4 ≤ 2048) : wpX_restart (fun u' => wpY_restart (fun v' => i_Rel (k + 4) u' v') v) u := by
  obtain ⟨L, c, p, co, st, ops, rg, ns, cells, row, bk, ra, rb, rc, hL, hc, hs, hA, hP, rfl, rfl⟩ := I
  have hZ : ∀ j, j < 4 * 0 + 8 → wc_z cells 0 8 j = wc_z row 0 124 j := by
    intro j hj
    rw [wc_z_in cells 0 8 j (by omega) (by omega), wc_z_in row 0 124 j (by omega) (by omega)]
  refine ⟨9, wc_rsX ?_ 8 0 9 rfl (by omega)⟩
  refine ⟨125, wc_rsY ?_ 124 0 125 rfl (by omega)⟩
  exact wc_mk (k + 4) (c := 0) hL (by omega) (Or.inl rfl) hZ hP
/-! digest -/
theorem wc_dX14 {post : Int32 → Prop} {J : Int32 → Int32 → Prop} {ln ca p co st : Int32} {ops rg ns cells bk : Nat → Int32} {k : Nat} {s : Int32} (hk : k ≤ 29) (h : J (wc_in cells k s 8) (nI (k + 1))) : ∀ d r n : Nat, r + d = 8 → d < n → wX_digest_14 post J (nI k) ln ca p co st ops rg ns cells bk n (wc_in cells k s r) (nI r) := by
  intro d
  induction d with
  | zero =>
    intro r n hi hn
    obtain ⟨n, rfl⟩ : ∃ m, n = m + 1 := ⟨n - 1, by omega⟩
    have e : r = 8 := by omega
    subst e
    exact br_t (nI_le (a := 8) (b := 8) (by omega) (by decide)) (nm_r (nI_1 k) h)
  | succ d ih =>
    intro r n hi hn
    obtain ⟨n, rfl⟩ : ∃ m, n = m + 1 := ⟨n - 1, by omega⟩
    have e1 : (8 : Int32) * nI k + nI r + 1 = nI (8 * k + r + 1) := by rw [wc_8, nI_add, nI_1]
    have e2 : (4 : Int32) * nI k + nI r = nI (4 * k + r) := by rw [wc_4, nI_add]
    refine br_f (nI_ge (b := 8) (by omega) (by decide)) ⟨pk_in _ 124 (by omega) e2, nm_r (e' := wc_in cells k s (r + 1)) ?_ (nm_r (nI_1 r) (ih (r + 1) n (by omega) (by omega)))⟩
    rw [e1, pk_cl _ e2 (by omega)]
    rfl
theorem wc_dY14 {post : Int32 → Prop} {J : Int32 → Int32 → Prop} {ln ca p ov co : Int32} {ops ra rb rc ns row bk : Nat → Int32} {k : Nat} {s : Int32} (hk : k ≤ 29) (h : J (wc_in row k s 8) (nI (k + 1))) : ∀ d r n : Nat, r + d = 8 → d < n → wY_digest_14 post J (nI k) ln ca p ov co ops ra rb rc ns row bk n (wc_in row k s r) (nI r) := by
  intro d
  induction d with
  | zero =>
    intro r n hi hn
    obtain ⟨n, rfl⟩ : ∃ m, n = m + 1 := ⟨n - 1, by omega⟩
    have e : r = 8 := by omega
    subst e
    exact br_t (nI_le (a := 8) (b := 8) (by omega) (by decide)) (nm_r (nI_1 k) h)
  | succ d ih =>
    intro r n hi hn
    obtain ⟨n, rfl⟩ : ∃ m, n = m + 1 := ⟨n - 1, by omega⟩
    have e1 : (8 : Int32) * nI k + nI r + 1 = nI (8 * k + r + 1) := by rw [wc_8, nI_add, nI_1]
    have e2 : (4 : Int32) * nI k + nI r = nI (4 * k + r) := by rw [wc_4, nI_add]
    refine br_f (nI_ge (b := 8) (by omega) (by decide)) ⟨pk_in _ 124 (by omega) e2, nm_r (e' := wc_in row k s (r + 1)) ?_ (nm_r (nI_1 r) (ih (r + 1) n (by omega) (by omega)))⟩
    rw [e1, pk_cl _ e2 (by omega)]
    rfl
theorem wc_dX4 {post : Int32 → Prop} {ln p co st : Int32} {ops rg ns cells bk : Nat → Int32} {c : Nat} (hc : c ≤ 29) (h : post (wc_out cells (c + 1))) : ∀ d k n : Nat, k + d = c + 1 → d < n → wX_digest_4 post ln (nI (c + 1)) p co st ops rg ns cells bk n (wc_out cells k) (nI k) := by
  intro d
  induction d with
  | zero =>
    intro k n hi hn
    obtain ⟨n, rfl⟩ : ∃ m, n = m + 1 := ⟨n - 1, by omega⟩
    have e : k = c + 1 := by omega
    subst e
    exact br_t (nI_le (Nat.le_refl _) (by omega)) h
  | succ d ih =>
    intro k n hi hn
    obtain ⟨n, rfl⟩ : ∃ m, n = m + 1 := ⟨n - 1, by omega⟩
    exact br_f (nI_ge (by omega) (by omega)) ⟨9, wc_dX14 (by omega) (ih (k + 1) n (by omega) (by omega)) 8 0 9 rfl (by omega)⟩
theorem wc_dY4 {post : Int32 → Prop} {ln p ov co : Int32} {ops ra rb rc ns row bk : Nat → Int32} {c : Nat} (hc : c ≤ 29) (h : post (wc_out row (c + 1))) : ∀ d k n : Nat, k + d = c + 1 → d < n → wY_digest_4 post ln (nI c) p ov co ops ra rb rc ns row bk n (wc_out row k) (nI k) := by
  intro d
  induction d with
  | zero =>
    intro k n hi hn
    obtain ⟨n, rfl⟩ : ∃ m, n = m + 1 := ⟨n - 1, by omega⟩
    have e : k = c + 1 := by omega
    subst e
    exact br_t (nI_lt (by omega) (by omega)) h
  | succ d ih =>
    intro k n hi hn
    obtain ⟨n, rfl⟩ : ∃ m, n = m + 1 := ⟨n - 1, by omega⟩
    exact br_f (nI_nlt (by omega) (by omega)) ⟨9, wc_dY14 (by omega) (ih (k + 1) n (by omega) (by omega)) 8 0 9 rfl (by omega)⟩
theorem i_vc_digest {k : Nat} {u : SX} {v : SY} (I : i_Rel k u v) (hk : k + 4 ≤ 2048) : wpX_digest (fun r => wpY_digest (fun r' => r' = r ∧ i_Rel (k + 4) u v) v) u := by
  have J : i_Rel (k + 4) u v := i_up I
  obtain ⟨L, c, p, co, st, ops, rg, ns, cells, row, bk, ra, rb, rc, hL, hc, hs, hA, hP, rfl, rfl⟩ := I
  refine ⟨c + 2, wc_dX4 hc ?_ (c + 1) 0 (c + 2) (by omega) (by omega)⟩
  refine ⟨c + 2, wc_dY4 hc ?_ (c + 1) 0 (c + 2) (by omega) (by omega)⟩
  exact ⟨(wc_out_ag (c + 1) (fun j hj => hA j (by omega))).symm, J⟩
