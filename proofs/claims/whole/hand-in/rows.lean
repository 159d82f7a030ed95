section
/-! pasted from kit/rows, then pure rows -/
theorem pk_us {f : Nat → Int32} {k : Nat} {x : Int32} : upd f k x k = x := if_pos rfl
theorem pk_un {f : Nat → Int32} {k j : Nat} {x : Int32} (h : j ≠ k) : upd f k x j = f j := if_neg h
theorem pk_sub {a b : Nat} (h : b ≤ a) : nI a - nI b = nI (a - b) := by
  obtain ⟨c, rfl⟩ : ∃ c, a = c + b := ⟨a - b, by omega⟩
  rw [← nI_add, Int32.add_sub_cancel, Nat.add_sub_cancel]
theorem pk_m1 (n : Nat) : nI (n + 1) + (-1) = nI n := by
  rw [← nI_1, Int32.add_assoc, show (1 : Int32) + (-1) = 0 from rfl, Int32.add_zero]
theorem pk_mul (a b : Nat) : nI a * nI b = nI (a * b) := (Int32.ofNat_mul a b).symm
theorem pk_ix (x : Int32) {n : Nat} (hn : n < 2 ^ 31) : x < 0 ∨ nI n ≤ x ∨ ∃ j : Nat, j < n ∧ x = nI j := by
  by_cases h : x < 0
  · exact Or.inl h
  · obtain ⟨j, hj, rfl⟩ := nI_of h
    by_cases h2 : j < n
    · exact Or.inr (Or.inr ⟨j, h2, rfl⟩)
    · exact Or.inr (Or.inl (nI_le (by omega) hj))
theorem pk_le {x y : Int32} {A B : Prop} (a b : Nat) (f : a ≤ b → A) (g : b < a → B) (hx : x = nI a := by rfl) (hy : y = nI b := by rfl) (ha : a < 2 ^ 31 := by omega) (hb : b < 2 ^ 31 := by omega) : (x ≤ y → A) ∧ (¬ x ≤ y → B) := by
  subst hx hy
  rw [nI_leI ha hb]
  exact ⟨f, fun z => g (by omega)⟩
theorem pk_lt {x y : Int32} {A B : Prop} (a b : Nat) (f : a < b → A) (g : b ≤ a → B) (hx : x = nI a := by rfl) (hy : y = nI b := by rfl) (ha : a < 2 ^ 31 := by omega) (hb : b < 2 ^ 31 := by omega) : (x < y → A) ∧ (¬ x < y → B) := by
  subst hx hy
  rw [nI_ltI ha hb]
  exact ⟨f, fun z => g (by omega)⟩
theorem pk_eq {x y : Int32} {A B : Prop} (a b : Nat) (f : a = b → A) (g : a ≠ b → B) (hx : x = nI a := by rfl) (hy : y = nI b := by rfl) (ha : a < 2 ^ 31 := by omega) (hb : b < 2 ^ 31 := by omega) : (x = y → A) ∧ (¬ x = y → B) := by
  subst hx hy
  rw [nI_eq ha hb]
  exact ⟨f, g⟩
theorem pk_in {x : Int32} (n N : Nat) (h : n < N) (hx : x = nI n := by rfl) (hN : N < 2 ^ 31 := by omega) : vp_in x N := by
  subst hx
  exact vp_in_nI h hN
theorem pk_cl {x : Int32} (n : Nat) (hx : x = nI n := by rfl) (h : n < 2 ^ 31 := by omega) : x.toNatClampNeg = n := by
  subst hx
  exact nI_clamp h
theorem pk_tn {n : Nat} (h : n < 2 ^ 32) : (nI n).toBitVec.toNat = n := Nat.mod_eq_of_lt h
theorem pk_and (x : Int32) {m : Int32} (k : Nat) (hm : m.toBitVec.toNat = 2 ^ k - 1) : x &&& m = nI (x.toBitVec.toNat % 2 ^ k) := by
  apply Int32.toBitVec_inj.mp
  apply BitVec.eq_of_toNat_eq
  rw [Int32.toBitVec_and, BitVec.toNat_and, hm, Nat.and_two_pow_sub_one_eq_mod]
  show _ = (BitVec.ofNat 32 _).toNat
  rw [BitVec.toNat_ofNat]
  exact (Nat.mod_eq_of_lt (Nat.lt_of_le_of_lt (Nat.mod_le _ _) x.toBitVec.isLt)).symm
theorem pk_andN {n : Nat} (h : n < 2 ^ 32) {m : Int32} (k : Nat) (hm : m.toBitVec.toNat = 2 ^ k - 1) : nI n &&& m = nI (n % 2 ^ k) := by
  rw [pk_and _ k hm, pk_tn h]
theorem pk_andE (x : Int32) {m : Int32} (k : Nat) (hm : m.toBitVec.toNat = 2 ^ k - 1) : ∃ j : Nat, j < 2 ^ k ∧ x &&& m = nI j := ⟨_, Nat.mod_lt _ (Nat.two_pow_pos k), pk_and x k hm⟩
theorem pk_andIn (x : Int32) {m : Int32} (k : Nat) (hm : m.toBitVec.toNat = 2 ^ k - 1) (hk : k ≤ 30) : vp_in (x &&& m) (2 ^ k) := by
  obtain ⟨j, hj, e⟩ := pk_andE x k hm
  rw [e]
  exact vp_in_nI hj (Nat.lt_of_le_of_lt (Nat.pow_le_pow_right (by decide) hk) (by decide))
theorem pk_shr (a s : Int32) (k : Nat) (hs : (s.toBitVec.smod 32).toNat = k) : (a >>> s).toInt = a.toInt >>> k := by
  show (a.toBitVec.sshiftRight (s.toBitVec.smod 32).toNat).toInt = _
  rw [hs, BitVec.toInt_sshiftRight]
  rfl
theorem pk_shrN {n : Nat} (h : n < 2 ^ 31) (s : Int32) (k : Nat) (hs : (s.toBitVec.smod 32).toNat = k) : nI n >>> s = nI (n / 2 ^ k) := by
  apply Int32.toInt_inj.mp
  have h2 : n / 2 ^ k ≤ n := Nat.div_le_self _ _
  rw [pk_shr _ _ k hs, nI_toInt h, nI_toInt (by omega), Int.shiftRight_eq_div_pow]
  rfl
theorem pk_loop {σ : Type} (W : Nat → Nat → σ → Prop) (I : Nat → σ → Prop) (e i0 : Nat) (s : σ) (hi : i0 ≤ e) (h0 : I i0 s) (hx : ∀ n s, I e s → W (n + 1) e s)
    (hs : ∀ n i s, i < e → I i s → (∀ s', I (i + 1) s' → W n (i + 1) s') → W (n + 1) i s) : ∃ n, W n i0 s :=
  ⟨e + 1, loop_i W I e hx hs (e + 1) i0 s hi (by omega) h0⟩
/-! agreement of two arrays below m -/
theorem wc_ag {f g : Nat → Int32} {m k : Nat} {x : Int32} (h : ∀ j, j < m → f j = g j) : ∀ j, j < m → upd f k x j = upd g k x j := by
  intro j hj
  unfold upd
  split
  · rfl
  · exact h j hj
theorem wc_lo {f g : Nat → Int32} {m n : Nat} (hn : n ≤ m) (h : ∀ j, j < m → f j = g j) : ∀ j, j < n → f j = g j := fun j hj => h j (Nat.lt_of_lt_of_le hj hn)
/-! n cells from b on cleared -/
def wc_z (f : Nat → Int32) (b : Nat) : Nat → Nat → Int32
  | 0 => f
  | n + 1 => upd (wc_z f b n) (b + n) 0
theorem wc_z_lo (f : Nat → Int32) (b : Nat) : ∀ n j, j < b → wc_z f b n j = f j := by
  intro n
  induction n with
  | zero => intro j _; rfl
  | succ n ih =>
    intro j hj
    show upd (wc_z f b n) (b + n) 0 j = f j
    rw [pk_un (by omega)]
    exact ih j hj
theorem wc_z_in (f : Nat → Int32) (b : Nat) : ∀ n j, b ≤ j → j < b + n → wc_z f b n j = 0 := by
  intro n
  induction n with
  | zero => intro j h1 h2; omega
  | succ n ih =>
    intro j h1 h2
    show upd (wc_z f b n) (b + n) 0 j = 0
    by_cases e : j = b + n
    · subst e
      exact pk_us
    · rw [pk_un e]
      exact ih j h1 (by omega)
theorem wc_z_ag {f g : Nat → Int32} {b n : Nat} (h : ∀ j, j < b → f j = g j) : ∀ j, j < b + n → wc_z f b n j = wc_z g b n j := by
  intro j hj
  by_cases e : j < b
  · rw [wc_z_lo f b n j e, wc_z_lo g b n j e]
    exact h j e
  · rw [wc_z_in f b n j (by omega) hj, wc_z_in g b n j (by omega) hj]
/-! the digest: the inner sum over r cells of window k, begun at s; then over k windows -/
def wc_in (f : Nat → Int32) (k : Nat) (s : Int32) : Nat → Int32
  | 0 => s
  | r + 1 => wc_in f k s r + nI (8 * k + r + 1) * f (4 * k + r)
def wc_out (f : Nat → Int32) : Nat → Int32
  | 0 => 0
  | k + 1 => wc_in f k (wc_out f k) 8
theorem wc_in_ag {f g : Nat → Int32} {k : Nat} {s : Int32} : ∀ r, (∀ j, j < 4 * k + r → f j = g j) → wc_in f k s r = wc_in g k s r := by
  intro r
  induction r with
  | zero => intro _; rfl
  | succ r ih =>
    intro h
    show wc_in f k s r + nI (8 * k + r + 1) * f (4 * k + r) = wc_in g k s r + nI (8 * k + r + 1) * g (4 * k + r)
    rw [ih (fun j hj => h j (by omega)), h (4 * k + r) (by omega)]
theorem wc_out_ag {f g : Nat → Int32} : ∀ k, (∀ j, j < 4 * k + 4 → f j = g j) → wc_out f k = wc_out g k := by
  intro k
  induction k with
  | zero => intro _; rfl
  | succ k ih =>
    intro h
    show wc_in f k (wc_out f k) 8 = wc_in g k (wc_out g k) 8
    rw [ih (fun j hj => h j (by omega))]
    exact wc_in_ag 8 (fun j hj => h j (by omega))
/-! numbers -/
theorem wc_4 (c : Nat) : (4 : Int32) * nI c = nI (4 * c) := pk_mul 4 c
theorem wc_8 (c : Nat) : (8 : Int32) * nI c = nI (8 * c) := pk_mul 8 c
theorem wc_ws {c d : Nat} (h : d ≤ c) : (4 : Int32) * ((nI (c + 1) - 1) - nI d) = nI (4 * (c - d)) := by
  rw [nI_pred, pk_sub h]
  exact wc_4 _
theorem wc_ws0 (c : Nat) : (4 : Int32) * ((nI (c + 1) - 1) - 0) = nI (4 * c) := wc_ws (c := c) (d := 0) (Nat.zero_le c)
theorem wc_a (x : Int32) : ∃ j : Nat, j < 8 ∧ x &&& 7 = nI j := pk_andE x 3 (by decide)
theorem wc_hi {r : Nat} (h : r ≤ 511) : nI r >>> ((6 : Int32) &&& 31) = (nI r >>> ((6 : Int32) &&& 31)) &&& 7 := by
  rw [pk_shrN (by omega) _ 6 (by decide), pk_andN (by omega) 3 (by decide)]
  exact congrArg nI (by omega)
theorem wc_b0 : narrow .boolean (.int 0) = .int 0 := rfl
theorem wc_b1 : narrow .boolean (.int 1) = .int 1 := rfl
theorem wc_b {s : Int32} (h : s = 0 ∨ s = 1) : narrow .boolean (.int s) = .int s := by
  cases h with
  | inl e => rw [e]; rfl
  | inr e => rw [e]; rfl
end
section
/-! the relation -/
def wc_P (rg ra rb rc : Nat → Int32) : Prop := ∀ j, ra j = rg j &&& 7 ∧ rb j = (rg j >>> ((3 : Int32) &&& 31)) &&& 7 ∧ rc j = (rg j >>> ((6 : Int32) &&& 31)) &&& 7
def i_Rel (_ : Nat) (u : SX) (v : SY) : Prop := ∃ (L c : Nat) (p co st : Int32) (ops rg ns cells row bk ra rb rc : Nat → Int32), L ≤ 24 ∧ c ≤ 29 ∧ (st = 0 ∨ st = 1) ∧ (∀ j, j < 4 * c + 8 → cells j = row j) ∧ wc_P rg ra rb rc ∧ u = (nI L, nI (c + 1), p, co, st, ops, rg, ns, cells, bk) ∧ v = (nI L, nI c, p, st, co, ops, ra, rb, rc, ns, row, bk)
theorem wc_mk (k : Nat) {L c : Nat} {p co st : Int32} {ops rg ns cells row bk ra rb rc : Nat → Int32} (hL : L ≤ 24) (hc : c ≤ 29) (hs : st = 0 ∨ st = 1) (hA : ∀ j, j < 4 * c + 8 → cells j = row j) (hP : wc_P rg ra rb rc) : i_Rel k (nI L, nI (c + 1), p, co, st, ops, rg, ns, cells, bk) (nI L, nI c, p, st, co, ops, ra, rb, rc, ns, row, bk) :=
  ⟨L, c, p, co, st, ops, rg, ns, cells, row, bk, ra, rb, rc, hL, hc, hs, hA, hP, rfl, rfl⟩
theorem i_up {k : Nat} {u : SX} {v : SY} (h : i_Rel k u v) : i_Rel (k + 4) u v := h
theorem wc_00 : (0 : Int32) = 0 &&& 7 ∧ (0 : Int32) = (0 >>> ((3 : Int32) &&& 31)) &&& 7 ∧ (0 : Int32) = (0 >>> ((6 : Int32) &&& 31)) &&& 7 := by decide
theorem wc_P0 : wc_P (fun _ => 0) (fun _ => 0) (fun _ => 0) (fun _ => 0) := fun _ => wc_00
theorem i_vc0 : wpX_init (fun u => wpY_init (fun v => i_Rel 0 u v)) := wc_mk 0 (L := 0) (c := 0) (by omega) (by omega) (Or.inl rfl) (fun _ _ => rfl) wc_P0
theorem wc_PU {rg ra rb rc : Nat → Int32} {L r : Nat} (hP : wc_P rg ra rb rc) (hr : r ≤ 511) : wc_P (upd rg L (nI r)) (upd ra L (nI r &&& 7)) (upd rb L ((nI r >>> ((3 : Int32) &&& 31)) &&& 7)) (upd rc L (nI r >>> ((6 : Int32) &&& 31))) := by
  intro j
  unfold upd
  by_cases e : j = L
  · simp only [if_pos e]
    exact ⟨by trivial, by trivial, wc_hi hr⟩
  · simp only [if_neg e]
    exact hP j
/-! the private methods that only read -/
theorem wc_isX {post : Int32 → Prop} {ln ca p co st : Int32} {ops rg ns cells bk : Nat → Int32} {x : Int32} (h : x < 0 ∨ nI 8 ≤ x) (g : post 0) : wpX_isRegister post (ln, ca, p, co, st, ops, rg, ns, cells, bk) x := by
  show (x < 0 → post 0) ∧ (¬ x < 0 → ((8 ≤ x → post 0) ∧ (¬ 8 ≤ x → post 1)))
  cases h with
  | inl h => exact br_t h g
  | inr h => exact br_c (fun _ => g) (fun _ => br_t h g)
theorem wc_isX1 {post : Int32 → Prop} {ln ca p co st : Int32} {ops rg ns cells bk : Nat → Int32} {r : Nat} (h : r < 8) (g : post 1) : wpX_isRegister post (ln, ca, p, co, st, ops, rg, ns, cells, bk) (nI r) := by
  show (nI r < 0 → post 0) ∧ (¬ nI r < 0 → ((8 ≤ nI r → post 0) ∧ (¬ 8 ≤ nI r → post 1)))
  exact br_f (nI_pos (by omega)) (br_f (nI_ge (b := 8) h (by decide)) g)
theorem wc_isY {post : Int32 → Prop} {ln ca p ov co : Int32} {ops ra rb rc ns row bk : Nat → Int32} {x : Int32} (h : x < 0 ∨ nI 8 ≤ x) (g : post 0) : wpY_isRegister post (ln, ca, p, ov, co, ops, ra, rb, rc, ns, row, bk) x := by
  show (x < 0 → post 0) ∧ (¬ x < 0 → ((7 < x → post 0) ∧ (¬ 7 < x → post 1)))
  refine br_c (fun _ => g) (fun e => ?_)
  obtain ⟨j, hj, rfl⟩ := nI_of e
  have h8 : nI 8 ≤ nI j := h.resolve_left e
  rw [nI_leI (by decide) hj] at h8
  exact br_t (nI_lt (a := 7) (by omega) hj) g
theorem wc_isY1 {post : Int32 → Prop} {ln ca p ov co : Int32} {ops ra rb rc ns row bk : Nat → Int32} {r : Nat} (h : r < 8) (g : post 1) : wpY_isRegister post (ln, ca, p, ov, co, ops, ra, rb, rc, ns, row, bk) (nI r) := by
  show (nI r < 0 → post 0) ∧ (¬ nI r < 0 → ((7 < nI r → post 0) ∧ (¬ 7 < nI r → post 1)))
  exact br_f (nI_pos (by omega)) (br_f (nI_nlt (a := 7) (by omega) (by decide)) g)
theorem wc_wsX {post : Int32 → Prop} {ln p co st : Int32} {ops rg ns cells bk : Nat → Int32} {c d : Nat} (h : d ≤ c) (g : post (nI (4 * (c - d)))) : wpX_windowStart post (ln, nI (c + 1), p, co, st, ops, rg, ns, cells, bk) (nI d) := by
  show post (4 * ((nI (c + 1) - 1) - nI d))
  rw [wc_ws h]
  exact g
theorem wc_wsX0 {post : Int32 → Prop} {ln p co st : Int32} {ops rg ns cells bk : Nat → Int32} {c : Nat} (g : post (nI (4 * c))) : wpX_windowStart post (ln, nI (c + 1), p, co, st, ops, rg, ns, cells, bk) 0 := by
  show post (4 * ((nI (c + 1) - 1) - 0))
  rw [wc_ws0]
  exact g
/-! the methods without a loop -/
theorem i_vc_emit {k : Nat} {u : SX} {v : SY} (I : i_Rel k u v) (hk : k + 4 ≤ 2048) (v1 : Int32) (v2 : Int32) (v3 : Int32) : wpX_emit (fun r u' => wpY_emit (fun r' v' => r' = r ∧ i_Rel (k + 4) u' v') v v1 v2 v3) u v1 v2 v3 := by
  obtain ⟨L, c, p, co, st, ops, rg, ns, cells, row, bk, ra, rb, rc, hL, hc, hs, hA, hP, rfl, rfl⟩ := I
  have J := wc_mk (k + 4) (p := p) (co := co) (ops := ops) (ns := ns) (bk := bk) hL hc hs hA hP
  by_cases h1 : v1 < 0
  · exact br_t h1 (br_t h1 ⟨rfl, J⟩)
  by_cases h2 : 7 < v1
  · exact br_f h1 (br_t h2 (br_f h1 (br_t h2 ⟨rfl, J⟩)))
  by_cases h3 : v2 < 0
  · exact br_f h1 (br_f h2 (br_t h3 (br_f h1 (br_f h2 (br_t h3 ⟨rfl, J⟩)))))
  by_cases h4 : v2 ≤ 511
  · obtain ⟨r, hr, rfl⟩ := nI_of2 (M := 511) (n := 511) (by decide) h3 h4
    by_cases h5 : L < 24
    · have h6 : nI L < 24 := nI_lt (b := 24) h5 (by decide)
      have e : (nI L).toNatClampNeg = L := nI_clamp (by omega)
      have w : vp_in (nI L) 24 := vp_in_nI h5 (by omega)
      refine br_f h1 (br_f h2 (br_f h3 (br_t h4 (br_t h6 ⟨w, nm_r (e' := upd ops L v1) (by rw [e]) ⟨w, nm_r (e' := upd rg L (nI r)) (by rw [e]) ⟨w, nm_r (e' := upd ns L v3) (by rw [e]) (nm_r (nI_1 L) ?_)⟩⟩⟩))))
      exact br_f h1 (br_f h2 (br_f h3 (br_t h4 (br_t h6 ⟨w, nm_r (e' := upd ops L v1) (by rw [e]) ⟨w, nm_r (e' := upd ra L (nI r &&& 7)) (by rw [e]) ⟨w, nm_r (e' := upd rb L ((nI r >>> ((3 : Int32) &&& 31)) &&& 7)) (by rw [e]) ⟨w, nm_r (e' := upd rc L (nI r >>> ((6 : Int32) &&& 31))) (by rw [e]) ⟨w, nm_r (e' := upd ns L v3) (by rw [e]) (nm_r (nI_1 L) ⟨nI_pred L, wc_mk (k + 4) (by omega) hc hs hA (wc_PU hP hr)⟩)⟩⟩⟩⟩⟩))))
    · have h6 : ¬ nI L < 24 := nI_nlt (b := 24) (by omega) (by omega)
      exact br_f h1 (br_f h2 (br_f h3 (br_t h4 (br_f h6 (br_f h1 (br_f h2 (br_f h3 (br_t h4 (br_f h6 ⟨rfl, J⟩)))))))))
  · exact br_f h1 (br_f h2 (br_f h3 (br_f h4 (br_f h1 (br_f h2 (br_f h3 (br_f h4 ⟨rfl, J⟩)))))))
theorem i_vc_drop {k : Nat} {u : SX} {v : SY} (I : i_Rel k u v) (hk : k + 4 ≤ 2048) : wpX_drop (fun r u' => wpY_drop (fun r' v' => r' = r ∧ i_Rel (k + 4) u' v') v) u := by
  obtain ⟨L, c, p, co, st, ops, rg, ns, cells, row, bk, ra, rb, rc, hL, hc, hs, hA, hP, rfl, rfl⟩ := I
  cases L with
  | zero =>
    have J := wc_mk (k + 4) (p := p) (co := co) (ops := ops) (ns := ns) (bk := bk) hL hc hs hA hP
    exact br_f (nI_nlt (a := 0) (b := 0) (by omega) (by omega)) (br_t nI_0 ⟨rfl, J⟩)
  | succ L =>
    have J := wc_mk (k + 4) (L := L) (p := p) (co := co) (ops := ops) (ns := ns) (bk := bk) (by omega) hc hs hA hP
    exact br_t (nI_lt (a := 0) (b := L + 1) (by omega) (by omega)) (nm_r (nI_pred L) (br_f (nI_ne0 (by omega) (by omega)) (nm_r (nI_pred L) ⟨rfl, J⟩)))
theorem i_vc_halted {k : Nat} {u : SX} {v : SY} (I : i_Rel k u v) (hk : k + 4 ≤ 2048) : wpX_halted (fun r => wpY_halted (fun r' => r' = r ∧ i_Rel (k + 4) u v) v) u := by
  have J : i_Rel (k + 4) u v := i_up I
  obtain ⟨L, c, p, co, st, ops, rg, ns, cells, row, bk, ra, rb, rc, hL, hc, hs, hA, hP, rfl, rfl⟩ := I
  exact ⟨wc_b hs, wc_b hs, rfl, J⟩
theorem i_vc_position {k : Nat} {u : SX} {v : SY} (I : i_Rel k u v) (hk : k + 4 ≤ 2048) : wpX_position (fun r => wpY_position (fun r' => r' = r ∧ i_Rel (k + 4) u v) v) u := by
  have J : i_Rel (k + 4) u v := i_up I
  obtain ⟨L, c, p, co, st, ops, rg, ns, cells, row, bk, ra, rb, rc, hL, hc, hs, hA, hP, rfl, rfl⟩ := I
  exact ⟨rfl, J⟩
theorem i_vc_depth {k : Nat} {u : SX} {v : SY} (I : i_Rel k u v) (hk : k + 4 ≤ 2048) : wpX_depth (fun r => wpY_depth (fun r' => r' = r ∧ i_Rel (k + 4) u v) v) u := by
  have J : i_Rel (k + 4) u v := i_up I
  obtain ⟨L, c, p, co, st, ops, rg, ns, cells, row, bk, ra, rb, rc, hL, hc, hs, hA, hP, rfl, rfl⟩ := I
  exact ⟨nI_1 c, J⟩
theorem i_vc_done {k : Nat} {u : SX} {v : SY} (I : i_Rel k u v) (hk : k + 4 ≤ 2048) : wpX_done (fun r => wpY_done (fun r' => r' = r ∧ i_Rel (k + 4) u v) v) u := by
  have J : i_Rel (k + 4) u v := i_up I
  obtain ⟨L, c, p, co, st, ops, rg, ns, cells, row, bk, ra, rb, rc, hL, hc, hs, hA, hP, rfl, rfl⟩ := I
  exact ⟨rfl, J⟩
theorem i_vc_below {k : Nat} {u : SX} {v : SY} (I : i_Rel k u v) (hk : k + 4 ≤ 2048) (v1 : Int32) (v2 : Int32) : wpX_below (fun r => wpY_below (fun r' => r' = r ∧ i_Rel (k + 4) u v) v v1 v2) u v1 v2 := by
  have J : i_Rel (k + 4) u v := i_up I
  obtain ⟨L, c, p, co, st, ops, rg, ns, cells, row, bk, ra, rb, rc, hL, hc, hs, hA, hP, rfl, rfl⟩ := I
  by_cases h1 : v1 < 0
  · exact br_t h1 (br_t h1 ⟨rfl, J⟩)
  obtain ⟨d, hd, rfl⟩ := nI_of h1
  by_cases h2 : c < d
  · exact br_f h1 (br_t (nI_le (a := c + 1) (by omega) hd) (br_f h1 (br_t (nI_lt h2 hd) ⟨rfl, J⟩)))
  have h3 : ¬ nI (c + 1) ≤ nI d := nI_ge (by omega) (by omega)
  have h4 : ¬ nI c < nI d := nI_nlt (by omega) (by omega)
  have hO : (v2 < 0 ∨ nI 8 ≤ v2) → wpX_below (fun r => wpY_below (fun r' => r' = r ∧ i_Rel (k + 4) (nI L, nI (c + 1), p, co, st, ops, rg, ns, cells, bk) (nI L, nI c, p, st, co, ops, ra, rb, rc, ns, row, bk)) (nI L, nI c, p, st, co, ops, ra, rb, rc, ns, row, bk) (nI d) v2) (nI L, nI (c + 1), p, co, st, ops, rg, ns, cells, bk) (nI d) v2 := by
    intro h
    exact br_f h1 (br_f h3 (wc_isX h (br_t rfl (br_f h1 (br_f h4 (wc_isY h (br_t rfl ⟨rfl, J⟩)))))))
  obtain h | h | ⟨r, hr, rfl⟩ := pk_ix v2 (n := 8) (by decide)
  · exact hO (Or.inl h)
  · exact hO (Or.inr h)
  · have e1 : nI (4 * (c - d)) + nI r = nI (4 * (c - d) + r) := nI_add _ _
    have e2 : (4 : Int32) * (nI c - nI d) + nI r = nI (4 * (c - d) + r) := by
      rw [pk_sub (by omega), wc_4, nI_add]
    refine br_f h1 (br_f h3 (wc_isX1 hr (br_f (by decide) (wc_wsX (by omega) ⟨pk_in _ 124 (by omega) e1, ?_⟩))))
    refine br_f h1 (br_f h4 (wc_isY1 hr (br_f (by decide) ⟨pk_in _ 124 (by omega) e2, ?_, J⟩)))
    rw [pk_cl _ e1 (by omega), pk_cl _ e2 (by omega)]
    exact (hA _ (by omega)).symm
theorem i_vc_register {k : Nat} {u : SX} {v : SY} (I : i_Rel k u v) (hk : k + 4 ≤ 2048) (v1 : Int32) : wpX_register (fun r => wpY_register (fun r' => r' = r ∧ i_Rel (k + 4) u v) v v1) u v1 := by
  have J : i_Rel (k + 4) u v := i_up I
  obtain ⟨L, c, p, co, st, ops, rg, ns, cells, row, bk, ra, rb, rc, hL, hc, hs, hA, hP, rfl, rfl⟩ := I
  have h1 : ¬ (0 : Int32) < 0 := by decide
  have h4 : ¬ nI c < (0 : Int32) := nI_pos (by omega)
  unfold wpX_register wpY_register
  dsimp only
  obtain h | h | ⟨r, hr, rfl⟩ := pk_ix v1 (n := 8) (by decide)
  · exact wc_isX (Or.inl h) (br_t rfl (br_f h1 (br_f h4 (wc_isY (Or.inl h) (br_t rfl ⟨rfl, J⟩)))))
  · exact wc_isX (Or.inr h) (br_t rfl (br_f h1 (br_f h4 (wc_isY (Or.inr h) (br_t rfl ⟨rfl, J⟩)))))
  · have e1 : nI (4 * c) + nI r = nI (4 * c + r) := nI_add _ _
    have e2 : (4 : Int32) * (nI c - 0) + nI r = nI (4 * c + r) := by
      rw [Int32.sub_zero, wc_4, nI_add]
    refine wc_isX1 hr (br_f (by decide) (wc_wsX0 ⟨pk_in _ 124 (by omega) e1, ?_⟩))
    refine br_f h1 (br_f h4 (wc_isY1 hr (br_f (by decide) ⟨pk_in _ 124 (by omega) e2, ?_, J⟩)))
    rw [pk_cl _ e1 (by omega), pk_cl _ e2 (by omega)]
    exact (hA _ (by omega)).symm
theorem i_vc_put {k : Nat} {u : SX} {v : SY} (I : i_Rel k u v) (hk : k + 4 ≤ 2048) (v1 : Int32) (v2 : Int32) : wpX_put (fun r u' => wpY_put (fun r' v' => r' = r ∧ i_Rel (k + 4) u' v') v v1 v2) u v1 v2 := by
  have J : i_Rel (k + 4) u v := i_up I
  obtain ⟨L, c, p, co, st, ops, rg, ns, cells, row, bk, ra, rb, rc, hL, hc, hs, hA, hP, rfl, rfl⟩ := I
  unfold wpX_put wpY_put
  dsimp only
  obtain h | h | ⟨r, hr, rfl⟩ := pk_ix v1 (n := 8) (by decide)
  · exact wc_isX (Or.inl h) (br_t rfl (wc_isY (Or.inl h) (br_t rfl ⟨rfl, J⟩)))
  · exact wc_isX (Or.inr h) (br_t rfl (wc_isY (Or.inr h) (br_t rfl ⟨rfl, J⟩)))
  · have e1 : nI (4 * c) + nI r = nI (4 * c + r) := nI_add _ _
    have e2 : (4 : Int32) * nI c + nI r = nI (4 * c + r) := by rw [wc_4, nI_add]
    refine wc_isX1 hr (br_f (by decide) (wc_wsX0 ⟨pk_in _ 124 (by omega) e1, nm_r (e' := upd cells (4 * c + r) v2) (by rw [pk_cl _ e1 (by omega)]) ?_⟩))
    refine wc_isY1 hr (br_f (by decide) ⟨pk_in _ 124 (by omega) e2, nm_r (e' := upd row (4 * c + r) v2) (by rw [pk_cl _ e2 (by omega)]) ⟨rfl, ?_⟩⟩)
    exact wc_mk (k + 4) hL hc hs (wc_ag hA) hP
theorem i_vc_backTo {k : Nat} {u : SX} {v : SY} (I : i_Rel k u v) (hk : k + 4 ≤ 2048) (v1 : Int32) : wpX_backTo (fun r => wpY_backTo (fun r' => r' = r ∧ i_Rel (k + 4) u v) v v1) u v1 := by
  have J : i_Rel (k + 4) u v := i_up I
  obtain ⟨L, c, p, co, st, ops, rg, ns, cells, row, bk, ra, rb, rc, hL, hc, hs, hA, hP, rfl, rfl⟩ := I
  by_cases h1 : v1 < 0
  · exact br_t h1 (br_t h1 ⟨rfl, J⟩)
  obtain ⟨d, hd, rfl⟩ := nI_of h1
  by_cases h2 : d < c
  · have h3 : nI d < nI (c + 1) - 1 := by
      rw [nI_pred]
      exact nI_lt h2 (by omega)
    have e1 : nI (c + 1) - 1 - nI d = nI (c - d) := by rw [nI_pred, pk_sub (by omega)]
    have e2 : nI c - nI d = nI (c - d) := pk_sub (by omega)
    refine br_f h1 (br_t h3 ⟨pk_in _ 30 (by omega) e1, br_f h1 (br_f (nI_ge h2 (by omega)) ⟨pk_in _ 30 (by omega) e2, ?_, J⟩)⟩)
    rw [e1, e2]
  · have h3 : ¬ nI d < nI (c + 1) - 1 := by
      rw [nI_pred]
      exact nI_nlt (by omega) hd
    exact br_f h1 (br_f h3 (br_f h1 (br_t (nI_le (by omega) hd) ⟨rfl, J⟩)))
end
section
/-! restart -/
theorem wc_rsX {post : SX → Prop} {ln ca p co st : Int32} {ops rg ns cells bk : Nat → Int32} (h : post (ln, 1, 0, 0, 0, ops, rg, ns, wc_z cells 0 8, bk)) : ∀ d i n : Nat, i + d = 8 → d < n → wX_restart_2 post ln ca p co st n (nI i) ops rg ns (wc_z cells 0 i) bk := by
  intro d
  induction d with
  | zero =>
    intro i n hi hn
    obtain ⟨n, rfl⟩ : ∃ m, n = m + 1 := ⟨n - 1, by omega⟩
    have e : i = 8 := by omega
    subst e
    exact br_t (nI_le (a := 8) (b := 8) (by omega) (by decide)) h
  | succ d ih =>
    intro i n hi hn
    obtain ⟨n, rfl⟩ : ∃ m, n = m + 1 := ⟨n - 1, by omega⟩
    refine br_f (nI_ge (b := 8) (by omega) (by decide)) ⟨vp_in_nI (by omega) (by omega), nm_r (e' := wc_z cells 0 (i + 1)) ?_ (nm_r (nI_1 i) (ih (i + 1) n (by omega) (by omega)))⟩
    show upd (wc_z cells 0 i) (nI i).toNatClampNeg 0 = upd (wc_z cells 0 i) (0 + i) 0
    rw [nI_clamp (by omega), Nat.zero_add]
theorem wc_rsY {post : SY → Prop} {ln ca p ov co : Int32} {ops ra rb rc ns row bk : Nat → Int32} (h : post (ln, 0, 0, 0, 0, ops, ra, rb, rc, ns, wc_z row 0 124, bk)) : ∀ d i n : Nat, i + d = 124 → d < n → wY_restart_2 post ln ca p ov co n (nI i) ops ra rb rc ns (wc_z row 0 i) bk := by
  intro d
  induction d with
  | zero =>
    intro i n hi hn
    obtain ⟨n, rfl⟩ : ∃ m, n = m + 1 := ⟨n - 1, by omega⟩
    have e : i = 124 := by omega
    subst e
    exact br_t (nI_le (a := 124) (b := 124) (by omega) (by decide)) h
  | succ d ih =>
    intro i n hi hn
    obtain ⟨n, rfl⟩ : ∃ m, n = m + 1 := ⟨n - 1, by omega⟩
    refine br_f (nI_ge (b := 124) (by omega) (by decide)) ⟨vp_in_nI (by omega) (by omega), nm_r (e' := wc_z row 0 (i + 1)) ?_ (nm_r (nI_1 i) (ih (i + 1) n (by omega) (by omega)))⟩
    show upd (wc_z row 0 i) (nI i).toNatClampNeg 0 = upd (wc_z row 0 i) (0 + i) 0
    rw [nI_clamp (by omega), Nat.zero_add]
theorem i_vc_restart {k : Nat} {u : SX} {v : SY} (I : i_Rel k u v) (hk : k + 4 ≤ 2048) : wpX_restart (fun u' => wpY_restart (fun v' => i_Rel (k + 4) u' v') v) u := by
  obtain ⟨L, c, p, co, st, ops, rg, ns, cells, row, bk, ra, rb, rc, hL, hc, hs, hA, hP, rfl, rfl⟩ := I
  have hZ : ∀ j, j < 4 * 0 + 8 → wc_z cells 0 8 j = wc_z row 0 124 j := by
    intro j hj
    rw [wc_z_in cells 0 8 j (by omega) (by omega), wc_z_in row 0 124 j (by omega) (by omega)]
  refine ⟨9, wc_rsX ?_ 8 0 9 rfl (by omega)⟩
  refine ⟨125, wc_rsY ?_ 124 0 125 rfl (by omega)⟩
  exact wc_mk (k + 4) (c := 0) hL (by omega) (Or.inl rfl) hZ hP
/-! digest -/
theorem wc_dX14 {post : Int32 → Prop} {J : Int32 → Int32 → Prop} {ln ca p co st : Int32} {ops rg ns cells bk : Nat → Int32} {k : Nat} {s : Int32} (hk : k ≤ 29) (h : J (wc_in cells k s 8) (nI (k + 1))) : ∀ d r n : Nat, r + d = 8 → d < n → wX_digest_14 post J (nI k) ln ca p co st ops rg ns cells bk n (wc_in cells k s r) (nI r) := by
  intro d
  induction d with
  | zero =>
    intro r n hi hn
    obtain ⟨n, rfl⟩ : ∃ m, n = m + 1 := ⟨n - 1, by omega⟩
    have e : r = 8 := by omega
    subst e
    exact br_t (nI_le (a := 8) (b := 8) (by omega) (by decide)) (nm_r (nI_1 k) h)
  | succ d ih =>
    intro r n hi hn
    obtain ⟨n, rfl⟩ : ∃ m, n = m + 1 := ⟨n - 1, by omega⟩
    have e1 : (8 : Int32) * nI k + nI r + 1 = nI (8 * k + r + 1) := by rw [wc_8, nI_add, nI_1]
    have e2 : (4 : Int32) * nI k + nI r = nI (4 * k + r) := by rw [wc_4, nI_add]
    refine br_f (nI_ge (b := 8) (by omega) (by decide)) ⟨pk_in _ 124 (by omega) e2, nm_r (e' := wc_in cells k s (r + 1)) ?_ (nm_r (nI_1 r) (ih (r + 1) n (by omega) (by omega)))⟩
    rw [e1, pk_cl _ e2 (by omega)]
    rfl
theorem wc_dY14 {post : Int32 → Prop} {J : Int32 → Int32 → Prop} {ln ca p ov co : Int32} {ops ra rb rc ns row bk : Nat → Int32} {k : Nat} {s : Int32} (hk : k ≤ 29) (h : J (wc_in row k s 8) (nI (k + 1))) : ∀ d r n : Nat, r + d = 8 → d < n → wY_digest_14 post J (nI k) ln ca p ov co ops ra rb rc ns row bk n (wc_in row k s r) (nI r) := by
  intro d
  induction d with
  | zero =>
    intro r n hi hn
    obtain ⟨n, rfl⟩ : ∃ m, n = m + 1 := ⟨n - 1, by omega⟩
    have e : r = 8 := by omega
    subst e
    exact br_t (nI_le (a := 8) (b := 8) (by omega) (by decide)) (nm_r (nI_1 k) h)
  | succ d ih =>
    intro r n hi hn
    obtain ⟨n, rfl⟩ : ∃ m, n = m + 1 := ⟨n - 1, by omega⟩
    have e1 : (8 : Int32) * nI k + nI r + 1 = nI (8 * k + r + 1) := by rw [wc_8, nI_add, nI_1]
    have e2 : (4 : Int32) * nI k + nI r = nI (4 * k + r) := by rw [wc_4, nI_add]
    refine br_f (nI_ge (b := 8) (by omega) (by decide)) ⟨pk_in _ 124 (by omega) e2, nm_r (e' := wc_in row k s (r + 1)) ?_ (nm_r (nI_1 r) (ih (r + 1) n (by omega) (by omega)))⟩
    rw [e1, pk_cl _ e2 (by omega)]
    rfl
theorem wc_dX4 {post : Int32 → Prop} {ln p co st : Int32} {ops rg ns cells bk : Nat → Int32} {c : Nat} (hc : c ≤ 29) (h : post (wc_out cells (c + 1))) : ∀ d k n : Nat, k + d = c + 1 → d < n → wX_digest_4 post ln (nI (c + 1)) p co st ops rg ns cells bk n (wc_out cells k) (nI k) := by
  intro d
  induction d with
  | zero =>
    intro k n hi hn
    obtain ⟨n, rfl⟩ : ∃ m, n = m + 1 := ⟨n - 1, by omega⟩
    have e : k = c + 1 := by omega
    subst e
    exact br_t (nI_le (Nat.le_refl _) (by omega)) h
  | succ d ih =>
    intro k n hi hn
    obtain ⟨n, rfl⟩ : ∃ m, n = m + 1 := ⟨n - 1, by omega⟩
    exact br_f (nI_ge (by omega) (by omega)) ⟨9, wc_dX14 (by omega) (ih (k + 1) n (by omega) (by omega)) 8 0 9 rfl (by omega)⟩
theorem wc_dY4 {post : Int32 → Prop} {ln p ov co : Int32} {ops ra rb rc ns row bk : Nat → Int32} {c : Nat} (hc : c ≤ 29) (h : post (wc_out row (c + 1))) : ∀ d k n : Nat, k + d = c + 1 → d < n → wY_digest_4 post ln (nI c) p ov co ops ra rb rc ns row bk n (wc_out row k) (nI k) := by
  intro d
  induction d with
  | zero =>
    intro k n hi hn
    obtain ⟨n, rfl⟩ : ∃ m, n = m + 1 := ⟨n - 1, by omega⟩
    have e : k = c + 1 := by omega
    subst e
    exact br_t (nI_lt (by omega) (by omega)) h
  | succ d ih =>
    intro k n hi hn
    obtain ⟨n, rfl⟩ : ∃ m, n = m + 1 := ⟨n - 1, by omega⟩
    exact br_f (nI_nlt (by omega) (by omega)) ⟨9, wc_dY14 (by omega) (ih (k + 1) n (by omega) (by omega)) 8 0 9 rfl (by omega)⟩
theorem i_vc_digest {k : Nat} {u : SX} {v : SY} (I : i_Rel k u v) (hk : k + 4 ≤ 2048) : wpX_digest (fun r => wpY_digest (fun r' => r' = r ∧ i_Rel (k + 4) u v) v) u := by
  have J : i_Rel (k + 4) u v := i_up I
  obtain ⟨L, c, p, co, st, ops, rg, ns, cells, row, bk, ra, rb, rc, hL, hc, hs, hA, hP, rfl, rfl⟩ := I
  refine ⟨c + 2, wc_dX4 hc ?_ (c + 1) 0 (c + 2) (by omega) (by omega)⟩
  refine ⟨c + 2, wc_dY4 hc ?_ (c + 1) 0 (c + 2) (by omega) (by omega)⟩
  exact ⟨(wc_out_ag (c + 1) (fun j hj => hA j (by omega))).symm, J⟩
end
section
/-! one step: X's carryOut and Y's step, one theorem an op -/
theorem wc_x0 {post : SX → Prop} {ln co st : Int32} {ops rg ns cells bk : Nat → Int32} {c p ia ib ic : Nat} (hp : p < 24) (hc : c ≤ 29) (ha : ia < 8) (hb : ib < 8) (hcc : ic < 8) (ea : rg p &&& 7 = nI ia) (eb : (rg p >>> ((3 : Int32) &&& 31)) &&& 7 = nI ib) (ec : (rg p >>> ((6 : Int32) &&& 31)) &&& 7 = nI ic) (ho : ops p = 0) (h : post (ln, nI (c + 1), nI (p + 1), co, st, ops, rg, ns, (upd cells (4 * c + ia) (ns p)), bk)) : wpX_carryOut post (ln, nI (c + 1), nI p, co, st, ops, rg, ns, cells, bk) := by
  have e : (nI p).toNatClampNeg = p := nI_clamp (by omega)
  have w : vp_in (nI p) 24 := vp_in_nI hp (by omega)
  have wa : vp_in (nI (4 * c + ia)) 124 := vp_in_nI (by omega) (by omega)
  have wb : vp_in (nI (4 * c + ib)) 124 := vp_in_nI (by omega) (by omega)
  have wd : vp_in (nI (4 * c + ic)) 124 := vp_in_nI (by omega) (by omega)
  have ka : (nI (4 * c + ia)).toNatClampNeg = 4 * c + ia := nI_clamp (by omega)
  have kb : (nI (4 * c + ib)).toNatClampNeg = 4 * c + ib := nI_clamp (by omega)
  have kc : (nI (4 * c + ic)).toNatClampNeg = 4 * c + ic := nI_clamp (by omega)
  unfold wpX_carryOut
  dsimp only
  refine wc_wsX0 ⟨w, nm_r (e' := rg p) (by rw [e]) (nm_r (e' := nI (4 * c + ia)) (by rw [ea, nI_add]) (nm_r (e' := nI (4 * c + ib)) (by rw [eb, nI_add]) (nm_r (e' := nI (4 * c + ic)) (by rw [ec, nI_add]) (nm_r (nI_1 p) ⟨w, nm_r (e' := 0) (by rw [e, ho]) ?_⟩))))⟩
  exact br_f (by decide) (br_f (by decide) (br_t rfl ⟨w, wa, nm_r (e' := upd cells (4 * c + ia) (ns p)) (by rw [ka, e]) h⟩))
theorem wc_y0 {post : SY → Prop} {ln co ov : Int32} {ops ra rb rc ns row bk : Nat → Int32} {c p ia ib ic : Nat} (hp : p < 24) (hc : c ≤ 29) (ha : ia < 8) (hb : ib < 8) (hcc : ic < 8) (ea : ra p = nI ia) (eb : rb p = nI ib) (ec : rc p = nI ic) (ho : ops p = 0) (h : post (ln, nI c, nI (p + 1), ov, co + 1, ops, ra, rb, rc, ns, (upd row (4 * c + ia) (ns p)), bk)) : wpY_step post (ln, nI c, nI p, ov, co, ops, ra, rb, rc, ns, row, bk) := by
  have e : (nI p).toNatClampNeg = p := nI_clamp (by omega)
  have w : vp_in (nI p) 24 := vp_in_nI hp (by omega)
  have wa : vp_in (nI (4 * c + ia)) 124 := vp_in_nI (by omega) (by omega)
  have wb : vp_in (nI (4 * c + ib)) 124 := vp_in_nI (by omega) (by omega)
  have wd : vp_in (nI (4 * c + ic)) 124 := vp_in_nI (by omega) (by omega)
  have ka : (nI (4 * c + ia)).toNatClampNeg = 4 * c + ia := nI_clamp (by omega)
  have kb : (nI (4 * c + ib)).toNatClampNeg = 4 * c + ib := nI_clamp (by omega)
  have kc : (nI (4 * c + ic)).toNatClampNeg = 4 * c + ic := nI_clamp (by omega)
  have xb : nI (4 * c) + rb (nI p).toNatClampNeg = nI (4 * c + ib) := by rw [e, eb, nI_add]
  have xc : nI (4 * c) + rc (nI p).toNatClampNeg = nI (4 * c + ic) := by rw [e, ec, nI_add]
  unfold wpY_step
  dsimp only
  refine ⟨w, nm_r (e' := 0) (by rw [e, ho]) (nm_r (wc_4 c) ⟨w, nm_r (e' := nI (4 * c + ia)) (by rw [e, ea, nI_add]) ⟨w, pk_in _ 124 (by omega) xb, nm_r (e' := row (4 * c + ib)) (by rw [xb, kb]) ⟨w, pk_in _ 124 (by omega) xc, nm_r (e' := row (4 * c + ic)) (by rw [xc, kc]) ⟨w, nm_r (e' := ns p) (by rw [e]) (nm_r (nI_1 p) ?_)⟩⟩⟩⟩)⟩
  exact br_t rfl ⟨wa, nm_r (e' := upd row (4 * c + ia) (ns p)) (by rw [ka]) (nm_e h)⟩
theorem wc_x1 {post : SX → Prop} {ln co st : Int32} {ops rg ns cells bk : Nat → Int32} {c p ia ib ic : Nat} (hp : p < 24) (hc : c ≤ 29) (ha : ia < 8) (hb : ib < 8) (hcc : ic < 8) (ea : rg p &&& 7 = nI ia) (eb : (rg p >>> ((3 : Int32) &&& 31)) &&& 7 = nI ib) (ec : (rg p >>> ((6 : Int32) &&& 31)) &&& 7 = nI ic) (ho : ops p = 1) (h : post (ln, nI (c + 1), nI (p + 1), co, st, ops, rg, ns, (upd cells (4 * c + ia) (cells (4 * c + ib) + cells (4 * c + ic))), bk)) : wpX_carryOut post (ln, nI (c + 1), nI p, co, st, ops, rg, ns, cells, bk) := by
  have e : (nI p).toNatClampNeg = p := nI_clamp (by omega)
  have w : vp_in (nI p) 24 := vp_in_nI hp (by omega)
  have wa : vp_in (nI (4 * c + ia)) 124 := vp_in_nI (by omega) (by omega)
  have wb : vp_in (nI (4 * c + ib)) 124 := vp_in_nI (by omega) (by omega)
  have wd : vp_in (nI (4 * c + ic)) 124 := vp_in_nI (by omega) (by omega)
  have ka : (nI (4 * c + ia)).toNatClampNeg = 4 * c + ia := nI_clamp (by omega)
  have kb : (nI (4 * c + ib)).toNatClampNeg = 4 * c + ib := nI_clamp (by omega)
  have kc : (nI (4 * c + ic)).toNatClampNeg = 4 * c + ic := nI_clamp (by omega)
  unfold wpX_carryOut
  dsimp only
  refine wc_wsX0 ⟨w, nm_r (e' := rg p) (by rw [e]) (nm_r (e' := nI (4 * c + ia)) (by rw [ea, nI_add]) (nm_r (e' := nI (4 * c + ib)) (by rw [eb, nI_add]) (nm_r (e' := nI (4 * c + ic)) (by rw [ec, nI_add]) (nm_r (nI_1 p) ⟨w, nm_r (e' := 1) (by rw [e, ho]) ?_⟩))))⟩
  exact br_f (by decide) (br_f (by decide) (br_f (by decide) (br_t rfl ⟨wb, wd, wa, nm_r (e' := upd cells (4 * c + ia) (cells (4 * c + ib) + cells (4 * c + ic))) (by rw [ka, kb, kc]) h⟩)))
theorem wc_y1 {post : SY → Prop} {ln co ov : Int32} {ops ra rb rc ns row bk : Nat → Int32} {c p ia ib ic : Nat} (hp : p < 24) (hc : c ≤ 29) (ha : ia < 8) (hb : ib < 8) (hcc : ic < 8) (ea : ra p = nI ia) (eb : rb p = nI ib) (ec : rc p = nI ic) (ho : ops p = 1) (h : post (ln, nI c, nI (p + 1), ov, co + 1, ops, ra, rb, rc, ns, (upd row (4 * c + ia) (row (4 * c + ib) + row (4 * c + ic))), bk)) : wpY_step post (ln, nI c, nI p, ov, co, ops, ra, rb, rc, ns, row, bk) := by
  have e : (nI p).toNatClampNeg = p := nI_clamp (by omega)
  have w : vp_in (nI p) 24 := vp_in_nI hp (by omega)
  have wa : vp_in (nI (4 * c + ia)) 124 := vp_in_nI (by omega) (by omega)
  have wb : vp_in (nI (4 * c + ib)) 124 := vp_in_nI (by omega) (by omega)
  have wd : vp_in (nI (4 * c + ic)) 124 := vp_in_nI (by omega) (by omega)
  have ka : (nI (4 * c + ia)).toNatClampNeg = 4 * c + ia := nI_clamp (by omega)
  have kb : (nI (4 * c + ib)).toNatClampNeg = 4 * c + ib := nI_clamp (by omega)
  have kc : (nI (4 * c + ic)).toNatClampNeg = 4 * c + ic := nI_clamp (by omega)
  have xb : nI (4 * c) + rb (nI p).toNatClampNeg = nI (4 * c + ib) := by rw [e, eb, nI_add]
  have xc : nI (4 * c) + rc (nI p).toNatClampNeg = nI (4 * c + ic) := by rw [e, ec, nI_add]
  unfold wpY_step
  dsimp only
  refine ⟨w, nm_r (e' := 1) (by rw [e, ho]) (nm_r (wc_4 c) ⟨w, nm_r (e' := nI (4 * c + ia)) (by rw [e, ea, nI_add]) ⟨w, pk_in _ 124 (by omega) xb, nm_r (e' := row (4 * c + ib)) (by rw [xb, kb]) ⟨w, pk_in _ 124 (by omega) xc, nm_r (e' := row (4 * c + ic)) (by rw [xc, kc]) ⟨w, nm_r (e' := ns p) (by rw [e]) (nm_r (nI_1 p) ?_)⟩⟩⟩⟩)⟩
  exact br_f (by decide) (br_t rfl ⟨wa, nm_r (e' := upd row (4 * c + ia) (row (4 * c + ib) + row (4 * c + ic))) (by rw [ka]) (nm_e h)⟩)
theorem wc_x2 {post : SX → Prop} {ln co st : Int32} {ops rg ns cells bk : Nat → Int32} {c p ia ib ic : Nat} (hp : p < 24) (hc : c ≤ 29) (ha : ia < 8) (hb : ib < 8) (hcc : ic < 8) (ea : rg p &&& 7 = nI ia) (eb : (rg p >>> ((3 : Int32) &&& 31)) &&& 7 = nI ib) (ec : (rg p >>> ((6 : Int32) &&& 31)) &&& 7 = nI ic) (ho : ops p = 2) (h : post (ln, nI (c + 1), nI (p + 1), co, st, ops, rg, ns, (upd cells (4 * c + ia) (cells (4 * c + ib) - cells (4 * c + ic))), bk)) : wpX_carryOut post (ln, nI (c + 1), nI p, co, st, ops, rg, ns, cells, bk) := by
  have e : (nI p).toNatClampNeg = p := nI_clamp (by omega)
  have w : vp_in (nI p) 24 := vp_in_nI hp (by omega)
  have wa : vp_in (nI (4 * c + ia)) 124 := vp_in_nI (by omega) (by omega)
  have wb : vp_in (nI (4 * c + ib)) 124 := vp_in_nI (by omega) (by omega)
  have wd : vp_in (nI (4 * c + ic)) 124 := vp_in_nI (by omega) (by omega)
  have ka : (nI (4 * c + ia)).toNatClampNeg = 4 * c + ia := nI_clamp (by omega)
  have kb : (nI (4 * c + ib)).toNatClampNeg = 4 * c + ib := nI_clamp (by omega)
  have kc : (nI (4 * c + ic)).toNatClampNeg = 4 * c + ic := nI_clamp (by omega)
  unfold wpX_carryOut
  dsimp only
  refine wc_wsX0 ⟨w, nm_r (e' := rg p) (by rw [e]) (nm_r (e' := nI (4 * c + ia)) (by rw [ea, nI_add]) (nm_r (e' := nI (4 * c + ib)) (by rw [eb, nI_add]) (nm_r (e' := nI (4 * c + ic)) (by rw [ec, nI_add]) (nm_r (nI_1 p) ⟨w, nm_r (e' := 2) (by rw [e, ho]) ?_⟩))))⟩
  exact br_f (by decide) (br_f (by decide) (br_f (by decide) (br_f (by decide) (br_t rfl ⟨wb, wd, wa, nm_r (e' := upd cells (4 * c + ia) (cells (4 * c + ib) - cells (4 * c + ic))) (by rw [ka, kb, kc]) h⟩))))
theorem wc_y2 {post : SY → Prop} {ln co ov : Int32} {ops ra rb rc ns row bk : Nat → Int32} {c p ia ib ic : Nat} (hp : p < 24) (hc : c ≤ 29) (ha : ia < 8) (hb : ib < 8) (hcc : ic < 8) (ea : ra p = nI ia) (eb : rb p = nI ib) (ec : rc p = nI ic) (ho : ops p = 2) (h : post (ln, nI c, nI (p + 1), ov, co + 1, ops, ra, rb, rc, ns, (upd row (4 * c + ia) (row (4 * c + ib) - row (4 * c + ic))), bk)) : wpY_step post (ln, nI c, nI p, ov, co, ops, ra, rb, rc, ns, row, bk) := by
  have e : (nI p).toNatClampNeg = p := nI_clamp (by omega)
  have w : vp_in (nI p) 24 := vp_in_nI hp (by omega)
  have wa : vp_in (nI (4 * c + ia)) 124 := vp_in_nI (by omega) (by omega)
  have wb : vp_in (nI (4 * c + ib)) 124 := vp_in_nI (by omega) (by omega)
  have wd : vp_in (nI (4 * c + ic)) 124 := vp_in_nI (by omega) (by omega)
  have ka : (nI (4 * c + ia)).toNatClampNeg = 4 * c + ia := nI_clamp (by omega)
  have kb : (nI (4 * c + ib)).toNatClampNeg = 4 * c + ib := nI_clamp (by omega)
  have kc : (nI (4 * c + ic)).toNatClampNeg = 4 * c + ic := nI_clamp (by omega)
  have xb : nI (4 * c) + rb (nI p).toNatClampNeg = nI (4 * c + ib) := by rw [e, eb, nI_add]
  have xc : nI (4 * c) + rc (nI p).toNatClampNeg = nI (4 * c + ic) := by rw [e, ec, nI_add]
  unfold wpY_step
  dsimp only
  refine ⟨w, nm_r (e' := 2) (by rw [e, ho]) (nm_r (wc_4 c) ⟨w, nm_r (e' := nI (4 * c + ia)) (by rw [e, ea, nI_add]) ⟨w, pk_in _ 124 (by omega) xb, nm_r (e' := row (4 * c + ib)) (by rw [xb, kb]) ⟨w, pk_in _ 124 (by omega) xc, nm_r (e' := row (4 * c + ic)) (by rw [xc, kc]) ⟨w, nm_r (e' := ns p) (by rw [e]) (nm_r (nI_1 p) ?_)⟩⟩⟩⟩)⟩
  exact br_f (by decide) (br_f (by decide) (br_t rfl ⟨wa, nm_r (e' := upd row (4 * c + ia) (row (4 * c + ib) - row (4 * c + ic))) (by rw [ka]) (nm_e h)⟩))
theorem wc_x4 {post : SX → Prop} {ln co st : Int32} {ops rg ns cells bk : Nat → Int32} {c p ia ib ic : Nat} (hp : p < 24) (hc : c ≤ 29) (ha : ia < 8) (hb : ib < 8) (hcc : ic < 8) (ea : rg p &&& 7 = nI ia) (eb : (rg p >>> ((3 : Int32) &&& 31)) &&& 7 = nI ib) (ec : (rg p >>> ((6 : Int32) &&& 31)) &&& 7 = nI ic) (ho : ops p = 4) (h : post (ln, nI (c + 1), nI (p + 1), co, st, ops, rg, ns, (upd cells (4 * c + ia) (cells (4 * c + ib))), bk)) : wpX_carryOut post (ln, nI (c + 1), nI p, co, st, ops, rg, ns, cells, bk) := by
  have e : (nI p).toNatClampNeg = p := nI_clamp (by omega)
  have w : vp_in (nI p) 24 := vp_in_nI hp (by omega)
  have wa : vp_in (nI (4 * c + ia)) 124 := vp_in_nI (by omega) (by omega)
  have wb : vp_in (nI (4 * c + ib)) 124 := vp_in_nI (by omega) (by omega)
  have wd : vp_in (nI (4 * c + ic)) 124 := vp_in_nI (by omega) (by omega)
  have ka : (nI (4 * c + ia)).toNatClampNeg = 4 * c + ia := nI_clamp (by omega)
  have kb : (nI (4 * c + ib)).toNatClampNeg = 4 * c + ib := nI_clamp (by omega)
  have kc : (nI (4 * c + ic)).toNatClampNeg = 4 * c + ic := nI_clamp (by omega)
  unfold wpX_carryOut
  dsimp only
  refine wc_wsX0 ⟨w, nm_r (e' := rg p) (by rw [e]) (nm_r (e' := nI (4 * c + ia)) (by rw [ea, nI_add]) (nm_r (e' := nI (4 * c + ib)) (by rw [eb, nI_add]) (nm_r (e' := nI (4 * c + ic)) (by rw [ec, nI_add]) (nm_r (nI_1 p) ⟨w, nm_r (e' := 4) (by rw [e, ho]) ?_⟩))))⟩
  exact br_f (by decide) (br_f (by decide) (br_f (by decide) (br_f (by decide) (br_f (by decide) (br_f (by decide) (br_t rfl ⟨wb, wa, nm_r (e' := upd cells (4 * c + ia) (cells (4 * c + ib))) (by rw [ka, kb]) h⟩))))))
theorem wc_y4 {post : SY → Prop} {ln co ov : Int32} {ops ra rb rc ns row bk : Nat → Int32} {c p ia ib ic : Nat} (hp : p < 24) (hc : c ≤ 29) (ha : ia < 8) (hb : ib < 8) (hcc : ic < 8) (ea : ra p = nI ia) (eb : rb p = nI ib) (ec : rc p = nI ic) (ho : ops p = 4) (h : post (ln, nI c, nI (p + 1), ov, co + 1, ops, ra, rb, rc, ns, (upd row (4 * c + ia) (row (4 * c + ib))), bk)) : wpY_step post (ln, nI c, nI p, ov, co, ops, ra, rb, rc, ns, row, bk) := by
  have e : (nI p).toNatClampNeg = p := nI_clamp (by omega)
  have w : vp_in (nI p) 24 := vp_in_nI hp (by omega)
  have wa : vp_in (nI (4 * c + ia)) 124 := vp_in_nI (by omega) (by omega)
  have wb : vp_in (nI (4 * c + ib)) 124 := vp_in_nI (by omega) (by omega)
  have wd : vp_in (nI (4 * c + ic)) 124 := vp_in_nI (by omega) (by omega)
  have ka : (nI (4 * c + ia)).toNatClampNeg = 4 * c + ia := nI_clamp (by omega)
  have kb : (nI (4 * c + ib)).toNatClampNeg = 4 * c + ib := nI_clamp (by omega)
  have kc : (nI (4 * c + ic)).toNatClampNeg = 4 * c + ic := nI_clamp (by omega)
  have xb : nI (4 * c) + rb (nI p).toNatClampNeg = nI (4 * c + ib) := by rw [e, eb, nI_add]
  have xc : nI (4 * c) + rc (nI p).toNatClampNeg = nI (4 * c + ic) := by rw [e, ec, nI_add]
  unfold wpY_step
  dsimp only
  refine ⟨w, nm_r (e' := 4) (by rw [e, ho]) (nm_r (wc_4 c) ⟨w, nm_r (e' := nI (4 * c + ia)) (by rw [e, ea, nI_add]) ⟨w, pk_in _ 124 (by omega) xb, nm_r (e' := row (4 * c + ib)) (by rw [xb, kb]) ⟨w, pk_in _ 124 (by omega) xc, nm_r (e' := row (4 * c + ic)) (by rw [xc, kc]) ⟨w, nm_r (e' := ns p) (by rw [e]) (nm_r (nI_1 p) ?_)⟩⟩⟩⟩)⟩
  exact br_f (by decide) (br_f (by decide) (br_f (by decide) (br_t rfl ⟨wa, nm_r (e' := upd row (4 * c + ia) (row (4 * c + ib))) (by rw [ka]) (nm_e h)⟩)))
theorem wc_x3 {post : SX → Prop} {ln co st : Int32} {ops rg ns cells bk : Nat → Int32} {c p ia ib ic : Nat} (hp : p < 24) (hc : c ≤ 29) (ha : ia < 8) (hb : ib < 8) (hcc : ic < 8) (ea : rg p &&& 7 = nI ia) (eb : (rg p >>> ((3 : Int32) &&& 31)) &&& 7 = nI ib) (ec : (rg p >>> ((6 : Int32) &&& 31)) &&& 7 = nI ic) (ho : ops p = 3) (h : post (ln, nI (c + 1), ns p, co, st, ops, rg, ns, cells, bk)) : wpX_carryOut post (ln, nI (c + 1), nI p, co, st, ops, rg, ns, cells, bk) := by
  have e : (nI p).toNatClampNeg = p := nI_clamp (by omega)
  have w : vp_in (nI p) 24 := vp_in_nI hp (by omega)
  have wa : vp_in (nI (4 * c + ia)) 124 := vp_in_nI (by omega) (by omega)
  have wb : vp_in (nI (4 * c + ib)) 124 := vp_in_nI (by omega) (by omega)
  have wd : vp_in (nI (4 * c + ic)) 124 := vp_in_nI (by omega) (by omega)
  have ka : (nI (4 * c + ia)).toNatClampNeg = 4 * c + ia := nI_clamp (by omega)
  have kb : (nI (4 * c + ib)).toNatClampNeg = 4 * c + ib := nI_clamp (by omega)
  have kc : (nI (4 * c + ic)).toNatClampNeg = 4 * c + ic := nI_clamp (by omega)
  unfold wpX_carryOut
  dsimp only
  refine wc_wsX0 ⟨w, nm_r (e' := rg p) (by rw [e]) (nm_r (e' := nI (4 * c + ia)) (by rw [ea, nI_add]) (nm_r (e' := nI (4 * c + ib)) (by rw [eb, nI_add]) (nm_r (e' := nI (4 * c + ic)) (by rw [ec, nI_add]) (nm_r (nI_1 p) ⟨w, nm_r (e' := 3) (by rw [e, ho]) ?_⟩))))⟩
  exact br_f (by decide) (br_f (by decide) (br_f (by decide) (br_f (by decide) (br_f (by decide) (br_t rfl ⟨w, nm_r (e' := ns p) (by rw [e]) h⟩)))))
theorem wc_y3 {post : SY → Prop} {ln co ov : Int32} {ops ra rb rc ns row bk : Nat → Int32} {c p ia ib ic : Nat} (hp : p < 24) (hc : c ≤ 29) (ha : ia < 8) (hb : ib < 8) (hcc : ic < 8) (ea : ra p = nI ia) (eb : rb p = nI ib) (ec : rc p = nI ic) (ho : ops p = 3) (h : post (ln, nI c, ns p, ov, co + 1, ops, ra, rb, rc, ns, row, bk)) : wpY_step post (ln, nI c, nI p, ov, co, ops, ra, rb, rc, ns, row, bk) := by
  have e : (nI p).toNatClampNeg = p := nI_clamp (by omega)
  have w : vp_in (nI p) 24 := vp_in_nI hp (by omega)
  have wa : vp_in (nI (4 * c + ia)) 124 := vp_in_nI (by omega) (by omega)
  have wb : vp_in (nI (4 * c + ib)) 124 := vp_in_nI (by omega) (by omega)
  have wd : vp_in (nI (4 * c + ic)) 124 := vp_in_nI (by omega) (by omega)
  have ka : (nI (4 * c + ia)).toNatClampNeg = 4 * c + ia := nI_clamp (by omega)
  have kb : (nI (4 * c + ib)).toNatClampNeg = 4 * c + ib := nI_clamp (by omega)
  have kc : (nI (4 * c + ic)).toNatClampNeg = 4 * c + ic := nI_clamp (by omega)
  have xb : nI (4 * c) + rb (nI p).toNatClampNeg = nI (4 * c + ib) := by rw [e, eb, nI_add]
  have xc : nI (4 * c) + rc (nI p).toNatClampNeg = nI (4 * c + ic) := by rw [e, ec, nI_add]
  unfold wpY_step
  dsimp only
  refine ⟨w, nm_r (e' := 3) (by rw [e, ho]) (nm_r (wc_4 c) ⟨w, nm_r (e' := nI (4 * c + ia)) (by rw [e, ea, nI_add]) ⟨w, pk_in _ 124 (by omega) xb, nm_r (e' := row (4 * c + ib)) (by rw [xb, kb]) ⟨w, pk_in _ 124 (by omega) xc, nm_r (e' := row (4 * c + ic)) (by rw [xc, kc]) ⟨w, nm_r (e' := ns p) (by rw [e]) (nm_r (nI_1 p) ?_)⟩⟩⟩⟩)⟩
  exact br_f (by decide) (br_f (by decide) (br_f (by decide) (br_f (by decide) (br_f (by decide) (br_f (by decide) (br_t rfl (nm_e h)))))))
theorem wc_bc30 {post : SX → Prop} {ln ca q co st : Int32} {ops rg ns cells bk : Nat → Int32} {c p : Nat} (hp : p < 24) (hc : c ≤ 29) (h : post (ln, ca, ns p, co, st, ops, rg, ns, wc_z cells (4 * c + 4) 4, bk)) : ∀ d i n : Nat, i + d = 4 → d < n → wX_beginCall_30 post (nI p) (nI (4 * c)) ln ca q co st n (nI (4 + i)) ops rg ns (wc_z cells (4 * c + 4) i) bk := by
  intro d
  induction d with
  | zero =>
    intro i n hi hn
    obtain ⟨n, rfl⟩ : ∃ m, n = m + 1 := ⟨n - 1, by omega⟩
    have e : i = 4 := by omega
    subst e
    exact br_t (nI_le (a := 8) (b := 8) (by omega) (by decide)) ⟨vp_in_nI hp (by omega), nm_r (e' := ns p) (by rw [nI_clamp (by omega)]) h⟩
  | succ d ih =>
    intro i n hi hn
    obtain ⟨n, rfl⟩ : ∃ m, n = m + 1 := ⟨n - 1, by omega⟩
    have e2 : nI (4 * c) + nI (4 + i) = nI (4 * c + 4 + i) := by rw [nI_add, Nat.add_assoc]
    refine br_f (nI_ge (b := 8) (by omega) (by decide)) ⟨pk_in _ 124 (by omega) e2, nm_r (e' := wc_z cells (4 * c + 4) (i + 1)) ?_ (nm_r (nI_1 (4 + i)) (ih (i + 1) n (by omega) (by omega)))⟩
    rw [pk_cl _ e2 (by omega)]
    rfl
theorem wc_bcX {post : SX → Prop} {ln q co st : Int32} {ops rg ns cells bk : Nat → Int32} {c p : Nat} (hp : p < 24) (hc : c < 29) (h : post (ln, nI (c + 1 + 1), ns p, co, st, ops, rg, ns, wc_z cells (4 * (c + 1) + 4) 4, upd bk (c + 1) (nI (p + 1)))) : wpX_beginCall post (ln, nI (c + 1), q, co, st, ops, rg, ns, cells, bk) (nI p) := by
  unfold wpX_beginCall
  dsimp only
  exact ⟨vp_in_nI (by omega) (by omega), nm_r (e' := upd bk (c + 1) (nI (p + 1))) (by rw [nI_clamp (by omega), nI_1]) (nm_r (nI_1 (c + 1)) (wc_wsX0 ⟨5, wc_bc30 hp (by omega) h 4 0 5 rfl (by omega)⟩))⟩
theorem wc_ys182 {post : SY → Prop} {ln x6 q ov co : Int32} {ops ra rb rc ns row bk : Nat → Int32} {c : Nat} (hc : c ≤ 29) (h : post (ln, nI c, x6, ov, co + 1, ops, ra, rb, rc, ns, wc_z row (4 * c + 4) 4, bk)) : ∀ d i n : Nat, i + d = 4 → d < n → wY_step_182 post x6 ln (nI c) q ov co n (nI (4 + i)) ops ra rb rc ns (wc_z row (4 * c + 4) i) bk := by
  intro d
  induction d with
  | zero =>
    intro i n hi hn
    obtain ⟨n, rfl⟩ : ∃ m, n = m + 1 := ⟨n - 1, by omega⟩
    have e : i = 4 := by omega
    subst e
    exact br_t (nI_le (a := 8) (b := 8) (by omega) (by decide)) (nm_e h)
  | succ d ih =>
    intro i n hi hn
    obtain ⟨n, rfl⟩ : ∃ m, n = m + 1 := ⟨n - 1, by omega⟩
    have e2 : (4 : Int32) * nI c + nI (4 + i) = nI (4 * c + 4 + i) := by rw [wc_4, nI_add, Nat.add_assoc]
    refine br_f (nI_ge (b := 8) (by omega) (by decide)) ⟨pk_in _ 124 (by omega) e2, nm_r (e' := wc_z row (4 * c + 4) (i + 1)) ?_ (nm_r (nI_1 (4 + i)) (ih (i + 1) n (by omega) (by omega)))⟩
    rw [pk_cl _ e2 (by omega)]
    rfl
theorem wc_x5 {post : SX → Prop} {ln co st : Int32} {ops rg ns cells bk : Nat → Int32} {c p ia ib ic : Nat} (hp : p < 24) (hc : c ≤ 29) (ha : ia < 8) (hb : ib < 8) (hcc : ic < 8) (ea : rg p &&& 7 = nI ia) (eb : (rg p >>> ((3 : Int32) &&& 31)) &&& 7 = nI ib) (ec : (rg p >>> ((6 : Int32) &&& 31)) &&& 7 = nI ic) (ho : ops p = 5) (h29 : c < 29) (h : post (ln, nI (c + 1 + 1), ns p, co, st, ops, rg, ns, wc_z cells (4 * (c + 1) + 4) 4, upd bk (c + 1) (nI (p + 1)))) : wpX_carryOut post (ln, nI (c + 1), nI p, co, st, ops, rg, ns, cells, bk) := by
  have e : (nI p).toNatClampNeg = p := nI_clamp (by omega)
  have w : vp_in (nI p) 24 := vp_in_nI hp (by omega)
  have wa : vp_in (nI (4 * c + ia)) 124 := vp_in_nI (by omega) (by omega)
  have wb : vp_in (nI (4 * c + ib)) 124 := vp_in_nI (by omega) (by omega)
  have wd : vp_in (nI (4 * c + ic)) 124 := vp_in_nI (by omega) (by omega)
  have ka : (nI (4 * c + ia)).toNatClampNeg = 4 * c + ia := nI_clamp (by omega)
  have kb : (nI (4 * c + ib)).toNatClampNeg = 4 * c + ib := nI_clamp (by omega)
  have kc : (nI (4 * c + ic)).toNatClampNeg = 4 * c + ic := nI_clamp (by omega)
  unfold wpX_carryOut
  dsimp only
  refine wc_wsX0 ⟨w, nm_r (e' := rg p) (by rw [e]) (nm_r (e' := nI (4 * c + ia)) (by rw [ea, nI_add]) (nm_r (e' := nI (4 * c + ib)) (by rw [eb, nI_add]) (nm_r (e' := nI (4 * c + ic)) (by rw [ec, nI_add]) (nm_r (nI_1 p) ⟨w, nm_r (e' := 5) (by rw [e, ho]) ?_⟩))))⟩
  exact br_f (by decide) (br_f (by decide) (br_f (by decide) (br_f (by decide) (br_f (by decide) (br_f (by decide) (br_f (by decide) (br_t rfl (wc_bcX hp h29 h))))))))
theorem wc_y5 {post : SY → Prop} {ln co ov : Int32} {ops ra rb rc ns row bk : Nat → Int32} {c p ia ib ic : Nat} (hp : p < 24) (hc : c ≤ 29) (ha : ia < 8) (hb : ib < 8) (hcc : ic < 8) (ea : ra p = nI ia) (eb : rb p = nI ib) (ec : rc p = nI ic) (ho : ops p = 5) (h29 : c < 29) (h : post (ln, nI (c + 1), ns p, ov, co + 1, ops, ra, rb, rc, ns, wc_z row (4 * (c + 1) + 4) 4, upd bk (c + 1) (nI (p + 1)))) : wpY_step post (ln, nI c, nI p, ov, co, ops, ra, rb, rc, ns, row, bk) := by
  have e : (nI p).toNatClampNeg = p := nI_clamp (by omega)
  have w : vp_in (nI p) 24 := vp_in_nI hp (by omega)
  have wa : vp_in (nI (4 * c + ia)) 124 := vp_in_nI (by omega) (by omega)
  have wb : vp_in (nI (4 * c + ib)) 124 := vp_in_nI (by omega) (by omega)
  have wd : vp_in (nI (4 * c + ic)) 124 := vp_in_nI (by omega) (by omega)
  have ka : (nI (4 * c + ia)).toNatClampNeg = 4 * c + ia := nI_clamp (by omega)
  have kb : (nI (4 * c + ib)).toNatClampNeg = 4 * c + ib := nI_clamp (by omega)
  have kc : (nI (4 * c + ic)).toNatClampNeg = 4 * c + ic := nI_clamp (by omega)
  have xb : nI (4 * c) + rb (nI p).toNatClampNeg = nI (4 * c + ib) := by rw [e, eb, nI_add]
  have xc : nI (4 * c) + rc (nI p).toNatClampNeg = nI (4 * c + ic) := by rw [e, ec, nI_add]
  unfold wpY_step
  dsimp only
  refine ⟨w, nm_r (e' := 5) (by rw [e, ho]) (nm_r (wc_4 c) ⟨w, nm_r (e' := nI (4 * c + ia)) (by rw [e, ea, nI_add]) ⟨w, pk_in _ 124 (by omega) xb, nm_r (e' := row (4 * c + ib)) (by rw [xb, kb]) ⟨w, pk_in _ 124 (by omega) xc, nm_r (e' := row (4 * c + ic)) (by rw [xc, kc]) ⟨w, nm_r (e' := ns p) (by rw [e]) (nm_r (nI_1 p) ?_)⟩⟩⟩⟩)⟩
  exact br_f (by decide) (br_f (by decide) (br_f (by decide) (br_f (by decide) (br_t rfl (nm_r (nI_1 c) ⟨vp_in_nI (by omega) (by omega), nm_r (e' := upd bk (c + 1) (nI (p + 1))) (by rw [nI_clamp (by omega)]) ⟨5, wc_ys182 (by omega) h 4 0 5 rfl (by omega)⟩⟩)))))
theorem wc_ecX0 {post : SX → Prop} {ln q co st x : Int32} {ops rg ns cells bk : Nat → Int32} (h : post (ln, nI (0 + 1), x, co, 1, ops, rg, ns, cells, bk)) : wpX_endCall post (ln, nI (0 + 1), q, co, st, ops, rg, ns, cells, bk) x := by
  exact br_t (nI_le (a := 1) (b := 1) (by omega) (by decide)) h
theorem wc_ecX1 {post : SX → Prop} {ln q co st x : Int32} {ops rg ns cells bk : Nat → Int32} {c : Nat} (hc : c < 29) (h : post (ln, nI (c + 1), bk (c + 1), co, st, ops, rg, ns, cells, bk)) : wpX_endCall post (ln, nI (c + 1 + 1), q, co, st, ops, rg, ns, cells, bk) x := by
  have e : nI (c + 1 + 1) - 1 = nI (c + 1) := nI_pred (c + 1)
  exact br_f (nI_ge (a := 1) (b := c + 1 + 1) (by omega) (by omega)) ⟨pk_in _ 30 (by omega) e, nm_r (e' := bk (c + 1)) (by rw [pk_cl _ e (by omega)]) (nm_r e h)⟩
theorem wc_x6z {post : SX → Prop} {ln co st : Int32} {ops rg ns cells bk : Nat → Int32} {p ia ib ic : Nat} (hp : p < 24) (ha : ia < 8) (hb : ib < 8) (hcc : ic < 8) (ea : rg p &&& 7 = nI ia) (eb : (rg p >>> ((3 : Int32) &&& 31)) &&& 7 = nI ib) (ec : (rg p >>> ((6 : Int32) &&& 31)) &&& 7 = nI ic) (ho : ops p = 6) (h : post (ln, nI (0 + 1), nI p, co, 1, ops, rg, ns, cells, bk)) : wpX_carryOut post (ln, nI (0 + 1), nI p, co, st, ops, rg, ns, cells, bk) := by
  have e : (nI p).toNatClampNeg = p := nI_clamp (by omega)
  have w : vp_in (nI p) 24 := vp_in_nI hp (by omega)
  have wa : vp_in (nI (4 * 0 + ia)) 124 := vp_in_nI (by omega) (by omega)
  have wb : vp_in (nI (4 * 0 + ib)) 124 := vp_in_nI (by omega) (by omega)
  have wd : vp_in (nI (4 * 0 + ic)) 124 := vp_in_nI (by omega) (by omega)
  have ka : (nI (4 * 0 + ia)).toNatClampNeg = 4 * 0 + ia := nI_clamp (by omega)
  have kb : (nI (4 * 0 + ib)).toNatClampNeg = 4 * 0 + ib := nI_clamp (by omega)
  have kc : (nI (4 * 0 + ic)).toNatClampNeg = 4 * 0 + ic := nI_clamp (by omega)
  unfold wpX_carryOut
  dsimp only
  refine wc_wsX0 (c := 0) ⟨w, nm_r (e' := rg p) (by rw [e]) (nm_r (e' := nI (4 * 0 + ia)) (by rw [ea, nI_add]) (nm_r (e' := nI (4 * 0 + ib)) (by rw [eb, nI_add]) (nm_r (e' := nI (4 * 0 + ic)) (by rw [ec, nI_add]) (nm_r (nI_1 p) ⟨w, nm_r (e' := 6) (by rw [e, ho]) ?_⟩))))⟩
  exact br_f (by decide) (br_f (by decide) (br_f (by decide) (br_f (by decide) (br_f (by decide) (br_f (by decide) (br_f (by decide) (br_f (by decide) (br_t rfl (wc_ecX0 h)))))))))
theorem wc_x6s {post : SX → Prop} {ln co st : Int32} {ops rg ns cells bk : Nat → Int32} {c p ia ib ic : Nat} (hp : p < 24) (hc : c < 29) (ha : ia < 8) (hb : ib < 8) (hcc : ic < 8) (ea : rg p &&& 7 = nI ia) (eb : (rg p >>> ((3 : Int32) &&& 31)) &&& 7 = nI ib) (ec : (rg p >>> ((6 : Int32) &&& 31)) &&& 7 = nI ic) (ho : ops p = 6) (h : post (ln, nI (c + 1), bk (c + 1), co, st, ops, rg, ns, cells, bk)) : wpX_carryOut post (ln, nI (c + 1 + 1), nI p, co, st, ops, rg, ns, cells, bk) := by
  have e : (nI p).toNatClampNeg = p := nI_clamp (by omega)
  have w : vp_in (nI p) 24 := vp_in_nI hp (by omega)
  have wa : vp_in (nI (4 * (c + 1) + ia)) 124 := vp_in_nI (by omega) (by omega)
  have wb : vp_in (nI (4 * (c + 1) + ib)) 124 := vp_in_nI (by omega) (by omega)
  have wd : vp_in (nI (4 * (c + 1) + ic)) 124 := vp_in_nI (by omega) (by omega)
  have ka : (nI (4 * (c + 1) + ia)).toNatClampNeg = 4 * (c + 1) + ia := nI_clamp (by omega)
  have kb : (nI (4 * (c + 1) + ib)).toNatClampNeg = 4 * (c + 1) + ib := nI_clamp (by omega)
  have kc : (nI (4 * (c + 1) + ic)).toNatClampNeg = 4 * (c + 1) + ic := nI_clamp (by omega)
  unfold wpX_carryOut
  dsimp only
  refine wc_wsX0 (c := c + 1) ⟨w, nm_r (e' := rg p) (by rw [e]) (nm_r (e' := nI (4 * (c + 1) + ia)) (by rw [ea, nI_add]) (nm_r (e' := nI (4 * (c + 1) + ib)) (by rw [eb, nI_add]) (nm_r (e' := nI (4 * (c + 1) + ic)) (by rw [ec, nI_add]) (nm_r (nI_1 p) ⟨w, nm_r (e' := 6) (by rw [e, ho]) ?_⟩))))⟩
  exact br_f (by decide) (br_f (by decide) (br_f (by decide) (br_f (by decide) (br_f (by decide) (br_f (by decide) (br_f (by decide) (br_f (by decide) (br_t rfl (wc_ecX1 hc h)))))))))
theorem wc_y6z {post : SY → Prop} {ln co ov : Int32} {ops ra rb rc ns row bk : Nat → Int32} {p ia ib ic : Nat} (hp : p < 24) (ha : ia < 8) (hb : ib < 8) (hcc : ic < 8) (ea : ra p = nI ia) (eb : rb p = nI ib) (ec : rc p = nI ic) (ho : ops p = 6) (h : post (ln, nI 0, nI p, 1, co + 1, ops, ra, rb, rc, ns, row, bk)) : wpY_step post (ln, nI 0, nI p, ov, co, ops, ra, rb, rc, ns, row, bk) := by
  have e : (nI p).toNatClampNeg = p := nI_clamp (by omega)
  have w : vp_in (nI p) 24 := vp_in_nI hp (by omega)
  have wa : vp_in (nI (4 * 0 + ia)) 124 := vp_in_nI (by omega) (by omega)
  have wb : vp_in (nI (4 * 0 + ib)) 124 := vp_in_nI (by omega) (by omega)
  have wd : vp_in (nI (4 * 0 + ic)) 124 := vp_in_nI (by omega) (by omega)
  have ka : (nI (4 * 0 + ia)).toNatClampNeg = 4 * 0 + ia := nI_clamp (by omega)
  have kb : (nI (4 * 0 + ib)).toNatClampNeg = 4 * 0 + ib := nI_clamp (by omega)
  have kc : (nI (4 * 0 + ic)).toNatClampNeg = 4 * 0 + ic := nI_clamp (by omega)
  have xb : nI (4 * 0) + rb (nI p).toNatClampNeg = nI (4 * 0 + ib) := by rw [e, eb, nI_add]
  have xc : nI (4 * 0) + rc (nI p).toNatClampNeg = nI (4 * 0 + ic) := by rw [e, ec, nI_add]
  unfold wpY_step
  dsimp only
  refine ⟨w, nm_r (e' := 6) (by rw [e, ho]) (nm_r (wc_4 0) ⟨w, nm_r (e' := nI (4 * 0 + ia)) (by rw [e, ea, nI_add]) ⟨w, pk_in _ 124 (by omega) xb, nm_r (e' := row (4 * 0 + ib)) (by rw [xb, kb]) ⟨w, pk_in _ 124 (by omega) xc, nm_r (e' := row (4 * 0 + ic)) (by rw [xc, kc]) ⟨w, nm_r (e' := ns p) (by rw [e]) (nm_r (nI_1 p) ?_)⟩⟩⟩⟩)⟩
  exact br_f (by decide) (br_f (by decide) (br_f (by decide) (br_f (by decide) (br_f (by decide) (br_t rfl (br_t nI_0 ⟨rfl, by decide, br_f (by decide) (br_f (by decide) (nm_e h))⟩))))))
theorem wc_y6s {post : SY → Prop} {ln co ov : Int32} {ops ra rb rc ns row bk : Nat → Int32} {c p ia ib ic : Nat} (hp : p < 24) (hc : c < 29) (ha : ia < 8) (hb : ib < 8) (hcc : ic < 8) (ea : ra p = nI ia) (eb : rb p = nI ib) (ec : rc p = nI ic) (ho : ops p = 6) (h : post (ln, nI c, bk (c + 1), 0, co + 1, ops, ra, rb, rc, ns, row, bk)) : wpY_step post (ln, nI (c + 1), nI p, ov, co, ops, ra, rb, rc, ns, row, bk) := by
  have e : (nI p).toNatClampNeg = p := nI_clamp (by omega)
  have w : vp_in (nI p) 24 := vp_in_nI hp (by omega)
  have wa : vp_in (nI (4 * (c + 1) + ia)) 124 := vp_in_nI (by omega) (by omega)
  have wb : vp_in (nI (4 * (c + 1) + ib)) 124 := vp_in_nI (by omega) (by omega)
  have wd : vp_in (nI (4 * (c + 1) + ic)) 124 := vp_in_nI (by omega) (by omega)
  have ka : (nI (4 * (c + 1) + ia)).toNatClampNeg = 4 * (c + 1) + ia := nI_clamp (by omega)
  have kb : (nI (4 * (c + 1) + ib)).toNatClampNeg = 4 * (c + 1) + ib := nI_clamp (by omega)
  have kc : (nI (4 * (c + 1) + ic)).toNatClampNeg = 4 * (c + 1) + ic := nI_clamp (by omega)
  have xb : nI (4 * (c + 1)) + rb (nI p).toNatClampNeg = nI (4 * (c + 1) + ib) := by rw [e, eb, nI_add]
  have xc : nI (4 * (c + 1)) + rc (nI p).toNatClampNeg = nI (4 * (c + 1) + ic) := by rw [e, ec, nI_add]
  unfold wpY_step
  dsimp only
  refine ⟨w, nm_r (e' := 6) (by rw [e, ho]) (nm_r (wc_4 (c + 1)) ⟨w, nm_r (e' := nI (4 * (c + 1) + ia)) (by rw [e, ea, nI_add]) ⟨w, pk_in _ 124 (by omega) xb, nm_r (e' := row (4 * (c + 1) + ib)) (by rw [xb, kb]) ⟨w, pk_in _ 124 (by omega) xc, nm_r (e' := row (4 * (c + 1) + ic)) (by rw [xc, kc]) ⟨w, nm_r (e' := ns p) (by rw [e]) (nm_r (nI_1 p) ?_)⟩⟩⟩⟩)⟩
  have h' : post (ln, nI (c + 1) - 1, bk (nI (c + 1)).toNatClampNeg, 0, co + 1, ops, ra, rb, rc, ns, row, bk) := by
    rw [nI_pred, nI_clamp (by omega)]
    exact h
  exact br_f (by decide) (br_f (by decide) (br_f (by decide) (br_f (by decide) (br_f (by decide) (br_t rfl (br_f (nI_ne0 (by omega) (by omega)) ⟨rfl, by decide, br_t rfl ⟨vp_in_nI (by omega) (by omega), br_t rfl (nm_e h')⟩⟩))))))
theorem wc_no {o : Int32} (h : o < 0 ∨ 6 < o) : ¬ o = 0 ∧ ¬ o = 1 ∧ ¬ o = 2 ∧ ¬ o = 3 ∧ ¬ o = 4 ∧ ¬ o = 5 ∧ ¬ o = 6 := by
  refine ⟨?_, ?_, ?_, ?_, ?_, ?_, ?_⟩ <;> (intro e; subst e; revert h; decide)
theorem wc_xo {post : SX → Prop} {ln co st : Int32} {ops rg ns cells bk : Nat → Int32} {c p ia ib ic : Nat} (hp : p < 24) (hc : c ≤ 29) (ha : ia < 8) (hb : ib < 8) (hcc : ic < 8) (ea : rg p &&& 7 = nI ia) (eb : (rg p >>> ((3 : Int32) &&& 31)) &&& 7 = nI ib) (ec : (rg p >>> ((6 : Int32) &&& 31)) &&& 7 = nI ic) {o : Int32} (ho : ops p = o) (hn : o < 0 ∨ 6 < o) (h1 : cells (4 * c + ia) = 0 → post (ln, nI (c + 1), ns p, co, st, ops, rg, ns, cells, bk)) (h2 : ¬ cells (4 * c + ia) = 0 → post (ln, nI (c + 1), nI (p + 1), co, st, ops, rg, ns, cells, bk)) : wpX_carryOut post (ln, nI (c + 1), nI p, co, st, ops, rg, ns, cells, bk) := by
  have e : (nI p).toNatClampNeg = p := nI_clamp (by omega)
  have w : vp_in (nI p) 24 := vp_in_nI hp (by omega)
  have wa : vp_in (nI (4 * c + ia)) 124 := vp_in_nI (by omega) (by omega)
  have wb : vp_in (nI (4 * c + ib)) 124 := vp_in_nI (by omega) (by omega)
  have wd : vp_in (nI (4 * c + ic)) 124 := vp_in_nI (by omega) (by omega)
  have ka : (nI (4 * c + ia)).toNatClampNeg = 4 * c + ia := nI_clamp (by omega)
  have kb : (nI (4 * c + ib)).toNatClampNeg = 4 * c + ib := nI_clamp (by omega)
  have kc : (nI (4 * c + ic)).toNatClampNeg = 4 * c + ic := nI_clamp (by omega)
  unfold wpX_carryOut
  dsimp only
  refine wc_wsX0 ⟨w, nm_r (e' := rg p) (by rw [e]) (nm_r (e' := nI (4 * c + ia)) (by rw [ea, nI_add]) (nm_r (e' := nI (4 * c + ib)) (by rw [eb, nI_add]) (nm_r (e' := nI (4 * c + ic)) (by rw [ec, nI_add]) (nm_r (nI_1 p) ⟨w, nm_r (e' := o) (by rw [e, ho]) ?_⟩))))⟩
  have R : (cells (nI (4 * c + ia)).toNatClampNeg = 0 → vp_in (nI p) 24 ∧ ∀ y, y = ns (nI p).toNatClampNeg → post (ln, nI (c + 1), y, co, st, ops, rg, ns, cells, bk)) ∧ (¬ cells (nI (4 * c + ia)).toNatClampNeg = 0 → post (ln, nI (c + 1), nI (p + 1), co, st, ops, rg, ns, cells, bk)) := by
    rw [ka]
    exact br_c (fun z => ⟨w, nm_r (e' := ns p) (by rw [e]) (h1 z)⟩) h2
  by_cases n0 : o < 0
  · exact br_t n0 ⟨wa, R⟩
  · exact br_f n0 (br_t (hn.resolve_left n0) ⟨wa, R⟩)
theorem wc_yo {post : SY → Prop} {ln co ov : Int32} {ops ra rb rc ns row bk : Nat → Int32} {c p ia ib ic : Nat} (hp : p < 24) (hc : c ≤ 29) (ha : ia < 8) (hb : ib < 8) (hcc : ic < 8) (ea : ra p = nI ia) (eb : rb p = nI ib) (ec : rc p = nI ic) {o : Int32} (ho : ops p = o) (hn : o < 0 ∨ 6 < o) (h1 : row (4 * c + ia) = 0 → post (ln, nI c, ns p, ov, co + 1, ops, ra, rb, rc, ns, row, bk)) (h2 : ¬ row (4 * c + ia) = 0 → post (ln, nI c, nI (p + 1), ov, co + 1, ops, ra, rb, rc, ns, row, bk)) : wpY_step post (ln, nI c, nI p, ov, co, ops, ra, rb, rc, ns, row, bk) := by
  have e : (nI p).toNatClampNeg = p := nI_clamp (by omega)
  have w : vp_in (nI p) 24 := vp_in_nI hp (by omega)
  have wa : vp_in (nI (4 * c + ia)) 124 := vp_in_nI (by omega) (by omega)
  have wb : vp_in (nI (4 * c + ib)) 124 := vp_in_nI (by omega) (by omega)
  have wd : vp_in (nI (4 * c + ic)) 124 := vp_in_nI (by omega) (by omega)
  have ka : (nI (4 * c + ia)).toNatClampNeg = 4 * c + ia := nI_clamp (by omega)
  have kb : (nI (4 * c + ib)).toNatClampNeg = 4 * c + ib := nI_clamp (by omega)
  have kc : (nI (4 * c + ic)).toNatClampNeg = 4 * c + ic := nI_clamp (by omega)
  have xb : nI (4 * c) + rb (nI p).toNatClampNeg = nI (4 * c + ib) := by rw [e, eb, nI_add]
  have xc : nI (4 * c) + rc (nI p).toNatClampNeg = nI (4 * c + ic) := by rw [e, ec, nI_add]
  unfold wpY_step
  dsimp only
  refine ⟨w, nm_r (e' := o) (by rw [e, ho]) (nm_r (wc_4 c) ⟨w, nm_r (e' := nI (4 * c + ia)) (by rw [e, ea, nI_add]) ⟨w, pk_in _ 124 (by omega) xb, nm_r (e' := row (4 * c + ib)) (by rw [xb, kb]) ⟨w, pk_in _ 124 (by omega) xc, nm_r (e' := row (4 * c + ic)) (by rw [xc, kc]) ⟨w, nm_r (e' := ns p) (by rw [e]) (nm_r (nI_1 p) ?_)⟩⟩⟩⟩)⟩
  obtain ⟨n0, n1, n2, n3, n4, n5, n6⟩ := wc_no hn
  rw [← ka] at h1 h2
  exact br_f n0 (br_f n1 (br_f n2 (br_f n4 (br_f n5 (br_f n6 (br_f n3 ⟨wa, br_c (fun z => nm_e (h1 z)) (fun z => nm_e (h2 z))⟩))))))
end
section
/-! one step of both: there is one end of it, for every post -/
def wc_S (L c p : Nat) (ops rg ns cells row bk ra rb rc : Nat → Int32) : Prop := ∃ (c' : Nat) (q st : Int32) (cells' row' bk' : Nat → Int32), c' ≤ 29 ∧ (st = 0 ∨ st = 1) ∧ (∀ j, j < 4 * c' + 8 → cells' j = row' j) ∧
  (∀ (co : Int32) (post : SX → Prop), post (nI L, nI (c' + 1), q, co, st, ops, rg, ns, cells', bk') → wpX_carryOut post (nI L, nI (c + 1), nI p, co, 0, ops, rg, ns, cells, bk)) ∧
  (∀ (co : Int32) (post : SY → Prop), post (nI L, nI c', q, st, co + 1, ops, ra, rb, rc, ns, row', bk') → wpY_step post (nI L, nI c, nI p, 0, co, ops, ra, rb, rc, ns, row, bk))
theorem wc_step {L c p : Nat} {ops rg ns cells row bk ra rb rc : Nat → Int32} (hp : p < 24) (hc : c ≤ 29) (hA : ∀ j, j < 4 * c + 8 → cells j = row j) (hP : wc_P rg ra rb rc) (h5 : ops p = 5 → c < 29) : wc_S L c p ops rg ns cells row bk ra rb rc := by
  obtain ⟨ia, ha, ea⟩ := wc_a (rg p)
  obtain ⟨ib, hb, eb⟩ := wc_a (rg p >>> ((3 : Int32) &&& 31))
  obtain ⟨ic, hcc, ec⟩ := wc_a (rg p >>> ((6 : Int32) &&& 31))
  obtain ⟨ya, yb, yc⟩ := hP p
  rw [ea] at ya
  rw [eb] at yb
  rw [ec] at yc
  have hia := hA (4 * c + ia) (by omega)
  have hib := hA (4 * c + ib) (by omega)
  have hic := hA (4 * c + ic) (by omega)
  have other : ∀ o : Int32, ops p = o → (o < 0 ∨ 6 < o) → wc_S L c p ops rg ns cells row bk ra rb rc := by
    intro o ho hn
    by_cases z : cells (4 * c + ia) = 0
    · have z' : row (4 * c + ia) = 0 := by rw [← hia]; exact z
      exact ⟨c, ns p, 0, cells, row, bk, hc, Or.inl rfl, hA, fun co post h => wc_xo hp hc ha hb hcc ea eb ec ho hn (fun _ => h) (fun n => absurd z n), fun co post h => wc_yo hp hc ha hb hcc ya yb yc ho hn (fun _ => h) (fun n => absurd z' n)⟩
    · have z' : ¬ row (4 * c + ia) = 0 := by rw [← hia]; exact z
      exact ⟨c, nI (p + 1), 0, cells, row, bk, hc, Or.inl rfl, hA, fun co post h => wc_xo hp hc ha hb hcc ea eb ec ho hn (fun n => absurd n z) (fun _ => h), fun co post h => wc_yo hp hc ha hb hcc ya yb yc ho hn (fun n => absurd n z') (fun _ => h)⟩
  by_cases n0 : ops p < 0
  · exact other _ rfl (Or.inl n0)
  obtain ⟨j, hj, ho⟩ := nI_of n0
  by_cases n6 : 6 < j
  · exact other _ ho (Or.inr (nI_lt (a := 6) n6 hj))
  have hcase : j = 0 ∨ j = 1 ∨ j = 2 ∨ j = 3 ∨ j = 4 ∨ j = 5 ∨ j = 6 := by omega
  obtain rfl | rfl | rfl | rfl | rfl | rfl | rfl := hcase
  · refine ⟨c, nI (p + 1), 0, upd cells (4 * c + ia) (ns p), upd row (4 * c + ia) (ns p), bk, hc, Or.inl rfl, wc_ag hA, fun co post h => wc_x0 hp hc ha hb hcc ea eb ec ho h, fun co post h => wc_y0 hp hc ha hb hcc ya yb yc ho h⟩
  · refine ⟨c, nI (p + 1), 0, upd cells (4 * c + ia) (cells (4 * c + ib) + cells (4 * c + ic)), upd row (4 * c + ia) (row (4 * c + ib) + row (4 * c + ic)), bk, hc, Or.inl rfl, ?_, fun co post h => wc_x1 hp hc ha hb hcc ea eb ec ho h, fun co post h => wc_y1 hp hc ha hb hcc ya yb yc ho h⟩
    rw [hib, hic]
    exact wc_ag hA
  · refine ⟨c, nI (p + 1), 0, upd cells (4 * c + ia) (cells (4 * c + ib) - cells (4 * c + ic)), upd row (4 * c + ia) (row (4 * c + ib) - row (4 * c + ic)), bk, hc, Or.inl rfl, ?_, fun co post h => wc_x2 hp hc ha hb hcc ea eb ec ho h, fun co post h => wc_y2 hp hc ha hb hcc ya yb yc ho h⟩
    rw [hib, hic]
    exact wc_ag hA
  · exact ⟨c, ns p, 0, cells, row, bk, hc, Or.inl rfl, hA, fun co post h => wc_x3 hp hc ha hb hcc ea eb ec ho h, fun co post h => wc_y3 hp hc ha hb hcc ya yb yc ho h⟩
  · refine ⟨c, nI (p + 1), 0, upd cells (4 * c + ia) (cells (4 * c + ib)), upd row (4 * c + ia) (row (4 * c + ib)), bk, hc, Or.inl rfl, ?_, fun co post h => wc_x4 hp hc ha hb hcc ea eb ec ho h, fun co post h => wc_y4 hp hc ha hb hcc ya yb yc ho h⟩
    rw [hib]
    exact wc_ag hA
  · have h29 : c < 29 := h5 ho
    refine ⟨c + 1, ns p, 0, wc_z cells (4 * (c + 1) + 4) 4, wc_z row (4 * (c + 1) + 4) 4, upd bk (c + 1) (nI (p + 1)), by omega, Or.inl rfl, ?_, fun co post h => wc_x5 hp hc ha hb hcc ea eb ec ho h29 h, fun co post h => wc_y5 hp hc ha hb hcc ya yb yc ho h29 h⟩
    intro j hj
    exact wc_z_ag (fun j hj => hA j (by omega)) j (by omega)
  · cases c with
    | zero => exact ⟨0, nI p, 1, cells, row, bk, by omega, Or.inr rfl, hA, fun co post h => wc_x6z hp ha hb hcc ea eb ec ho h, fun co post h => wc_y6z hp ha hb hcc ya yb yc ho h⟩
    | succ c => exact ⟨c, bk (c + 1), 0, cells, row, bk, by omega, Or.inl rfl, fun j hj => hA j (by omega), fun co post h => wc_x6s hp (by omega) ha hb hcc ea eb ec ho h, fun co post h => wc_y6s hp (by omega) ha hb hcc ya yb yc ho h⟩
/-! the loop of run: its ends -/
theorem wc_rX1 {post : Int32 → SX → Prop} {x2 x3 x4 ln ca q co : Int32} {ops rg ns cells bk : Nat → Int32} (n : Nat) (h : post x3 (ln, ca, q, co + x3, 1, ops, rg, ns, cells, bk)) : wX_run_20 post x2 (n + 1) x3 x4 ln ca q co 1 ops rg ns cells bk :=
  br_c (fun _ => nm_e h) (fun _ => br_f (by decide) (nm_e h))
theorem wc_rX0 {post : Int32 → SX → Prop} {x2 x3 x4 ln ca q co st : Int32} {ops rg ns cells bk : Nat → Int32} (n : Nat) (hx : x2 ≤ x4) (h : post x3 (ln, ca, q, co + x3, st, ops, rg, ns, cells, bk)) : wX_run_20 post x2 (n + 1) x3 x4 ln ca q co st ops rg ns cells bk :=
  br_t hx (nm_e h)
theorem wc_rY1 {post : Int32 → SY → Prop} {x2 x3 ln ca q co : Int32} {ops ra rb rc ns row bk : Nat → Int32} (n : Nat) (h : post x3 (ln, ca, q, 1, co, ops, ra, rb, rc, ns, row, bk)) : wY_run_17 post x2 (n + 1) x3 ln ca q 1 co ops ra rb rc ns row bk :=
  br_c (fun _ => h) (fun _ => br_f (by decide) h)
theorem wc_rY0 {post : Int32 → SY → Prop} {x2 x3 ln ca q ov co : Int32} {ops ra rb rc ns row bk : Nat → Int32} (n : Nat) (hx : x2 ≤ x3) (h : post x3 (ln, ca, q, ov, co, ops, ra, rb, rc, ns, row, bk)) : wY_run_17 post x2 (n + 1) x3 ln ca q ov co ops ra rb rc ns row bk :=
  br_t hx h
/-! what the loop gives, from s steps on with d turns left -/
def wc_G (L m d s c : Nat) (i q st co : Int32) (ops rg ns cells row bk ra rb rc : Nat → Int32) : Prop := ∃ (s' c' : Nat) (q' st' : Int32) (cells' row' bk' : Nat → Int32), c' ≤ 29 ∧ (st' = 0 ∨ st' = 1) ∧ (∀ j, j < 4 * c' + 8 → cells' j = row' j) ∧
  (∀ post : Int32 → SX → Prop, post (nI s') (nI L, nI (c' + 1), q', co + nI s', st', ops, rg, ns, cells', bk') → wX_run_20 post (nI m) (d + 1) (nI s) i (nI L) (nI (c + 1)) q co st ops rg ns cells bk) ∧
  (∀ post : Int32 → SY → Prop, post (nI s') (nI L, nI c', q', st', co + nI s', ops, ra, rb, rc, ns, row', bk') → wY_run_17 post (nI m) (d + 1) (nI s) (nI L) (nI c) q st (co + nI s) ops ra rb rc ns row bk)
theorem wc_loop {L m : Nat} {co : Int32} {ops rg ns ra rb rc : Nat → Int32} (hL : L ≤ 24) (hm : m ≤ 200) (hP : wc_P rg ra rb rc) : ∀ (d s c : Nat) (i q st : Int32) (cells row bk : Nat → Int32), c ≤ 29 → (st = 0 ∨ st = 1) → (∀ j, j < 4 * c + 8 → cells j = row j) → (st = 0 → i = nI s ∧ s + d = m) → wc_G L m d s c i q st co ops rg ns cells row bk ra rb rc := by
  intro d
  induction d with
  | zero =>
    intro s c i q st cells row bk hc hs hA hi
    obtain rfl | rfl := hs
    · obtain ⟨rfl, e⟩ := hi rfl
      have hx : nI m ≤ nI s := nI_le (by omega) (by omega)
      exact ⟨s, c, q, 0, cells, row, bk, hc, Or.inl rfl, hA, fun post h => wc_rX0 0 hx h, fun post h => wc_rY0 0 hx h⟩
    · exact ⟨s, c, q, 1, cells, row, bk, hc, Or.inr rfl, hA, fun post h => wc_rX1 0 h, fun post h => wc_rY1 0 h⟩
  | succ d ih =>
    intro s c i q st cells row bk hc hs hA hi
    obtain rfl | rfl := hs
    · obtain ⟨rfl, e⟩ := hi rfl
      have hx : ¬ nI m ≤ nI s := nI_ge (by omega) (by omega)
      by_cases q0 : q < 0
      · exact ⟨s, c, q, 1, cells, row, bk, hc, Or.inr rfl, hA, fun post h => br_f hx (br_t rfl (br_t q0 (br_t rfl (nm_e (wc_rX1 d h))))), fun post h => br_f hx (br_t rfl (br_t q0 (br_f (by decide) (br_f (by decide) (wc_rY1 d h)))))⟩
      obtain ⟨p, hp, rfl⟩ := nI_of q0
      by_cases hq : p < L
      · have hlt : nI p < nI L := nI_lt hq (by omega)
        have ep : (nI p).toNatClampNeg = p := nI_clamp hp
        have w : vp_in (nI p) 24 := vp_in_nI (by omega) (by omega)
        by_cases hf : ops p = 5 ∧ c = 29
        · obtain ⟨h5, rfl⟩ := hf
          have h5' : ops (nI p).toNatClampNeg = 5 := by rw [ep]; exact h5
          exact ⟨s, 29, nI p, 1, cells, row, bk, hc, Or.inr rfl, hA, fun post h => br_f hx (br_t rfl (br_f q0 (br_t hlt ⟨w, br_t h5' (br_t (nI_le (a := 30) (b := 30) (by omega) (by decide)) (br_t rfl (nm_e (wc_rX1 d h))))⟩))), fun post h => br_f hx (br_t rfl (br_f q0 (br_t hlt (br_t rfl ⟨w, br_t h5' (br_t rfl (br_t rfl (br_f (by decide) (wc_rY1 d h))))⟩))))⟩
        · have h5 : ops p = 5 → c < 29 := fun z => by
            have : ¬ c = 29 := fun z' => hf ⟨z, z'⟩
            omega
          obtain ⟨c', q', st', cells', row', bk', hc', hs', hA', hX, hY⟩ := wc_step (L := L) (ns := ns) (bk := bk) (by omega : p < 24) hc hA hP h5
          obtain ⟨s2, c2, q2, st2, cells2, row2, bk2, hc2, hs2, hA2, hX2, hY2⟩ := ih (s + 1) c' (nI (s + 1)) q' st' cells' row' bk' hc' hs' hA' (fun _ => ⟨rfl, by omega⟩)
          have eco : co + nI s + 1 = co + nI (s + 1) := by rw [Int32.add_assoc, nI_1]
          refine ⟨s2, c2, q2, st2, cells2, row2, bk2, hc2, hs2, hA2, fun post h => ?_, fun post h => ?_⟩
          · have K := hX co (fun u => match u with | (f0, f1, f2, f3, f4, a0, a1, a2, a3, a4) => ∀ y, y = nI s + 1 → ∀ z, z = nI s + 1 → wX_run_20 post (nI m) (d + 1) y z f0 f1 f2 f3 f4 a0 a1 a2 a3 a4) (nm_r (nI_1 s) (nm_r (nI_1 s) (hX2 post h)))
            refine br_f hx (br_t rfl (br_f q0 (br_t hlt ⟨w, br_c (fun z => ?_) (fun _ => br_f (by decide) K)⟩)))
            have z' : ops p = 5 := by rw [← ep]; exact z
            have h29 := h5 z'
            exact br_f (nI_ge (a := c + 1) (b := 30) (by omega) (by decide)) (br_f (by decide) K)
          · have K := hY (co + nI s) (fun u => match u with | (f0, f1, f2, f3, f4, a0, a1, a2, a3, a4, a5, a6) => ∀ y, y = nI s + 1 → wY_run_17 post (nI m) (d + 1) y f0 f1 f2 f3 f4 a0 a1 a2 a3 a4 a5 a6) (nm_r (nI_1 s) (by rw [eco]; exact hY2 post h))
            refine br_f hx (br_t rfl (br_f q0 (br_t hlt (br_t rfl ⟨w, br_c (fun z => ?_) (fun _ => br_t rfl (br_t rfl K))⟩))))
            have z' : ops p = 5 := by rw [← ep]; exact z
            have h29 := h5 z'
            have n29 : ¬ nI c = 29 := fun t => by
              have := (nI_eq (a := c) (b := 29) (by omega) (by decide)).mp t
              omega
            exact br_f n29 (br_t rfl (br_t rfl K))
      · have hge : ¬ nI p < nI L := nI_nlt (by omega) hp
        exact ⟨s, c, nI p, 1, cells, row, bk, hc, Or.inr rfl, hA, fun post h => br_f hx (br_t rfl (br_f q0 (br_f hge (br_t rfl (nm_e (wc_rX1 d h)))))), fun post h => br_f hx (br_t rfl (br_f q0 (br_f hge (br_f (by decide) (br_f (by decide) (wc_rY1 d h))))))⟩
    · exact ⟨s, c, q, 1, cells, row, bk, hc, Or.inr rfl, hA, fun post h => wc_rX1 (d + 1) h, fun post h => wc_rY1 (d + 1) h⟩
theorem wc_go {k L m c : Nat} {p co st : Int32} {ops rg ns cells row bk ra rb rc : Nat → Int32} (hm : m ≤ 200) (hL : L ≤ 24) (hc : c ≤ 29) (hs : st = 0 ∨ st = 1) (hA : ∀ j, j < 4 * c + 8 → cells j = row j) (hP : wc_P rg ra rb rc) (postY : Int32 → SX → Int32 → SY → Prop) (hY : ∀ r u' v', i_Rel k u' v' → postY r u' r v') : ∃ r u', (∀ post : Int32 → SX → Prop, post r u' → ∃ n, wX_run_20 post (nI m) n 0 0 (nI L) (nI (c + 1)) p co st ops rg ns cells bk) ∧ ∃ n, wY_run_17 (postY r u') (nI m) n 0 (nI L) (nI c) p st co ops ra rb rc ns row bk := by
  obtain ⟨s', c', q', st', cells', row', bk', hc', hs', hA', hX, hY2⟩ := wc_loop (co := co) hL hm hP m 0 c 0 p st cells row bk hc hs hA (fun _ => ⟨rfl, by omega⟩)
  have e0 : co + nI 0 = co := by rw [nI_0, Int32.add_zero]
  rw [e0] at hY2
  exact ⟨nI s', _, fun post h => ⟨m + 1, hX post h⟩, m + 1, hY2 _ (hY _ _ _ (wc_mk k hL hc' hs' hA' hP))⟩
theorem i_vc_run {k : Nat} {u : SX} {v : SY} (I : i_Rel k u v) (hk : k + 4 ≤ 2048) (v1 : Int32) : wpX_run (fun r u' => wpY_run (fun r' v' => r' = r ∧ i_Rel (k + 4) u' v') v v1) u v1 := by
  have J : i_Rel (k + 4) u v := i_up I
  obtain ⟨L, c, p, co, st, ops, rg, ns, cells, row, bk, ra, rb, rc, hL, hc, hs, hA, hP, rfl, rfl⟩ := I
  by_cases h0 : v1 < 0
  · have h2 : v1 ≤ 200 := Int32.le_of_lt (Int32.lt_of_lt_of_le h0 (by decide))
    have h1 : v1 ≤ 0 := Int32.le_of_lt h0
    refine br_t h2 ⟨1, wc_rX0 0 h1 (br_t h2 ⟨1, wc_rY0 0 h1 ⟨rfl, ?_⟩⟩)⟩
    rw [Int32.add_zero]
    exact J
  obtain ⟨m, hm, rfl⟩ := nI_of h0
  by_cases h2 : m ≤ 200
  · have h3 : nI m ≤ 200 := nI_le (b := 200) h2 (by decide)
    obtain ⟨r, u', hX, hY⟩ := wc_go (k := k + 4) (p := p) (co := co) (ops := ops) (ns := ns) (bk := bk) h2 hL hc hs hA hP (fun r u' r' v' => r' = r ∧ i_Rel (k + 4) u' v') (fun _ _ _ h => ⟨rfl, h⟩)
    exact br_t h3 (hX _ (br_t h3 hY))
  · have h3 : ¬ nI m ≤ 200 := nI_ge (a := 200) (b := m) (by omega) hm
    obtain ⟨r, u', hX, hY⟩ := wc_go (k := k + 4) (m := 200) (p := p) (co := co) (ops := ops) (ns := ns) (bk := bk) (by omega) hL hc hs hA hP (fun r u' r' v' => r' = r ∧ i_Rel (k + 4) u' v') (fun _ _ _ h => ⟨rfl, h⟩)
    exact br_f h3 (hX _ (br_f h3 hY))
end
