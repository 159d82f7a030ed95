/-! pasted from kit/rows, then pure rows -/
theorem pk_us {f : Nat → Int32} {k : Nat} {x : Int32} : upd f k x k = x := if_pos rfl
theorem pk_un {f : Nat → Int32} {k j : Nat} {x : Int32} (h : j ≠ k) : upd f k x j = f j := if_neg h
theorem pk_sub {a b : Nat} (h : b ≤ a) : nI a - nI b = nI (a - b) := by
  obtain ⟨c, rfl⟩ : ∃ c, a = c + b := ⟨a - b, by omega⟩
  rw [← nI_add, Int32.add_sub_cancel, Nat.add_sub_cancel]
theorem pk_m1 (n : Nat) : nI (n + 1) + (-1) = nI n := by
  rw [← nI_1, Int32.add_assoc, show (1 : Int32) + (-1) = 0 from rfl, Int32.add_zero]
theorem pk_mul (a b : Nat) : nI a * nI b = nI (a * b) := (Int32.ofNat_mul a b).symm
theorem pk_ix (x : Int32) {n : Nat} (hn : n < 2 ^ 31) : x < 0 ∨ nI n ≤ x ∨ ∃ j : Nat, j < n ∧ x = nI j := by
  by_cases h : x < 0
  · exact Or.inl h
  · obtain ⟨j, hj, rfl⟩ := nI_of h
    by_cases h2 : j < n
    · exact Or.inr (Or.inr ⟨j, h2, rfl⟩)
    · exact Or.inr (Or.inl (nI_le (by omega) hj))
theorem pk_le {x y : Int32} {A B : Prop} (a b : Nat) (f : a ≤ b → A) (g : b < a → B) (hx : x = nI a := by rfl) (hy : y = nI b := by rfl) (ha : a < 2 ^ 31 := by omega) (hb : b < 2 ^ 31 := by omega) : (x ≤ y → A) ∧ (¬ x ≤ y → B) := by
  subst hx hy
  rw [nI_leI ha hb]
  exact ⟨f, fun z => g (by omega)⟩
theorem pk_lt {x y : Int32} {A B : Prop} (a b : Nat) (f : a < b → A) (g : b ≤ a → B) (hx : x = nI a := by rfl) (hy : y = nI b := by rfl) (ha : a < 2 ^ 31 := by omega) (hb : b < 2 ^ 31 := by omega) : (x < y → A) ∧ (¬ x < y → B) := by
  subst hx hy
  rw [nI_ltI ha hb]
  exact ⟨f, fun z => g (by omega)⟩
theorem pk_eq {x y : Int32} {A B : Prop} (a b : Nat) (f : a = b → A) (g : a ≠ b → B) (hx : x = nI a := by rfl) (hy : y = nI b := by rfl) (ha : a < 2 ^ 31 := by omega) (hb : b < 2 ^ 31 := by omega) : (x = y → A) ∧ (¬ x = y → B) := by
  subst hx hy
  rw [nI_eq ha hb]
  exact ⟨f, g⟩
theorem pk_in {x : Int32} (n N : Nat) (h : n < N) (hx : x = nI n := by rfl) (hN : N < 2 ^ 31 := by omega) : vp_in x N := by
  subst hx
  exact vp_in_nI h hN
theorem pk_cl {x : Int32} (n : Nat) (hx : x = nI n := by rfl) (h : n < 2 ^ 31 := by omega) : x.toNatClampNeg = n := by
  subst hx
  exact nI_clamp h
theorem pk_tn {n : Nat} (h : n < 2 ^ 32) : (nI n).toBitVec.toNat = n := Nat.mod_eq_of_lt h
theorem pk_and (x : Int32) {m : Int32} (k : Nat) (hm : m.toBitVec.toNat = 2 ^ k - 1) : x &&& m = nI (x.toBitVec.toNat % 2 ^ k) := by
  apply Int32.toBitVec_inj.mp
  apply BitVec.eq_of_toNat_eq
  rw [Int32.toBitVec_and, BitVec.toNat_and, hm, Nat.and_two_pow_sub_one_eq_mod]
  show _ = (BitVec.ofNat 32 _).toNat
  rw [BitVec.toNat_ofNat]
  exact (Nat.mod_eq_of_lt (Nat.lt_of_le_of_lt (Nat.mod_le _ _) x.toBitVec.isLt)).symm
theorem pk_andN {n : Nat} (h : n < 2 ^ 32) {m : Int32} (k : Nat) (hm : m.toBitVec.toNat = 2 ^ k - 1) : nI n &&& m = nI (n % 2 ^ k) := by
  rw [pk_and _ k hm, pk_tn h]
theorem pk_andE (x : Int32) {m : Int32} (k : Nat) (hm : m.toBitVec.toNat = 2 ^ k - 1) : ∃ j : Nat, j < 2 ^ k ∧ x &&& m = nI j := ⟨_, Nat.mod_lt _ (Nat.two_pow_pos k), pk_and x k hm⟩
theorem pk_andIn (x : Int32) {m : Int32} (k : Nat) (hm : m.toBitVec.toNat = 2 ^ k - 1) (hk : k ≤ 30) : vp_in (x &&& m) (2 ^ k) := by
  obtain ⟨j, hj, e⟩ := pk_andE x k hm
  rw [e]
  exact vp_in_nI hj (Nat.lt_of_le_of_lt (Nat.pow_le_pow_right (by decide) hk) (by decide))
theorem pk_shr (a s : Int32) (k : Nat) (hs : (s.toBitVec.smod 32).toNat = k) : (a >>> s).toInt = a.toInt >>> k := by
  show (a.toBitVec.sshiftRight (s.toBitVec.smod 32).toNat).toInt = _
  rw [hs, BitVec.toInt_sshiftRight]
  rfl
theorem pk_shrN {n : Nat} (h : n < 2 ^ 31) (s : Int32) (k : Nat) (hs : (s.toBitVec.smod 32).toNat = k) : nI n >>> s = nI (n / 2 ^ k) := by
  apply Int32.toInt_inj.mp
  have h2 : n / 2 ^ k ≤ n := Nat.div_le_self _ _
  rw [pk_shr _ _ k hs, nI_toInt h, nI_toInt (by omega), Int.shiftRight_eq_div_pow]
  rfl
theorem pk_loop {σ : Type} (W : Nat → Nat → σ → Prop) (I : Nat → σ → Prop) (e i0 : Nat) (s : σ) (hi : i0 ≤ e) (h0 : I i0 s) (hx : ∀ n s, I e s → W (n + 1) e s)
    (hs : ∀ n i s, i < e → I i s → (∀ s', I (i + 1) s' → W n (i + 1) s') → W (n + 1) i s) : ∃ n, W n i0 s :=
  ⟨e + 1, loop_i W I e hx hs (e + 1) i0 s hi (by omega) h0⟩
/-! agreement of two arrays below m -/
theorem wc_ag {f g : Nat → Int32} {m k : Nat} {x : Int32} (h : ∀ j, j < m → f j = g j) : ∀ j, j < m → upd f k x j = upd g k x j := by
  intro j hj
  unfold upd
  split
  · rfl
  · exact h j hj
theorem wc_lo {f g : Nat → Int32} {m n : Nat} (hn : n ≤ m) (h : ∀ j, j < m → f j = g j) : ∀ j, j < n → f j = g j := fun j hj => h j (Nat.lt_of_lt_of_le hj hn)
/-! n cells from b on cleared -/
def wc_z (f : Nat → Int32) (b : Nat) : Nat → Nat → Int32
  | 0 => f
  | n + 1 => upd (wc_z f b n) (b + n) 0
theorem wc_z_lo (f : Nat → Int32) (b : Nat) : ∀ n j, j < b → wc_z f b n j = f j := by
  intro n
  induction n with
  | zero => intro j _; rfl
  | succ n ih =>
    intro j hj
    show upd (wc_z f b n) (b + n) 0 j = f j
    rw [pk_un (by omega)]
    exact ih j hj
theorem wc_z_in (f : Nat → Int32) (b : Nat) : ∀ n j, b ≤ j → j < b + n → wc_z f b n j = 0 := by
  intro n
  induction n with
  | zero => intro j h1 h2; omega
  | succ n ih =>
    intro j h1 h2
    show upd (wc_z f b n) (b + n) 0 j = 0
    by_cases e : j = b + n
    · subst e
      exact pk_us
    · rw [pk_un e]
      exact ih j h1 (by omega)
theorem wc_z_ag {f g : Nat → Int32} {b n : Nat} (h : ∀ j, j < b → f j = g j) : ∀ j, j < b + n → wc_z f b n j = wc_z g b n j := by
  intro j hj
  by_cases e : j < b
  · rw [wc_z_lo f b n j e, wc_z_lo g b n j e]
    exact h j e
  · rw [wc_z_in f b n j (by omega) hj, wc_z_in g b n j (by omega) hj]
/-! the digest: the inner sum over r cells of window k, begun at s; then over k windows -/
def wc_in (f : Nat → Int32) (k : Nat) (s : Int32) : Nat → Int32
  | 0 => s
  | r + 1 => wc_in f k s r + nI (8 * k + r + 1) * f (4 * k + r)
def wc_out (f : Nat → Int32) : Nat → Int32
  | 0 => 0
  | k + 1 => wc_in f k (wc_out f k) 8
theorem wc_in_ag {f g : Nat → Int32} {k : Nat} {s : Int32} : ∀ r, (∀ j, j < 4 * k + r → f j = g j) → wc_in f k s r = wc_in g k s r := by
  intro r
  induction r with
  | zero => intro _; rfl
  | succ r ih =>
    intro h
    show wc_in f k s r + nI (8 * k + r + 1) * f (4 * k + r) = wc_in g k s r + nI (8 * k + r + 1) * g (4 * k + r)
    rw [ih (fun j hj => h j (by omega)), h (4 * k + r) (by omega)]
theorem wc_out_ag {f g : Nat → Int32} : ∀ k, (∀ j, j < 4 * k + 4 → f j = g j) → wc_out f k = wc_out g k := by
  intro k
  induction k with
  | zero => intro _; rfl
  | succ k ih =>
    intro h
    show wc_in f k (wc_out f k) 8 = wc_in g k (wc_out g k) 8
    rw [ih (fun j hj => h j (by omega))]
    exact wc_in_ag 8 (fun j hj => h j (by omega))
/-! numbers -/
theorem wc_4 (c : Nat) : (4 : Int32) * nI c = nI (4 * c) := pk_mul 4 c
theorem wc_8 (c : Nat) : (8 : Int32) * nI c = nI (8 * c) := pk_mul 8 c
theorem wc_ws {c d : Nat} (h : d ≤ c) : (4 : Int32) * ((nI (c + 1) - 1) - nI d) = nI (4 * (c - d)) := by
  rw [nI_pred, pk_sub h]
  exact wc_4 _
theorem wc_ws0 (c : Nat) : (4 : Int32) * ((nI (c + 1) - 1) - 0) = nI (4 * c) := wc_ws (c := c) (d := 0) (Nat.zero_le c)
theorem wc_a (x : Int32) : ∃ j : Nat, j < 8 ∧ x &&& 7 = nI j := pk_andE x 3 (by decide)
theorem wc_hi {r : Nat} (h : r ≤ 511) : nI r >>> ((6 : Int32) &&& 31) = (nI r >>> ((6 : Int32) &&& 31)) &&& 7 := by
  rw [pk_shrN (by omega) _ 6 (by decide), pk_andN (by omega) 3 (by decide)]
  exact congrArg nI (by omega)
theorem wc_b0 : narrow .boolean (.int 0) = .int 0 := rfl
theorem wc_b1 : narrow .boolean (.int 1) = .int 1 := rfl
theorem wc_b {s : Int32} (h : s = 0 ∨ s = 1) : narrow .boolean (.int s) = .int s := by
  cases h with
  | inl e => rw [e]; rfl
  | inr e => rw [e]; rfl
