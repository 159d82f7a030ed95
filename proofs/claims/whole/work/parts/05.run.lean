/-! one step of both: there is one end of it, for every post -/
def wc_S (L c p : Nat) (ops rg ns cells row bk ra rb rc : Nat → Int32) : Prop := ∃ (c' : Nat) (q st : Int32) (cells' row' bk' : Nat → Int32), c' ≤ 29 ∧ (st = 0 ∨ st = 1) ∧ (∀ j, j < 4 * c' + 8 → cells' j = row' j) ∧
  (∀ (co : Int32) (post : SX → Prop), post (nI L, nI (c' + 1), q, co, st, ops, rg, ns, cells', bk') → wpX_carryOut post (nI L, nI (c + 1), nI p, co, 0, ops, rg, ns, cells, bk)) ∧
  (∀ (co : Int32) (post : SY → Prop), post (nI L, nI c', q, st, co + 1, ops, ra, rb, rc, ns, row', bk') → wpY_step post (nI L, nI c, nI p, 0, co, ops, ra, rb, rc, ns, row, bk))
theorem wc_step {L c p : Nat} {ops rg ns cells row bk ra rb rc : Nat → Int32} (hp : p < 24) (hc : c ≤ 29) (hA : ∀ j, j < 4 * c + 8 → cells j = row j) (hP : wc_P rg ra rb rc) (h5 : ops p = 5 → c < 29) : wc_S L c p ops rg ns cells row bk ra rb rc := by
  obtain ⟨ia, ha, ea⟩ := wc_a (rg p)
  obtain ⟨ib, hb, eb⟩ := wc_a (rg p >>> ((3 : Int32) &&& 31))
  obtain ⟨ic, hcc, ec⟩ := wc_a (rg p >>> ((6 : Int32) &&& 31))
  obtain ⟨ya, yb, yc⟩ := hP p
  rw [ea] at ya
  rw [eb] at yb
  rw [ec] at yc
  have hia := hA (4 * c + ia) (by omega)
  have hib := hA (4 * c + ib) (by omega)
  have hic := hA (4 * c + ic) (by omega)
  have other : ∀ o : Int32, ops p = o → (o < 0 ∨ 6 < o) → wc_S L c p ops rg ns cells row bk ra rb rc := by
    intro o ho hn
    by_cases z : cells (4 * c + ia) = 0
    · have z' : row (4 * c + ia) = 0 := by rw [← hia]; exact z
      exact ⟨c, ns p, 0, cells, row, bk, hc, Or.inl rfl, hA, fun co post h => wc_xo hp hc ha hb hcc ea eb ec ho hn (fun _ => h) (fun n => absurd z n), fun co post h => wc_yo hp hc ha hb hcc ya yb yc ho hn (fun _ => h) (fun n => absurd z' n)⟩
    · have z' : ¬ row (4 * c + ia) = 0 := by rw [← hia]; exact z
      exact ⟨c, nI (p + 1), 0, cells, row, bk, hc, Or.inl rfl, hA, fun co post h => wc_xo hp hc ha hb hcc ea eb ec ho hn (fun n => absurd n z) (fun _ => h), fun co post h => wc_yo hp hc ha hb hcc ya yb yc ho hn (fun n => absurd n z') (fun _ => h)⟩
  by_cases n0 : ops p < 0
  · exact other _ rfl (Or.inl n0)
  obtain ⟨j, hj, ho⟩ := nI_of n0
  by_cases n6 : 6 < j
  · exact other _ ho (Or.inr (nI_lt (a := 6) n6 hj))
  have hcase : j = 0 ∨ j = 1 ∨ j = 2 ∨ j = 3 ∨ j = 4 ∨ j = 5 ∨ j = 6 := by omega
  obtain rfl | rfl | rfl | rfl | rfl | rfl | rfl := hcase
  · refine ⟨c, nI (p + 1), 0, upd cells (4 * c + ia) (ns p), upd row (4 * c + ia) (ns p), bk, hc, Or.inl rfl, wc_ag hA, fun co post h => wc_x0 hp hc ha hb hcc ea eb ec ho h, fun co post h => wc_y0 hp hc ha hb hcc ya yb yc ho h⟩
  · refine ⟨c, nI (p + 1), 0, upd cells (4 * c + ia) (cells (4 * c + ib) + cells (4 * c + ic)), upd row (4 * c + ia) (row (4 * c + ib) + row (4 * c + ic)), bk, hc, Or.inl rfl, ?_, fun co post h => wc_x1 hp hc ha hb hcc ea eb ec ho h, fun co post h => wc_y1 hp hc ha hb hcc ya yb yc ho h⟩
    rw [hib, hic]
    exact wc_ag hA
  · refine ⟨c, nI (p + 1), 0, upd cells (4 * c + ia) (cells (4 * c + ib) - cells (4 * c + ic)), upd row (4 * c + ia) (row (4 * c + ib) - row (4 * c + ic)), bk, hc, Or.inl rfl, ?_, fun co post h => wc_x2 hp hc ha hb hcc ea eb ec ho h, fun co post h => wc_y2 hp hc ha hb hcc ya yb yc ho h⟩
    rw [hib, hic]
    exact wc_ag hA
  · exact ⟨c, ns p, 0, cells, row, bk, hc, Or.inl rfl, hA, fun co post h => wc_x3 hp hc ha hb hcc ea eb ec ho h, fun co post h => wc_y3 hp hc ha hb hcc ya yb yc ho h⟩
  · refine ⟨c, nI (p + 1), 0, upd cells (4 * c + ia) (cells (4 * c + ib)), upd row (4 * c + ia) (row (4 * c + ib)), bk, hc, Or.inl rfl, ?_, fun co post h => wc_x4 hp hc ha hb hcc ea eb ec ho h, fun co post h => wc_y4 hp hc ha hb hcc ya yb yc ho h⟩
    rw [hib]
    exact wc_ag hA
  · have h29 : c < 29 := h5 ho
    refine ⟨c + 1, ns p, 0, wc_z cells (4 * (c + 1) + 4) 4, wc_z row (4 * (c + 1) + 4) 4, upd bk (c + 1) (nI (p + 1)), by omega, Or.inl rfl, ?_, fun co post h => wc_x5 hp hc ha hb hcc ea eb ec ho h29 h, fun co post h => wc_y5 hp hc ha hb hcc ya yb yc ho h29 h⟩
    intro j hj
    exact wc_z_ag (fun j hj => hA j (by omega)) j (by omega)
  · cases c with
    | zero => exact ⟨0, nI p, 1, cells, row, bk, by omega, Or.inr rfl, hA, fun co post h => wc_x6z hp ha hb hcc ea eb ec ho h, fun co post h => wc_y6z hp ha hb hcc ya yb yc ho h⟩
    | succ c => exact ⟨c, bk (c + 1), 0, cells, row, bk, by omega, Or.inl rfl, fun j hj => hA j (by omega), fun co post h => wc_x6s hp (by omega) ha hb hcc ea eb ec ho h, fun co post h => wc_y6s hp (by omega) ha hb hcc ya yb yc ho h⟩
/-! the loop of run: its ends -/
theorem wc_rX1 {post : Int32 → SX → Prop} {x2 x3 x4 ln ca q co : Int32} {ops rg ns cells bk : Nat → Int32} (n : Nat) (h : post x3 (ln, ca, q, co + x3, 1, ops, rg, ns, cells, bk)) : wX_run_20 post x2 (n + 1) x3 x4 ln ca q co 1 ops rg ns cells bk :=
  br_c (fun _ => nm_e h) (fun _ => br_f (by decide) (nm_e h))
theorem wc_rX0 {post : Int32 → SX → Prop} {x2 x3 x4 ln ca q co st : Int32} {ops rg ns cells bk : Nat → Int32} (n : Nat) (hx : x2 ≤ x4) (h : post x3 (ln, ca, q, co + x3, st, ops, rg, ns, cells, bk)) : wX_run_20 post x2 (n + 1) x3 x4 ln ca q co st ops rg ns cells bk :=
  br_t hx (nm_e h)
theorem wc_rY1 {post : Int32 → SY → Prop} {x2 x3 ln ca q co : Int32} {ops ra rb rc ns row bk : Nat → Int32} (n : Nat) (h : post x3 (ln, ca, q, 1, co, ops, ra, rb, rc, ns, row, bk)) : wY_run_17 post x2 (n + 1) x3 ln ca q 1 co ops ra rb rc ns row bk :=
  br_c (fun _ => h) (fun _ => br_f (by decide) h)
theorem wc_rY0 {post : Int32 → SY → Prop} {x2 x3 ln ca q ov co : Int32} {ops ra rb rc ns row bk : Nat → Int32} (n : Nat) (hx : x2 ≤ x3) (h : post x3 (ln, ca, q, ov, co, ops, ra, rb, rc, ns, row, bk)) : wY_run_17 post x2 (n + 1) x3 ln ca q ov co ops ra rb rc ns row bk :=
  br_t hx h
/-! what the loop gives, from s steps on with d turns left -/
def wc_G (L m d s c : Nat) (i q st co : Int32) (ops rg ns cells row bk ra rb rc : Nat → Int32) : Prop := ∃ (s' c' : Nat) (q' st' : Int32) (cells' row' bk' : Nat → Int32), c' ≤ 29 ∧ (st' = 0 ∨ st' = 1) ∧ (∀ j, j < 4 * c' + 8 → cells' j = row' j) ∧
  (∀ post : Int32 → SX → Prop, post (nI s') (nI L, nI (c' + 1), q', co + nI s', st', ops, rg, ns, cells', bk') → wX_run_20 post (nI m) (d + 1) (nI s) i (nI L) (nI (c + 1)) q co st ops rg ns cells bk) ∧
  (∀ post : Int32 → SY → Prop, post (nI s') (nI L, nI c', q', st', co + nI s', ops, ra, rb, rc, ns, row', bk') → wY_run_17 post (nI m) (d + 1) (nI s) (nI L) (nI c) q st (co + nI s) ops ra rb rc ns row bk)
theorem wc_loop {L m : Nat} {co : Int32} {ops rg ns ra rb rc : Nat → Int32} (hL : L ≤ 24) (hm : m ≤ 200) (hP : wc_P rg ra rb rc) : ∀ (d s c : Nat) (i q st : Int32) (cells row bk : Nat → Int32), c ≤ 29 → (st = 0 ∨ st = 1) → (∀ j, j < 4 * c + 8 → cells j = row j) → (st = 0 → i = nI s ∧ s + d = m) → wc_G L m d s c i q st co ops rg ns cells row bk ra rb rc := by
  intro d
  induction d with
  | zero =>
    intro s c i q st cells row bk hc hs hA hi
    obtain rfl | rfl := hs
    · obtain ⟨rfl, e⟩ := hi rfl
      have hx : nI m ≤ nI s := nI_le (by omega) (by omega)
      exact ⟨s, c, q, 0, cells, row, bk, hc, Or.inl rfl, hA, fun post h => wc_rX0 0 hx h, fun post h => wc_rY0 0 hx h⟩
    · exact ⟨s, c, q, 1, cells, row, bk, hc, Or.inr rfl, hA, fun post h => wc_rX1 0 h, fun post h => wc_rY1 0 h⟩
  | succ d ih =>
    intro s c i q st cells row bk hc hs hA hi
    obtain rfl | rfl := hs
    · obtain ⟨rfl, e⟩ := hi rfl
      have hx : ¬ nI m ≤ nI s := nI_ge (by omega) (by omega)
      by_cases q0 : q < 0
      · exact ⟨s, c, q, 1, cells, row, bk, hc, Or.inr rfl, hA, fun post h => br_f hx (br_t rfl (br_t q0 (br_t rfl (nm_e (wc_rX1 d h))))), fun post h => br_f hx (br_t rfl (br_t q0 (br_f (by decide) (br_f (by decide) (wc_rY1 d h)))))⟩
      obtain ⟨p, hp, rfl⟩ := nI_of q0
      by_cases hq : p < L
      · have hlt : nI p < nI L := nI_lt hq (by omega)
        have ep : (nI p).toNatClampNeg = p := nI_clamp hp
        have w : vp_in (nI p) 24 := vp_in_nI (by omega) (by omega)
        by_cases hf : ops p = 5 ∧ c = 29
        · obtain ⟨h5, rfl⟩ := hf
          have h5' : ops (nI p).toNatClampNeg = 5 := by rw [ep]; exact h5
          exact ⟨s, 29, nI p, 1, cells, row, bk, hc, Or.inr rfl, hA, fun post h => br_f hx (br_t rfl (br_f q0 (br_t hlt ⟨w, br_t h5' (br_t (nI_le (a := 30) (b := 30) (by omega) (by decide)) (br_t rfl (nm_e (wc_rX1 d h))))⟩))), fun post h => br_f hx (br_t rfl (br_f q0 (br_t hlt (br_t rfl ⟨w, br_t h5' (br_t rfl (br_t rfl (br_f (by decide) (wc_rY1 d h))))⟩))))⟩
        · have h5 : ops p = 5 → c < 29 := fun z => by
            have : ¬ c = 29 := fun z' => hf ⟨z, z'⟩
            omega
          obtain ⟨c', q', st', cells', row', bk', hc', hs', hA', hX, hY⟩ := wc_step (L := L) (ns := ns) (bk := bk) (by omega : p < 24) hc hA hP h5
          obtain ⟨s2, c2, q2, st2, cells2, row2, bk2, hc2, hs2, hA2, hX2, hY2⟩ := ih (s + 1) c' (nI (s + 1)) q' st' cells' row' bk' hc' hs' hA' (fun _ => ⟨rfl, by omega⟩)
          have eco : co + nI s + 1 = co + nI (s + 1) := by rw [Int32.add_assoc, nI_1]
          refine ⟨s2, c2, q2, st2, cells2, row2, bk2, hc2, hs2, hA2, fun post h => ?_, fun post h => ?_⟩
          · have K := hX co (fun u => match u with | (f0, f1, f2, f3, f4, a0, a1, a2, a3, a4) => ∀ y, y = nI s + 1 → ∀ z, z = nI s + 1 → wX_run_20 post (nI m) (d + 1) y z f0 f1 f2 f3 f4 a0 a1 a2 a3 a4) (nm_r (nI_1 s) (nm_r (nI_1 s) (hX2 post h)))
            refine br_f hx (br_t rfl (br_f q0 (br_t hlt ⟨w, br_c (fun z => ?_) (fun _ => br_f (by decide) K)⟩)))
            have z' : ops p = 5 := by rw [← ep]; exact z
            have h29 := h5 z'
            exact br_f (nI_ge (a := c + 1) (b := 30) (by omega) (by decide)) (br_f (by decide) K)
          · have K := hY (co + nI s) (fun u => match u with | (f0, f1, f2, f3, f4, a0, a1, a2, a3, a4, a5, a6) => ∀ y, y = nI s + 1 → wY_run_17 post (nI m) (d + 1) y f0 f1 f2 f3 f4 a0 a1 a2 a3 a4 a5 a6) (nm_r (nI_1 s) (by rw [eco]; exact hY2 post h))
            refine br_f hx (br_t rfl (br_f q0 (br_t hlt (br_t rfl ⟨w, br_c (fun z => ?_) (fun _ => br_t rfl (br_t rfl K))⟩))))
            have z' : ops p = 5 := by rw [← ep]; exact z
            have h29 := h5 z'
            have n29 : ¬ nI c = 29 := fun t => by
              have := (nI_eq (a := c) (b := 29) (by omega) (by decide)).mp t
              omega
            exact br_f n29 (br_t rfl (br_t rfl K))
      · have hge : ¬ nI p < nI L := nI_nlt (by omega) hp
        exact ⟨s, c, nI p, 1, cells, row, bk, hc, Or.inr rfl, hA, fun post h => br_f hx (br_t rfl (br_f q0 (br_f hge (br_t rfl (nm_e (wc_rX1 d h)))))), fun post h => br_f hx (br_t rfl (br_f q0 (br_f hge (br_f (by decide) (br_f (by decide) (wc_rY1 d h))))))⟩
    · exact ⟨s, c, q, 1, cells, row, bk, hc, Or.inr rfl, hA, fun post h => wc_rX1 (d + 1) h, fun post h => wc_rY1 (d + 1) h⟩
theorem wc_go {k L m c : Nat} {p co st : Int32} {ops rg ns cells row bk ra rb rc : Nat → Int32} (hm : m ≤ 200) (hL : L ≤ 24) (hc : c ≤ 29) (hs : st = 0 ∨ st = 1) (hA : ∀ j, j < 4 * c + 8 → cells j = row j) (hP : wc_P rg ra rb rc) (postY : Int32 → SX → Int32 → SY → Prop) (hY : ∀ r u' v', i_Rel k u' v' → postY r u' r v') : ∃ r u', (∀ post : Int32 → SX → Prop, post r u' → ∃ n, wX_run_20 post (nI m) n 0 0 (nI L) (nI (c + 1)) p co st ops rg ns cells bk) ∧ ∃ n, wY_run_17 (postY r u') (nI m) n 0 (nI L) (nI c) p st co ops ra rb rc ns row bk := by
  obtain ⟨s', c', q', st', cells', row', bk', hc', hs', hA', hX, hY2⟩ := wc_loop (co := co) hL hm hP m 0 c 0 p st cells row bk hc hs hA (fun _ => ⟨rfl, by omega⟩)
  have e0 : co + nI 0 = co := by rw [nI_0, Int32.add_zero]
  rw [e0] at hY2
  exact ⟨nI s', _, fun post h => ⟨m + 1, hX post h⟩, m + 1, hY2 _ (hY _ _ _ (wc_mk k hL hc' hs' hA' hP))⟩
theorem i_vc_run {k : Nat} {u : SX} {v : SY} (I : i_Rel k u v) (hk : k + 4 ≤ 2048) (v1 : Int32) : wpX_run (fun r u' => wpY_run (fun r' v' => r' = r ∧ i_Rel (k + 4) u' v') v v1) u v1 := by
  have J : i_Rel (k + 4) u v := i_up I
  obtain ⟨L, c, p, co, st, ops, rg, ns, cells, row, bk, ra, rb, rc, hL, hc, hs, hA, hP, rfl, rfl⟩ := I
  by_cases h0 : v1 < 0
  · have h2 : v1 ≤ 200 := Int32.le_of_lt (Int32.lt_of_lt_of_le h0 (by decide))
    have h1 : v1 ≤ 0 := Int32.le_of_lt h0
    refine br_t h2 ⟨1, wc_rX0 0 h1 (br_t h2 ⟨1, wc_rY0 0 h1 ⟨rfl, ?_⟩⟩)⟩
    rw [Int32.add_zero]
    exact J
  obtain ⟨m, hm, rfl⟩ := nI_of h0
  by_cases h2 : m ≤ 200
  · have h3 : nI m ≤ 200 := nI_le (b := 200) h2 (by decide)
    obtain ⟨r, u', hX, hY⟩ := wc_go (k := k + 4) (p := p) (co := co) (ops := ops) (ns := ns) (bk := bk) h2 hL hc hs hA hP (fun r u' r' v' => r' = r ∧ i_Rel (k + 4) u' v') (fun _ _ _ h => ⟨rfl, h⟩)
    exact br_t h3 (hX _ (br_t h3 hY))
  · have h3 : ¬ nI m ≤ 200 := nI_ge (a := 200) (b := m) (by omega) hm
    obtain ⟨r, u', hX, hY⟩ := wc_go (k := k + 4) (m := 200) (p := p) (co := co) (ops := ops) (ns := ns) (bk := bk) (by omega) hL hc hs hA hP (fun r u' r' v' => r' = r ∧ i_Rel (k + 4) u' v') (fun _ _ _ h => ⟨rfl, h⟩)
    exact br_f h3 (hX _ (br_f h3 hY))
