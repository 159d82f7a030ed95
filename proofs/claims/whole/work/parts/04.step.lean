/-! one step: X's carryOut and Y's step, one theorem an op -/
theorem wc_x0 {post : SX → Prop} {ln co st : Int32} {ops rg ns cells bk : Nat → Int32} {c p ia ib ic : Nat} (hp : p < 24) (hc : c ≤ 29) (ha : ia < 8) (hb : ib < 8) (hcc : ic < 8) (ea : rg p &&& 7 = nI ia) (eb : (rg p >>> ((3 : Int32) &&& 31)) &&& 7 = nI ib) (ec : (rg p >>> ((6 : Int32) &&& 31)) &&& 7 = nI ic) (ho : ops p = 0) (h : post (ln, nI (c + 1), nI (p + 1), co, st, ops, rg, ns, (upd cells (4 * c + ia) (ns p)), bk)) : wpX_carryOut post (ln, nI (c + 1), nI p, co, st, ops, rg, ns, cells, bk) := by
  have e : (nI p).toNatClampNeg = p := nI_clamp (by omega)
  have w : vp_in (nI p) 24 := vp_in_nI hp (by omega)
  have wa : vp_in (nI (4 * c + ia)) 124 := vp_in_nI (by omega) (by omega)
  have wb : vp_in (nI (4 * c + ib)) 124 := vp_in_nI (by omega) (by omega)
  have wd : vp_in (nI (4 * c + ic)) 124 := vp_in_nI (by omega) (by omega)
  have ka : (nI (4 * c + ia)).toNatClampNeg = 4 * c + ia := nI_clamp (by omega)
  have kb : (nI (4 * c + ib)).toNatClampNeg = 4 * c + ib := nI_clamp (by omega)
  have kc : (nI (4 * c + ic)).toNatClampNeg = 4 * c + ic := nI_clamp (by omega)
  unfold wpX_carryOut
  dsimp only
  refine wc_wsX0 ⟨w, nm_r (e' := rg p) (by rw [e]) (nm_r (e' := nI (4 * c + ia)) (by rw [ea, nI_add]) (nm_r (e' := nI (4 * c + ib)) (by rw [eb, nI_add]) (nm_r (e' := nI (4 * c + ic)) (by rw [ec, nI_add]) (nm_r (nI_1 p) ⟨w, nm_r (e' := 0) (by rw [e, ho]) ?_⟩))))⟩
  exact br_f (by decide) (br_f (by decide) (br_t rfl ⟨w, wa, nm_r (e' := upd cells (4 * c + ia) (ns p)) (by rw [ka, e]) h⟩))
theorem wc_y0 {post : SY → Prop} {ln co ov : Int32} {ops ra rb rc ns row bk : Nat → Int32} {c p ia ib ic : Nat} (hp : p < 24) (hc : c ≤ 29) (ha : ia < 8) (hb : ib < 8) (hcc : ic < 8) (ea : ra p = nI ia) (eb : rb p = nI ib) (ec : rc p = nI ic) (ho : ops p = 0) (h : post (ln, nI c, nI (p + 1), ov, co + 1, ops, ra, rb, rc, ns, (upd row (4 * c + ia) (ns p)), bk)) : wpY_step post (ln, nI c, nI p, ov, co, ops, ra, rb, rc, ns, row, bk) := by
  have e : (nI p).toNatClampNeg = p := nI_clamp (by omega)
  have w : vp_in (nI p) 24 := vp_in_nI hp (by omega)
  have wa : vp_in (nI (4 * c + ia)) 124 := vp_in_nI (by omega) (by omega)
  have wb : vp_in (nI (4 * c + ib)) 124 := vp_in_nI (by omega) (by omega)
  have wd : vp_in (nI (4 * c + ic)) 124 := vp_in_nI (by omega) (by omega)
  have ka : (nI (4 * c + ia)).toNatClampNeg = 4 * c + ia := nI_clamp (by omega)
  have kb : (nI (4 * c + ib)).toNatClampNeg = 4 * c + ib := nI_clamp (by omega)
  have kc : (nI (4 * c + ic)).toNatClampNeg = 4 * c + ic := nI_clamp (by omega)
  have xb : nI (4 * c) + rb (nI p).toNatClampNeg = nI (4 * c + ib) := by rw [e, eb, nI_add]
  have xc : nI (4 * c) + rc (nI p).toNatClampNeg = nI (4 * c + ic) := by rw [e, ec, nI_add]
  unfold wpY_step
  dsimp only
  refine ⟨w, nm_r (e' := 0) (by rw [e, ho]) (nm_r (wc_4 c) ⟨w, nm_r (e' := nI (4 * c + ia)) (by rw [e, ea, nI_add]) ⟨w, pk_in _ 124 (by omega) xb, nm_r (e' := row (4 * c + ib)) (by rw [xb, kb]) ⟨w, pk_in _ 124 (by omega) xc, nm_r (e' := row (4 * c + ic)) (by rw [xc, kc]) ⟨w, nm_r (e' := ns p) (by rw [e]) (nm_r (nI_1 p) ?_)⟩⟩⟩⟩)⟩
  exact br_t rfl ⟨wa, nm_r (e' := upd row (4 * c + ia) (ns p)) (by rw [ka]) (nm_e h)⟩
theorem wc_x1 {post : SX → Prop} {ln co st : Int32} {ops rg ns cells bk : Nat → Int32} {c p ia ib ic : Nat} (hp : p < 24) (hc : c ≤ 29) (ha : ia < 8) (hb : ib < 8) (hcc : ic < 8) (ea : rg p &&& 7 = nI ia) (eb : (rg p >>> ((3 : Int32) &&& 31)) &&& 7 = nI ib) (ec : (rg p >>> ((6 : Int32) &&& 31)) &&& 7 = nI ic) (ho : ops p = 1) (h : post (ln, nI (c + 1), nI (p + 1), co, st, ops, rg, ns, (upd cells (4 * c + ia) (cells (4 * c + ib) + cells (4 * c + ic))), bk)) : wpX_carryOut post (ln, nI (c + 1), nI p, co, st, ops, rg, ns, cells, bk) := by
  have e : (nI p).toNatClampNeg = p := nI_clamp (by omega)
  have w : vp_in (nI p) 24 := vp_in_nI hp (by omega)
  have wa : vp_in (nI (4 * c + ia)) 124 := vp_in_nI (by omega) (by omega)
  have wb : vp_in (nI (4 * c + ib)) 124 := vp_in_nI (by omega) (by omega)
  have wd : vp_in (nI (4 * c + ic)) 124 := vp_in_nI (by omega) (by omega)
  have ka : (nI (4 * c + ia)).toNatClampNeg = 4 * c + ia := nI_clamp (by omega)
  have kb : (nI (4 * c + ib)).toNatClampNeg = 4 * c + ib := nI_clamp (by omega)
  have kc : (nI (4 * c + ic)).toNatClampNeg = 4 * c + ic := nI_clamp (by omega)
  unfold wpX_carryOut
  dsimp only
  refine wc_wsX0 ⟨w, nm_r (e' := rg p) (by rw [e]) (nm_r (e' := nI (4 * c + ia)) (by rw [ea, nI_add]) (nm_r (e' := nI (4 * c + ib)) (by rw [eb, nI_add]) (nm_r (e' := nI (4 * c + ic)) (by rw [ec, nI_add]) (nm_r (nI_1 p) ⟨w, nm_r (e' := 1) (by rw [e, ho]) ?_⟩))))⟩
  exact br_f (by decide) (br_f (by decide) (br_f (by decide) (br_t rfl ⟨wb, wd, wa, nm_r (e' := upd cells (4 * c + ia) (cells (4 * c + ib) + cells (4 * c + ic))) (by rw [ka, kb, kc]) h⟩)))
theorem wc_y1 {post : SY → Prop} {ln co ov : Int32} {ops ra rb rc ns row bk : Nat → Int32} {c p ia ib ic : Nat} (hp : p < 24) (hc : c ≤ 29) (ha : ia < 8) (hb : ib < 8) (hcc : ic < 8) (ea : ra p = nI ia) (eb : rb p = nI ib) (ec : rc p = nI ic) (ho : ops p = 1) (h : post (ln, nI c, nI (p + 1), ov, co + 1, ops, ra, rb, rc, ns, (upd row (4 * c + ia) (row (4 * c + ib) + row (4 * c + ic))), bk)) : wpY_step post (ln, nI c, nI p, ov, co, ops, ra, rb, rc, ns, row, bk) := by
  have e : (nI p).toNatClampNeg = p := nI_clamp (by omega)
  have w : vp_in (nI p) 24 := vp_in_nI hp (by omega)
  have wa : vp_in (nI (4 * c + ia)) 124 := vp_in_nI (by omega) (by omega)
  have wb : vp_in (nI (4 * c + ib)) 124 := vp_in_nI (by omega) (by omega)
  have wd : vp_in (nI (4 * c + ic)) 124 := vp_in_nI (by omega) (by omega)
  have ka : (nI (4 * c + ia)).toNatClampNeg = 4 * c + ia := nI_clamp (by omega)
  have kb : (nI (4 * c + ib)).toNatClampNeg = 4 * c + ib := nI_clamp (by omega)
  have kc : (nI (4 * c + ic)).toNatClampNeg = 4 * c + ic := nI_clamp (by omega)
  have xb : nI (4 * c) + rb (nI p).toNatClampNeg = nI (4 * c + ib) := by rw [e, eb, nI_add]
  have xc : nI (4 * c) + rc (nI p).toNatClampNeg = nI (4 * c + ic) := by rw [e, ec, nI_add]
  unfold wpY_step
  dsimp only
  refine ⟨w, nm_r (e' := 1) (by rw [e, ho]) (nm_r (wc_4 c) ⟨w, nm_r (e' := nI (4 * c + ia)) (by rw [e, ea, nI_add]) ⟨w, pk_in _ 124 (by omega) xb, nm_r (e' := row (4 * c + ib)) (by rw [xb, kb]) ⟨w, pk_in _ 124 (by omega) xc, nm_r (e' := row (4 * c + ic)) (by rw [xc, kc]) ⟨w, nm_r (e' := ns p) (by rw [e]) (nm_r (nI_1 p) ?_)⟩⟩⟩⟩)⟩
  exact br_f (by decide) (br_t rfl ⟨wa, nm_r (e' := upd row (4 * c + ia) (row (4 * c + ib) + row (4 * c + ic))) (by rw [ka]) (nm_e h)⟩)
theorem wc_x2 {post : SX → Prop} {ln co st : Int32} {ops rg ns cells bk : Nat → Int32} {c p ia ib ic : Nat} (hp : p < 24) (hc : c ≤ 29) (ha : ia < 8) (hb : ib < 8) (hcc : ic < 8) (ea : rg p &&& 7 = nI ia) (eb : (rg p >>> ((3 : Int32) &&& 31)) &&& 7 = nI ib) (ec : (rg p >>> ((6 : Int32) &&& 31)) &&& 7 = nI ic) (ho : ops p = 2) (h : post (ln, nI (c + 1), nI (p + 1), co, st, ops, rg, ns, (upd cells (4 * c + ia) (cells (4 * c + ib) - cells (4 * c + ic))), bk)) : wpX_carryOut post (ln, nI (c + 1), nI p, co, st, ops, rg, ns, cells, bk) := by
  have e : (nI p).toNatClampNeg = p := nI_clamp (by omega)
  have w : vp_in (nI p) 24 := vp_in_nI hp (by omega)
  have wa : vp_in (nI (4 * c + ia)) 124 := vp_in_nI (by omega) (by omega)
  have wb : vp_in (nI (4 * c + ib)) 124 := vp_in_nI (by omega) (by omega)
  have wd : vp_in (nI (4 * c + ic)) 124 := vp_in_nI (by omega) (by omega)
  have ka : (nI (4 * c + ia)).toNatClampNeg = 4 * c + ia := nI_clamp (by omega)
  have kb : (nI (4 * c + ib)).toNatClampNeg = 4 * c + ib := nI_clamp (by omega)
  have kc : (nI (4 * c + ic)).toNatClampNeg = 4 * c + ic := nI_clamp (by omega)
  unfold wpX_carryOut
  dsimp only
  refine wc_wsX0 ⟨w, nm_r (e' := rg p) (by rw [e]) (nm_r (e' := nI (4 * c + ia)) (by rw [ea, nI_add]) (nm_r (e' := nI (4 * c + ib)) (by rw [eb, nI_add]) (nm_r (e' := nI (4 * c + ic)) (by rw [ec, nI_add]) (nm_r (nI_1 p) ⟨w, nm_r (e' := 2) (by rw [e, ho]) ?_⟩))))⟩
  exact br_f (by decide) (br_f (by decide) (br_f (by decide) (br_f (by decide) (br_t rfl ⟨wb, wd, wa, nm_r (e' := upd cells (4 * c + ia) (cells (4 * c + ib) - cells (4 * c + ic))) (by rw [ka, kb, kc]) h⟩))))
theorem wc_y2 {post : SY → Prop} {ln co ov : Int32} {ops ra rb rc ns row bk : Nat → Int32} {c p ia ib ic : Nat} (hp : p < 24) (hc : c ≤ 29) (ha : ia < 8) (hb : ib < 8) (hcc : ic < 8) (ea : ra p = nI ia) (eb : rb p = nI ib) (ec : rc p = nI ic) (ho : ops p = 2) (h : post (ln, nI c, nI (p + 1), ov, co + 1, ops, ra, rb, rc, ns, (upd row (4 * c + ia) (row (4 * c + ib) - row (4 * c + ic))), bk)) : wpY_step post (ln, nI c, nI p, ov, co, ops, ra, rb, rc, ns, row, bk) := by
  have e : (nI p).toNatClampNeg = p := nI_clamp (by omega)
  have w : vp_in (nI p) 24 := vp_in_nI hp (by omega)
  have wa : vp_in (nI (4 * c + ia)) 124 := vp_in_nI (by omega) (by omega)
  have wb : vp_in (nI (4 * c + ib)) 124 := vp_in_nI (by omega) (by omega)
  have wd : vp_in (nI (4 * c + ic)) 124 := vp_in_nI (by omega) (by omega)
  have ka : (nI (4 * c + ia)).toNatClampNeg = 4 * c + ia := nI_clamp (by omega)
  have kb : (nI (4 * c + ib)).toNatClampNeg = 4 * c + ib := nI_clamp (by omega)
  have kc : (nI (4 * c + ic)).toNatClampNeg = 4 * c + ic := nI_clamp (by omega)
  have xb : nI (4 * c) + rb (nI p).toNatClampNeg = nI (4 * c + ib) := by rw [e, eb, nI_add]
  have xc : nI (4 * c) + rc (nI p).toNatClampNeg = nI (4 * c + ic) := by rw [e, ec, nI_add]
  unfold wpY_step
  dsimp only
  refine ⟨w, nm_r (e' := 2) (by rw [e, ho]) (nm_r (wc_4 c) ⟨w, nm_r (e' := nI (4 * c + ia)) (by rw [e, ea, nI_add]) ⟨w, pk_in _ 124 (by omega) xb, nm_r (e' := row (4 * c + ib)) (by rw [xb, kb]) ⟨w, pk_in _ 124 (by omega) xc, nm_r (e' := row (4 * c + ic)) (by rw [xc, kc]) ⟨w, nm_r (e' := ns p) (by rw [e]) (nm_r (nI_1 p) ?_)⟩⟩⟩⟩)⟩
  exact br_f (by decide) (br_f (by decide) (br_t rfl ⟨wa, nm_r (e' := upd row (4 * c + ia) (row (4 * c + ib) - row (4 * c + ic))) (by rw [ka]) (nm_e h)⟩))
theorem wc_x4 {post : SX → Prop} {ln co st : Int32} {ops rg ns cells bk : Nat → Int32} {c p ia ib ic : Nat} (hp : p < 24) (hc : c ≤ 29) (ha : ia < 8) (hb : ib < 8) (hcc : ic < 8) (ea : rg p &&& 7 = nI ia) (eb : (rg p >>> ((3 : Int32) &&& 31)) &&& 7 = nI ib) (ec : (rg p >>> ((6 : Int32) &&& 31)) &&& 7 = nI ic) (ho : ops p = 4) (h : post (ln, nI (c + 1), nI (p + 1), co, st, ops, rg, ns, (upd cells (4 * c + ia) (cells (4 * c + ib))), bk)) : wpX_carryOut post (ln, nI (c + 1), nI p, co, st, ops, rg, ns, cells, bk) := by
  have e : (nI p).toNatClampNeg = p := nI_clamp (by omega)
  have w : vp_in (nI p) 24 := vp_in_nI hp (by omega)
  have wa : vp_in (nI (4 * c + ia)) 124 := vp_in_nI (by omega) (by omega)
  have wb : vp_in (nI (4 * c + ib)) 124 := vp_in_nI (by omega) (by omega)
  have wd : vp_in (nI (4 * c + ic)) 124 := vp_in_nI (by omega) (by omega)
  have ka : (nI (4 * c + ia)).toNatClampNeg = 4 * c + ia := nI_clamp (by omega)
  have kb : (nI (4 * c + ib)).toNatClampNeg = 4 * c + ib := nI_clamp (by omega)
  have kc : (nI (4 * c + ic)).toNatClampNeg = 4 * c + ic := nI_clamp (by omega)
  unfold wpX_carryOut
  dsimp only
  refine wc_wsX0 ⟨w, nm_r (e' := rg p) (by rw [e]) (nm_r (e' := nI (4 * c + ia)) (by rw [ea, nI_add]) (nm_r (e' := nI (4 * c + ib)) (by rw [eb, nI_add]) (nm_r (e' := nI (4 * c + ic)) (by rw [ec, nI_add]) (nm_r (nI_1 p) ⟨w, nm_r (e' := 4) (by rw [e, ho]) ?_⟩))))⟩
  exact br_f (by decide) (br_f (by decide) (br_f (by decide) (br_f (by decide) (br_f (by decide) (br_f (by decide) (br_t rfl ⟨wb, wa, nm_r (e' := upd cells (4 * c + ia) (cells (4 * c + ib))) (by rw [ka, kb]) h⟩))))))
theorem wc_y4 {post : SY → Prop} {ln co ov : Int32} {ops ra rb rc ns row bk : Nat → Int32} {c p ia ib ic : Nat} (hp : p < 24) (hc : c ≤ 29) (ha : ia < 8) (hb : ib < 8) (hcc : ic < 8) (ea : ra p = nI ia) (eb : rb p = nI ib) (ec : rc p = nI ic) (ho : ops p = 4) (h : post (ln, nI c, nI (p + 1), ov, co + 1, ops, ra, rb, rc, ns, (upd row (4 * c + ia) (row (4 * c + ib))), bk)) : wpY_step post (ln, nI c, nI p, ov, co, ops, ra, rb, rc, ns, row, bk) := by
  have e : (nI p).toNatClampNeg = p := nI_clamp (by omega)
  have w : vp_in (nI p) 24 := vp_in_nI hp (by omega)
  have wa : vp_in (nI (4 * c + ia)) 124 := vp_in_nI (by omega) (by omega)
  have wb : vp_in (nI (4 * c + ib)) 124 := vp_in_nI (by omega) (by omega)
  have wd : vp_in (nI (4 * c + ic)) 124 := vp_in_nI (by omega) (by omega)
  have ka : (nI (4 * c + ia)).toNatClampNeg = 4 * c + ia := nI_clamp (by omega)
  have kb : (nI (4 * c + ib)).toNatClampNeg = 4 * c + ib := nI_clamp (by omega)
  have kc : (nI (4 * c + ic)).toNatClampNeg = 4 * c + ic := nI_clamp (by omega)
  have xb : nI (4 * c) + rb (nI p).toNatClampNeg = nI (4 * c + ib) := by rw [e, eb, nI_add]
  have xc : nI (4 * c) + rc (nI p).toNatClampNeg = nI (4 * c + ic) := by rw [e, ec, nI_add]
  unfold wpY_step
  dsimp only
  refine ⟨w, nm_r (e' := 4) (by rw [e, ho]) (nm_r (wc_4 c) ⟨w, nm_r (e' := nI (4 * c + ia)) (by rw [e, ea, nI_add]) ⟨w, pk_in _ 124 (by omega) xb, nm_r (e' := row (4 * c + ib)) (by rw [xb, kb]) ⟨w, pk_in _ 124 (by omega) xc, nm_r (e' := row (4 * c + ic)) (by rw [xc, kc]) ⟨w, nm_r (e' := ns p) (by rw [e]) (nm_r (nI_1 p) ?_)⟩⟩⟩⟩)⟩
  exact br_f (by decide) (br_f (by decide) (br_f (by decide) (br_t rfl ⟨wa, nm_r (e' := upd row (4 * c + ia) (row (4 * c + ib))) (by rw [ka]) (nm_e h)⟩)))
theorem wc_x3 {post : SX → Prop} {ln co st : Int32} {ops rg ns cells bk : Nat → Int32} {c p ia ib ic : Nat} (hp : p < 24) (hc : c ≤ 29) (ha : ia < 8) (hb : ib < 8) (hcc : ic < 8) (ea : rg p &&& 7 = nI ia) (eb : (rg p >>> ((3 : Int32) &&& 31)) &&& 7 = nI ib) (ec : (rg p >>> ((6 : Int32) &&& 31)) &&& 7 = nI ic) (ho : ops p = 3) (h : post (ln, nI (c + 1), ns p, co, st, ops, rg, ns, cells, bk)) : wpX_carryOut post (ln, nI (c + 1), nI p, co, st, ops, rg, ns, cells, bk) := by
  have e : (nI p).toNatClampNeg = p := nI_clamp (by omega)
  have w : vp_in (nI p) 24 := vp_in_nI hp (by omega)
  have wa : vp_in (nI (4 * c + ia)) 124 := vp_in_nI (by omega) (by omega)
  have wb : vp_in (nI (4 * c + ib)) 124 := vp_in_nI (by omega) (by omega)
  have wd : vp_in (nI (4 * c + ic)) 124 := vp_in_nI (by omega) (by omega)
  have ka : (nI (4 * c + ia)).toNatClampNeg = 4 * c + ia := nI_clamp (by omega)
  have kb : (nI (4 * c + ib)).toNatClampNeg = 4 * c + ib := nI_clamp (by omega)
  have kc : (nI (4 * c + ic)).toNatClampNeg = 4 * c + ic := nI_clamp (by omega)
  unfold wpX_carryOut
  dsimp only
  refine wc_wsX0 ⟨w, nm_r (e' := rg p) (by rw [e]) (nm_r (e' := nI (4 * c + ia)) (by rw [ea, nI_add]) (nm_r (e' := nI (4 * c + ib)) (by rw [eb, nI_add]) (nm_r (e' := nI (4 * c + ic)) (by rw [ec, nI_add]) (nm_r (nI_1 p) ⟨w, nm_r (e' := 3) (by rw [e, ho]) ?_⟩))))⟩
  exact br_f (by decide) (br_f (by decide) (br_f (by decide) (br_f (by decide) (br_f (by decide) (br_t rfl ⟨w, nm_r (e' := ns p) (by rw [e]) h⟩)))))
theorem wc_y3 {post : SY → Prop} {ln co ov : Int32} {ops ra rb rc ns row bk : Nat → Int32} {c p ia ib ic : Nat} (hp : p < 24) (hc : c ≤ 29) (ha : ia < 8) (hb : ib < 8) (hcc : ic < 8) (ea : ra p = nI ia) (eb : rb p = nI ib) (ec : rc p = nI ic) (ho : ops p = 3) (h : post (ln, nI c, ns p, ov, co + 1, ops, ra, rb, rc, ns, row, bk)) : wpY_step post (ln, nI c, nI p, ov, co, ops, ra, rb, rc, ns, row, bk) := by
  have e : (nI p).toNatClampNeg = p := nI_clamp (by omega)
  have w : vp_in (nI p) 24 := vp_in_nI hp (by omega)
  have wa : vp_in (nI (4 * c + ia)) 124 := vp_in_nI (by omega) (by omega)
  have wb : vp_in (nI (4 * c + ib)) 124 := vp_in_nI (by omega) (by omega)
  have wd : vp_in (nI (4 * c + ic)) 124 := vp_in_nI (by omega) (by omega)
  have ka : (nI (4 * c + ia)).toNatClampNeg = 4 * c + ia := nI_clamp (by omega)
  have kb : (nI (4 * c + ib)).toNatClampNeg = 4 * c + ib := nI_clamp (by omega)
  have kc : (nI (4 * c + ic)).toNatClampNeg = 4 * c + ic := nI_clamp (by omega)
  have xb : nI (4 * c) + rb (nI p).toNatClampNeg = nI (4 * c + ib) := by rw [e, eb, nI_add]
  have xc : nI (4 * c) + rc (nI p).toNatClampNeg = nI (4 * c + ic) := by rw [e, ec, nI_add]
  unfold wpY_step
  dsimp only
  refine ⟨w, nm_r (e' := 3) (by rw [e, ho]) (nm_r (wc_4 c) ⟨w, nm_r (e' := nI (4 * c + ia)) (by rw [e, ea, nI_add]) ⟨w, pk_in _ 124 (by omega) xb, nm_r (e' := row (4 * c + ib)) (by rw [xb, kb]) ⟨w, pk_in _ 124 (by omega) xc, nm_r (e' := row (4 * c + ic)) (by rw [xc, kc]) ⟨w, nm_r (e' := ns p) (by rw [e]) (nm_r (nI_1 p) ?_)⟩⟩⟩⟩)⟩
  exact br_f (by decide) (br_f (by decide) (br_f (by decide) (br_f (by decide) (br_f (by decide) (br_f (by decide) (br_t rfl (nm_e h)))))))
theorem wc_bc30 {post : SX → Prop} {ln ca q co st : Int32} {ops rg ns cells bk : Nat → Int32} {c p : Nat} (hp : p < 24) (hc : c ≤ 29) (h : post (ln, ca, ns p, co, st, ops, rg, ns, wc_z cells (4 * c + 4) 4, bk)) : ∀ d i n : Nat, i + d = 4 → d < n → wX_beginCall_30 post (nI p) (nI (4 * c)) ln ca q co st n (nI (4 + i)) ops rg ns (wc_z cells (4 * c + 4) i) bk := by
  intro d
  induction d with
  | zero =>
    intro i n hi hn
    obtain ⟨n, rfl⟩ : ∃ m, n = m + 1 := ⟨n - 1, by omega⟩
    have e : i = 4 := by omega
    subst e
    exact br_t (nI_le (a := 8) (b := 8) (by omega) (by decide)) ⟨vp_in_nI hp (by omega), nm_r (e' := ns p) (by rw [nI_clamp (by omega)]) h⟩
  | succ d ih =>
    intro i n hi hn
    obtain ⟨n, rfl⟩ : ∃ m, n = m + 1 := ⟨n - 1, by omega⟩
    have e2 : nI (4 * c) + nI (4 + i) = nI (4 * c + 4 + i) := by rw [nI_add, Nat.add_assoc]
    refine br_f (nI_ge (b := 8) (by omega) (by decide)) ⟨pk_in _ 124 (by omega) e2, nm_r (e' := wc_z cells (4 * c + 4) (i + 1)) ?_ (nm_r (nI_1 (4 + i)) (ih (i + 1) n (by omega) (by omega)))⟩
    rw [pk_cl _ e2 (by omega)]
    rfl
theorem wc_bcX {post : SX → Prop} {ln q co st : Int32} {ops rg ns cells bk : Nat → Int32} {c p : Nat} (hp : p < 24) (hc : c < 29) (h : post (ln, nI (c + 1 + 1), ns p, co, st, ops, rg, ns, wc_z cells (4 * (c + 1) + 4) 4, upd bk (c + 1) (nI (p + 1)))) : wpX_beginCall post (ln, nI (c + 1), q, co, st, ops, rg, ns, cells, bk) (nI p) := by
  unfold wpX_beginCall
  dsimp only
  exact ⟨vp_in_nI (by omega) (by omega), nm_r (e' := upd bk (c + 1) (nI (p + 1))) (by rw [nI_clamp (by omega), nI_1]) (nm_r (nI_1 (c + 1)) (wc_wsX0 ⟨5, wc_bc30 hp (by omega) h 4 0 5 rfl (by omega)⟩))⟩
theorem wc_ys182 {post : SY → Prop} {ln x6 q ov co : Int32} {ops ra rb rc ns row bk : Nat → Int32} {c : Nat} (hc : c ≤ 29) (h : post (ln, nI c, x6, ov, co + 1, ops, ra, rb, rc, ns, wc_z row (4 * c + 4) 4, bk)) : ∀ d i n : Nat, i + d = 4 → d < n → wY_step_182 post x6 ln (nI c) q ov co n (nI (4 + i)) ops ra rb rc ns (wc_z row (4 * c + 4) i) bk := by
  intro d
  induction d with
  | zero =>
    intro i n hi hn
    obtain ⟨n, rfl⟩ : ∃ m, n = m + 1 := ⟨n - 1, by omega⟩
    have e : i = 4 := by omega
    subst e
    exact br_t (nI_le (a := 8) (b := 8) (by omega) (by decide)) (nm_e h)
  | succ d ih =>
    intro i n hi hn
    obtain ⟨n, rfl⟩ : ∃ m, n = m + 1 := ⟨n - 1, by omega⟩
    have e2 : (4 : Int32) * nI c + nI (4 + i) = nI (4 * c + 4 + i) := by rw [wc_4, nI_add, Nat.add_assoc]
    refine br_f (nI_ge (b := 8) (by omega) (by decide)) ⟨pk_in _ 124 (by omega) e2, nm_r (e' := wc_z row (4 * c + 4) (i + 1)) ?_ (nm_r (nI_1 (4 + i)) (ih (i + 1) n (by omega) (by omega)))⟩
    rw [pk_cl _ e2 (by omega)]
    rfl
theorem wc_x5 {post : SX → Prop} {ln co st : Int32} {ops rg ns cells bk : Nat → Int32} {c p ia ib ic : Nat} (hp : p < 24) (hc : c ≤ 29) (ha : ia < 8) (hb : ib < 8) (hcc : ic < 8) (ea : rg p &&& 7 = nI ia) (eb : (rg p >>> ((3 : Int32) &&& 31)) &&& 7 = nI ib) (ec : (rg p >>> ((6 : Int32) &&& 31)) &&& 7 = nI ic) (ho : ops p = 5) (h29 : c < 29) (h : post (ln, nI (c + 1 + 1), ns p, co, st, ops, rg, ns, wc_z cells (4 * (c + 1) + 4) 4, upd bk (c + 1) (nI (p + 1)))) : wpX_carryOut post (ln, nI (c + 1), nI p, co, st, ops, rg, ns, cells, bk) := by
  have e : (nI p).toNatClampNeg = p := nI_clamp (by omega)
  have w : vp_in (nI p) 24 := vp_in_nI hp (by omega)
  have wa : vp_in (nI (4 * c + ia)) 124 := vp_in_nI (by omega) (by omega)
  have wb : vp_in (nI (4 * c + ib)) 124 := vp_in_nI (by omega) (by omega)
  have wd : vp_in (nI (4 * c + ic)) 124 := vp_in_nI (by omega) (by omega)
  have ka : (nI (4 * c + ia)).toNatClampNeg = 4 * c + ia := nI_clamp (by omega)
  have kb : (nI (4 * c + ib)).toNatClampNeg = 4 * c + ib := nI_clamp (by omega)
  have kc : (nI (4 * c + ic)).toNatClampNeg = 4 * c + ic := nI_clamp (by omega)
  unfold wpX_carryOut
  dsimp only
  refine wc_wsX0 ⟨w, nm_r (e' := rg p) (by rw [e]) (nm_r (e' := nI (4 * c + ia)) (by rw [ea, nI_add]) (nm_r (e' := nI (4 * c + ib)) (by rw [eb, nI_add]) (nm_r (e' := nI (4 * c + ic)) (by rw [ec, nI_add]) (nm_r (nI_1 p) ⟨w, nm_r (e' := 5) (by rw [e, ho]) ?_⟩))))⟩
  exact br_f (by decide) (br_f (by decide) (br_f (by decide) (br_f (by decide) (br_f (by decide) (br_f (by decide) (br_f (by decide) (br_t rfl (wc_bcX hp h29 h))))))))
theorem wc_y5 {post : SY → Prop} {ln co ov : Int32} {ops ra rb rc ns row bk : Nat → Int32} {c p ia ib ic : Nat} (hp : p < 24) (hc : c ≤ 29) (ha : ia < 8) (hb : ib < 8) (hcc : ic < 8) (ea : ra p = nI ia) (eb : rb p = nI ib) (ec : rc p = nI ic) (ho : ops p = 5) (h29 : c < 29) (h : post (ln, nI (c + 1), ns p, ov, co + 1, ops, ra, rb, rc, ns, wc_z row (4 * (c + 1) + 4) 4, upd bk (c + 1) (nI (p + 1)))) : wpY_step post (ln, nI c, nI p, ov, co, ops, ra, rb, rc, ns, row, bk) := by
  have e : (nI p).toNatClampNeg = p := nI_clamp (by omega)
  have w : vp_in (nI p) 24 := vp_in_nI hp (by omega)
  have wa : vp_in (nI (4 * c + ia)) 124 := vp_in_nI (by omega) (by omega)
  have wb : vp_in (nI (4 * c + ib)) 124 := vp_in_nI (by omega) (by omega)
  have wd : vp_in (nI (4 * c + ic)) 124 := vp_in_nI (by omega) (by omega)
  have ka : (nI (4 * c + ia)).toNatClampNeg = 4 * c + ia := nI_clamp (by omega)
  have kb : (nI (4 * c + ib)).toNatClampNeg = 4 * c + ib := nI_clamp (by omega)
  have kc : (nI (4 * c + ic)).toNatClampNeg = 4 * c + ic := nI_clamp (by omega)
  have xb : nI (4 * c) + rb (nI p).toNatClampNeg = nI (4 * c + ib) := by rw [e, eb, nI_add]
  have xc : nI (4 * c) + rc (nI p).toNatClampNeg = nI (4 * c + ic) := by rw [e, ec, nI_add]
  unfold wpY_step
  dsimp only
  refine ⟨w, nm_r (e' := 5) (by rw [e, ho]) (nm_r (wc_4 c) ⟨w, nm_r (e' := nI (4 * c + ia)) (by rw [e, ea, nI_add]) ⟨w, pk_in _ 124 (by omega) xb, nm_r (e' := row (4 * c + ib)) (by rw [xb, kb]) ⟨w, pk_in _ 124 (by omega) xc, nm_r (e' := row (4 * c + ic)) (by rw [xc, kc]) ⟨w, nm_r (e' := ns p) (by rw [e]) (nm_r (nI_1 p) ?_)⟩⟩⟩⟩)⟩
  exact br_f (by decide) (br_f (by decide) (br_f (by decide) (br_f (by decide) (br_t rfl (nm_r (nI_1 c) ⟨vp_in_nI (by omega) (by omega), nm_r (e' := upd bk (c + 1) (nI (p + 1))) (by rw [nI_clamp (by omega)]) ⟨5, wc_ys182 (by omega) h 4 0 5 rfl (by omega)⟩⟩)))))
theorem wc_ecX0 {post : SX → Prop} {ln q co st x : Int32} {ops rg ns cells bk : Nat → Int32} (h : post (ln, nI (0 + 1), x, co, 1, ops, rg, ns, cells, bk)) : wpX_endCall post (ln, nI (0 + 1), q, co, st, ops, rg, ns, cells, bk) x := by
  exact br_t (nI_le (a := 1) (b := 1) (by omega) (by decide)) h
theorem wc_ecX1 {post : SX → Prop} {ln q co st x : Int32} {ops rg ns cells bk : Nat → Int32} {c : Nat} (hc : c < 29) (h : post (ln, nI (c + 1), bk (c + 1), co, st, ops, rg, ns, cells, bk)) : wpX_endCall post (ln, nI (c + 1 + 1), q, co, st, ops, rg, ns, cells, bk) x := by
  have e : nI (c + 1 + 1) - 1 = nI (c + 1) := nI_pred (c + 1)
  exact br_f (nI_ge (a := 1) (b := c + 1 + 1) (by omega) (by omega)) ⟨pk_in _ 30 (by omega) e, nm_r (e' := bk (c + 1)) (by rw [pk_cl _ e (by omega)]) (nm_r e h)⟩
theorem wc_x6z {post : SX → Prop} {ln co st : Int32} {ops rg ns cells bk : Nat → Int32} {p ia ib ic : Nat} (hp : p < 24) (ha : ia < 8) (hb : ib < 8) (hcc : ic < 8) (ea : rg p &&& 7 = nI ia) (eb : (rg p >>> ((3 : Int32) &&& 31)) &&& 7 = nI ib) (ec : (rg p >>> ((6 : Int32) &&& 31)) &&& 7 = nI ic) (ho : ops p = 6) (h : post (ln, nI (0 + 1), nI p, co, 1, ops, rg, ns, cells, bk)) : wpX_carryOut post (ln, nI (0 + 1), nI p, co, st, ops, rg, ns, cells, bk) := by
  have e : (nI p).toNatClampNeg = p := nI_clamp (by omega)
  have w : vp_in (nI p) 24 := vp_in_nI hp (by omega)
  have wa : vp_in (nI (4 * 0 + ia)) 124 := vp_in_nI (by omega) (by omega)
  have wb : vp_in (nI (4 * 0 + ib)) 124 := vp_in_nI (by omega) (by omega)
  have wd : vp_in (nI (4 * 0 + ic)) 124 := vp_in_nI (by omega) (by omega)
  have ka : (nI (4 * 0 + ia)).toNatClampNeg = 4 * 0 + ia := nI_clamp (by omega)
  have kb : (nI (4 * 0 + ib)).toNatClampNeg = 4 * 0 + ib := nI_clamp (by omega)
  have kc : (nI (4 * 0 + ic)).toNatClampNeg = 4 * 0 + ic := nI_clamp (by omega)
  unfold wpX_carryOut
  dsimp only
  refine wc_wsX0 (c := 0) ⟨w, nm_r (e' := rg p) (by rw [e]) (nm_r (e' := nI (4 * 0 + ia)) (by rw [ea, nI_add]) (nm_r (e' := nI (4 * 0 + ib)) (by rw [eb, nI_add]) (nm_r (e' := nI (4 * 0 + ic)) (by rw [ec, nI_add]) (nm_r (nI_1 p) ⟨w, nm_r (e' := 6) (by rw [e, ho]) ?_⟩))))⟩
  exact br_f (by decide) (br_f (by decide) (br_f (by decide) (br_f (by decide) (br_f (by decide) (br_f (by decide) (br_f (by decide) (br_f (by decide) (br_t rfl (wc_ecX0 h)))))))))
theorem wc_x6s {post : SX → Prop} {ln co st : Int32} {ops rg ns cells bk : Nat → Int32} {c p ia ib ic : Nat} (hp : p < 24) (hc : c < 29) (ha : ia < 8) (hb : ib < 8) (hcc : ic < 8) (ea : rg p &&& 7 = nI ia) (eb : (rg p >>> ((3 : Int32) &&& 31)) &&& 7 = nI ib) (ec : (rg p >>> ((6 : Int32) &&& 31)) &&& 7 = nI ic) (ho : ops p = 6) (h : post (ln, nI (c + 1), bk (c + 1), co, st, ops, rg, ns, cells, bk)) : wpX_carryOut post (ln, nI (c + 1 + 1), nI p, co, st, ops, rg, ns, cells, bk) := by
  have e : (nI p).toNatClampNeg = p := nI_clamp (by omega)
  have w : vp_in (nI p) 24 := vp_in_nI hp (by omega)
  have wa : vp_in (nI (4 * (c + 1) + ia)) 124 := vp_in_nI (by omega) (by omega)
  have wb : vp_in (nI (4 * (c + 1) + ib)) 124 := vp_in_nI (by omega) (by omega)
  have wd : vp_in (nI (4 * (c + 1) + ic)) 124 := vp_in_nI (by omega) (by omega)
  have ka : (nI (4 * (c + 1) + ia)).toNatClampNeg = 4 * (c + 1) + ia := nI_clamp (by omega)
  have kb : (nI (4 * (c + 1) + ib)).toNatClampNeg = 4 * (c + 1) + ib := nI_clamp (by omega)
  have kc : (nI (4 * (c + 1) + ic)).toNatClampNeg = 4 * (c + 1) + ic := nI_clamp (by omega)
  unfold wpX_carryOut
  dsimp only
  refine wc_wsX0 (c := c + 1) ⟨w, nm_r (e' := rg p) (by rw [e]) (nm_r (e' := nI (4 * (c + 1) + ia)) (by rw [ea, nI_add]) (nm_r (e' := nI (4 * (c + 1) + ib)) (by rw [eb, nI_add]) (nm_r (e' := nI (4 * (c + 1) + ic)) (by rw [ec, nI_add]) (nm_r (nI_1 p) ⟨w, nm_r (e' := 6) (by rw [e, ho]) ?_⟩))))⟩
  exact br_f (by decide) (br_f (by decide) (br_f (by decide) (br_f (by decide) (br_f (by decide) (br_f (by decide) (br_f (by decide) (br_f (by decide) (br_t rfl (wc_ecX1 hc h)))))))))
theorem wc_y6z {post : SY → Prop} {ln co ov : Int32} {ops ra rb rc ns row bk : Nat → Int32} {p ia ib ic : Nat} (hp : p < 24) (ha : ia < 8) (hb : ib < 8) (hcc : ic < 8) (ea : ra p = nI ia) (eb : rb p = nI ib) (ec : rc p = nI ic) (ho : ops p = 6) (h : post (ln, nI 0, nI p, 1, co + 1, ops, ra, rb, rc, ns, row, bk)) : wpY_step post (ln, nI 0, nI p, ov, co, ops, ra, rb, rc, ns, row, bk) := by
  have e : (nI p).toNatClampNeg = p := nI_clamp (by omega)
  have w : vp_in (nI p) 24 := vp_in_nI hp (by omega)
  have wa : vp_in (nI (4 * 0 + ia)) 124 := vp_in_nI (by omega) (by omega)
  have wb : vp_in (nI (4 * 0 + ib)) 124 := vp_in_nI (by omega) (by omega)
  have wd : vp_in (nI (4 * 0 + ic)) 124 := vp_in_nI (by omega) (by omega)
  have ka : (nI (4 * 0 + ia)).toNatClampNeg = 4 * 0 + ia := nI_clamp (by omega)
  have kb : (nI (4 * 0 + ib)).toNatClampNeg = 4 * 0 + ib := nI_clamp (by omega)
  have kc : (nI (4 * 0 + ic)).toNatClampNeg = 4 * 0 + ic := nI_clamp (by omega)
  have xb : nI (4 * 0) + rb (nI p).toNatClampNeg = nI (4 * 0 + ib) := by rw [e, eb, nI_add]
  have xc : nI (4 * 0) + rc (nI p).toNatClampNeg = nI (4 * 0 + ic) := by rw [e, ec, nI_add]
  unfold wpY_step
  dsimp only
  refine ⟨w, nm_r (e' := 6) (by rw [e, ho]) (nm_r (wc_4 0) ⟨w, nm_r (e' := nI (4 * 0 + ia)) (by rw [e, ea, nI_add]) ⟨w, pk_in _ 124 (by omega) xb, nm_r (e' := row (4 * 0 + ib)) (by rw [xb, kb]) ⟨w, pk_in _ 124 (by omega) xc, nm_r (e' := row (4 * 0 + ic)) (by rw [xc, kc]) ⟨w, nm_r (e' := ns p) (by rw [e]) (nm_r (nI_1 p) ?_)⟩⟩⟩⟩)⟩
  exact br_f (by decide) (br_f (by decide) (br_f (by decide) (br_f (by decide) (br_f (by decide) (br_t rfl (br_t nI_0 ⟨rfl, by decide, br_f (by decide) (br_f (by decide) (nm_e h))⟩))))))
theorem wc_y6s {post : SY → Prop} {ln co ov : Int32} {ops ra rb rc ns row bk : Nat → Int32} {c p ia ib ic : Nat} (hp : p < 24) (hc : c < 29) (ha : ia < 8) (hb : ib < 8) (hcc : ic < 8) (ea : ra p = nI ia) (eb : rb p = nI ib) (ec : rc p = nI ic) (ho : ops p = 6) (h : post (ln, nI c, bk (c + 1), 0, co + 1, ops, ra, rb, rc, ns, row, bk)) : wpY_step post (ln, nI (c + 1), nI p, ov, co, ops, ra, rb, rc, ns, row, bk) := by
  have e : (nI p).toNatClampNeg = p := nI_clamp (by omega)
  have w : vp_in (nI p) 24 := vp_in_nI hp (by omega)
  have wa : vp_in (nI (4 * (c + 1) + ia)) 124 := vp_in_nI (by omega) (by omega)
  have wb : vp_in (nI (4 * (c + 1) + ib)) 124 := vp_in_nI (by omega) (by omega)
  have wd : vp_in (nI (4 * (c + 1) + ic)) 124 := vp_in_nI (by omega) (by omega)
  have ka : (nI (4 * (c + 1) + ia)).toNatClampNeg = 4 * (c + 1) + ia := nI_clamp (by omega)
  have kb : (nI (4 * (c + 1) + ib)).toNatClampNeg = 4 * (c + 1) + ib := nI_clamp (by omega)
  have kc : (nI (4 * (c + 1) + ic)).toNatClampNeg = 4 * (c + 1) + ic := nI_clamp (by omega)
  have xb : nI (4 * (c + 1)) + rb (nI p).toNatClampNeg = nI (4 * (c + 1) + ib) := by rw [e, eb, nI_add]
  have xc : nI (4 * (c + 1)) + rc (nI p).toNatClampNeg = nI (4 * (c + 1) + ic) := by rw [e, ec, nI_add]
  unfold wpY_step
  dsimp only
  refine ⟨w, nm_r (e' := 6) (by rw [e, ho]) (nm_r (wc_4 (c + 1)) ⟨w, nm_r (e' := nI (4 * (c + 1) + ia)) (by rw [e, ea, nI_add]) ⟨w, pk_in _ 124 (by omega) xb, nm_r (e' := row (4 * (c + 1) + ib)) (by rw [xb, kb]) ⟨w, pk_in _ 124 (by omega) xc, nm_r (e' := row (4 * (c + 1) + ic)) (by rw [xc, kc]) ⟨w, nm_r (e' := ns p) (by rw [e]) (nm_r (nI_1 p) ?_)⟩⟩⟩⟩)⟩
  have h' : post (ln, nI (c + 1) - 1, bk (nI (c + 1)).toNatClampNeg, 0, co + 1, ops, ra, rb, rc, ns, row, bk) := by
    rw [nI_pred, nI_clamp (by omega)]
    exact h
  exact br_f (by decide) (br_f (by decide) (br_f (by decide) (br_f (by decide) (br_f (by decide) (br_t rfl (br_f (nI_ne0 (by omega) (by omega)) ⟨rfl, by decide, br_t rfl ⟨vp_in_nI (by omega) (by omega), br_t rfl (nm_e h')⟩⟩))))))
theorem wc_no {o : Int32} (h : o < 0 ∨ 6 < o) : ¬ o = 0 ∧ ¬ o = 1 ∧ ¬ o = 2 ∧ ¬ o = 3 ∧ ¬ o = 4 ∧ ¬ o = 5 ∧ ¬ o = 6 := by
  refine ⟨?_, ?_, ?_, ?_, ?_, ?_, ?_⟩ <;> (intro e; subst e; revert h; decide)
theorem wc_xo {post : SX → Prop} {ln co st : Int32} {ops rg ns cells bk : Nat → Int32} {c p ia ib ic : Nat} (hp : p < 24) (hc : c ≤ 29) (ha : ia < 8) (hb : ib < 8) (hcc : ic < 8) (ea : rg p &&& 7 = nI ia) (eb : (rg p >>> ((3 : Int32) &&& 31)) &&& 7 = nI ib) (ec : (rg p >>> ((6 : Int32) &&& 31)) &&& 7 = nI ic) {o : Int32} (ho : ops p = o) (hn : o < 0 ∨ 6 < o) (h1 : cells (4 * c + ia) = 0 → post (ln, nI (c + 1), ns p, co, st, ops, rg, ns, cells, bk)) (h2 : ¬ cells (4 * c + ia) = 0 → post (ln, nI (c + 1), nI (p + 1), co, st, ops, rg, ns, cells, bk)) : wpX_carryOut post (ln, nI (c + 1), nI p, co, st, ops, rg, ns, cells, bk) := by
  have e : (nI p).toNatClampNeg = p := nI_clamp (by omega)
  have w : vp_in (nI p) 24 := vp_in_nI hp (by omega)
  have wa : vp_in (nI (4 * c + ia)) 124 := vp_in_nI (by omega) (by omega)
  have wb : vp_in (nI (4 * c + ib)) 124 := vp_in_nI (by omega) (by omega)
  have wd : vp_in (nI (4 * c + ic)) 124 := vp_in_nI (by omega) (by omega)
  have ka : (nI (4 * c + ia)).toNatClampNeg = 4 * c + ia := nI_clamp (by omega)
  have kb : (nI (4 * c + ib)).toNatClampNeg = 4 * c + ib := nI_clamp (by omega)
  have kc : (nI (4 * c + ic)).toNatClampNeg = 4 * c + ic := nI_clamp (by omega)
  unfold wpX_carryOut
  dsimp only
  refine wc_wsX0 ⟨w, nm_r (e' := rg p) (by rw [e]) (nm_r (e' := nI (4 * c + ia)) (by rw [ea, nI_add]) (nm_r (e' := nI (4 * c + ib)) (by rw [eb, nI_add]) (nm_r (e' := nI (4 * c + ic)) (by rw [ec, nI_add]) (nm_r (nI_1 p) ⟨w, nm_r (e' := o) (by rw [e, ho]) ?_⟩))))⟩
  have R : (cells (nI (4 * c + ia)).toNatClampNeg = 0 → vp_in (nI p) 24 ∧ ∀ y, y = ns (nI p).toNatClampNeg → post (ln, nI (c + 1), y, co, st, ops, rg, ns, cells, bk)) ∧ (¬ cells (nI (4 * c + ia)).toNatClampNeg = 0 → post (ln, nI (c + 1), nI (p + 1), co, st, ops, rg, ns, cells, bk)) := by
    rw [ka]
    exact br_c (fun z => ⟨w, nm_r (e' := ns p) (by rw [e]) (h1 z)⟩) h2
  by_cases n0 : o < 0
  · exact br_t n0 ⟨wa, R⟩
  · exact br_f n0 (br_t (hn.resolve_left n0) ⟨wa, R⟩)
theorem wc_yo {post : SY → Prop} {ln co ov : Int32} {ops ra rb rc ns row bk : Nat → Int32} {c p ia ib ic : Nat} (hp : p < 24) (hc : c ≤ 29) (ha : ia < 8) (hb : ib < 8) (hcc : ic < 8) (ea : ra p = nI ia) (eb : rb p = nI ib) (ec : rc p = nI ic) {o : Int32} (ho : ops p = o) (hn : o < 0 ∨ 6 < o) (h1 : row (4 * c + ia) = 0 → post (ln, nI c, ns p, ov, co + 1, ops, ra, rb, rc, ns, row, bk)) (h2 : ¬ row (4 * c + ia) = 0 → post (ln, nI c, nI (p + 1), ov, co + 1, ops, ra, rb, rc, ns, row, bk)) : wpY_step post (ln, nI c, nI p, ov, co, ops, ra, rb, rc, ns, row, bk) := by
  have e : (nI p).toNatClampNeg = p := nI_clamp (by omega)
  have w : vp_in (nI p) 24 := vp_in_nI hp (by omega)
  have wa : vp_in (nI (4 * c + ia)) 124 := vp_in_nI (by omega) (by omega)
  have wb : vp_in (nI (4 * c + ib)) 124 := vp_in_nI (by omega) (by omega)
  have wd : vp_in (nI (4 * c + ic)) 124 := vp_in_nI (by omega) (by omega)
  have ka : (nI (4 * c + ia)).toNatClampNeg = 4 * c + ia := nI_clamp (by omega)
  have kb : (nI (4 * c + ib)).toNatClampNeg = 4 * c + ib := nI_clamp (by omega)
  have kc : (nI (4 * c + ic)).toNatClampNeg = 4 * c + ic := nI_clamp (by omega)
  have xb : nI (4 * c) + rb (nI p).toNatClampNeg = nI (4 * c + ib) := by rw [e, eb, nI_add]
  have xc : nI (4 * c) + rc (nI p).toNatClampNeg = nI (4 * c + ic) := by rw [e, ec, nI_add]
  unfold wpY_step
  dsimp only
  refine ⟨w, nm_r (e' := o) (by rw [e, ho]) (nm_r (wc_4 c) ⟨w, nm_r (e' := nI (4 * c + ia)) (by rw [e, ea, nI_add]) ⟨w, pk_in _ 124 (by omega) xb, nm_r (e' := row (4 * c + ib)) (by rw [xb, kb]) ⟨w, pk_in _ 124 (by omega) xc, nm_r (e' := row (4 * c + ic)) (by rw [xc, kc]) ⟨w, nm_r (e' := ns p) (by rw [e]) (nm_r (nI_1 p) ?_)⟩⟩⟩⟩)⟩
  obtain ⟨n0, n1, n2, n3, n4, n5, n6⟩ := wc_no hn
  rw [← ka] at h1 h2
  exact br_f n0 (br_f n1 (br_f n2 (br_f n4 (br_f n5 (br_f n6 (br_f n3 ⟨wa, br_c (fun z => nm_e (h1 z)) (fun z => nm_e (h2 z))⟩))))))
