section
variable {n w : Nat} {nm ve fe ne cl pa nf nx nb cf cx cb wn wt : Nat → Int32} {inst : Int32}
theorem xo_sp {post : SX → Prop} {a : Nat} {f x b : Int32} (ha : a < 40) (h : post (nI n, nI w, inst, nm, ve, fe, ne, cl, pa, upd nf a (vp_nar .boolean f), upd nx a x, upd nb a b, cf, cx, cb, wn, wt)) : wpX_setNeedPattern post (nI n, nI w, inst, nm, ve, fe, ne, cl, pa, nf, nx, nb, cf, cx, cb, wn, wt) (nI a) f x b := by
  have e : (nI a).toNatClampNeg = a := nI_clamp (by omega)
  have ia : vp_in (nI a) 40 := vp_in_nI ha (by omega)
  unfold wpX_setNeedPattern
  dsimp only
  rw [e]
  exact ⟨ia, nm_e ⟨ia, nm_e ⟨ia, nm_e h⟩⟩⟩
theorem yo_sp {post : SY → Prop} {a : Nat} {f x b : Int32} (ha : a < 40) (h : post (nI n, nI w, inst, nm, ve, fe, ne, cl, pa, upd nf a (vp_nar .boolean f), upd nx a x, upd nb a b, cf, cx, cb, wn, wt)) : wpY_setPattern post (nI n, nI w, inst, nm, ve, fe, ne, cl, pa, nf, nx, nb, cf, cx, cb, wn, wt) (nI a) f x b := by
  have e : (nI a).toNatClampNeg = a := nI_clamp (by omega)
  have ia : vp_in (nI a) 40 := vp_in_nI ha (by omega)
  unfold wpY_setPattern
  dsimp only
  rw [e]
  exact ⟨ia, nm_e ⟨ia, nm_e ⟨ia, nm_e h⟩⟩⟩
theorem uo_dx (m : Nat) : nI m * 2 = nI (2 * m) := by
  rw [show (2 : Int32) = nI 2 from rfl, pk_mul, Nat.mul_comm]
theorem uo_dy (m : Nat) : 2 * nI m = nI (2 * m) := pk_mul 2 m
theorem xo_need0 {post : Int32 → SX → Prop} {p f x b : Int32} (hn : n ≤ 10) (hp : ¬ ∃ j, j < n ∧ p = nI j) (h : post (-1) (nI n, nI w, inst, nm, ve, fe, ne, cl, pa, nf, nx, nb, cf, cx, cb, wn, wt)) : wpX_need post (nI n, nI w, inst, nm, ve, fe, ne, cl, pa, nf, nx, nb, cf, cx, cb, wn, wt) p f x b := by
  unfold wpX_need
  dsimp only
  exact xo_pk0 hn hp (br_t rfl h)
theorem yo_need0 {post : Int32 → SY → Prop} {p f x b : Int32} (hn : n ≤ 10) (hp : ¬ ∃ j, j < n ∧ p = nI j) (h : post (-1) (nI n, nI w, inst, nm, ve, fe, ne, cl, pa, nf, nx, nb, cf, cx, cb, wn, wt)) : wpY_need post (nI n, nI w, inst, nm, ve, fe, ne, cl, pa, nf, nx, nb, cf, cx, cb, wn, wt) p f x b := by
  unfold wpY_need
  dsimp only
  exact yo_ff0 hn hp (br_t rfl h)
theorem xo_or0 {post : Int32 → SX → Prop} {p f x b : Int32} (hn : n ≤ 10) (hp : ¬ ∃ j, j < n ∧ p = nI j) (h : post (-1) (nI n, nI w, inst, nm, ve, fe, ne, cl, pa, nf, nx, nb, cf, cx, cb, wn, wt)) : wpX_orNeed post (nI n, nI w, inst, nm, ve, fe, ne, cl, pa, nf, nx, nb, cf, cx, cb, wn, wt) p f x b := by
  unfold wpX_orNeed
  dsimp only
  exact xo_pk0 hn hp (br_t rfl h)
theorem yo_or0 {post : Int32 → SY → Prop} {p f x b : Int32} (hn : n ≤ 10) (hp : ¬ ∃ j, j < n ∧ p = nI j) (h : post (-1) (nI n, nI w, inst, nm, ve, fe, ne, cl, pa, nf, nx, nb, cf, cx, cb, wn, wt)) : wpY_orNeed post (nI n, nI w, inst, nm, ve, fe, ne, cl, pa, nf, nx, nb, cf, cx, cb, wn, wt) p f x b := by
  unfold wpY_orNeed
  dsimp only
  exact yo_ff0 hn hp (br_t rfl h)
theorem xo_cl0 {post : Int32 → SX → Prop} {p f x b : Int32} (hn : n ≤ 10) (hp : ¬ ∃ j, j < n ∧ p = nI j) (h : post (-1) (nI n, nI w, inst, nm, ve, fe, ne, cl, pa, nf, nx, nb, cf, cx, cb, wn, wt)) : wpX_clash post (nI n, nI w, inst, nm, ve, fe, ne, cl, pa, nf, nx, nb, cf, cx, cb, wn, wt) p f x b := by
  unfold wpX_clash
  dsimp only
  exact xo_pk0 hn hp (br_t rfl h)
theorem yo_cl0 {post : Int32 → SY → Prop} {p f x b : Int32} (hn : n ≤ 10) (hp : ¬ ∃ j, j < n ∧ p = nI j) (h : post (-1) (nI n, nI w, inst, nm, ve, fe, ne, cl, pa, nf, nx, nb, cf, cx, cb, wn, wt)) : wpY_clash post (nI n, nI w, inst, nm, ve, fe, ne, cl, pa, nf, nx, nb, cf, cx, cb, wn, wt) p f x b := by
  unfold wpY_clash
  dsimp only
  exact yo_ff0 hn hp (br_t rfl h)
theorem xo_need1 {post : Int32 → SX → Prop} {j c : Nat} {f x b : Int32} (hn : n ≤ 10) (hj : j < n) (hc : c ≤ 2) (ec : ne j = nI c) (hB : ¬ uo_okP f x b → post (-1) (nI n, nI w, inst, nm, ve, fe, ne, cl, pa, nf, nx, nb, cf, cx, cb, wn, wt)) (hF : uo_okP f x b → c = 2 → post (-2) (nI n, nI w, inst, nm, ve, fe, ne, cl, pa, nf, nx, nb, cf, cx, cb, wn, wt)) (hN : uo_okP f x b → c < 2 → post (nI (c + 1)) (nI n, nI w, inst, nm, ve, fe, upd ne j (nI (c + 1)), cl, upd pa (2 * j + c) 1, upd nf (2 * (2 * j + c)) (vp_nar .boolean f), upd nx (2 * (2 * j + c)) x, upd nb (2 * (2 * j + c)) b, cf, cx, cb, wn, wt)) : wpX_need post (nI n, nI w, inst, nm, ve, fe, ne, cl, pa, nf, nx, nb, cf, cx, cb, wn, wt) (nI j) f x b := by
  have ej : (nI j).toNatClampNeg = j := nI_clamp (by omega)
  have ij : vp_in (nI j) 10 := vp_in_nI (by omega) (by omega)
  unfold wpX_need
  dsimp only
  refine xo_pk1 hn hj (br_f uo_10 ?_)
  refine xo_isPat (fun h => br_f uo_10 ⟨ij, ?_⟩) (fun h => br_t rfl (hB h))
  rw [ej, ec]
  refine nm_e (pk_lt c 2 (fun h2 => nm_r (uo_ix j c) ?_) (fun h2 => hF h (by omega)))
  have e2 : (nI (2 * j + c)).toNatClampNeg = 2 * j + c := nI_clamp (by omega)
  rw [uo_dx]
  refine xo_sp (by omega) ?_
  dsimp only
  refine ⟨vp_in_nI (by omega) (by omega), nm_e ⟨ij, nm_e ?_⟩⟩
  rw [e2, nI_1 c]
  exact hN h h2
theorem yo_need1 {post : Int32 → SY → Prop} {j c : Nat} {f x b : Int32} (hn : n ≤ 10) (hj : j < n) (hc : c ≤ 2) (ec : ne j = nI c) (hB : ¬ uo_okP f x b → post (-1) (nI n, nI w, inst, nm, ve, fe, ne, cl, pa, nf, nx, nb, cf, cx, cb, wn, wt)) (hF : uo_okP f x b → c = 2 → post (-2) (nI n, nI w, inst, nm, ve, fe, ne, cl, pa, nf, nx, nb, cf, cx, cb, wn, wt)) (hN : uo_okP f x b → c < 2 → post (nI (c + 1)) (nI n, nI w, inst, nm, ve, fe, upd ne j (nI (c + 1)), cl, upd pa (2 * j + c) 1, upd nf (2 * (2 * j + c)) (vp_nar .boolean f), upd nx (2 * (2 * j + c)) x, upd nb (2 * (2 * j + c)) b, cf, cx, cb, wn, wt)) : wpY_need post (nI n, nI w, inst, nm, ve, fe, ne, cl, pa, nf, nx, nb, cf, cx, cb, wn, wt) (nI j) f x b := by
  have ej : (nI j).toNatClampNeg = j := nI_clamp (by omega)
  have ij : vp_in (nI j) 10 := vp_in_nI (by omega) (by omega)
  unfold wpY_need
  dsimp only
  refine yo_ff1 hn hj (fun h => br_f uo_10 ⟨ij, ?_⟩) (fun h => br_t rfl (hB h))
  rw [ej, ec]
  refine pk_eq c 2 (fun h2 => hF h h2) (fun h2 => ⟨ij, nm_r (uo_iy j c) ?_⟩)
  have e2 : (nI (2 * j + c)).toNatClampNeg = 2 * j + c := nI_clamp (by omega)
  rw [uo_dy]
  refine yo_sp (by omega) ?_
  dsimp only
  refine ⟨vp_in_nI (by omega) (by omega), nm_e ⟨ij, ij, nm_e ⟨ij, ?_⟩⟩⟩
  rw [e2, ec, pk_us, nI_1 c]
  exact hN h (by omega)
theorem xo_orZ {post : Int32 → SX → Prop} {j : Nat} {f x b : Int32} (hn : n ≤ 10) (hj : j < n) (ec : ne j = 0) (hB : ¬ uo_okP f x b → post (-1) (nI n, nI w, inst, nm, ve, fe, ne, cl, pa, nf, nx, nb, cf, cx, cb, wn, wt)) (hZ : uo_okP f x b → post (-3) (nI n, nI w, inst, nm, ve, fe, ne, cl, pa, nf, nx, nb, cf, cx, cb, wn, wt)) : wpX_orNeed post (nI n, nI w, inst, nm, ve, fe, ne, cl, pa, nf, nx, nb, cf, cx, cb, wn, wt) (nI j) f x b := by
  have ej : (nI j).toNatClampNeg = j := nI_clamp (by omega)
  have ij : vp_in (nI j) 10 := vp_in_nI (by omega) (by omega)
  unfold wpX_orNeed
  dsimp only
  refine xo_pk1 hn hj (br_f uo_10 ?_)
  refine xo_isPat (fun h => br_f uo_10 ⟨ij, ?_⟩) (fun h => br_t rfl (hB h))
  rw [ej, ec]
  exact br_t rfl (hZ h)
theorem yo_orZ {post : Int32 → SY → Prop} {j : Nat} {f x b : Int32} (hn : n ≤ 10) (hj : j < n) (ec : ne j = 0) (hB : ¬ uo_okP f x b → post (-1) (nI n, nI w, inst, nm, ve, fe, ne, cl, pa, nf, nx, nb, cf, cx, cb, wn, wt)) (hZ : uo_okP f x b → post (-3) (nI n, nI w, inst, nm, ve, fe, ne, cl, pa, nf, nx, nb, cf, cx, cb, wn, wt)) : wpY_orNeed post (nI n, nI w, inst, nm, ve, fe, ne, cl, pa, nf, nx, nb, cf, cx, cb, wn, wt) (nI j) f x b := by
  have ej : (nI j).toNatClampNeg = j := nI_clamp (by omega)
  have ij : vp_in (nI j) 10 := vp_in_nI (by omega) (by omega)
  unfold wpY_orNeed
  dsimp only
  refine yo_ff1 hn hj (fun h => br_f uo_10 ⟨ij, ?_⟩) (fun h => br_t rfl (hB h))
  rw [ej, ec]
  exact br_t rfl (hZ h)
theorem xo_orS {post : Int32 → SX → Prop} {j d : Nat} {f x b : Int32} (hn : n ≤ 10) (hj : j < n) (hd : d < 2) (ec : ne j = nI (d + 1)) (hq : pa (2 * j + d) = 1 ∨ pa (2 * j + d) = 2) (hB : ¬ uo_okP f x b → post (-1) (nI n, nI w, inst, nm, ve, fe, ne, cl, pa, nf, nx, nb, cf, cx, cb, wn, wt)) (hF : uo_okP f x b → pa (2 * j + d) = 2 → post (-2) (nI n, nI w, inst, nm, ve, fe, ne, cl, pa, nf, nx, nb, cf, cx, cb, wn, wt)) (hN : uo_okP f x b → pa (2 * j + d) = 1 → post 2 (nI n, nI w, inst, nm, ve, fe, ne, cl, upd pa (2 * j + d) 2, upd nf (2 * (2 * j + d) + 1) (vp_nar .boolean f), upd nx (2 * (2 * j + d) + 1) x, upd nb (2 * (2 * j + d) + 1) b, cf, cx, cb, wn, wt)) : wpX_orNeed post (nI n, nI w, inst, nm, ve, fe, ne, cl, pa, nf, nx, nb, cf, cx, cb, wn, wt) (nI j) f x b := by
  have ej : (nI j).toNatClampNeg = j := nI_clamp (by omega)
  have ij : vp_in (nI j) 10 := vp_in_nI (by omega) (by omega)
  have e2 : (nI (2 * j + d)).toNatClampNeg = 2 * j + d := nI_clamp (by omega)
  have i2 : vp_in (nI (2 * j + d)) 20 := vp_in_nI (by omega) (by omega)
  have e5 : nI j * 2 + nI (d + 1) - 1 = nI (2 * j + d) := by rw [uo_ix]; exact nI_pred (2 * j + d)
  unfold wpX_orNeed
  dsimp only
  refine xo_pk1 hn hj (br_f uo_10 ?_)
  refine xo_isPat (fun h => br_f uo_10 ⟨ij, ?_⟩) (fun h => br_t rfl (hB h))
  rw [ej, ec]
  refine br_f (nI_ne0 (by omega) (by omega)) ⟨ij, nm_r e5 ⟨i2, ?_⟩⟩
  rw [e2, uo_dx, nI_1 (2 * (2 * j + d))]
  rcases hq with hq | hq
  · refine br_t (by rw [hq]; decide) ?_
    refine xo_sp (by omega) ?_
    dsimp only
    exact ⟨i2, nm_e (hN h hq)⟩
  · exact br_f (by rw [hq]; decide) (hF h hq)
theorem yo_orS {post : Int32 → SY → Prop} {j d : Nat} {f x b : Int32} (hn : n ≤ 10) (hj : j < n) (hd : d < 2) (ec : ne j = nI (d + 1)) (hq : pa (2 * j + d) = 1 ∨ pa (2 * j + d) = 2) (hB : ¬ uo_okP f x b → post (-1) (nI n, nI w, inst, nm, ve, fe, ne, cl, pa, nf, nx, nb, cf, cx, cb, wn, wt)) (hF : uo_okP f x b → pa (2 * j + d) = 2 → post (-2) (nI n, nI w, inst, nm, ve, fe, ne, cl, pa, nf, nx, nb, cf, cx, cb, wn, wt)) (hN : uo_okP f x b → pa (2 * j + d) = 1 → post 2 (nI n, nI w, inst, nm, ve, fe, ne, cl, upd pa (2 * j + d) 2, upd nf (2 * (2 * j + d) + 1) (vp_nar .boolean f), upd nx (2 * (2 * j + d) + 1) x, upd nb (2 * (2 * j + d) + 1) b, cf, cx, cb, wn, wt)) : wpY_orNeed post (nI n, nI w, inst, nm, ve, fe, ne, cl, pa, nf, nx, nb, cf, cx, cb, wn, wt) (nI j) f x b := by
  have ej : (nI j).toNatClampNeg = j := nI_clamp (by omega)
  have ij : vp_in (nI j) 10 := vp_in_nI (by omega) (by omega)
  have e2 : (nI (2 * j + d)).toNatClampNeg = 2 * j + d := nI_clamp (by omega)
  have i2 : vp_in (nI (2 * j + d)) 20 := vp_in_nI (by omega) (by omega)
  have e5 : 2 * nI j + nI (d + 1) - 1 = nI (2 * j + d) := by rw [uo_iy]; exact nI_pred (2 * j + d)
  unfold wpY_orNeed
  dsimp only
  refine yo_ff1 hn hj (fun h => br_f uo_10 ⟨ij, ?_⟩) (fun h => br_t rfl (hB h))
  rw [ej, ec]
  refine br_f (nI_ne0 (by omega) (by omega)) ⟨ij, nm_r e5 ⟨i2, ?_⟩⟩
  rw [e2, uo_dy, nI_1 (2 * (2 * j + d))]
  rcases hq with hq | hq
  · refine br_f (by rw [hq]; decide) ?_
    refine yo_sp (by omega) ?_
    dsimp only
    exact ⟨i2, nm_e (hN h hq)⟩
  · exact br_t hq (hF h hq)
theorem xo_cl1 {post : Int32 → SX → Prop} {j c : Nat} {f x b : Int32} (hn : n ≤ 10) (hj : j < n) (hc : c ≤ 2) (ec : cl j = nI c) (hB : ¬ uo_okP f x b → post (-1) (nI n, nI w, inst, nm, ve, fe, ne, cl, pa, nf, nx, nb, cf, cx, cb, wn, wt)) (hF : uo_okP f x b → c = 2 → post (-2) (nI n, nI w, inst, nm, ve, fe, ne, cl, pa, nf, nx, nb, cf, cx, cb, wn, wt)) (hN : uo_okP f x b → c < 2 → post (nI (c + 1)) (nI n, nI w, inst, nm, ve, fe, ne, upd cl j (nI (c + 1)), pa, nf, nx, nb, upd cf (2 * j + c) (vp_nar .boolean f), upd cx (2 * j + c) x, upd cb (2 * j + c) b, wn, wt)) : wpX_clash post (nI n, nI w, inst, nm, ve, fe, ne, cl, pa, nf, nx, nb, cf, cx, cb, wn, wt) (nI j) f x b := by
  have ej : (nI j).toNatClampNeg = j := nI_clamp (by omega)
  have ij : vp_in (nI j) 10 := vp_in_nI (by omega) (by omega)
  unfold wpX_clash
  dsimp only
  refine xo_pk1 hn hj (br_f uo_10 ?_)
  refine xo_isPat (fun h => br_f uo_10 ⟨ij, ?_⟩) (fun h => br_t rfl (hB h))
  rw [ej, ec]
  refine nm_e (pk_lt c 2 (fun h2 => nm_r (uo_ix j c) ?_) (fun h2 => hF h (by omega)))
  have e2 : (nI (2 * j + c)).toNatClampNeg = 2 * j + c := nI_clamp (by omega)
  have i2 : vp_in (nI (2 * j + c)) 20 := vp_in_nI (by omega) (by omega)
  refine ⟨i2, nm_e ⟨i2, nm_e ⟨i2, nm_e ⟨ij, nm_e ?_⟩⟩⟩⟩
  rw [e2, nI_1 c]
  exact hN h h2
theorem yo_cl1 {post : Int32 → SY → Prop} {j c : Nat} {f x b : Int32} (hn : n ≤ 10) (hj : j < n) (hc : c ≤ 2) (ec : cl j = nI c) (hB : ¬ uo_okP f x b → post (-1) (nI n, nI w, inst, nm, ve, fe, ne, cl, pa, nf, nx, nb, cf, cx, cb, wn, wt)) (hF : uo_okP f x b → c = 2 → post (-2) (nI n, nI w, inst, nm, ve, fe, ne, cl, pa, nf, nx, nb, cf, cx, cb, wn, wt)) (hN : uo_okP f x b → c < 2 → post (nI (c + 1)) (nI n, nI w, inst, nm, ve, fe, ne, upd cl j (nI (c + 1)), pa, nf, nx, nb, upd cf (2 * j + c) (vp_nar .boolean f), upd cx (2 * j + c) x, upd cb (2 * j + c) b, wn, wt)) : wpY_clash post (nI n, nI w, inst, nm, ve, fe, ne, cl, pa, nf, nx, nb, cf, cx, cb, wn, wt) (nI j) f x b := by
  have ej : (nI j).toNatClampNeg = j := nI_clamp (by omega)
  have ij : vp_in (nI j) 10 := vp_in_nI (by omega) (by omega)
  unfold wpY_clash
  dsimp only
  refine yo_ff1 hn hj (fun h => br_f uo_10 ⟨ij, ?_⟩) (fun h => br_t rfl (hB h))
  rw [ej, ec]
  refine pk_eq c 2 (fun h2 => hF h h2) (fun h2 => ⟨ij, nm_r (uo_iy j c) ?_⟩)
  have e2 : (nI (2 * j + c)).toNatClampNeg = 2 * j + c := nI_clamp (by omega)
  have i2 : vp_in (nI (2 * j + c)) 20 := vp_in_nI (by omega) (by omega)
  refine ⟨i2, nm_e ⟨i2, nm_e ⟨i2, nm_e ⟨ij, ij, nm_e ⟨ij, ?_⟩⟩⟩⟩⟩
  rw [e2, pk_us, nI_1 c]
  exact hN h (by omega)
theorem xo_wish {post : Int32 → SX → Prop} {x f : Int32} (hw : w ≤ 4) (hB : ¬ uo_rg x 0 4 → post (-1) (nI n, nI w, inst, nm, ve, fe, ne, cl, pa, nf, nx, nb, cf, cx, cb, wn, wt)) (hF : uo_rg x 0 4 → w = 4 → post (-2) (nI n, nI w, inst, nm, ve, fe, ne, cl, pa, nf, nx, nb, cf, cx, cb, wn, wt)) (hN : uo_rg x 0 4 → w < 4 → post (nI (w + 1)) (nI n, nI (w + 1), inst, nm, ve, fe, ne, cl, pa, nf, nx, nb, cf, cx, cb, upd wn w x, upd wt w (vp_nar .boolean f))) : wpX_wish post (nI n, nI w, inst, nm, ve, fe, ne, cl, pa, nf, nx, nb, cf, cx, cb, wn, wt) x f := by
  have ew : (nI w).toNatClampNeg = w := nI_clamp (by omega)
  unfold wpX_wish
  dsimp only
  refine xo_isName (fun h => br_f uo_10 (pk_lt w 4 (fun h2 => ?_) (fun h2 => hF h (by omega)))) (fun h => br_t rfl (hB h))
  have iw : vp_in (nI w) 4 := vp_in_nI h2 (by omega)
  refine ⟨iw, nm_e ⟨iw, nm_e (nm_r (nI_1 w) ?_)⟩⟩
  rw [ew]
  exact hN h h2
theorem yo_wish {post : Int32 → SY → Prop} {x f : Int32} (hw : w ≤ 4) (hB : ¬ uo_rg x 0 4 → post (-1) (nI n, nI w, inst, nm, ve, fe, ne, cl, pa, nf, nx, nb, cf, cx, cb, wn, wt)) (hF : uo_rg x 0 4 → w = 4 → post (-2) (nI n, nI w, inst, nm, ve, fe, ne, cl, pa, nf, nx, nb, cf, cx, cb, wn, wt)) (hN : uo_rg x 0 4 → w < 4 → post (nI (w + 1)) (nI n, nI (w + 1), inst, nm, ve, fe, ne, cl, pa, nf, nx, nb, cf, cx, cb, upd wn w x, upd wt w (vp_nar .boolean f))) : wpY_wish post (nI n, nI w, inst, nm, ve, fe, ne, cl, pa, nf, nx, nb, cf, cx, cb, wn, wt) x f := by
  have ew : (nI w).toNatClampNeg = w := nI_clamp (by omega)
  unfold wpY_wish
  dsimp only
  refine br_c (fun h => hB (fun k => uo_rg_lo k (by decide) h)) (fun g0 => br_c (fun g1 => ?_) (fun h => hB (fun k => h (Int32.not_lt.mp (uo_rg_hi k (by decide))))))
  have h : uo_rg x 0 4 := uo_rg_mk g0 (by decide) (Int32.not_lt.mpr g1) (by decide)
  refine pk_eq w 4 (fun h2 => hF h h2) (fun h2 => ?_)
  have iw : vp_in (nI w) 4 := vp_in_nI (by omega) (by omega)
  refine ⟨iw, nm_e ⟨iw, nm_e (nm_r (nI_1 w) ?_)⟩⟩
  rw [ew]
  exact hN h (by omega)
theorem xo_inst {post : Int32 → SX → Prop} {s : Int32} (hn : n ≤ 10) (hB : ¬ uo_sk n s → post 0 (nI n, nI w, inst, nm, ve, fe, ne, cl, pa, nf, nx, nb, cf, cx, cb, wn, wt)) (hN : uo_sk n s → post 1 (nI n, nI w, s, nm, ve, fe, ne, cl, pa, nf, nx, nb, cf, cx, cb, wn, wt)) : wpX_install post (nI n, nI w, inst, nm, ve, fe, ne, cl, pa, nf, nx, nb, cf, cx, cb, wn, wt) s := by
  unfold wpX_install
  dsimp only
  exact xo_set hn (fun h => br_f uo_10 (hN h)) (fun h => br_t rfl (hB h))
theorem yo_inst {post : Int32 → SY → Prop} {s : Int32} (hn : n ≤ 10) (hB : ¬ uo_sk n s → post 0 (nI n, nI w, inst, nm, ve, fe, ne, cl, pa, nf, nx, nb, cf, cx, cb, wn, wt)) (hN : uo_sk n s → post 1 (nI n, nI w, s, nm, ve, fe, ne, cl, pa, nf, nx, nb, cf, cx, cb, wn, wt)) : wpY_install post (nI n, nI w, inst, nm, ve, fe, ne, cl, pa, nf, nx, nb, cf, cx, cb, wn, wt) s := by
  unfold wpY_install
  dsimp only
  exact yo_set hn (fun h => br_f uo_10 (hN h)) (fun h => br_t rfl (hB h))
end
