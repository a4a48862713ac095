def i_Rel (_ : Nat) (u : SX) (v : SY) : Prop := ∃ (n w : Nat) (inst : Int32) (nm ve fe ne cl pa nf nx nb cf cx cb wn wt : Nat → Int32), u = (nI n, nI w, inst, nm, ve, fe, ne, cl, pa, nf, nx, nb, cf, cx, cb, wn, wt) ∧ v = (nI n, nI w, inst, nm, ve, fe, ne, cl, pa, nf, nx, nb, cf, cx, cb, wn, wt) ∧ uo_ok n w nm ve ne cl pa
theorem i_up {k : Nat} {u : SX} {v : SY} (h : i_Rel k u v) : i_Rel (k + 5) u v := h
theorem i_vc0 : wpX_init (fun u => wpY_init (fun v => i_Rel 0 u v)) := by
  refine ⟨0, 0, 0, fun _ => 0, fun _ => 0, fun _ => 0, fun _ => 0, fun _ => 0, fun _ => 0, fun _ => 0, fun _ => 0, fun _ => 0, fun _ => 0, fun _ => 0, fun _ => 0, fun _ => 0, fun _ => 0, rfl, rfl, ?_⟩
  refine ⟨by omega, by omega, fun j hj => absurd hj (Nat.not_lt_zero j), fun j hj => absurd hj (Nat.not_lt_zero j), fun _ => ⟨0, by omega, rfl⟩, fun _ => ⟨0, by omega, rfl⟩, fun _ _ => ⟨rfl, rfl⟩, ?_⟩
  intro j k hk
  exact absurd hk (Nat.not_lt_zero k)
theorem i_vc_addPackage {k : Nat} {u : SX} {v : SY} (I : i_Rel k u v) (hk : k + 5 ≤ 2560) (v1 : Int32) (v2 : Int32) (v3 : Int32) : wpX_addPackage (fun r u' => wpY_addPackage (fun r' v' => r' = r ∧ i_Rel (k + 5) u' v') v v1 v2 v3) u v1 v2 v3 := by
  obtain ⟨n, w, inst, nm, ve, fe, ne, cl, pa, nf, nx, nb, cf, cx, cb, wn, wt, rfl, rfl, ok⟩ := I
  have R0 : i_Rel (k + 5) (nI n, nI w, inst, nm, ve, fe, ne, cl, pa, nf, nx, nb, cf, cx, cb, wn, wt) (nI n, nI w, inst, nm, ve, fe, ne, cl, pa, nf, nx, nb, cf, cx, cb, wn, wt) := ⟨n, w, inst, nm, ve, fe, ne, cl, pa, nf, nx, nb, cf, cx, cb, wn, wt, rfl, rfl, ok⟩
  have ok2 := ok
  obtain ⟨hn, hw, hnm, hve, hne, hcl, hz, hpa⟩ := ok2
  refine xo_add hn (fun h1 => yo_add hn (fun _ => ⟨rfl, R0⟩) (fun z _ => absurd h1 z) (fun z _ _ => absurd h1 z) (fun z _ _ => absurd h1 z)) (fun h1 h2 => yo_add hn (fun z => absurd z h1) (fun _ _ => ⟨rfl, R0⟩) (fun _ z _ => absurd z h2) (fun _ z _ => absurd z h2)) (fun h1 h2 h3 => yo_add hn (fun z => absurd z h1) (fun _ z => absurd h2 z) (fun _ _ _ => ⟨rfl, R0⟩) (fun _ _ z => absurd h3 z)) (fun h1 h2 h3 => yo_add hn (fun z => absurd z h1) (fun _ z => absurd h2 z) (fun _ _ z => absurd z h3) (fun _ _ _ => ⟨rfl, ?_⟩))
  have z := hz n (Nat.le_refl n)
  rw [uo_upd0 z.1, uo_upd0 z.2]
  exact ⟨n + 1, w, inst, upd nm n v1, upd ve n v2, upd fe n v3, ne, cl, pa, nf, nx, nb, cf, cx, cb, wn, wt, rfl, rfl, uo_okA ok h1 h2.1 h2.2.1⟩
theorem i_vc_need {k : Nat} {u : SX} {v : SY} (I : i_Rel k u v) (hk : k + 5 ≤ 2560) (v1 : Int32) (v2 : Int32) (v3 : Int32) (v4 : Int32) : wpX_need (fun r u' => wpY_need (fun r' v' => r' = r ∧ i_Rel (k + 5) u' v') v v1 (lw_bz v2) v3 v4) u v1 (lw_bz v2) v3 v4 := by
  obtain ⟨n, w, inst, nm, ve, fe, ne, cl, pa, nf, nx, nb, cf, cx, cb, wn, wt, rfl, rfl, ok⟩ := I
  have R0 : i_Rel (k + 5) (nI n, nI w, inst, nm, ve, fe, ne, cl, pa, nf, nx, nb, cf, cx, cb, wn, wt) (nI n, nI w, inst, nm, ve, fe, ne, cl, pa, nf, nx, nb, cf, cx, cb, wn, wt) := ⟨n, w, inst, nm, ve, fe, ne, cl, pa, nf, nx, nb, cf, cx, cb, wn, wt, rfl, rfl, ok⟩
  have ok2 := ok
  obtain ⟨hn, hw, hnm, hve, hne, hcl, hz, hpa⟩ := ok2
  by_cases hp : ∃ j, j < n ∧ v1 = nI j
  · obtain ⟨j, hj, rfl⟩ := hp
    obtain ⟨c, hc, ec⟩ := hne j
    exact xo_need1 hn hj hc ec (fun h => yo_need1 hn hj hc ec (fun _ => ⟨rfl, R0⟩) (fun z _ => absurd z h) (fun z _ => absurd z h)) (fun h h2 => yo_need1 hn hj hc ec (fun z => absurd h z) (fun _ _ => ⟨rfl, R0⟩) (fun _ z => absurd z (by omega))) (fun h h2 => yo_need1 hn hj hc ec (fun z => absurd h z) (fun _ z => absurd z (by omega)) (fun _ _ => ⟨rfl, ⟨n, w, inst, nm, ve, fe, _, cl, _, _, _, _, cf, cx, cb, wn, wt, rfl, rfl, uo_okN ok hj h2 ec⟩⟩))
  · exact xo_need0 hn hp (yo_need0 hn hp ⟨rfl, R0⟩)
theorem i_vc_orNeed {k : Nat} {u : SX} {v : SY} (I : i_Rel k u v) (hk : k + 5 ≤ 2560) (v1 : Int32) (v2 : Int32) (v3 : Int32) (v4 : Int32) : wpX_orNeed (fun r u' => wpY_orNeed (fun r' v' => r' = r ∧ i_Rel (k + 5) u' v') v v1 (lw_bz v2) v3 v4) u v1 (lw_bz v2) v3 v4 := by
  obtain ⟨n, w, inst, nm, ve, fe, ne, cl, pa, nf, nx, nb, cf, cx, cb, wn, wt, rfl, rfl, ok⟩ := I
  have R0 : i_Rel (k + 5) (nI n, nI w, inst, nm, ve, fe, ne, cl, pa, nf, nx, nb, cf, cx, cb, wn, wt) (nI n, nI w, inst, nm, ve, fe, ne, cl, pa, nf, nx, nb, cf, cx, cb, wn, wt) := ⟨n, w, inst, nm, ve, fe, ne, cl, pa, nf, nx, nb, cf, cx, cb, wn, wt, rfl, rfl, ok⟩
  have ok2 := ok
  obtain ⟨hn, hw, hnm, hve, hne, hcl, hz, hpa⟩ := ok2
  by_cases hp : ∃ j, j < n ∧ v1 = nI j
  · obtain ⟨j, hj, rfl⟩ := hp
    obtain ⟨c, hc, ec⟩ := hne j
    cases c with
    | zero => exact xo_orZ hn hj ec (fun h => yo_orZ hn hj ec (fun _ => ⟨rfl, R0⟩) (fun z => absurd z h)) (fun h => yo_orZ hn hj ec (fun z => absurd h z) (fun _ => ⟨rfl, R0⟩))
    | succ d =>
      have hq := hpa j d (by rw [ec, nI_clamp (by omega)]; omega)
      have h12 : ¬ (1 : Int32) = 2 := by decide
      exact xo_orS hn hj (by omega) ec hq (fun h => yo_orS hn hj (by omega) ec hq (fun _ => ⟨rfl, R0⟩) (fun z _ => absurd z h) (fun z _ => absurd z h)) (fun h h2 => yo_orS hn hj (by omega) ec hq (fun z => absurd h z) (fun _ _ => ⟨rfl, R0⟩) (fun _ z => absurd (z.symm.trans h2) h12)) (fun h h2 => yo_orS hn hj (by omega) ec hq (fun z => absurd h z) (fun _ z => absurd (h2.symm.trans z) h12) (fun _ _ => ⟨rfl, ⟨n, w, inst, nm, ve, fe, ne, cl, _, _, _, _, cf, cx, cb, wn, wt, rfl, rfl, uo_okO ok⟩⟩))
  · exact xo_or0 hn hp (yo_or0 hn hp ⟨rfl, R0⟩)
theorem i_vc_clash {k : Nat} {u : SX} {v : SY} (I : i_Rel k u v) (hk : k + 5 ≤ 2560) (v1 : Int32) (v2 : Int32) (v3 : Int32) (v4 : Int32) : wpX_clash (fun r u' => wpY_clash (fun r' v' => r' = r ∧ i_Rel (k + 5) u' v') v v1 (lw_bz v2) v3 v4) u v1 (lw_bz v2) v3 v4 := by
  obtain ⟨n, w, inst, nm, ve, fe, ne, cl, pa, nf, nx, nb, cf, cx, cb, wn, wt, rfl, rfl, ok⟩ := I
  have R0 : i_Rel (k + 5) (nI n, nI w, inst, nm, ve, fe, ne, cl, pa, nf, nx, nb, cf, cx, cb, wn, wt) (nI n, nI w, inst, nm, ve, fe, ne, cl, pa, nf, nx, nb, cf, cx, cb, wn, wt) := ⟨n, w, inst, nm, ve, fe, ne, cl, pa, nf, nx, nb, cf, cx, cb, wn, wt, rfl, rfl, ok⟩
  have ok2 := ok
  obtain ⟨hn, hw, hnm, hve, hne, hcl, hz, hpa⟩ := ok2
  by_cases hp : ∃ j, j < n ∧ v1 = nI j
  · obtain ⟨j, hj, rfl⟩ := hp
    obtain ⟨c, hc, ec⟩ := hcl j
    exact xo_cl1 hn hj hc ec (fun h => yo_cl1 hn hj hc ec (fun _ => ⟨rfl, R0⟩) (fun z _ => absurd z h) (fun z _ => absurd z h)) (fun h h2 => yo_cl1 hn hj hc ec (fun z => absurd h z) (fun _ _ => ⟨rfl, R0⟩) (fun _ z => absurd z (by omega))) (fun h h2 => yo_cl1 hn hj hc ec (fun z => absurd h z) (fun _ z => absurd z (by omega)) (fun _ _ => ⟨rfl, ⟨n, w, inst, nm, ve, fe, ne, _, pa, nf, nx, nb, _, _, _, wn, wt, rfl, rfl, uo_okC ok hj h2⟩⟩))
  · exact xo_cl0 hn hp (yo_cl0 hn hp ⟨rfl, R0⟩)
theorem i_vc_install {k : Nat} {u : SX} {v : SY} (I : i_Rel k u v) (hk : k + 5 ≤ 2560) (v1 : Int32) : wpX_install (fun r u' => wpY_install (fun r' v' => r' = r ∧ i_Rel (k + 5) u' v') v v1) u v1 := by
  obtain ⟨n, w, inst, nm, ve, fe, ne, cl, pa, nf, nx, nb, cf, cx, cb, wn, wt, rfl, rfl, ok⟩ := I
  have R0 : i_Rel (k + 5) (nI n, nI w, inst, nm, ve, fe, ne, cl, pa, nf, nx, nb, cf, cx, cb, wn, wt) (nI n, nI w, inst, nm, ve, fe, ne, cl, pa, nf, nx, nb, cf, cx, cb, wn, wt) := ⟨n, w, inst, nm, ve, fe, ne, cl, pa, nf, nx, nb, cf, cx, cb, wn, wt, rfl, rfl, ok⟩
  have ok2 := ok
  obtain ⟨hn, hw, hnm, hve, hne, hcl, hz, hpa⟩ := ok2
  exact xo_inst hn (fun h => yo_inst hn (fun _ => ⟨rfl, R0⟩) (fun z => absurd z h)) (fun h => yo_inst hn (fun z => absurd h z) (fun _ => ⟨rfl, ⟨n, w, v1, nm, ve, fe, ne, cl, pa, nf, nx, nb, cf, cx, cb, wn, wt, rfl, rfl, ok⟩⟩))
theorem i_vc_wish {k : Nat} {u : SX} {v : SY} (I : i_Rel k u v) (hk : k + 5 ≤ 2560) (v1 : Int32) (v2 : Int32) : wpX_wish (fun r u' => wpY_wish (fun r' v' => r' = r ∧ i_Rel (k + 5) u' v') v v1 (lw_bz v2)) u v1 (lw_bz v2) := by
  obtain ⟨n, w, inst, nm, ve, fe, ne, cl, pa, nf, nx, nb, cf, cx, cb, wn, wt, rfl, rfl, ok⟩ := I
  have R0 : i_Rel (k + 5) (nI n, nI w, inst, nm, ve, fe, ne, cl, pa, nf, nx, nb, cf, cx, cb, wn, wt) (nI n, nI w, inst, nm, ve, fe, ne, cl, pa, nf, nx, nb, cf, cx, cb, wn, wt) := ⟨n, w, inst, nm, ve, fe, ne, cl, pa, nf, nx, nb, cf, cx, cb, wn, wt, rfl, rfl, ok⟩
  have ok2 := ok
  obtain ⟨hn, hw, hnm, hve, hne, hcl, hz, hpa⟩ := ok2
  exact xo_wish hw (fun h => yo_wish hw (fun _ => ⟨rfl, R0⟩) (fun z _ => absurd z h) (fun z _ => absurd z h)) (fun h h2 => yo_wish hw (fun z => absurd h z) (fun _ _ => ⟨rfl, R0⟩) (fun _ z => absurd z (by omega))) (fun h h2 => yo_wish hw (fun z => absurd h z) (fun _ z => absurd z (by omega)) (fun _ _ => ⟨rfl, ⟨n, w + 1, inst, nm, ve, fe, ne, cl, pa, nf, nx, nb, cf, cx, cb, _, _, rfl, rfl, ⟨hn, by omega, hnm, hve, hne, hcl, hz, hpa⟩⟩⟩))
theorem i_vc_dropWishes {k : Nat} {u : SX} {v : SY} (I : i_Rel k u v) (hk : k + 5 ≤ 2560) : wpX_dropWishes (fun r u' => wpY_dropWishes (fun r' v' => r' = r ∧ i_Rel (k + 5) u' v') v) u := by
  obtain ⟨n, w, inst, nm, ve, fe, ne, cl, pa, nf, nx, nb, cf, cx, cb, wn, wt, rfl, rfl, ok⟩ := I
  have R0 : i_Rel (k + 5) (nI n, nI w, inst, nm, ve, fe, ne, cl, pa, nf, nx, nb, cf, cx, cb, wn, wt) (nI n, nI w, inst, nm, ve, fe, ne, cl, pa, nf, nx, nb, cf, cx, cb, wn, wt) := ⟨n, w, inst, nm, ve, fe, ne, cl, pa, nf, nx, nb, cf, cx, cb, wn, wt, rfl, rfl, ok⟩
  have ok2 := ok
  obtain ⟨hn, hw, hnm, hve, hne, hcl, hz, hpa⟩ := ok2
  exact ⟨rfl, ⟨n, 0, inst, nm, ve, fe, ne, cl, pa, nf, nx, nb, cf, cx, cb, wn, wt, rfl, rfl, ⟨hn, by omega, hnm, hve, hne, hcl, hz, hpa⟩⟩⟩
theorem i_vc_right {k : Nat} {u : SX} {v : SY} (I : i_Rel k u v) (hk : k + 5 ≤ 2560) (v1 : Int32) : wpX_right (fun r => wpY_right (fun r' => r' = r ∧ i_Rel (k + 5) u v) v v1) u v1 := by
  obtain ⟨n, w, inst, nm, ve, fe, ne, cl, pa, nf, nx, nb, cf, cx, cb, wn, wt, rfl, rfl, ok⟩ := I
  have R0 : i_Rel (k + 5) (nI n, nI w, inst, nm, ve, fe, ne, cl, pa, nf, nx, nb, cf, cx, cb, wn, wt) (nI n, nI w, inst, nm, ve, fe, ne, cl, pa, nf, nx, nb, cf, cx, cb, wn, wt) := ⟨n, w, inst, nm, ve, fe, ne, cl, pa, nf, nx, nb, cf, cx, cb, wn, wt, rfl, rfl, ok⟩
  have ok2 := ok
  obtain ⟨hn, hw, hnm, hve, hne, hcl, hz, hpa⟩ := ok2
  exact xo_right hn hw hnm hne hcl hpa (fun a b => yo_R hn hw hnm hne hcl (fun _ _ => ⟨rfl, R0⟩) (fun z => absurd ⟨a, b⟩ z)) (fun z => yo_R hn hw hnm hne hcl (fun a b => absurd ⟨a, b⟩ z) (fun _ => ⟨rfl, R0⟩))
theorem i_vc_best {k : Nat} {u : SX} {v : SY} (I : i_Rel k u v) (hk : k + 5 ≤ 2560) : wpX_best (fun r => wpY_best (fun r' => r' = r ∧ i_Rel (k + 5) u v) v) u := by
  obtain ⟨n, w, inst, nm, ve, fe, ne, cl, pa, nf, nx, nb, cf, cx, cb, wn, wt, rfl, rfl, ok⟩ := I
  have R0 : i_Rel (k + 5) (nI n, nI w, inst, nm, ve, fe, ne, cl, pa, nf, nx, nb, cf, cx, cb, wn, wt) (nI n, nI w, inst, nm, ve, fe, ne, cl, pa, nf, nx, nb, cf, cx, cb, wn, wt) := ⟨n, w, inst, nm, ve, fe, ne, cl, pa, nf, nx, nb, cf, cx, cb, wn, wt, rfl, rfl, ok⟩
  have ok2 := ok
  obtain ⟨hn, hw, hnm, hve, hne, hcl, hz, hpa⟩ := ok2
  exact xo_best hn hw hnm hve hne hcl hpa (yo_best hn hw hnm hne hcl ⟨rfl, R0⟩)
theorem i_vc_cost {k : Nat} {u : SX} {v : SY} (I : i_Rel k u v) (hk : k + 5 ≤ 2560) (v1 : Int32) : wpX_cost (fun r => wpY_cost (fun r' => r' = r ∧ i_Rel (k + 5) u v) v v1) u v1 := by
  obtain ⟨n, w, inst, nm, ve, fe, ne, cl, pa, nf, nx, nb, cf, cx, cb, wn, wt, rfl, rfl, ok⟩ := I
  have R0 : i_Rel (k + 5) (nI n, nI w, inst, nm, ve, fe, ne, cl, pa, nf, nx, nb, cf, cx, cb, wn, wt) (nI n, nI w, inst, nm, ve, fe, ne, cl, pa, nf, nx, nb, cf, cx, cb, wn, wt) := ⟨n, w, inst, nm, ve, fe, ne, cl, pa, nf, nx, nb, cf, cx, cb, wn, wt, rfl, rfl, ok⟩
  have ok2 := ok
  obtain ⟨hn, hw, hnm, hve, hne, hcl, hz, hpa⟩ := ok2
  by_cases h0 : v1 < 0
  · exact br_t h0 (br_t h0 ⟨rfl, R0⟩)
  · obtain ⟨j, hj, rfl⟩ := nI_of h0
    by_cases h3 : j < 3
    · exact xo_cost h3 hve hpa hn hw hnm hne hcl (yo_cost h3 hn hw hnm hne hcl ⟨rfl, R0⟩)
    · exact br_f h0 (br_f (nI_nlt (b := 3) (by omega) hj) (br_f h0 (br_f (nI_ge (a := 2) (by omega) hj) ⟨rfl, R0⟩)))
theorem i_vc_rightSets {k : Nat} {u : SX} {v : SY} (I : i_Rel k u v) (hk : k + 5 ≤ 2560) : wpX_rightSets (fun r => wpY_rightSets (fun r' => r' = r ∧ i_Rel (k + 5) u v) v) u := by
  obtain ⟨n, w, inst, nm, ve, fe, ne, cl, pa, nf, nx, nb, cf, cx, cb, wn, wt, rfl, rfl, ok⟩ := I
  have R0 : i_Rel (k + 5) (nI n, nI w, inst, nm, ve, fe, ne, cl, pa, nf, nx, nb, cf, cx, cb, wn, wt) (nI n, nI w, inst, nm, ve, fe, ne, cl, pa, nf, nx, nb, cf, cx, cb, wn, wt) := ⟨n, w, inst, nm, ve, fe, ne, cl, pa, nf, nx, nb, cf, cx, cb, wn, wt, rfl, rfl, ok⟩
  have ok2 := ok
  obtain ⟨hn, hw, hnm, hve, hne, hcl, hz, hpa⟩ := ok2
  exact xo_rs hn hw hnm hne hcl hpa (yo_rs hn hw hnm hne hcl ⟨rfl, R0⟩)
