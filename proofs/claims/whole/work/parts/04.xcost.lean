section
variable {n w : Nat} {nm ve fe ne cl pa nf nx nb cf cx cb wn wt : Nat → Int32} {inst : Int32}
theorem xo_lo {post : Int32 → Prop} {s : Int32} (hn : n ≤ 10) (h : post (nI (uo_lo n nm inst s))) : wpX_lostNames post (nI n, nI w, inst, nm, ve, fe, ne, cl, pa, nf, nx, nb, cf, cx, cb, wn, wt) s := by
  refine uo_cnt (fun f i c => wX_lostNames_4 post s (nI n) (nI w) inst nm ve fe ne cl pa nf nx nb cf cx cb wn wt f (nI c) (nI i)) (fun x => uo_hn n nm inst (nI x) ∧ ¬ uo_hn n nm s (nI x)) 5 ?_ ?_
  · exact fun f => br_t (nI_le (Nat.le_refl 5) (by decide)) h
  · intro f i c hi h1 h2
    exact br_f (nI_ge (b := 5) hi (by decide)) (xo_hn hn (fun y => br_f uo_10 (xo_hn hn (fun z => br_f uo_10 (nm_r (nI_1 i) (h2 (fun k => k.2 z)))) (fun z => br_t rfl (nm_r (nI_1 c) (nm_r (nI_1 i) (h1 ⟨y, z⟩)))))) (fun y => br_t rfl (nm_r (nI_1 i) (h2 (fun k => y k.1)))))
theorem xo_ch {post : Int32 → Prop} {s : Int32} (hn : n ≤ 10) (h : post (nI (uo_ch n inst s))) : wpX_changedPackages post (nI n, nI w, inst, nm, ve, fe, ne, cl, pa, nf, nx, nb, cf, cx, cb, wn, wt) s := by
  refine nm_e ?_
  refine uo_cnt (fun f i c => wX_changedPackages_12 post (s ^^^ inst) (nI n) (nI w) inst nm ve fe ne cl pa nf nx nb cf cx cb wn wt f (nI c) (nI i)) (fun p => ¬ (uo_in s p ↔ uo_in inst p)) n ?_ ?_
  · exact fun f => br_t (nI_le (Nat.le_refl n) (by omega)) h
  · intro f i c hi h1 h2
    exact br_f (nI_ge hi (by omega)) (xo_has (fun y => br_f uo_10 (nm_r (nI_1 c) (nm_r (nI_1 i) (h1 ((uo_xr (by omega)).mp y))))) (fun y => br_t rfl (nm_r (nI_1 i) (h2 (fun z => y ((uo_xr (by omega)).mpr z))))))
theorem xo_nw {post : Int32 → Prop} {x : Int32} (hn : n ≤ 10) (hve : ∀ j, j < n → 0 < ve j) (h : post (uo_tx (uo_tp nm ve x n))) : wpX_newestOf post (nI n, nI w, inst, nm, ve, fe, ne, cl, pa, nf, nx, nb, cf, cx, cb, wn, wt) x := by
  refine uo_det (fun f i (t : Int32 × Int32) => wX_newestOf_7 post x (nI n) (nI w) inst nm ve fe ne cl pa nf nx nb cf cx cb wn wt f t.1 t.2 (nI i)) (fun i => (uo_tx (uo_tp nm ve x i), uo_tg ve (uo_tp nm ve x i))) n ?_ ?_
  · exact fun f => br_t (nI_le (Nat.le_refl n) (by omega)) h
  · intro f i hi K
    have e : (nI i).toNatClampNeg = i := nI_clamp (by omega)
    have ii : vp_in (nI i) 10 := vp_in_nI (by omega) (by omega)
    refine br_f (nI_ge hi (by omega)) ⟨ii, ?_⟩
    rw [e]
    cases et : uo_tp nm ve x i with
    | none =>
      have en := uo_tp_n et
      by_cases z : nm i = x
      · rw [if_pos z] at en
        dsimp only at K
        rw [en] at K
        exact br_t z ⟨ii, br_f (Int32.not_le.mpr (hve i hi)) ⟨ii, nm_e (nm_r (nI_1 i) K)⟩⟩
      · rw [if_neg z] at en
        dsimp only at K
        rw [en] at K
        exact br_f z (nm_r (nI_1 i) K)
    | some b =>
      have en := uo_tp_s et
      by_cases z : nm i = x
      · by_cases z2 : ve b < ve i
        · rw [if_pos ⟨z, z2⟩] at en
          dsimp only at K
          rw [en] at K
          exact br_t z ⟨ii, br_f (Int32.not_le.mpr z2) ⟨ii, nm_e (nm_r (nI_1 i) K)⟩⟩
        · rw [if_neg (fun k => z2 k.2)] at en
          dsimp only at K
          rw [en] at K
          exact br_t z ⟨ii, br_t (Int32.not_lt.mp z2) (nm_r (nI_1 i) K)⟩
      · rw [if_neg (fun k => z k.1)] at en
        dsimp only at K
        rw [en] at K
        exact br_f z (nm_r (nI_1 i) K)
theorem xo_st {post : Int32 → Prop} {s : Int32} (hn : n ≤ 10) (hve : ∀ j, j < n → 0 < ve j) (h : post (nI (uo_st n nm ve s))) : wpX_staleNames post (nI n, nI w, inst, nm, ve, fe, ne, cl, pa, nf, nx, nb, cf, cx, cb, wn, wt) s := by
  refine uo_cnt (fun f i c => wX_staleNames_4 post s (nI n) (nI w) inst nm ve fe ne cl pa nf nx nb cf cx cb wn wt f (nI c) (nI i)) (fun x => uo_hn n nm s (nI x) ∧ ¬ uo_in s ((uo_tp nm ve (nI x) n).getD 0)) 5 ?_ ?_
  · exact fun f => br_t (nI_le (Nat.le_refl 5) (by decide)) h
  · intro f i c hi h1 h2
    refine br_f (nI_ge (b := 5) hi (by decide)) (xo_hn hn (fun y => br_f uo_10 (xo_nw hn hve ?_)) (fun y => br_t rfl (nm_r (nI_1 i) (h2 (fun k => y k.1)))))
    obtain ⟨b, hb, eb⟩ := uo_hn_tp (ve := ve) y
    rw [eb] at h1 h2
    rw [eb]
    exact (xo_has (p := b) (fun z => br_f uo_10 (nm_r (nI_1 i) (h2 (fun k => k.2 z)))) (fun z => br_t rfl (nm_r (nI_1 c) (nm_r (nI_1 i) (h1 ⟨y, z⟩)))))
theorem xo_we {post : Int32 → Prop} {s : Int32} (hn : n ≤ 10) (hve : ∀ j, j < n → 0 < ve j) (h : post (nI (uo_we n nm ve inst s))) : wpX_weightOf post (nI n, nI w, inst, nm, ve, fe, ne, cl, pa, nf, nx, nb, cf, cx, cb, wn, wt) s := by
  unfold wpX_weightOf
  dsimp only
  refine xo_lo hn ?_
  refine xo_ch hn ?_
  refine xo_st hn hve ?_
  rw [show (16 : Int32) = nI 16 from rfl, pk_mul, nI_add, pk_mul, nI_add]
  exact h
theorem xo_best {post : Int32 → Prop} (hn : n ≤ 10) (hw : w ≤ 4) (hnm : ∀ j, j < n → ∃ a, a < 5 ∧ nm j = nI a) (hve : ∀ j, j < n → 0 < ve j) (hne : ∀ j, ∃ c, c ≤ 2 ∧ ne j = nI c) (hcl : ∀ j, ∃ c, c ≤ 2 ∧ cl j = nI c) (hpa : ∀ j k, k < (ne j).toNatClampNeg → pa (2 * j + k) = 1 ∨ pa (2 * j + k) = 2) (h : post (uo_bx (uo_bf (fun i => uo_R n w nm ve fe ne cl pa nf nx nb cf cx cb wn wt (nI i)) (fun i => uo_we n nm ve inst (nI i)) (2 ^ n)))) : wpX_best post (nI n, nI w, inst, nm, ve, fe, ne, cl, pa, nf, nx, nb, cf, cx, cb, wn, wt) := by
  have hp := uo_pwb n (by omega)
  have hch := fun s => uo_chn (n := n) (inst := inst) (s := s)
  have hlo := fun s => uo_lo5 (n := n) (nm := nm) (inst := inst) (s := s)
  have hst := fun s => uo_st5 (n := n) (nm := nm) (ve := ve) (s := s)
  refine nm_r (uo_pw n (by omega)) ?_
  refine uo_det (fun f i (t : Int32 × Int32) => wX_best_15 post (nI (2 ^ n)) (nI n) (nI w) inst nm ve fe ne cl pa nf nx nb cf cx cb wn wt f t.1 t.2 (nI i)) (fun i => (uo_bx (uo_bf (fun i => uo_R n w nm ve fe ne cl pa nf nx nb cf cx cb wn wt (nI i)) (fun i => uo_we n nm ve inst (nI i)) i), uo_bl (fun i => uo_we n nm ve inst (nI i)) (uo_bf (fun i => uo_R n w nm ve fe ne cl pa nf nx nb cf cx cb wn wt (nI i)) (fun i => uo_we n nm ve inst (nI i)) i))) (2 ^ n) ?_ ?_
  · exact fun f => br_t (nI_le (Nat.le_refl _) (by omega)) h
  · intro f i hi K
    dsimp only at K
    refine br_f (nI_ge hi (by omega)) (xo_R hn hw hnm hne hcl hpa (fun y => br_f uo_10 ?_) (fun y => br_t rfl ?_))
    · refine xo_we hn hve ?_
      dsimp only
      cases eb : uo_bf (fun i => uo_R n w nm ve fe ne cl pa nf nx nb cf cx cb wn wt (nI i)) (fun i => uo_we n nm ve inst (nI i)) i with
      | none =>
        rw [uo_bf_t (R := fun i => uo_R n w nm ve fe ne cl pa nf nx nb cf cx cb wn wt (nI i)) y (fun b h => by rw [eb] at h; cases h)] at K
        exact br_t rfl (nm_r (nI_1 i) K)
      | some b =>
        have hbi := (uo_bf_lt i b eb).1
        refine br_f (uo_n3 (by omega)) ?_
        have b1 : uo_we n nm ve inst (nI i) < 2 ^ 31 := by
          have := hch (nI i); have := hlo (nI i); have := hst (nI i)
          unfold uo_we
          omega
        have b2 : uo_we n nm ve inst (nI b) < 2 ^ 31 := by
          have := hch (nI b); have := hlo (nI b); have := hst (nI b)
          unfold uo_we
          omega
        by_cases z : uo_we n nm ve inst (nI i) < uo_we n nm ve inst (nI b)
        · rw [uo_bf_t (R := fun i => uo_R n w nm ve fe ne cl pa nf nx nb cf cx cb wn wt (nI i)) y (fun b' h => by rw [eb] at h; cases h; exact z)] at K
          exact br_f (nI_ge z b2) (nm_r (nI_1 i) K)
        · rw [uo_bf_f (R := fun i => uo_R n w nm ve fe ne cl pa nf nx nb cf cx cb wn wt (nI i)) (fun k => z (k.2 b eb)), eb] at K
          exact br_t (nI_le (Nat.not_lt.mp z) b1) (nm_r (nI_1 i) K)
    · rw [uo_bf_f (R := fun i => uo_R n w nm ve fe ne cl pa nf nx nb cf cx cb wn wt (nI i)) (fun k => y k.1)] at K
      exact nm_r (nI_1 i) K
theorem xo_rs {post : Int32 → Prop} (hn : n ≤ 10) (hw : w ≤ 4) (hnm : ∀ j, j < n → ∃ a, a < 5 ∧ nm j = nI a) (hne : ∀ j, ∃ c, c ≤ 2 ∧ ne j = nI c) (hcl : ∀ j, ∃ c, c ≤ 2 ∧ cl j = nI c) (hpa : ∀ j k, k < (ne j).toNatClampNeg → pa (2 * j + k) = 1 ∨ pa (2 * j + k) = 2) (h : post (nI (uo_cn (fun i => uo_R n w nm ve fe ne cl pa nf nx nb cf cx cb wn wt (nI i)) (2 ^ n)))) : wpX_rightSets post (nI n, nI w, inst, nm, ve, fe, ne, cl, pa, nf, nx, nb, cf, cx, cb, wn, wt) := by
  have hp := uo_pwb n (by omega)
  refine nm_r (uo_pw n (by omega)) ?_
  refine uo_cnt (fun f i c => wX_rightSets_11 post (nI (2 ^ n)) (nI n) (nI w) inst nm ve fe ne cl pa nf nx nb cf cx cb wn wt f (nI c) (nI i)) (fun i => uo_R n w nm ve fe ne cl pa nf nx nb cf cx cb wn wt (nI i)) (2 ^ n) ?_ ?_
  · exact fun f => br_t (nI_le (Nat.le_refl _) (by omega)) h
  · intro f i c hi h1 h2
    exact br_f (nI_ge hi (by omega)) (xo_R hn hw hnm hne hcl hpa (fun y => br_f uo_10 (nm_r (nI_1 c) (nm_r (nI_1 i) (h1 y)))) (fun y => br_t rfl (nm_r (nI_1 i) (h2 y))))
end
