section
variable {n w : Nat} {nm ve fe ne cl pa nf nx nb cf cx cb wn wt : Nat → Int32} {inst : Int32}
theorem yo_nw {post : Int32 → Prop} {x : Int32} (hn : n ≤ 10) (h : post (uo_ty (uo_tp nm ve x n))) : wpY_newest post (nI n, nI w, inst, nm, ve, fe, ne, cl, pa, nf, nx, nb, cf, cx, cb, wn, wt) x := by
  refine uo_det (fun f i (t : Int32) => wY_newest_4 post x (nI n) (nI w) inst nm ve fe ne cl pa nf nx nb cf cx cb wn wt f t (nI i)) (fun i => uo_ty (uo_tp nm ve x i)) n ?_ ?_
  · exact fun f => br_t (nI_le (Nat.le_refl n) (by omega)) h
  · intro f i hi K
    have e : (nI i).toNatClampNeg = i := nI_clamp (by omega)
    have ii : vp_in (nI i) 10 := vp_in_nI (by omega) (by omega)
    refine br_f (nI_ge hi (by omega)) ⟨ii, ?_⟩
    rw [e]
    cases et : uo_tp nm ve x i with
    | none =>
      have en := uo_tp_n et
      by_cases z : nm i = x
      · rw [if_pos z] at en
        rw [en] at K
        exact br_t z (br_t (by decide) (nm_r (nI_1 i) K))
      · rw [if_neg z] at en
        rw [en] at K
        exact br_f z (nm_r (nI_1 i) K)
    | some b =>
      have en := uo_tp_s et
      have hb := (uo_tp_lt i b et).1
      have eb : (nI b).toNatClampNeg = b := nI_clamp (by omega)
      by_cases z : nm i = x
      · refine br_t z (br_f (nI_pos (by omega)) ⟨ii, vp_in_nI (by omega) (by omega), ?_⟩)
        dsimp only [uo_ty]
        rw [eb]
        by_cases z2 : ve b < ve i
        · rw [if_pos ⟨z, z2⟩] at en
          rw [en] at K
          exact br_f (Int32.not_le.mpr z2) (nm_r (nI_1 i) K)
        · rw [if_neg (fun k => z2 k.2)] at en
          rw [en] at K
          exact br_t (Int32.not_lt.mp z2) (nm_r (nI_1 i) K)
      · rw [if_neg (fun k => z k.1)] at en
        rw [en] at K
        exact br_f z (nm_r (nI_1 i) K)
theorem yo_ch {post : Int32 → Prop} {s : Int32} (hn : n ≤ 10) (h : post (nI (uo_ch n inst s))) : wpY_price post (nI n, nI w, inst, nm, ve, fe, ne, cl, pa, nf, nx, nb, cf, cx, cb, wn, wt) s (nI 1) := by
  refine br_t rfl ?_
  refine uo_cnt (fun f i c => wY_price_10 post s (nI n) (nI w) inst nm ve fe ne cl pa nf nx nb cf cx cb wn wt f (nI c) (nI i)) (fun p => ¬ (uo_in s p ↔ uo_in inst p)) n ?_ ?_
  · exact fun f => br_t (nI_le (Nat.le_refl n) (by omega)) h
  · intro f i c hi h1 h2
    refine br_f (nI_ge hi (by omega)) (yo_in (fun y => yo_in (fun z => ?_) (fun z => ?_)) (fun y => yo_in (fun z => ?_) (fun z => ?_)))
    · exact br_t rfl (nm_r (nI_1 i) (h2 (fun k => k ⟨fun _ => z, fun _ => y⟩)))
    · exact br_f (by decide) (nm_r (nI_1 c) (nm_r (nI_1 i) (h1 (fun k => z (k.mp y)))))
    · exact br_f (by decide) (nm_r (nI_1 c) (nm_r (nI_1 i) (h1 (fun k => y (k.mpr z)))))
    · exact br_t rfl (nm_r (nI_1 i) (h2 (fun k => k ⟨fun a => absurd a y, fun a => absurd a z⟩)))
theorem yo_lo {post : Int32 → Prop} {s : Int32} (hn : n ≤ 10) (h : post (nI (uo_lo n nm inst s))) : wpY_price post (nI n, nI w, inst, nm, ve, fe, ne, cl, pa, nf, nx, nb, cf, cx, cb, wn, wt) s (nI 0) := by
  refine br_f (by decide) ?_
  refine uo_cnt (fun f i c => wY_price_53 post s (nI 0) (nI n) (nI w) inst nm ve fe ne cl pa nf nx nb cf cx cb wn wt f (nI c) (nI i)) (fun x => uo_hn n nm inst (nI x) ∧ ¬ uo_hn n nm s (nI x)) 5 ?_ ?_
  · exact fun f => br_t (nI_le (Nat.le_refl 5) (by decide)) h
  · intro f i c hi h1 h2
    have c1 := uo_cn_le (fun p => uo_in s p ∧ nm p = nI i) n
    have c2 := uo_cn_le (fun p => uo_in inst p ∧ nm p = nI i) n
    have p1 := uo_cn_pos (fun p => uo_in s p ∧ nm p = nI i) n
    have p2 := uo_cn_pos (fun p => uo_in inst p ∧ nm p = nI i) n
    refine br_f (nI_ge (b := 5) hi (by decide)) (yo_ct hn (yo_ct hn (yo_nw hn ?_)))
    refine br_t rfl (pk_le (uo_cn (fun p => uo_in inst p ∧ nm p = nI i) n) 0 (fun z => ?_) (fun z => pk_eq (uo_cn (fun p => uo_in s p ∧ nm p = nI i) n) 0 (fun z2 => nm_r (nI_1 c) ?_) (fun z2 => ?_)))
    · exact br_f (by decide) (nm_r (nI_1 i) (h2 (fun k => Nat.not_lt.mpr z (p2.mpr k.1))))
    · exact br_f (by decide) (nm_r (nI_1 i) (h1 ⟨p2.mp z, fun k => absurd z2 (Nat.pos_iff_ne_zero.mp (p1.mpr k))⟩))
    · exact br_f (by decide) (nm_r (nI_1 i) (h2 (fun k => k.2 (p1.mp (Nat.pos_iff_ne_zero.mpr z2)))))
theorem yo_st {post : Int32 → Prop} {s : Int32} (hn : n ≤ 10) (h : post (nI (uo_st n nm ve s))) : wpY_price post (nI n, nI w, inst, nm, ve, fe, ne, cl, pa, nf, nx, nb, cf, cx, cb, wn, wt) s (nI 2) := by
  refine br_f (by decide) ?_
  refine uo_cnt (fun f i c => wY_price_53 post s (nI 2) (nI n) (nI w) inst nm ve fe ne cl pa nf nx nb cf cx cb wn wt f (nI c) (nI i)) (fun x => uo_hn n nm s (nI x) ∧ ¬ uo_in s ((uo_tp nm ve (nI x) n).getD 0)) 5 ?_ ?_
  · exact fun f => br_t (nI_le (Nat.le_refl 5) (by decide)) h
  · intro f i c hi h1 h2
    have c1 := uo_cn_le (fun p => uo_in s p ∧ nm p = nI i) n
    have p1 := uo_cn_pos (fun p => uo_in s p ∧ nm p = nI i) n
    refine br_f (nI_ge (b := 5) hi (by decide)) (yo_ct hn (yo_ct hn (yo_nw hn ?_)))
    refine br_f (by decide) ?_
    refine br_t rfl (pk_le (uo_cn (fun p => uo_in s p ∧ nm p = nI i) n) 0 (fun z => nm_r (nI_1 i) (h2 (fun k => Nat.not_lt.mpr z (p1.mpr k.1)))) (fun z => ?_))
    have y : uo_hn n nm s (nI i) := p1.mp z
    obtain ⟨b, hb, eb⟩ := uo_hn_tp (ve := ve) y
    rw [eb] at h1 h2
    rw [eb]
    exact (yo_in (p := b) (fun v => br_f uo_10 (nm_r (nI_1 i) (h2 (fun k => k.2 v)))) (fun v => br_t rfl (nm_r (nI_1 c) (nm_r (nI_1 i) (h1 ⟨y, v⟩)))))
theorem yo_cheap {post : Int32 → Prop} {s o : Int32} (hn : n ≤ 10) (ht : uo_we n nm ve inst s < uo_we n nm ve inst o → post 1) (hf : ¬ uo_we n nm ve inst s < uo_we n nm ve inst o → post 0) : wpY_cheaper post (nI n, nI w, inst, nm, ve, fe, ne, cl, pa, nf, nx, nb, cf, cx, cb, wn, wt) s o := by
  have l1 : uo_lo n nm inst s ≤ 5 := uo_lo5
  have l2 : uo_lo n nm inst o ≤ 5 := uo_lo5
  have c1 : uo_ch n inst s ≤ n := uo_chn
  have c2 : uo_ch n inst o ≤ n := uo_chn
  have t1 : uo_st n nm ve s ≤ 5 := uo_st5
  have t2 : uo_st n nm ve o ≤ 5 := uo_st5
  have lex : uo_we n nm ve inst s < uo_we n nm ve inst o ↔ (uo_lo n nm inst s < uo_lo n nm inst o ∨ (uo_lo n nm inst s = uo_lo n nm inst o ∧ (uo_ch n inst s < uo_ch n inst o ∨ (uo_ch n inst s = uo_ch n inst o ∧ uo_st n nm ve s < uo_st n nm ve o)))) := uo_lex (by omega) (by omega) t1 t2
  rw [lex] at ht hf
  clear lex
  refine Exists.intro 4 ?_
  refine br_f (by decide) (yo_lo hn (yo_lo hn ?_))
  refine pk_eq (uo_lo n nm inst s) (uo_lo n nm inst o) (fun z1 => nm_r (show (0 : Int32) + 1 = nI 1 from rfl) ?_) (fun z1 => pk_le (uo_lo n nm inst o) (uo_lo n nm inst s) (fun z => hf (by omega)) (fun z => ht (by omega)))
  refine br_f (by decide) (yo_ch hn (yo_ch hn ?_))
  refine pk_eq (uo_ch n inst s) (uo_ch n inst o) (fun z2 => nm_r (show nI 1 + 1 = nI 2 from rfl) ?_) (fun z2 => pk_le (uo_ch n inst o) (uo_ch n inst s) (fun z => hf (by omega)) (fun z => ht (by omega)))
  refine br_f (by decide) (yo_st hn (yo_st hn ?_))
  refine pk_eq (uo_st n nm ve s) (uo_st n nm ve o) (fun z3 => nm_r (show nI 2 + 1 = nI 3 from rfl) ?_) (fun z3 => pk_le (uo_st n nm ve o) (uo_st n nm ve s) (fun z => hf (by omega)) (fun z => ht (by omega)))
  exact br_t (by decide) (hf (by omega))
theorem yo_best {post : Int32 → Prop} (hn : n ≤ 10) (hw : w ≤ 4) (hnm : ∀ j, j < n → ∃ a, a < 5 ∧ nm j = nI a) (hne : ∀ j, ∃ c, c ≤ 2 ∧ ne j = nI c) (hcl : ∀ j, ∃ c, c ≤ 2 ∧ cl j = nI c) (h : post (uo_bx (uo_bf (fun i => uo_R n w nm ve fe ne cl pa nf nx nb cf cx cb wn wt (nI i)) (fun i => uo_we n nm ve inst (nI i)) (2 ^ n)))) : wpY_best post (nI n, nI w, inst, nm, ve, fe, ne, cl, pa, nf, nx, nb, cf, cx, cb, wn, wt) := by
  have hp := uo_pwb n (by omega)
  have hpw := uo_pw n (by omega)
  refine uo_det (fun f i (t : Int32) => wY_best_5 post (nI n) (nI w) inst nm ve fe ne cl pa nf nx nb cf cx cb wn wt f t (nI i)) (fun i => uo_bx (uo_bf (fun i => uo_R n w nm ve fe ne cl pa nf nx nb cf cx cb wn wt (nI i)) (fun i => uo_we n nm ve inst (nI i)) i)) (2 ^ n) ?_ ?_
  · exact fun f => br_t (by rw [hpw]; exact nI_le (Nat.le_refl _) (by omega)) h
  · intro f i hi K
    refine br_f (by rw [hpw]; exact nI_ge hi (by omega)) (yo_R hn hw hnm hne hcl (fun _ y => br_f uo_10 ?_) (fun y => br_t rfl ?_))
    · cases eb : uo_bf (fun i => uo_R n w nm ve fe ne cl pa nf nx nb cf cx cb wn wt (nI i)) (fun i => uo_we n nm ve inst (nI i)) i with
      | none =>
        rw [uo_bf_t (R := fun i => uo_R n w nm ve fe ne cl pa nf nx nb cf cx cb wn wt (nI i)) y (fun b h => by rw [eb] at h; cases h)] at K
        exact br_t rfl (nm_r (nI_1 i) K)
      | some b =>
        have hbi := (uo_bf_lt i b eb).1
        refine br_f (uo_n3 (by omega)) (yo_cheap hn (fun z => br_f uo_10 ?_) (fun z => br_t rfl ?_))
        · rw [uo_bf_t (R := fun i => uo_R n w nm ve fe ne cl pa nf nx nb cf cx cb wn wt (nI i)) y (fun b' h => by rw [eb] at h; cases h; exact z)] at K
          exact nm_r (nI_1 i) K
        · rw [uo_bf_f (R := fun i => uo_R n w nm ve fe ne cl pa nf nx nb cf cx cb wn wt (nI i)) (fun k => z (k.2 b eb)), eb] at K
          exact nm_r (nI_1 i) K
    · rw [uo_bf_f (R := fun i => uo_R n w nm ve fe ne cl pa nf nx nb cf cx cb wn wt (nI i)) (fun k => y ⟨uo_sk_i hn hi, k.1⟩)] at K
      exact nm_r (nI_1 i) K
theorem yo_rs {post : Int32 → Prop} (hn : n ≤ 10) (hw : w ≤ 4) (hnm : ∀ j, j < n → ∃ a, a < 5 ∧ nm j = nI a) (hne : ∀ j, ∃ c, c ≤ 2 ∧ ne j = nI c) (hcl : ∀ j, ∃ c, c ≤ 2 ∧ cl j = nI c) (h : post (nI (uo_cn (fun i => uo_R n w nm ve fe ne cl pa nf nx nb cf cx cb wn wt (nI i)) (2 ^ n)))) : wpY_rightSets post (nI n, nI w, inst, nm, ve, fe, ne, cl, pa, nf, nx, nb, cf, cx, cb, wn, wt) := by
  have hp := uo_pwb n (by omega)
  have hpw := uo_pw n (by omega)
  refine uo_cnt (fun f i c => wY_rightSets_4 post (nI n) (nI w) inst nm ve fe ne cl pa nf nx nb cf cx cb wn wt f (nI c) (nI i)) (fun i => uo_R n w nm ve fe ne cl pa nf nx nb cf cx cb wn wt (nI i)) (2 ^ n) ?_ ?_
  · exact fun f => br_t (by rw [hpw]; exact nI_le (Nat.le_refl _) (by omega)) h
  · intro f i c hi h1 h2
    exact br_f (by rw [hpw]; exact nI_ge hi (by omega)) (yo_R hn hw hnm hne hcl (fun _ y => br_f uo_10 (nm_r (nI_1 c) (nm_r (nI_1 i) (h1 y)))) (fun y => br_t rfl (nm_r (nI_1 i) (h2 (fun k => y ⟨uo_sk_i hn hi, k⟩)))))
noncomputable def uo_cv (n : Nat) (nm ve : Nat → Int32) (inst : Int32) : Nat → Option Nat → Int32
  | _, none => -3
  | 0, some b => nI (uo_lo n nm inst (nI b))
  | 1, some b => nI (uo_ch n inst (nI b))
  | _, some b => nI (uo_st n nm ve (nI b))
theorem xo_cost {post : Int32 → Prop} {j : Nat} (hj : j < 3) (hve : ∀ j, j < n → 0 < ve j) (hpa : ∀ j k, k < (ne j).toNatClampNeg → pa (2 * j + k) = 1 ∨ pa (2 * j + k) = 2) (hn : n ≤ 10) (hw : w ≤ 4) (hnm : ∀ j, j < n → ∃ a, a < 5 ∧ nm j = nI a) (hne : ∀ j, ∃ c, c ≤ 2 ∧ ne j = nI c) (hcl : ∀ j, ∃ c, c ≤ 2 ∧ cl j = nI c) (h : post (uo_cv n nm ve inst j (uo_bf (fun i => uo_R n w nm ve fe ne cl pa nf nx nb cf cx cb wn wt (nI i)) (fun i => uo_we n nm ve inst (nI i)) (2 ^ n)))) : wpX_cost post (nI n, nI w, inst, nm, ve, fe, ne, cl, pa, nf, nx, nb, cf, cx, cb, wn, wt) (nI j) := by
  have hp := uo_pwb n (by omega)
  refine br_f (nI_pos (by omega)) (br_t (nI_lt (b := 3) hj (by decide)) (xo_best hn hw hnm hve hne hcl hpa ?_))
  cases eb : uo_bf (fun i => uo_R n w nm ve fe ne cl pa nf nx nb cf cx cb wn wt (nI i)) (fun i => uo_we n nm ve inst (nI i)) (2 ^ n) with
  | none =>
    rw [eb] at h
    have h' : post (-3) := by
      have : j = 0 ∨ j = 1 ∨ j = 2 := by omega
      rcases this with e | e | e <;> subst e <;> exact h
    exact br_t rfl h'
  | some b =>
    rw [eb] at h
    have hb := (uo_bf_lt _ b eb).1
    refine br_f (uo_n3 (by omega)) ?_
    have hj3 : j = 0 ∨ j = 1 ∨ j = 2 := by omega
    rcases hj3 with e | e | e
    · subst e
      exact br_t rfl (xo_lo hn h)
    · subst e
      exact br_f (by decide) (br_t rfl (xo_ch hn h))
    · subst e
      exact br_f (by decide) (br_f (by decide) (xo_st hn hve h))
theorem yo_cost {post : Int32 → Prop} {j : Nat} (hj : j < 3) (hn : n ≤ 10) (hw : w ≤ 4) (hnm : ∀ j, j < n → ∃ a, a < 5 ∧ nm j = nI a) (hne : ∀ j, ∃ c, c ≤ 2 ∧ ne j = nI c) (hcl : ∀ j, ∃ c, c ≤ 2 ∧ cl j = nI c) (h : post (uo_cv n nm ve inst j (uo_bf (fun i => uo_R n w nm ve fe ne cl pa nf nx nb cf cx cb wn wt (nI i)) (fun i => uo_we n nm ve inst (nI i)) (2 ^ n)))) : wpY_cost post (nI n, nI w, inst, nm, ve, fe, ne, cl, pa, nf, nx, nb, cf, cx, cb, wn, wt) (nI j) := by
  have hp := uo_pwb n (by omega)
  refine br_f (nI_pos (by omega)) (br_t (nI_le (b := 2) (by omega) (by decide)) (yo_best hn hw hnm hne hcl ?_))
  cases eb : uo_bf (fun i => uo_R n w nm ve fe ne cl pa nf nx nb cf cx cb wn wt (nI i)) (fun i => uo_we n nm ve inst (nI i)) (2 ^ n) with
  | none =>
    rw [eb] at h
    have h' : post (-3) := by
      have : j = 0 ∨ j = 1 ∨ j = 2 := by omega
      rcases this with e | e | e <;> subst e <;> exact h
    exact br_t rfl h'
  | some b =>
    rw [eb] at h
    have hb := (uo_bf_lt _ b eb).1
    refine br_f (uo_n3 (by omega)) ?_
    have hj3 : j = 0 ∨ j = 1 ∨ j = 2 := by omega
    rcases hj3 with e | e | e
    · subst e
      exact yo_lo hn h
    · subst e
      exact yo_ch hn h
    · subst e
      exact yo_st hn h
end
