section
variable {n w : Nat} {nm ve fe ne cl pa nf nx nb cf cx cb wn wt : Nat → Int32} {inst : Int32}
def uo_rg (x : Int32) (a b : Int) : Prop := a ≤ x.toInt ∧ x.toInt ≤ b
theorem uo_rg_lo {x y : Int32} {a b : Int} (h : uo_rg x a b) (e : y.toInt = a) : ¬ x < y := by
  rw [Int32.lt_iff_toInt_lt, e]
  exact Int.not_lt.mpr h.1
theorem uo_rg_hi {x y : Int32} {a b : Int} (h : uo_rg x a b) (e : y.toInt = b) : ¬ y < x := by
  rw [Int32.lt_iff_toInt_lt, e]
  exact Int.not_lt.mpr h.2
theorem uo_rg_h2 {x y : Int32} {a b : Int} (h : uo_rg x a b) (e : y.toInt = b + 1) : ¬ y ≤ x := by
  rw [Int32.le_iff_toInt_le, e]
  have := h.2
  omega
theorem uo_rg_l2 {x y : Int32} {a b : Int} (h : uo_rg x a b) (e : y.toInt = a) : y ≤ x := by
  rw [Int32.le_iff_toInt_le, e]
  exact h.1
theorem uo_rg_mk {x y z : Int32} {a b : Int} (h1 : ¬ x < y) (e1 : y.toInt = a) (h2 : ¬ z < x) (e2 : z.toInt = b) : uo_rg x a b := by
  rw [Int32.lt_iff_toInt_lt] at h1 h2
  unfold uo_rg
  omega
theorem uo_rg_m2 {x y z : Int32} {a b : Int} (h1 : ¬ x < y) (e1 : y.toInt = a) (h2 : ¬ z ≤ x) (e2 : z.toInt = b + 1) : uo_rg x a b := by
  rw [Int32.lt_iff_toInt_lt] at h1
  rw [Int32.le_iff_toInt_le] at h2
  unfold uo_rg
  omega
def uo_okP (f x b : Int32) : Prop := (¬ f = 0 ∧ uo_rg x 0 3) ∨ (f = 0 ∧ uo_rg x 0 4 ∧ uo_rg b 1 9)
theorem uo_ofI {x : Int32} {N : Nat} (h0 : 0 ≤ x.toInt) (h : x.toInt < N) : ∃ j : Nat, j < N ∧ x = nI j := by
  have t0 : (0 : Int32).toInt = 0 := by decide
  obtain ⟨j, hj, e⟩ := nI_of (x := x) (by rw [Int32.lt_iff_toInt_lt, t0]; omega)
  rw [e, nI_toInt hj] at h
  exact ⟨j, by omega, e⟩
theorem xo_isName {post : Int32 → Prop} {x : Int32} (ht : uo_rg x 0 4 → post 1) (hf : ¬ uo_rg x 0 4 → post 0) : wpX_isName post x :=
  br_c (fun h => hf (fun k => uo_rg_lo k (by decide) h)) (fun h => br_c (fun h2 => hf (fun k => uo_rg_h2 k (by decide) h2)) (fun h2 => ht (uo_rg_m2 h (by decide) h2 (by decide))))
theorem xo_isVer {post : Int32 → Prop} {x : Int32} (ht : uo_rg x 1 9 → post 1) (hf : ¬ uo_rg x 1 9 → post 0) : wpX_isVersion post x :=
  br_c (fun h => hf (fun k => uo_rg_lo k (by decide) h)) (fun h => br_c (fun h2 => hf (fun k => uo_rg_hi k (by decide) h2)) (fun h2 => ht (uo_rg_mk h (by decide) h2 (by decide))))
theorem xo_isPat {post : Int32 → Prop} {f x b : Int32} (ht : uo_okP f x b → post 1) (hf : ¬ uo_okP f x b → post 0) : wpX_isPattern post f x b := by
  refine br_c (fun h => ?_) (fun h => ?_)
  · refine xo_isName (fun h2 => br_f uo_10 (xo_isVer (fun h3 => br_f uo_10 (ht (Or.inr ⟨h, h2, h3⟩))) (fun h3 => br_t rfl (hf ?_)))) (fun h2 => br_t rfl (hf ?_))
    · rintro (k | k)
      · exact k.1 h
      · exact h3 k.2.2
    · rintro (k | k)
      · exact k.1 h
      · exact h2 k.2.1
  · refine br_c (fun h2 => hf ?_) (fun h2 => br_c (fun h3 => hf ?_) (fun h3 => ht (Or.inl ⟨h, uo_rg_m2 h2 (by decide) h3 (by decide)⟩)))
    · rintro (k | k)
      · exact uo_rg_lo k.2 (by decide) h2
      · exact h k.1
    · rintro (k | k)
      · exact uo_rg_h2 k.2 (by decide) h3
      · exact h k.1
theorem xo_pk1 {post : Int32 → Prop} {j : Nat} (hn : n ≤ 10) (hj : j < n) (h : post 1) : wpX_isPackage post (nI n, nI w, inst, nm, ve, fe, ne, cl, pa, nf, nx, nb, cf, cx, cb, wn, wt) (nI j) := br_f (nI_pos (by omega)) (br_f (nI_ge hj (by omega)) h)
theorem xo_pk0 {post : Int32 → Prop} {p : Int32} (hn : n ≤ 10) (hp : ¬ ∃ j, j < n ∧ p = nI j) (h : post 0) : wpX_isPackage post (nI n, nI w, inst, nm, ve, fe, ne, cl, pa, nf, nx, nb, cf, cx, cb, wn, wt) p := by
  refine br_c (fun _ => h) (fun h1 => br_c (fun _ => h) (fun h2 => ?_))
  rcases pk_ix p (n := n) (by omega) with k | k | k
  · exact absurd k h1
  · exact absurd k h2
  · exact absurd k hp
theorem yo_ff0 {post : Int32 → Prop} {p f x b : Int32} (hn : n ≤ 10) (hp : ¬ ∃ j, j < n ∧ p = nI j) (h : post 0) : wpY_fitsForm post (nI n, nI w, inst, nm, ve, fe, ne, cl, pa, nf, nx, nb, cf, cx, cb, wn, wt) p f x b := by
  refine br_c (fun _ => h) (fun h1 => br_c (fun _ => h) (fun h2 => ?_))
  rcases pk_ix p (n := n) (by omega) with k | k | k
  · exact absurd k h1
  · exact absurd k h2
  · exact absurd k hp
theorem yo_ff1 {post : Int32 → Prop} {j : Nat} {f x b : Int32} (hn : n ≤ 10) (hj : j < n) (ht : uo_okP f x b → post 1) (hf : ¬ uo_okP f x b → post 0) : wpY_fitsForm post (nI n, nI w, inst, nm, ve, fe, ne, cl, pa, nf, nx, nb, cf, cx, cb, wn, wt) (nI j) f x b := by
  refine br_f (nI_pos (by omega)) (br_f (nI_ge hj (by omega)) (br_c (fun hx => br_c (fun h => br_c (fun h4 => hf ?_) (fun h4 => br_c (fun h1 => hf ?_) (fun h1 => br_c (fun h9 => hf ?_) (fun h9 => ht (Or.inr ⟨h, uo_rg_mk (Int32.not_lt.mpr hx) (by decide) h4 (by decide), uo_rg_mk h1 (by decide) h9 (by decide)⟩))))) (fun h => br_c (fun h3 => hf ?_) (fun h3 => ht (Or.inl ⟨h, uo_rg_mk (Int32.not_lt.mpr hx) (by decide) h3 (by decide)⟩)))) (fun hx => hf ?_)))
  · rintro (k | k)
    · exact k.1 h
    · exact uo_rg_hi k.2.1 (by decide) h4
  · rintro (k | k)
    · exact k.1 h
    · exact uo_rg_lo k.2.2 (by decide) h1
  · rintro (k | k)
    · exact k.1 h
    · exact uo_rg_hi k.2.2 (by decide) h9
  · rintro (k | k)
    · exact uo_rg_hi k.2 (by decide) h3
    · exact h k.1
  · rintro (k | k)
    · exact hx (uo_rg_l2 k.2 (by decide))
    · exact hx (uo_rg_l2 k.2.1 (by decide))
theorem xo_known {post : Int32 → Prop} {a b : Int32} (hn : n ≤ 10) (ht : (∃ p, p < n ∧ nm p = a ∧ ve p = b) → post 1) (hf : (¬ ∃ p, p < n ∧ nm p = a ∧ ve p = b) → post 0) : wpX_isKnown post (nI n, nI w, inst, nm, ve, fe, ne, cl, pa, nf, nx, nb, cf, cx, cb, wn, wt) a b := by
  refine uo_srch (fun f i => wX_isKnown_2 post a b (nI n) (nI w) inst nm ve fe ne cl pa nf nx nb cf cx cb wn wt f (nI i)) (fun p => nm p = a ∧ ve p = b) (post 1) (post 0) n ?_ ?_ ht hf
  · exact fun f h => br_t (nI_le (Nat.le_refl n) (by omega)) h
  · intro f i hi h1 h2
    have e : (nI i).toNatClampNeg = i := nI_clamp (by omega)
    have ii : vp_in (nI i) 10 := vp_in_nI (by omega) (by omega)
    refine br_f (nI_ge hi (by omega)) ⟨ii, ?_⟩
    rw [e]
    exact br_c (fun z => ⟨ii, br_c (fun y => h1 ⟨z, y⟩) (fun y => nm_r (nI_1 i) (h2 (fun k => y k.2)))⟩) (fun z => nm_r (nI_1 i) (h2 (fun k => z k.1)))
theorem xo_add {post : Int32 → SX → Prop} {a b c : Int32} (hn : n ≤ 10) (hF : n = 10 → post (-2) (nI n, nI w, inst, nm, ve, fe, ne, cl, pa, nf, nx, nb, cf, cx, cb, wn, wt)) (hB : n ≠ 10 → ¬ (uo_rg a 0 4 ∧ uo_rg b 1 9 ∧ uo_rg c 0 15) → post (-1) (nI n, nI w, inst, nm, ve, fe, ne, cl, pa, nf, nx, nb, cf, cx, cb, wn, wt)) (hK : n ≠ 10 → (uo_rg a 0 4 ∧ uo_rg b 1 9 ∧ uo_rg c 0 15) → (∃ p, p < n ∧ nm p = a ∧ ve p = b) → post (-1) (nI n, nI w, inst, nm, ve, fe, ne, cl, pa, nf, nx, nb, cf, cx, cb, wn, wt)) (hN : n ≠ 10 → (uo_rg a 0 4 ∧ uo_rg b 1 9 ∧ uo_rg c 0 15) → (¬ ∃ p, p < n ∧ nm p = a ∧ ve p = b) → post (nI n) (nI (n + 1), nI w, inst, upd nm n a, upd ve n b, upd fe n c, ne, cl, pa, nf, nx, nb, cf, cx, cb, wn, wt)) : wpX_addPackage post (nI n, nI w, inst, nm, ve, fe, ne, cl, pa, nf, nx, nb, cf, cx, cb, wn, wt) a b c := by
  unfold wpX_addPackage
  dsimp only
  have en : (nI n).toNatClampNeg = n := nI_clamp (by omega)
  refine pk_lt n 10 (fun hl => ?_) (fun hl => hF (by omega))
  have h10 : n ≠ 10 := by omega
  refine xo_isName (fun h1 => br_f uo_10 ?_) (fun h1 => br_t rfl (hB h10 (fun k => h1 k.1)))
  refine xo_isVer (fun h2 => br_f uo_10 ?_) (fun h2 => br_t rfl (hB h10 (fun k => h2 k.2.1)))
  refine br_c (fun h3 => hB h10 (fun k => uo_rg_lo k.2.2 (by decide) h3)) (fun h3 => br_c (fun h4 => ?_) (fun h4 => hB h10 (fun k => h4 (Int32.not_le.mp (uo_rg_h2 k.2.2 (by decide))))))
  have hr : uo_rg c 0 15 := uo_rg_m2 h3 (by decide) (Int32.not_le.mpr h4) (by decide)
  refine xo_known hn (fun hk => br_f uo_10 (hK h10 ⟨h1, h2, hr⟩ hk)) (fun hk => br_t rfl ?_)
  have ip : vp_in (nI n) 10 := vp_in_nI hl (by omega)
  refine ⟨ip, nm_e ⟨ip, nm_e ⟨ip, nm_e (nm_r (nI_1 n) ?_)⟩⟩⟩
  rw [en]
  exact hN h10 ⟨h1, h2, hr⟩ hk
theorem yo_add {post : Int32 → SY → Prop} {a b c : Int32} (hn : n ≤ 10) (hF : n = 10 → post (-2) (nI n, nI w, inst, nm, ve, fe, ne, cl, pa, nf, nx, nb, cf, cx, cb, wn, wt)) (hB : n ≠ 10 → ¬ (uo_rg a 0 4 ∧ uo_rg b 1 9 ∧ uo_rg c 0 15) → post (-1) (nI n, nI w, inst, nm, ve, fe, ne, cl, pa, nf, nx, nb, cf, cx, cb, wn, wt)) (hK : n ≠ 10 → (uo_rg a 0 4 ∧ uo_rg b 1 9 ∧ uo_rg c 0 15) → (∃ p, p < n ∧ nm p = a ∧ ve p = b) → post (-1) (nI n, nI w, inst, nm, ve, fe, ne, cl, pa, nf, nx, nb, cf, cx, cb, wn, wt)) (hN : n ≠ 10 → (uo_rg a 0 4 ∧ uo_rg b 1 9 ∧ uo_rg c 0 15) → (¬ ∃ p, p < n ∧ nm p = a ∧ ve p = b) → post (nI n) (nI (n + 1), nI w, inst, upd nm n a, upd ve n b, upd fe n c, upd ne n 0, upd cl n 0, pa, nf, nx, nb, cf, cx, cb, wn, wt)) : wpY_addPackage post (nI n, nI w, inst, nm, ve, fe, ne, cl, pa, nf, nx, nb, cf, cx, cb, wn, wt) a b c := by
  unfold wpY_addPackage
  dsimp only
  have en : (nI n).toNatClampNeg = n := nI_clamp (by omega)
  refine pk_eq n 10 (fun h => hF h) (fun h10 => ?_)
  have ip : vp_in (nI n) 10 := vp_in_nI (by omega) (by omega)
  refine br_c (fun h => hB h10 (fun k => uo_rg_lo k.1 (by decide) h)) (fun g0 => ?_)
  refine br_c (fun h => hB h10 (fun k => uo_rg_hi k.1 (by decide) h)) (fun g1 => ?_)
  refine br_c (fun h => hB h10 (fun k => uo_rg_lo k.2.1 (by decide) h)) (fun g2 => ?_)
  refine br_c (fun h => hB h10 (fun k => uo_rg_hi k.2.1 (by decide) h)) (fun g3 => ?_)
  refine br_c (fun h => hB h10 (fun k => uo_rg_lo k.2.2 (by decide) h)) (fun g4 => ?_)
  refine br_c (fun g5 => ?_) (fun h => hB h10 (fun k => h (Int32.not_lt.mp (uo_rg_hi k.2.2 (by decide)))))
  have ok : uo_rg a 0 4 ∧ uo_rg b 1 9 ∧ uo_rg c 0 15 := ⟨uo_rg_mk g0 (by decide) g1 (by decide), uo_rg_mk g2 (by decide) g3 (by decide), uo_rg_mk g4 (by decide) (Int32.not_lt.mpr g5) (by decide)⟩
  refine uo_srch (fun f i => wY_addPackage_47 post a b c (nI n) (nI w) inst nm ve fe ne cl pa nf nx nb cf cx cb wn wt f (nI i)) (fun p => nm p = a ∧ ve p = b) (post (-1) (nI n, nI w, inst, nm, ve, fe, ne, cl, pa, nf, nx, nb, cf, cx, cb, wn, wt)) (post (nI n) (nI (n + 1), nI w, inst, upd nm n a, upd ve n b, upd fe n c, upd ne n 0, upd cl n 0, pa, nf, nx, nb, cf, cx, cb, wn, wt)) n ?_ ?_ (fun h => hK h10 ok h) (fun h => hN h10 ok h)
  · intro f h
    refine br_t (nI_le (Nat.le_refl n) (by omega)) ⟨ip, nm_e ⟨ip, nm_e ⟨ip, nm_e ⟨ip, nm_e ⟨ip, nm_e (nm_r (nI_1 n) ?_)⟩⟩⟩⟩⟩
    rw [en, nI_pred]
    exact h
  · intro f i hi h1 h2
    have e : (nI i).toNatClampNeg = i := nI_clamp (by omega)
    have ii : vp_in (nI i) 10 := vp_in_nI (by omega) (by omega)
    refine br_f (nI_ge hi (by omega)) ⟨ii, ?_⟩
    rw [e]
    exact br_c (fun z => ⟨ii, br_c (fun y => h1 ⟨z, y⟩) (fun y => nm_r (nI_1 i) (h2 (fun k => y k.2)))⟩) (fun z => nm_r (nI_1 i) (h2 (fun k => z k.1)))
end
