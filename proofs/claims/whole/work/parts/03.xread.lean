section
variable {n w : Nat} {nm ve fe ne cl pa nf nx nb cf cx cb wn wt : Nat → Int32} {inst : Int32}
theorem uo_10 : ¬ (1 : Int32) = 0 := by decide
theorem xo_has {post : Int32 → Prop} {s : Int32} {p : Nat} (ht : uo_in s p → post 1) (hf : ¬ uo_in s p → post 0) : wpX_has post s (nI p) := by
  by_cases h : uo_in s p
  · exact br_t h (ht h)
  · exact br_f h (hf h)
theorem xo_hn {post : Int32 → Prop} {s x : Int32} (hn : n ≤ 10) (ht : uo_hn n nm s x → post 1) (hf : ¬ uo_hn n nm s x → post 0) : wpX_hasName post (nI n, nI w, inst, nm, ve, fe, ne, cl, pa, nf, nx, nb, cf, cx, cb, wn, wt) s x := by
  refine uo_srch (fun f i => wX_hasName_2 post s x (nI n) (nI w) inst nm ve fe ne cl pa nf nx nb cf cx cb wn wt f (nI i)) (fun p => uo_in s p ∧ nm p = x) (post 1) (post 0) n ?_ ?_ ht hf
  · exact fun f h => br_t (nI_le (Nat.le_refl n) (by omega)) h
  · intro f i hi h1 h2
    have e : (nI i).toNatClampNeg = i := nI_clamp (by omega)
    refine br_f (nI_ge hi (by omega)) (xo_has (fun a => br_f uo_10 ⟨vp_in_nI (by omega) (by omega), ?_⟩) (fun a => br_t rfl (nm_r (nI_1 i) (h2 (fun z => a z.1)))))
    rw [e]
    exact br_c (fun z => h1 ⟨a, z⟩) (fun z => nm_r (nI_1 i) (h2 (fun y => z y.2)))
theorem xo_nd {post : Int32 → Prop} {s : Int32} (hn : n ≤ 10) (hnm : ∀ j, j < n → ∃ a, a < 5 ∧ nm j = nI a) (ht : uo_nd n nm s → post 1) (hf : ¬ uo_nd n nm s → post 0) : wpX_namesDiffer post (nI n, nI w, inst, nm, ve, fe, ne, cl, pa, nf, nx, nb, cf, cx, cb, wn, wt) s := by
  refine uo_seen (fun f i sn => wX_namesDiffer_4 post s (nI n) (nI w) inst nm ve fe ne cl pa nf nx nb cf cx cb wn wt f sn (nI i)) (post 1) (post 0) s hnm ?_ ?_ ht hf
  · exact fun f sn h => br_t (nI_le (Nat.le_refl n) (by omega)) h
  · intro f i a sn hi ha ea k1 k2 k3
    have e : (nI i).toNatClampNeg = i := nI_clamp (by omega)
    refine br_f (nI_ge hi (by omega)) (xo_has (fun z => br_f uo_10 ⟨vp_in_nI (by omega) (by omega), ?_⟩) (fun z => br_t rfl (nm_r (nI_1 i) (k1 z))))
    rw [e, ea]
    exact xo_has (fun y => br_f uo_10 (k2 z y)) (fun y => br_t rfl ⟨vp_in_nI (by omega) (by omega), nm_e (nm_r (nI_1 i) (k3 z y))⟩)
theorem xo_fN {post : Int32 → Prop} {q a : Nat} (hq : q < 10) (ha : a < 40) (ht : uo_fN nm ve fe nf nx nb q a → post 1) (hf : ¬ uo_fN nm ve fe nf nx nb q a → post 0) : wpX_fitsNeed post (nI n, nI w, inst, nm, ve, fe, ne, cl, pa, nf, nx, nb, cf, cx, cb, wn, wt) (nI q) (nI a) := by
  have e1 : (nI q).toNatClampNeg = q := nI_clamp (by omega)
  have e2 : (nI a).toNatClampNeg = a := nI_clamp (by omega)
  have iq : vp_in (nI q) 10 := vp_in_nI hq (by omega)
  have ia : vp_in (nI a) 40 := vp_in_nI ha (by omega)
  unfold wpX_fitsNeed
  dsimp only
  rw [e1, e2]
  refine ⟨ia, nm_e ⟨ia, br_c (fun z => ⟨iq, br_c (fun z2 => ⟨iq, ia, br_c (fun z3 => hf ?_) (fun z3 => ht (Or.inr ⟨z, z2, Int32.not_lt.mp z3⟩))⟩) (fun z2 => hf ?_)⟩) (fun z => ⟨iq, br_c (fun y => ht (Or.inl ⟨z, y⟩)) (fun y => hf ?_)⟩)⟩⟩
  · rintro (h | h)
    · exact h.1 z
    · exact Int32.not_le.mpr z3 h.2.2
  · rintro (h | h)
    · exact h.1 z
    · exact z2 h.2.1
  · rintro (h | h)
    · exact y h.2
    · exact z h.1
theorem xo_fC {post : Int32 → Prop} {q a : Nat} (hq : q < 10) (ha : a < 20) (ht : uo_fC nm ve fe cf cx cb q a → post 1) (hf : ¬ uo_fC nm ve fe cf cx cb q a → post 0) : wpX_fitsClash post (nI n, nI w, inst, nm, ve, fe, ne, cl, pa, nf, nx, nb, cf, cx, cb, wn, wt) (nI q) (nI a) := by
  have e1 : (nI q).toNatClampNeg = q := nI_clamp (by omega)
  have e2 : (nI a).toNatClampNeg = a := nI_clamp (by omega)
  have iq : vp_in (nI q) 10 := vp_in_nI hq (by omega)
  have ia : vp_in (nI a) 20 := vp_in_nI ha (by omega)
  unfold wpX_fitsClash
  dsimp only
  rw [e1, e2]
  refine ⟨ia, nm_e ⟨ia, br_c (fun z => ⟨iq, br_c (fun z2 => ⟨iq, ia, br_c (fun z3 => hf ?_) (fun z3 => ht (Or.inr ⟨z, z2, Int32.not_lt.mp z3⟩))⟩) (fun z2 => hf ?_)⟩) (fun z => ⟨iq, br_c (fun y => ht (Or.inl ⟨z, y⟩)) (fun y => hf ?_)⟩)⟩⟩
  · rintro (h | h)
    · exact h.1 z
    · exact Int32.not_le.mpr z3 h.2.2
  · rintro (h | h)
    · exact h.1 z
    · exact z2 h.2.1
  · rintro (h | h)
    · exact y h.2
    · exact z h.1
theorem uo_ix (p k : Nat) : nI p * 2 + nI k = nI (2 * p + k) := by
  rw [show (2 : Int32) = nI 2 from rfl, pk_mul, nI_add, Nat.mul_comm]
theorem uo_iy (p k : Nat) : 2 * nI p + nI k = nI (2 * p + k) := by
  rw [show (2 : Int32) = nI 2 from rfl, pk_mul, nI_add]
theorem xo_mt {post : Int32 → Prop} {s : Int32} {m c : Nat} (hn : n ≤ 10) (hm : m < 20) (hc : c = 1 ∨ c = 2) (ec : pa m = nI c) (ht : uo_mt n nm ve fe pa nf nx nb s m → post 1) (hf : ¬ uo_mt n nm ve fe pa nf nx nb s m → post 0) : wpX_isMet post (nI n, nI w, inst, nm, ve, fe, ne, cl, pa, nf, nx, nb, cf, cx, cb, wn, wt) (nI m) s := by
  have em : (nI m).toNatClampNeg = m := nI_clamp (by omega)
  refine uo_srch (fun f i => wX_isMet_2 post (nI m) s (nI n) (nI w) inst nm ve fe ne cl pa nf nx nb cf cx cb wn wt f (nI i)) (fun q => uo_in s q ∧ ∃ k, k < c ∧ uo_fN nm ve fe nf nx nb q (2 * m + k)) (post 1) (post 0) n ?_ ?_ (fun h => ht ((uo_mt_x hc ec).mp h)) (fun h => hf (fun k => h ((uo_mt_x hc ec).mpr k)))
  · exact fun f h => br_t (nI_le (Nat.le_refl n) (by omega)) h
  · intro f q hq h1 h2
    refine br_f (nI_ge hq (by omega)) (xo_has (fun a => br_f uo_10 ?_) (fun a => br_t rfl (nm_r (nI_1 q) (h2 (fun z => a z.1)))))
    refine uo_srch (fun g k => wX_isMet_21 post (wX_isMet_2 post (nI m) s (nI n) (nI w) inst nm ve fe ne cl pa nf nx nb cf cx cb wn wt f) (nI m) s (nI q) (nI n) (nI w) inst nm ve fe ne cl pa nf nx nb cf cx cb wn wt g (nI k)) (fun k => uo_fN nm ve fe nf nx nb q (2 * m + k)) (post 1) (wX_isMet_2 post (nI m) s (nI n) (nI w) inst nm ve fe ne cl pa nf nx nb cf cx cb wn wt f (nI (q + 1))) c ?_ ?_ (fun h => h1 ⟨a, h⟩) (fun h => h2 (fun z => h z.2))
    · intro g h
      refine And.intro (vp_in_nI hm (by omega)) ?_
      rw [em, ec]
      exact br_t (nI_le (Nat.le_refl c) (by omega)) (nm_r (nI_1 q) h)
    · intro g k hk g1 g2
      refine And.intro (vp_in_nI hm (by omega)) ?_
      rw [em, ec]
      refine br_f (nI_ge hk (by omega)) ?_
      rw [uo_ix]
      exact xo_fN (by omega) (by omega) (fun y => br_f uo_10 (g1 y)) (fun y => br_t rfl (nm_r (nI_1 k) (g2 y)))
theorem xo_nm {post : Int32 → Prop} {s : Int32} (hn : n ≤ 10) (hne : ∀ j, ∃ c, c ≤ 2 ∧ ne j = nI c) (hpa : ∀ j k, k < (ne j).toNatClampNeg → pa (2 * j + k) = 1 ∨ pa (2 * j + k) = 2) (ht : (¬ ∃ p, p < n ∧ uo_in s p ∧ uo_bN n nm ve fe ne pa nf nx nb s p) → post 1) (hf : (∃ p, p < n ∧ uo_in s p ∧ uo_bN n nm ve fe ne pa nf nx nb s p) → post 0) : wpX_needsAreMet post (nI n, nI w, inst, nm, ve, fe, ne, cl, pa, nf, nx, nb, cf, cx, cb, wn, wt) s := by
  refine uo_srch (fun f i => wX_needsAreMet_2 post s (nI n) (nI w) inst nm ve fe ne cl pa nf nx nb cf cx cb wn wt f (nI i)) (fun p => uo_in s p ∧ uo_bN n nm ve fe ne pa nf nx nb s p) (post 0) (post 1) n ?_ ?_ hf ht
  · exact fun f h => br_t (nI_le (Nat.le_refl n) (by omega)) h
  · intro f p hp h1 h2
    obtain ⟨c, hc, ec⟩ := hne p
    have ecl : (ne p).toNatClampNeg = c := by rw [ec]; exact nI_clamp (by omega)
    have ep : (nI p).toNatClampNeg = p := nI_clamp (by omega)
    refine br_f (nI_ge hp (by omega)) (xo_has (fun a => br_f uo_10 ?_) (fun a => br_t rfl (nm_r (nI_1 p) (h2 (fun z => a z.1)))))
    refine uo_srch (fun g k => wX_needsAreMet_20 post (wX_needsAreMet_2 post s (nI n) (nI w) inst nm ve fe ne cl pa nf nx nb cf cx cb wn wt f) s (nI p) (nI n) (nI w) inst nm ve fe ne cl pa nf nx nb cf cx cb wn wt g (nI k)) (fun k => ¬ uo_mt n nm ve fe pa nf nx nb s (2 * p + k)) (post 0) (wX_needsAreMet_2 post s (nI n) (nI w) inst nm ve fe ne cl pa nf nx nb cf cx cb wn wt f (nI (p + 1))) c ?_ ?_ (fun ⟨k, hk, h⟩ => h1 ⟨a, k, by rw [ecl]; exact hk, h⟩) (fun h => h2 (fun ⟨_, k, hk, hm⟩ => h ⟨k, by rw [ecl] at hk; exact hk, hm⟩))
    · intro g h
      refine And.intro (vp_in_nI (show p < 10 by omega) (by omega)) ?_
      rw [ep, ec]
      exact br_t (nI_le (Nat.le_refl c) (by omega)) (nm_r (nI_1 p) h)
    · intro g k hk g1 g2
      refine And.intro (vp_in_nI (show p < 10 by omega) (by omega)) ?_
      rw [ep, ec]
      refine br_f (nI_ge hk (by omega)) ?_
      rw [uo_ix]
      rcases hpa p k (by rw [ecl]; exact hk) with e | e
      · exact xo_mt (c := 1) hn (by omega) (Or.inl rfl) e (fun y => br_f uo_10 (nm_r (nI_1 k) (g2 (fun z => z y)))) (fun y => br_t rfl (g1 y))
      · exact xo_mt (c := 2) hn (by omega) (Or.inr rfl) e (fun y => br_f uo_10 (nm_r (nI_1 k) (g2 (fun z => z y)))) (fun y => br_t rfl (g1 y))
theorem xo_tch {post : Int32 → Prop} {o : Int32} {a : Nat} (hn : n ≤ 10) (ha : a < 20) (ht : (∃ q, q < n ∧ uo_in o q ∧ uo_fC nm ve fe cf cx cb q a) → post 1) (hf : (¬ ∃ q, q < n ∧ uo_in o q ∧ uo_fC nm ve fe cf cx cb q a) → post 0) : wpX_isTouched post (nI n, nI w, inst, nm, ve, fe, ne, cl, pa, nf, nx, nb, cf, cx, cb, wn, wt) (nI a) o := by
  refine uo_srch (fun f i => wX_isTouched_2 post (nI a) o (nI n) (nI w) inst nm ve fe ne cl pa nf nx nb cf cx cb wn wt f (nI i)) (fun q => uo_in o q ∧ uo_fC nm ve fe cf cx cb q a) (post 1) (post 0) n ?_ ?_ ht hf
  · exact fun f h => br_t (nI_le (Nat.le_refl n) (by omega)) h
  · intro f q hq h1 h2
    exact br_f (nI_ge hq (by omega)) (xo_has (fun i => br_f uo_10 (xo_fC (by omega) ha (fun y => br_f uo_10 (h1 ⟨i, y⟩)) (fun y => br_t rfl (nm_r (nI_1 q) (h2 (fun z => y z.2)))))) (fun i => br_t rfl (nm_r (nI_1 q) (h2 (fun z => i z.1)))))
theorem xo_cu {post : Int32 → Prop} {s : Int32} (hn : n ≤ 10) (hcl : ∀ j, ∃ c, c ≤ 2 ∧ cl j = nI c) (ht : (¬ ∃ p, p < n ∧ uo_in s p ∧ uo_tc n nm ve fe cl cf cx cb s p) → post 1) (hf : (∃ p, p < n ∧ uo_in s p ∧ uo_tc n nm ve fe cl cf cx cb s p) → post 0) : wpX_clashesAreUntouched post (nI n, nI w, inst, nm, ve, fe, ne, cl, pa, nf, nx, nb, cf, cx, cb, wn, wt) s := by
  refine uo_srch (fun f i => wX_clashesAreUntouched_2 post s (nI n) (nI w) inst nm ve fe ne cl pa nf nx nb cf cx cb wn wt f (nI i)) (fun p => uo_in s p ∧ uo_tc n nm ve fe cl cf cx cb s p) (post 0) (post 1) n ?_ ?_ hf ht
  · exact fun f h => br_t (nI_le (Nat.le_refl n) (by omega)) h
  · intro f p hp h1 h2
    obtain ⟨c, hc, ec⟩ := hcl p
    have ecl : (cl p).toNatClampNeg = c := by rw [ec]; exact nI_clamp (by omega)
    have ep : (nI p).toNatClampNeg = p := nI_clamp (by omega)
    refine br_f (nI_ge hp (by omega)) (xo_has (fun a => br_f uo_10 (nm_e ?_)) (fun a => br_t rfl (nm_r (nI_1 p) (h2 (fun z => a z.1)))))
    refine uo_srch (fun g k => wX_clashesAreUntouched_29 post (wX_clashesAreUntouched_2 post s (nI n) (nI w) inst nm ve fe ne cl pa nf nx nb cf cx cb wn wt f) s (nI p) (s &&& (((1 : Int32) <<< (nI p &&& 31)) ^^^ (-1))) (nI n) (nI w) inst nm ve fe ne cl pa nf nx nb cf cx cb wn wt g (nI k)) (fun k => ∃ q, q < n ∧ (q ≠ p ∧ uo_in s q) ∧ uo_fC nm ve fe cf cx cb q (2 * p + k)) (post 0) (wX_clashesAreUntouched_2 post s (nI n) (nI w) inst nm ve fe ne cl pa nf nx nb cf cx cb wn wt f (nI (p + 1))) c ?_ ?_ (fun ⟨k, hk, h⟩ => h1 ⟨a, k, by rw [ecl]; exact hk, h⟩) (fun h => h2 (fun ⟨_, k, hk, hm⟩ => h ⟨k, by rw [ecl] at hk; exact hk, hm⟩))
    · intro g h
      refine And.intro (vp_in_nI (show p < 10 by omega) (by omega)) ?_
      rw [ep, ec]
      exact br_t (nI_le (Nat.le_refl c) (by omega)) (nm_r (nI_1 p) h)
    · intro g k hk g1 g2
      refine And.intro (vp_in_nI (show p < 10 by omega) (by omega)) ?_
      rw [ep, ec]
      refine br_f (nI_ge hk (by omega)) ?_
      rw [uo_ix]
      refine xo_tch hn (by omega) (fun y => br_f uo_10 (g1 ?_)) (fun y => br_t rfl (nm_r (nI_1 k) (g2 ?_)))
      · obtain ⟨q, hq, ho, hf⟩ := y
        exact ⟨q, hq, (uo_ot (by omega) (by omega)).mp ho, hf⟩
      · rintro ⟨q, hq, ho, hf⟩
        exact y ⟨q, hq, (uo_ot (by omega) (by omega)).mpr ho, hf⟩
theorem xo_wk {post : Int32 → Prop} {s : Int32} (hn : n ≤ 10) (hw : w ≤ 4) (ht : (¬ ∃ j, j < w ∧ uo_wB n nm wn wt s j) → post 1) (hf : (∃ j, j < w ∧ uo_wB n nm wn wt s j) → post 0) : wpX_wishesAreKept post (nI n, nI w, inst, nm, ve, fe, ne, cl, pa, nf, nx, nb, cf, cx, cb, wn, wt) s := by
  refine uo_srch (fun f i => wX_wishesAreKept_2 post s (nI n) (nI w) inst nm ve fe ne cl pa nf nx nb cf cx cb wn wt f (nI i)) (fun j => uo_wB n nm wn wt s j) (post 0) (post 1) w ?_ ?_ hf ht
  · exact fun f h => br_t (nI_le (Nat.le_refl w) (by omega)) h
  · intro f j hj h1 h2
    have ej : (nI j).toNatClampNeg = j := nI_clamp (by omega)
    refine br_f (nI_ge hj (by omega)) ⟨vp_in_nI (by omega) (by omega), ?_⟩
    rw [ej]
    refine xo_hn hn (fun y => ⟨vp_in_nI (by omega) (by omega), br_c (fun z => nm_r (nI_1 j) (h2 ?_)) (fun z => h1 (Or.inl ⟨y, fun k => z k.symm⟩))⟩) (fun y => ⟨vp_in_nI (by omega) (by omega), br_c (fun z => nm_r (nI_1 j) (h2 ?_)) (fun z => h1 (Or.inr ⟨y, fun k => z k.symm⟩))⟩)
    · rintro (h | h)
      · exact h.2 z.symm
      · exact h.1 y
    · rintro (h | h)
      · exact y h.1
      · exact h.2 z.symm
theorem xo_R {post : Int32 → Prop} {s : Int32} (hn : n ≤ 10) (hw : w ≤ 4) (hnm : ∀ j, j < n → ∃ a, a < 5 ∧ nm j = nI a) (hne : ∀ j, ∃ c, c ≤ 2 ∧ ne j = nI c) (hcl : ∀ j, ∃ c, c ≤ 2 ∧ cl j = nI c) (hpa : ∀ j k, k < (ne j).toNatClampNeg → pa (2 * j + k) = 1 ∨ pa (2 * j + k) = 2) (ht : uo_R n w nm ve fe ne cl pa nf nx nb cf cx cb wn wt s → post 1) (hf : ¬ uo_R n w nm ve fe ne cl pa nf nx nb cf cx cb wn wt s → post 0) : wpX_isRight post (nI n, nI w, inst, nm, ve, fe, ne, cl, pa, nf, nx, nb, cf, cx, cb, wn, wt) s := by
  unfold wpX_isRight
  dsimp only
  refine xo_nd hn hnm (fun h1 => br_f uo_10 ?_) (fun h1 => br_t rfl (hf (fun r => h1 r.1)))
  refine xo_nm hn hne hpa (fun h2 => br_f uo_10 ?_) (fun h2 => br_t rfl (hf (fun r => r.2.1 h2)))
  refine xo_cu hn hcl (fun h3 => br_f uo_10 ?_) (fun h3 => br_t rfl (hf (fun r => r.2.2.1 h3)))
  exact xo_wk hn hw (fun h4 => br_f uo_10 (ht ⟨h1, h2, h3, h4⟩)) (fun h4 => br_t rfl (hf (fun r => r.2.2.2 h4)))
end
