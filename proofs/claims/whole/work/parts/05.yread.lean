section
variable {n w : Nat} {nm ve fe ne cl pa nf nx nb cf cx cb wn wt : Nat → Int32} {inst : Int32}
def uo_sk (n : Nat) (s : Int32) : Prop := ¬ s < 0 ∧ ¬ nI (2 ^ n) ≤ s
theorem uo_sk_i {i : Nat} (hn : n ≤ 10) (hi : i < 2 ^ n) : uo_sk n (nI i) := by
  have hp := uo_pwb n (by omega)
  exact ⟨nI_pos (by omega), nI_ge hi (by omega)⟩
theorem yo_set {post : Int32 → Prop} {s : Int32} (hn : n ≤ 10) (ht : uo_sk n s → post 1) (hf : ¬ uo_sk n s → post 0) : wpY_isSet post (nI n, nI w, inst, nm, ve, fe, ne, cl, pa, nf, nx, nb, cf, cx, cb, wn, wt) s := by
  unfold wpY_isSet
  dsimp only
  rw [uo_pw n (by omega)]
  exact br_c (fun h => hf (fun k => k.1 h)) (fun h => br_c (fun h2 => hf (fun k => k.2 h2)) (fun h2 => ht ⟨h, h2⟩))
theorem xo_set {post : Int32 → Prop} {s : Int32} (hn : n ≤ 10) (ht : uo_sk n s → post 1) (hf : ¬ uo_sk n s → post 0) : wpX_isSet post (nI n, nI w, inst, nm, ve, fe, ne, cl, pa, nf, nx, nb, cf, cx, cb, wn, wt) s := by
  unfold wpX_isSet
  dsimp only
  rw [uo_pw n (by omega)]
  exact br_c (fun h => hf (fun k => k.1 h)) (fun h => br_c (fun h2 => hf (fun k => k.2 h2)) (fun h2 => ht ⟨h, h2⟩))
theorem yo_in {post : Int32 → Prop} {s : Int32} {p : Nat} (ht : uo_in s p → post 1) (hf : ¬ uo_in s p → post 0) : wpY_in post (nI n, nI w, inst, nm, ve, fe, ne, cl, pa, nf, nx, nb, cf, cx, cb, wn, wt) s (nI p) := by
  by_cases h : uo_in s p
  · exact br_t h (ht h)
  · exact br_f h (hf h)
theorem yo_ct {post : Int32 → Prop} {s x : Int32} (hn : n ≤ 10) (h : post (nI (uo_cn (fun p => uo_in s p ∧ nm p = x) n))) : wpY_countOf post (nI n, nI w, inst, nm, ve, fe, ne, cl, pa, nf, nx, nb, cf, cx, cb, wn, wt) s x := by
  refine uo_cnt (fun f i c => wY_countOf_5 post s x (nI n) (nI w) inst nm ve fe ne cl pa nf nx nb cf cx cb wn wt f (nI c) (nI i)) (fun p => uo_in s p ∧ nm p = x) n ?_ ?_
  · exact fun f => br_t (nI_le (Nat.le_refl n) (by omega)) h
  · intro f i c hi h1 h2
    have e : (nI i).toNatClampNeg = i := nI_clamp (by omega)
    refine br_f (nI_ge hi (by omega)) (yo_in (fun y => br_f uo_10 ⟨vp_in_nI (by omega) (by omega), ?_⟩) (fun y => br_t rfl (nm_r (nI_1 i) (h2 (fun k => y k.1)))))
    rw [e]
    exact br_c (fun z => nm_r (nI_1 c) (nm_r (nI_1 i) (h1 ⟨y, z⟩))) (fun z => nm_r (nI_1 i) (h2 (fun k => z k.2)))
theorem yo_of {post : Int32 → Prop} {q : Nat} {x : Int32} (hq : q < 10) (ht : (fe q >>> (x &&& 31)) &&& 1 = 1 → post 1) (hf : ¬ (fe q >>> (x &&& 31)) &&& 1 = 1 → post 0) : wpY_offers post (nI n, nI w, inst, nm, ve, fe, ne, cl, pa, nf, nx, nb, cf, cx, cb, wn, wt) (nI q) x := by
  have e : (nI q).toNatClampNeg = q := nI_clamp (by omega)
  unfold wpY_offers
  dsimp only
  rw [e]
  exact ⟨vp_in_nI hq (by omega), br_c ht hf⟩
theorem yo_pm {post : Int32 → Prop} {s : Int32} {a : Nat} (hn : n ≤ 10) (ha : a < 40) (ht : uo_pm n nm ve fe nf nx nb s a → post 1) (hf : ¬ uo_pm n nm ve fe nf nx nb s a → post 0) : wpY_patternMet post (nI n, nI w, inst, nm, ve, fe, ne, cl, pa, nf, nx, nb, cf, cx, cb, wn, wt) s (nI a) := by
  have e2 : (nI a).toNatClampNeg = a := nI_clamp (by omega)
  have ia : vp_in (nI a) 40 := vp_in_nI ha (by omega)
  refine uo_srch (fun f i => wY_patternMet_2 post s (nI a) (nI n) (nI w) inst nm ve fe ne cl pa nf nx nb cf cx cb wn wt f (nI i)) (fun q => uo_in s q ∧ uo_fN nm ve fe nf nx nb q a) (post 1) (post 0) n ?_ ?_ ht hf
  · exact fun f h => br_t (nI_le (Nat.le_refl n) (by omega)) h
  · intro f q hq h1 h2
    have e1 : (nI q).toNatClampNeg = q := nI_clamp (by omega)
    have iq : vp_in (nI q) 10 := vp_in_nI (by omega) (by omega)
    have J1 : uo_fN nm ve fe nf nx nb q a → wY_patternMet_68 post (wY_patternMet_2 post s (nI a) (nI n) (nI w) inst nm ve fe ne cl pa nf nx nb cf cx cb wn wt f) s (nI a) (nI q) 1 (nI n) (nI w) inst nm ve fe ne cl pa nf nx nb cf cx cb wn wt := fun y => yo_in (fun i => br_f uo_10 (br_f uo_10 (h1 ⟨i, y⟩))) (fun i => br_t rfl (nm_r (nI_1 q) (h2 (fun z => i z.1))))
    have J0 : ¬ uo_fN nm ve fe nf nx nb q a → wY_patternMet_68 post (wY_patternMet_2 post s (nI a) (nI n) (nI w) inst nm ve fe ne cl pa nf nx nb cf cx cb wn wt f) s (nI a) (nI q) 0 (nI n) (nI w) inst nm ve fe ne cl pa nf nx nb cf cx cb wn wt := fun y => yo_in (fun i => br_f uo_10 (br_t rfl (nm_r (nI_1 q) (h2 (fun z => y z.2))))) (fun i => br_t rfl (nm_r (nI_1 q) (h2 (fun z => i z.1))))
    refine br_f (nI_ge hq (by omega)) ⟨ia, ?_⟩
    rw [e1, e2]
    refine br_c (fun z => ⟨iq, ia, br_c (fun z2 => ⟨iq, ia, br_c (fun z3 => J0 ?_) (fun z3 => J1 (Or.inr ⟨z, z2, Int32.not_lt.mp z3⟩))⟩) (fun z2 => J0 ?_)⟩) (fun z => ⟨ia, yo_of (by omega) (fun y => J1 (Or.inl ⟨z, y⟩)) (fun y => J0 ?_)⟩)
    · rintro (h | h)
      · exact h.1 z
      · exact Int32.not_le.mpr z3 h.2.2
    · rintro (h | h)
      · exact h.1 z
      · exact z2 h.2.1
    · rintro (h | h)
      · exact y h.2
      · exact z h.1
theorem yo_nM {post : Int32 → Prop} {s : Int32} {p : Nat} (hn : n ≤ 10) (hp : p < n) (hne : ∀ j, ∃ c, c ≤ 2 ∧ ne j = nI c) (ht : ¬ uo_bN n nm ve fe ne pa nf nx nb s p → post 1) (hf : uo_bN n nm ve fe ne pa nf nx nb s p → post 0) : wpY_needsMet post (nI n, nI w, inst, nm, ve, fe, ne, cl, pa, nf, nx, nb, cf, cx, cb, wn, wt) s (nI p) := by
  obtain ⟨c, hc, ec⟩ := hne p
  have ecl : (ne p).toNatClampNeg = c := by rw [ec]; exact nI_clamp (by omega)
  have ep : (nI p).toNatClampNeg = p := nI_clamp (by omega)
  refine uo_srch (fun f k => wY_needsMet_2 post s (nI p) (nI n) (nI w) inst nm ve fe ne cl pa nf nx nb cf cx cb wn wt f (nI k)) (fun k => ¬ uo_mt n nm ve fe pa nf nx nb s (2 * p + k)) (post 0) (post 1) c ?_ ?_ (fun ⟨k, hk, h⟩ => hf ⟨k, by rw [ecl]; exact hk, h⟩) (fun h => ht (fun ⟨k, hk, hm⟩ => h ⟨k, by rw [ecl] at hk; exact hk, hm⟩))
  · intro f h
    refine And.intro (vp_in_nI (show p < 10 by omega) (by omega)) ?_
    rw [ep, ec]
    exact br_t (nI_le (Nat.le_refl c) (by omega)) h
  · intro f k hk g1 g2
    have e3 : (nI (2 * p + k)).toNatClampNeg = 2 * p + k := nI_clamp (by omega)
    have e4 : 2 * nI (2 * p + k) = nI (2 * (2 * p + k)) := pk_mul 2 _
    have J1 : uo_mt n nm ve fe pa nf nx nb s (2 * p + k) → wY_needsMet_60 post (wY_needsMet_2 post s (nI p) (nI n) (nI w) inst nm ve fe ne cl pa nf nx nb cf cx cb wn wt f) s (nI p) (nI k) 1 (nI n) (nI w) inst nm ve fe ne cl pa nf nx nb cf cx cb wn wt := fun y => br_f uo_10 (nm_r (nI_1 k) (g2 (fun z => z y)))
    have J0 : ¬ uo_mt n nm ve fe pa nf nx nb s (2 * p + k) → wY_needsMet_60 post (wY_needsMet_2 post s (nI p) (nI n) (nI w) inst nm ve fe ne cl pa nf nx nb cf cx cb wn wt f) s (nI p) (nI k) 0 (nI n) (nI w) inst nm ve fe ne cl pa nf nx nb cf cx cb wn wt := fun y => br_t rfl (g1 y)
    refine And.intro (vp_in_nI (show p < 10 by omega) (by omega)) ?_
    rw [ep, ec]
    refine br_f (nI_ge hk (by omega)) ?_
    rw [uo_iy p k, e3]
    refine nm_r e4 ?_
    refine yo_pm hn (by omega) (fun y => br_f uo_10 (J1 (Or.inl y))) (fun y => br_t rfl ⟨vp_in_nI (by omega) (by omega), br_c (fun z => ?_) (fun z => J0 ?_)⟩)
    · rw [nI_1 (2 * (2 * p + k))]
      refine yo_pm hn (by omega) (fun y2 => J1 (Or.inr ⟨z, y2⟩)) (fun y2 => J0 ?_)
      rintro (h | h)
      · exact y h
      · exact y2 h.2
    · rintro (h | h)
      · exact y h
      · exact z h.1
theorem yo_tc {post : Int32 → Prop} {s : Int32} {p : Nat} (hn : n ≤ 10) (hp : p < n) (hcl : ∀ j, ∃ c, c ≤ 2 ∧ cl j = nI c) (ht : uo_tc n nm ve fe cl cf cx cb s p → post 1) (hf : ¬ uo_tc n nm ve fe cl cf cx cb s p → post 0) : wpY_touched post (nI n, nI w, inst, nm, ve, fe, ne, cl, pa, nf, nx, nb, cf, cx, cb, wn, wt) s (nI p) := by
  obtain ⟨c, hc, ec⟩ := hcl p
  have ecl : (cl p).toNatClampNeg = c := by rw [ec]; exact nI_clamp (by omega)
  have ep : (nI p).toNatClampNeg = p := nI_clamp (by omega)
  refine uo_srch (fun f k => wY_touched_2 post s (nI p) (nI n) (nI w) inst nm ve fe ne cl pa nf nx nb cf cx cb wn wt f (nI k)) (fun k => ∃ q, q < n ∧ (q ≠ p ∧ uo_in s q) ∧ uo_fC nm ve fe cf cx cb q (2 * p + k)) (post 1) (post 0) c ?_ ?_ (fun ⟨k, hk, h⟩ => ht ⟨k, by rw [ecl]; exact hk, h⟩) (fun h => hf (fun ⟨k, hk, hm⟩ => h ⟨k, by rw [ecl] at hk; exact hk, hm⟩))
  · intro f h
    refine And.intro (vp_in_nI (show p < 10 by omega) (by omega)) ?_
    rw [ep, ec]
    exact br_t (nI_le (Nat.le_refl c) (by omega)) h
  · intro f k hk g1 g2
    have e2 : (nI (2 * p + k)).toNatClampNeg = 2 * p + k := nI_clamp (by omega)
    have ia : vp_in (nI (2 * p + k)) 20 := vp_in_nI (by omega) (by omega)
    refine And.intro (vp_in_nI (show p < 10 by omega) (by omega)) ?_
    rw [ep, ec]
    refine br_f (nI_ge hk (by omega)) (nm_r (uo_iy p k) ?_)
    refine uo_srch (fun g q => wY_touched_22 post (wY_touched_2 post s (nI p) (nI n) (nI w) inst nm ve fe ne cl pa nf nx nb cf cx cb wn wt f) s (nI p) (nI k) (nI (2 * p + k)) (nI n) (nI w) inst nm ve fe ne cl pa nf nx nb cf cx cb wn wt g (nI q)) (fun q => (q ≠ p ∧ uo_in s q) ∧ uo_fC nm ve fe cf cx cb q (2 * p + k)) (post 1) (wY_touched_2 post s (nI p) (nI n) (nI w) inst nm ve fe ne cl pa nf nx nb cf cx cb wn wt f (nI (k + 1))) n ?_ ?_ g1 g2
    · exact fun g h => br_t (nI_le (Nat.le_refl n) (by omega)) (nm_r (nI_1 k) h)
    · intro g q hq h1 h2
      have e1 : (nI q).toNatClampNeg = q := nI_clamp (by omega)
      have iq : vp_in (nI q) 10 := vp_in_nI (by omega) (by omega)
      have hqp : nI q = nI p → q = p := fun e => (nI_eq (by omega) (by omega)).mp e
      have J1 : uo_fC nm ve fe cf cx cb q (2 * p + k) → wY_touched_96 post (wY_touched_2 post s (nI p) (nI n) (nI w) inst nm ve fe ne cl pa nf nx nb cf cx cb wn wt f) (wY_touched_22 post (wY_touched_2 post s (nI p) (nI n) (nI w) inst nm ve fe ne cl pa nf nx nb cf cx cb wn wt f) s (nI p) (nI k) (nI (2 * p + k)) (nI n) (nI w) inst nm ve fe ne cl pa nf nx nb cf cx cb wn wt g) s (nI p) (nI k) (nI (2 * p + k)) (nI q) 1 (nI n) (nI w) inst nm ve fe ne cl pa nf nx nb cf cx cb wn wt := fun y => br_c (fun e => nm_r (nI_1 q) (h2 (fun z => z.1.1 (hqp e)))) (fun e => yo_in (fun i => br_f uo_10 (br_f uo_10 (h1 ⟨⟨fun e2 => e (congrArg nI e2), i⟩, y⟩))) (fun i => br_t rfl (nm_r (nI_1 q) (h2 (fun z => i z.1.2)))))
      have J0 : ¬ uo_fC nm ve fe cf cx cb q (2 * p + k) → wY_touched_96 post (wY_touched_2 post s (nI p) (nI n) (nI w) inst nm ve fe ne cl pa nf nx nb cf cx cb wn wt f) (wY_touched_22 post (wY_touched_2 post s (nI p) (nI n) (nI w) inst nm ve fe ne cl pa nf nx nb cf cx cb wn wt f) s (nI p) (nI k) (nI (2 * p + k)) (nI n) (nI w) inst nm ve fe ne cl pa nf nx nb cf cx cb wn wt g) s (nI p) (nI k) (nI (2 * p + k)) (nI q) 0 (nI n) (nI w) inst nm ve fe ne cl pa nf nx nb cf cx cb wn wt := fun y => br_c (fun e => nm_r (nI_1 q) (h2 (fun z => z.1.1 (hqp e)))) (fun e => yo_in (fun i => br_f uo_10 (br_t rfl (nm_r (nI_1 q) (h2 (fun z => y z.2))))) (fun i => br_t rfl (nm_r (nI_1 q) (h2 (fun z => i z.1.2)))))
      refine br_f (nI_ge hq (by omega)) ⟨ia, ?_⟩
      rw [e1, e2]
      refine br_c (fun z => ⟨iq, ia, br_c (fun z2 => ⟨iq, ia, br_c (fun z3 => J0 ?_) (fun z3 => J1 (Or.inr ⟨z, z2, Int32.not_lt.mp z3⟩))⟩) (fun z2 => J0 ?_)⟩) (fun z => ⟨ia, yo_of (by omega) (fun y => J1 (Or.inl ⟨z, y⟩)) (fun y => J0 ?_)⟩)
      · rintro (h | h)
        · exact h.1 z
        · exact Int32.not_le.mpr z3 h.2.2
      · rintro (h | h)
        · exact h.1 z
        · exact z2 h.2.1
      · rintro (h | h)
        · exact y h.2
        · exact z h.1
theorem yo_R {post : Int32 → Prop} {s : Int32} (hn : n ≤ 10) (hw : w ≤ 4) (hnm : ∀ j, j < n → ∃ a, a < 5 ∧ nm j = nI a) (hne : ∀ j, ∃ c, c ≤ 2 ∧ ne j = nI c) (hcl : ∀ j, ∃ c, c ≤ 2 ∧ cl j = nI c) (ht : uo_sk n s → uo_R n w nm ve fe ne cl pa nf nx nb cf cx cb wn wt s → post 1) (hf : ¬ (uo_sk n s ∧ uo_R n w nm ve fe ne cl pa nf nx nb cf cx cb wn wt s) → post 0) : wpY_right post (nI n, nI w, inst, nm, ve, fe, ne, cl, pa, nf, nx, nb, cf, cx, cb, wn, wt) s := by
  unfold wpY_right
  dsimp only
  refine yo_set hn (fun k => br_f uo_10 ?_) (fun k => br_t rfl (hf (fun z => k z.1)))
  refine uo_srch (fun f x => wY_right_12 post s (nI n) (nI w) inst nm ve fe ne cl pa nf nx nb cf cx cb wn wt f (nI x)) (fun x => 1 < uo_cn (fun p => uo_in s p ∧ nm p = nI x) n) (post 0) (∃ m, wY_right_37 post s (nI n) (nI w) inst nm ve fe ne cl pa nf nx nb cf cx cb wn wt m 0) 5 ?_ ?_ (fun h => hf (fun z => (uo_nd_y hnm s).mp z.2.1 h)) (fun h1 => ?_)
  · exact fun f h => br_t (nI_le (Nat.le_refl 5) (by decide)) h
  · intro f x hx h1 h2
    refine br_f (nI_ge (b := 5) hx (by decide)) (yo_ct hn ?_)
    have hc := uo_cn_le (fun p => uo_in s p ∧ nm p = nI x) n
    exact pk_le (uo_cn (fun p => uo_in s p ∧ nm p = nI x) n) 1 (fun z => nm_r (nI_1 x) (h2 (Nat.not_lt.mpr z))) (fun z => h1 z)
  · have hnd := (uo_nd_y hnm s).mpr h1
    refine uo_srch (fun f p => wY_right_37 post s (nI n) (nI w) inst nm ve fe ne cl pa nf nx nb cf cx cb wn wt f (nI p)) (fun p => uo_in s p ∧ (uo_bN n nm ve fe ne pa nf nx nb s p ∨ uo_tc n nm ve fe cl cf cx cb s p)) (post 0) (∃ m, wY_right_82 post s (nI n) (nI w) inst nm ve fe ne cl pa nf nx nb cf cx cb wn wt m 0) n ?_ ?_ (fun h => hf (fun z => ?_)) (fun h2 => ?_)
    · exact fun f h => br_t (nI_le (Nat.le_refl n) (by omega)) h
    · intro f p hp g1 g2
      exact br_f (nI_ge hp (by omega)) (yo_in (fun i => br_f uo_10 (yo_nM hn hp hne (fun y => br_f uo_10 (yo_tc hn hp hcl (fun y2 => br_f uo_10 (g1 ⟨i, Or.inr y2⟩)) (fun y2 => br_t rfl (nm_r (nI_1 p) (g2 (fun z => z.2.elim y y2)))))) (fun y => br_t rfl (g1 ⟨i, Or.inl y⟩)))) (fun i => br_t rfl (nm_r (nI_1 p) (g2 (fun z => i z.1)))))
    · rcases uo_Rye.mp h with h | h
      · exact z.2.2.1 h
      · exact z.2.2.2.1 h
    · refine uo_srch (fun f j => wY_right_82 post s (nI n) (nI w) inst nm ve fe ne cl pa nf nx nb cf cx cb wn wt f (nI j)) (fun j => uo_wB n nm wn wt s j) (post 0) (post 1) w ?_ ?_ (fun h => hf (fun z => z.2.2.2.2 h)) (fun h3 => ht k ⟨hnd, fun z => h2 (uo_Rye.mpr (Or.inl z)), fun z => h2 (uo_Rye.mpr (Or.inr z)), h3⟩)
      · exact fun f h => br_t (nI_le (Nat.le_refl w) (by omega)) h
      · intro f j hj g1 g2
        have ej : (nI j).toNatClampNeg = j := nI_clamp (by omega)
        have ij : vp_in (nI j) 4 := vp_in_nI (by omega) (by omega)
        have hc := uo_cn_le (fun p => uo_in s p ∧ nm p = wn j) n
        have hcp := uo_cn_pos (fun p => uo_in s p ∧ nm p = wn j) n
        refine br_f (nI_ge hj (by omega)) ⟨ij, ?_⟩
        rw [ej]
        refine yo_ct hn ?_
        refine pk_le (uo_cn (fun p => uo_in s p ∧ nm p = wn j) n) 0 (fun z => ?_) (fun z => ?_)
        · have y : ¬ uo_hn n nm s (wn j) := fun y => Nat.not_lt.mpr z (hcp.mpr y)
          refine And.intro ij ?_
          rw [ej]
          refine br_c (fun e => nm_r (nI_1 j) (g2 ?_)) (fun e => g1 (Or.inr ⟨y, fun k => e k.symm⟩))
          rintro (h | h)
          · exact y h.1
          · exact h.2 e.symm
        · have y : uo_hn n nm s (wn j) := hcp.mp z
          refine And.intro ij ?_
          rw [ej]
          refine br_c (fun e => nm_r (nI_1 j) (g2 ?_)) (fun e => g1 (Or.inl ⟨y, fun k => e k.symm⟩))
          rintro (h | h)
          · exact h.2 e.symm
          · exact h.1 y
end
