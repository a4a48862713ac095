section
variable {n w : Nat} {nm ve fe ne cl pa nf nx nb cf cx cb wn wt : Nat → Int32} {inst : Int32}
theorem uo_upd0 {f : Nat → Int32} {k : Nat} {v : Int32} (h : f k = v) : upd f k v = f := by
  funext j
  unfold upd
  by_cases e : j = k
  · rw [if_pos e, e, h]
  · rw [if_neg e]
def uo_ok (n w : Nat) (nm ve ne cl pa : Nat → Int32) : Prop := n ≤ 10 ∧ w ≤ 4 ∧ (∀ j, j < n → ∃ a, a < 5 ∧ nm j = nI a) ∧ (∀ j, j < n → 0 < ve j) ∧ (∀ j, ∃ c, c ≤ 2 ∧ ne j = nI c) ∧ (∀ j, ∃ c, c ≤ 2 ∧ cl j = nI c) ∧ (∀ j, n ≤ j → ne j = 0 ∧ cl j = 0) ∧ (∀ j k, k < (ne j).toNatClampNeg → pa (2 * j + k) = 1 ∨ pa (2 * j + k) = 2)
theorem uo_okA {a b : Int32} (ok : uo_ok n w nm ve ne cl pa) (h10 : n ≠ 10) (ra : uo_rg a 0 4) (rb : uo_rg b 1 9) : uo_ok (n + 1) w (upd nm n a) (upd ve n b) ne cl pa := by
  obtain ⟨hn, hw, hnm, hve, hne, hcl, hz, hpa⟩ := ok
  refine ⟨by omega, hw, ?_, ?_, hne, hcl, fun j hj => hz j (by omega), hpa⟩
  · intro j hj
    by_cases e : j = n
    · rw [e, pk_us]
      exact uo_ofI ra.1 (by have := ra.2; omega)
    · rw [pk_un e]
      exact hnm j (by omega)
  · intro j hj
    by_cases e : j = n
    · rw [e, pk_us, Int32.lt_iff_toInt_lt, show (0 : Int32).toInt = 0 from by decide]
      have := rb.1
      omega
    · rw [pk_un e]
      exact hve j (by omega)
theorem uo_okN {j c : Nat} (ok : uo_ok n w nm ve ne cl pa) (hj : j < n) (hc : c < 2) (ec : ne j = nI c) : uo_ok n w nm ve (upd ne j (nI (c + 1))) cl (upd pa (2 * j + c) 1) := by
  obtain ⟨hn, hw, hnm, hve, hne, hcl, hz, hpa⟩ := ok
  refine ⟨hn, hw, hnm, hve, ?_, hcl, ?_, ?_⟩
  · intro i
    by_cases e : i = j
    · rw [e, pk_us]
      exact ⟨c + 1, by omega, rfl⟩
    · rw [pk_un e]
      exact hne i
  · intro i hi
    rw [pk_un (show i ≠ j by omega)]
    exact hz i hi
  · intro i k hk
    by_cases e : i = j
    · rw [e, pk_us, nI_clamp (by omega)] at hk
      rw [e]
      by_cases e2 : k = c
      · rw [e2, pk_us]
        exact Or.inl rfl
      · rw [pk_un (show 2 * j + k ≠ 2 * j + c by omega)]
        exact hpa j k (by rw [ec, nI_clamp (by omega)]; omega)
    · rw [pk_un e] at hk
      obtain ⟨d, hd, ed⟩ := hne i
      have hk2 := hk
      rw [ed, nI_clamp (by omega)] at hk2
      rw [pk_un (show 2 * i + k ≠ 2 * j + c by omega)]
      exact hpa i k hk
theorem uo_okO {m : Nat} (ok : uo_ok n w nm ve ne cl pa) : uo_ok n w nm ve ne cl (upd pa m 2) := by
  obtain ⟨hn, hw, hnm, hve, hne, hcl, hz, hpa⟩ := ok
  refine ⟨hn, hw, hnm, hve, hne, hcl, hz, ?_⟩
  intro i k hk
  by_cases e : 2 * i + k = m
  · rw [e, pk_us]
    exact Or.inr rfl
  · rw [pk_un e]
    exact hpa i k hk
theorem uo_okC {j c : Nat} (ok : uo_ok n w nm ve ne cl pa) (hj : j < n) (hc : c < 2) : uo_ok n w nm ve ne (upd cl j (nI (c + 1))) pa := by
  obtain ⟨hn, hw, hnm, hve, hne, hcl, hz, hpa⟩ := ok
  refine ⟨hn, hw, hnm, hve, hne, ?_, ?_, hpa⟩
  · intro i
    by_cases e : i = j
    · rw [e, pk_us]
      exact ⟨c + 1, by omega, rfl⟩
    · rw [pk_un e]
      exact hcl i
  · intro i hi
    rw [pk_un (show i ≠ j by omega)]
    exact hz i hi
theorem xo_right {post : Int32 → Prop} {s : Int32} (hn : n ≤ 10) (hw : w ≤ 4) (hnm : ∀ j, j < n → ∃ a, a < 5 ∧ nm j = nI a) (hne : ∀ j, ∃ c, c ≤ 2 ∧ ne j = nI c) (hcl : ∀ j, ∃ c, c ≤ 2 ∧ cl j = nI c) (hpa : ∀ j k, k < (ne j).toNatClampNeg → pa (2 * j + k) = 1 ∨ pa (2 * j + k) = 2) (ht : uo_sk n s → uo_R n w nm ve fe ne cl pa nf nx nb cf cx cb wn wt s → post 1) (hf : ¬ (uo_sk n s ∧ uo_R n w nm ve fe ne cl pa nf nx nb cf cx cb wn wt s) → post 0) : wpX_right post (nI n, nI w, inst, nm, ve, fe, ne, cl, pa, nf, nx, nb, cf, cx, cb, wn, wt) s := by
  unfold wpX_right
  dsimp only
  exact xo_set hn (fun k => br_f uo_10 (xo_R hn hw hnm hne hcl hpa (fun r => br_f uo_10 (ht k r)) (fun r => br_t rfl (hf (fun z => r z.2))))) (fun k => br_t rfl (hf (fun z => k z.1)))
end
