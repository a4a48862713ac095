section
variable {n w : Nat} {nm ve fe ne cl pa nf nx nb cf cx cb wn wt : Nat → Int32} {inst : Int32}
def uo_hn (n : Nat) (nm : Nat → Int32) (s x : Int32) : Prop := ∃ p, p < n ∧ uo_in s p ∧ nm p = x
def uo_fN (nm ve fe nf nx nb : Nat → Int32) (q a : Nat) : Prop := (¬ nf a = 0 ∧ (fe q >>> (nx a &&& 31)) &&& 1 = 1) ∨ (nf a = 0 ∧ nm q = nx a ∧ nb a ≤ ve q)
def uo_fC (nm ve fe cf cx cb : Nat → Int32) (q a : Nat) : Prop := (¬ cf a = 0 ∧ (fe q >>> (cx a &&& 31)) &&& 1 = 1) ∨ (cf a = 0 ∧ nm q = cx a ∧ ve q ≤ cb a)
def uo_pm (n : Nat) (nm ve fe nf nx nb : Nat → Int32) (s : Int32) (a : Nat) : Prop := ∃ q, q < n ∧ uo_in s q ∧ uo_fN nm ve fe nf nx nb q a
def uo_mt (n : Nat) (nm ve fe pa nf nx nb : Nat → Int32) (s : Int32) (m : Nat) : Prop := uo_pm n nm ve fe nf nx nb s (2 * m) ∨ (pa m = 2 ∧ uo_pm n nm ve fe nf nx nb s (2 * m + 1))
def uo_bN (n : Nat) (nm ve fe ne pa nf nx nb : Nat → Int32) (s : Int32) (p : Nat) : Prop := ∃ k, k < (ne p).toNatClampNeg ∧ ¬ uo_mt n nm ve fe pa nf nx nb s (2 * p + k)
def uo_tc (n : Nat) (nm ve fe cl cf cx cb : Nat → Int32) (s : Int32) (p : Nat) : Prop := ∃ k, k < (cl p).toNatClampNeg ∧ ∃ q, q < n ∧ (q ≠ p ∧ uo_in s q) ∧ uo_fC nm ve fe cf cx cb q (2 * p + k)
def uo_nd (n : Nat) (nm : Nat → Int32) (s : Int32) : Prop := ∀ j, j < n → ∀ k, k < j → uo_in s k → uo_in s j → ¬ nm k = nm j
def uo_wB (n : Nat) (nm wn wt : Nat → Int32) (s : Int32) (j : Nat) : Prop := (uo_hn n nm s (wn j) ∧ ¬ wt j = 1) ∨ (¬ uo_hn n nm s (wn j) ∧ ¬ wt j = 0)
def uo_R (n w : Nat) (nm ve fe ne cl pa nf nx nb cf cx cb wn wt : Nat → Int32) (s : Int32) : Prop := uo_nd n nm s ∧ (¬ ∃ p, p < n ∧ uo_in s p ∧ uo_bN n nm ve fe ne pa nf nx nb s p) ∧ (¬ ∃ p, p < n ∧ uo_in s p ∧ uo_tc n nm ve fe cl cf cx cb s p) ∧ (¬ ∃ j, j < w ∧ uo_wB n nm wn wt s j)
noncomputable def uo_lo (n : Nat) (nm : Nat → Int32) (inst s : Int32) : Nat := uo_cn (fun x => uo_hn n nm inst (nI x) ∧ ¬ uo_hn n nm s (nI x)) 5
noncomputable def uo_ch (n : Nat) (inst s : Int32) : Nat := uo_cn (fun p => ¬ (uo_in s p ↔ uo_in inst p)) n
def uo_tp (nm ve : Nat → Int32) (x : Int32) : Nat → Option Nat
  | 0 => none
  | i + 1 => match uo_tp nm ve x i with
    | none => if nm i = x then some i else none
    | some b => if nm i = x ∧ ve b < ve i then some i else some b
noncomputable def uo_st (n : Nat) (nm ve : Nat → Int32) (s : Int32) : Nat := uo_cn (fun x => uo_hn n nm s (nI x) ∧ ¬ uo_in s ((uo_tp nm ve (nI x) n).getD 0)) 5
noncomputable def uo_we (n : Nat) (nm ve : Nat → Int32) (inst s : Int32) : Nat := (uo_lo n nm inst s * 16 + uo_ch n inst s) * 16 + uo_st n nm ve s
noncomputable def uo_bf (R : Nat → Prop) (we : Nat → Nat) : Nat → Option Nat
  | 0 => none
  | i + 1 => @ite (Option Nat) (R i ∧ ∀ b, uo_bf R we i = some b → we i < we b) (Classical.propDecidable _) (some i) (uo_bf R we i)
def uo_bx : Option Nat → Int32
  | none => -3
  | some b => nI b
def uo_bl (we : Nat → Nat) : Option Nat → Int32
  | none => 0
  | some b => nI (we b)
def uo_tx : Option Nat → Int32
  | none => 0
  | some b => nI b
def uo_tg (ve : Nat → Int32) : Option Nat → Int32
  | none => 0
  | some b => ve b
def uo_ty : Option Nat → Int32
  | none => -1
  | some b => nI b
theorem uo_tp_n {x : Int32} {i : Nat} (e : uo_tp nm ve x i = none) : uo_tp nm ve x (i + 1) = if nm i = x then some i else none := by
  simp only [uo_tp, e]
theorem uo_tp_s {x : Int32} {i b : Nat} (e : uo_tp nm ve x i = some b) : uo_tp nm ve x (i + 1) = if nm i = x ∧ ve b < ve i then some i else some b := by
  simp only [uo_tp, e]
theorem uo_tp_lt {x : Int32} : ∀ i b, uo_tp nm ve x i = some b → b < i ∧ nm b = x := by
  intro i
  induction i with
  | zero =>
    intro b h
    have h' : (none : Option Nat) = some b := h
    cases h'
  | succ i ih =>
    intro b h
    cases e : uo_tp nm ve x i with
    | none =>
      rw [uo_tp_n e] at h
      by_cases z : nm i = x
      · rw [if_pos z] at h
        cases h
        exact ⟨Nat.lt_succ_self _, z⟩
      · rw [if_neg z] at h
        cases h
    | some c =>
      obtain ⟨h1, h2⟩ := ih c e
      rw [uo_tp_s e] at h
      by_cases z : nm i = x ∧ ve c < ve i
      · rw [if_pos z] at h
        cases h
        exact ⟨Nat.lt_succ_self _, z.1⟩
      · rw [if_neg z] at h
        cases h
        exact ⟨by omega, h2⟩
theorem uo_tp_ex {x : Int32} : ∀ i, (∃ p, p < i ∧ nm p = x) → ∃ b, uo_tp nm ve x i = some b := by
  intro i
  induction i with
  | zero =>
    rintro ⟨p, h, _⟩
    exact absurd h (Nat.not_lt_zero p)
  | succ i ih =>
    rintro ⟨p, h1, h2⟩
    cases e : uo_tp nm ve x i with
    | none =>
      by_cases z : nm i = x
      · exact ⟨i, by rw [uo_tp_n e, if_pos z]⟩
      · exfalso
        have hp : p < i := by
          rcases Nat.lt_or_ge p i with q | q
          · exact q
          · have hpi : p = i := by omega
            rw [hpi] at h2
            exact absurd h2 z
        obtain ⟨b, hb⟩ := ih ⟨p, hp, h2⟩
        rw [e] at hb
        cases hb
    | some c =>
      by_cases z : nm i = x ∧ ve c < ve i
      · exact ⟨i, by rw [uo_tp_s e, if_pos z]⟩
      · exact ⟨c, by rw [uo_tp_s e, if_neg z]⟩
theorem uo_hn_tp {s x : Int32} (h : uo_hn n nm s x) : ∃ b, b < n ∧ uo_tp nm ve x n = some b := by
  obtain ⟨p, h1, _, h3⟩ := h
  obtain ⟨b, hb⟩ := uo_tp_ex (ve := ve) n ⟨p, h1, h3⟩
  exact ⟨b, (uo_tp_lt n b hb).1, hb⟩
theorem uo_bf_t {R : Nat → Prop} {we : Nat → Nat} {i : Nat} (h : R i) (hb : ∀ b, uo_bf R we i = some b → we i < we b) : uo_bf R we (i + 1) = some i := by
  rw [show uo_bf R we (i + 1) = @ite (Option Nat) (R i ∧ ∀ b, uo_bf R we i = some b → we i < we b) (Classical.propDecidable _) (some i) (uo_bf R we i) from rfl, if_pos ⟨h, hb⟩]
theorem uo_bf_f {R : Nat → Prop} {we : Nat → Nat} {i : Nat} (h : ¬ (R i ∧ ∀ b, uo_bf R we i = some b → we i < we b)) : uo_bf R we (i + 1) = uo_bf R we i := by
  rw [show uo_bf R we (i + 1) = @ite (Option Nat) (R i ∧ ∀ b, uo_bf R we i = some b → we i < we b) (Classical.propDecidable _) (some i) (uo_bf R we i) from rfl, if_neg h]
theorem uo_bf_lt {R : Nat → Prop} {we : Nat → Nat} : ∀ i b, uo_bf R we i = some b → b < i ∧ R b := by
  intro i
  induction i with
  | zero =>
    intro b h
    have h' : (none : Option Nat) = some b := h
    cases h'
  | succ i ih =>
    intro b h
    by_cases z : R i ∧ ∀ b, uo_bf R we i = some b → we i < we b
    · rw [uo_bf_t z.1 z.2] at h
      cases h
      exact ⟨Nat.lt_succ_self _, z.1⟩
    · rw [uo_bf_f z] at h
      obtain ⟨h1, h2⟩ := ih b h
      exact ⟨by omega, h2⟩
theorem uo_nd_y (hn : ∀ j, j < n → ∃ a, a < 5 ∧ nm j = nI a) (s : Int32) : uo_nd n nm s ↔ ¬ ∃ x, x < 5 ∧ 1 < uo_cn (fun p => uo_in s p ∧ nm p = nI x) n := by
  constructor
  · rintro h ⟨x, hx, hc⟩
    have z := (uo_cn_one (fun p => uo_in s p ∧ nm p = nI x) n).mpr (fun j hj k hk pk pj => h j hj k hk pk.1 pj.1 (pk.2.trans pj.2.symm))
    omega
  · intro h j hj k hk ik ij e
    obtain ⟨a, ha, ea⟩ := hn j hj
    refine h ⟨a, ha, ?_⟩
    rcases Nat.lt_or_ge 1 (uo_cn (fun p => uo_in s p ∧ nm p = nI a) n) with z | z
    · exact z
    · exact False.elim ((uo_cn_one (fun p => uo_in s p ∧ nm p = nI a) n).mp z j hj k hk ⟨ik, e.trans ea⟩ ⟨ij, ea⟩)
theorem uo_mt_x {s : Int32} {c m : Nat} (hc : c = 1 ∨ c = 2) (e : pa m = nI c) : (∃ q, q < n ∧ uo_in s q ∧ ∃ k, k < c ∧ uo_fN nm ve fe nf nx nb q (2 * m + k)) ↔ uo_mt n nm ve fe pa nf nx nb s m := by
  unfold uo_mt uo_pm
  constructor
  · rintro ⟨q, hq, hi, k, hk, hf⟩
    rcases Nat.lt_or_ge 0 k with z | z
    · have hk1 : k = 1 := by omega
      have hc2 : c = 2 := by omega
      subst hk1
      exact Or.inr ⟨by rw [e, hc2]; rfl, q, hq, hi, hf⟩
    · have hk0 : k = 0 := by omega
      subst hk0
      exact Or.inl ⟨q, hq, hi, hf⟩
  · rintro (⟨q, hq, hi, hf⟩ | ⟨e2, q, hq, hi, hf⟩)
    · exact ⟨q, hq, hi, 0, by omega, hf⟩
    · have hc2 : c = 2 := by
        rcases hc with h | h
        · rw [e, h] at e2
          exact absurd e2 (by decide)
        · exact h
      exact ⟨q, hq, hi, 1, by omega, hf⟩
theorem uo_lex {l c t l' c' t' : Nat} (hc : c ≤ 10) (hc' : c' ≤ 10) (ht : t ≤ 5) (ht' : t' ≤ 5) : (l * 16 + c) * 16 + t < (l' * 16 + c') * 16 + t' ↔ (l < l' ∨ (l = l' ∧ (c < c' ∨ (c = c' ∧ t < t')))) := by
  omega
theorem uo_lo5 {s : Int32} : uo_lo n nm inst s ≤ 5 := uo_cn_le _ 5
theorem uo_st5 {s : Int32} : uo_st n nm ve s ≤ 5 := uo_cn_le _ 5
theorem uo_chn {s : Int32} : uo_ch n inst s ≤ n := uo_cn_le _ n
theorem uo_Rye {s : Int32} : (∃ p, p < n ∧ uo_in s p ∧ (uo_bN n nm ve fe ne pa nf nx nb s p ∨ uo_tc n nm ve fe cl cf cx cb s p)) ↔ ((∃ p, p < n ∧ uo_in s p ∧ uo_bN n nm ve fe ne pa nf nx nb s p) ∨ (∃ p, p < n ∧ uo_in s p ∧ uo_tc n nm ve fe cl cf cx cb s p)) := by
  constructor
  · rintro ⟨p, h1, h2, h3 | h3⟩
    · exact Or.inl ⟨p, h1, h2, h3⟩
    · exact Or.inr ⟨p, h1, h2, h3⟩
  · rintro (⟨p, h1, h2, h3⟩ | ⟨p, h1, h2, h3⟩)
    · exact ⟨p, h1, h2, Or.inl h3⟩
    · exact ⟨p, h1, h2, Or.inr h3⟩
theorem uo_seen (W : Nat → Nat → Int32 → Prop) (T F : Prop) (s : Int32) (hnm : ∀ j, j < n → ∃ a, a < 5 ∧ nm j = nI a) (hx : ∀ f sn, T → W (f + 1) n sn) (hs : ∀ f i a sn, i < n → a < 5 → nm i = nI a → (¬ uo_in s i → W f (i + 1) sn) → (uo_in s i → uo_in sn a → F) → (uo_in s i → ¬ uo_in sn a → W f (i + 1) (sn ||| ((1 : Int32) <<< (nI a &&& 31)))) → W (f + 1) i sn) (ht : uo_nd n nm s → T) (hf : ¬ uo_nd n nm s → F) : ∃ f, W f 0 0 := by
  have H : ∀ d i sn, i + d = n → (∀ y, y < 5 → (uo_in sn y ↔ ∃ p, p < i ∧ uo_in s p ∧ nm p = nI y)) → (∀ j, j < i → ∀ k, k < j → uo_in s k → uo_in s j → ¬ nm k = nm j) → W (d + 1) i sn := by
    intro d
    induction d with
    | zero =>
      intro i sn hi _ hd
      have hie : i = n := by omega
      rw [hie] at hd ⊢
      exact hx 0 sn (ht hd)
    | succ d ih =>
      intro i sn hi inv hd
      have hin : i < n := by omega
      obtain ⟨a, ha, ea⟩ := hnm i hin
      refine hs (d + 1) i a sn hin ha ea ?_ ?_ ?_
      · intro hni
        refine ih (i + 1) sn (by omega) ?_ ?_
        · intro y hy
          rw [inv y hy]
          constructor
          · rintro ⟨p, h1, h2, h3⟩
            exact ⟨p, by omega, h2, h3⟩
          · rintro ⟨p, h1, h2, h3⟩
            by_cases q : p = i
            · rw [q] at h2
              exact absurd h2 hni
            · exact ⟨p, by omega, h2, h3⟩
        · intro j hj k hk ik ij
          by_cases q : j = i
          · rw [q] at ij
            exact absurd ij hni
          · exact hd j (by omega) k hk ik ij
      · intro hii hsn
        obtain ⟨p, h1, h2, h3⟩ := (inv a ha).mp hsn
        exact hf (fun nd => nd i hin p h1 h2 hii (h3.trans ea.symm))
      · intro hii hsn
        refine ih (i + 1) _ (by omega) ?_ ?_
        · intro y hy
          rw [uo_sn ha hy, inv y hy]
          constructor
          · rintro (⟨p, h1, h2, h3⟩ | e)
            · exact ⟨p, by omega, h2, h3⟩
            · exact ⟨i, Nat.lt_succ_self i, hii, by rw [e]; exact ea⟩
          · rintro ⟨p, h1, h2, h3⟩
            by_cases q : p = i
            · right
              rw [q, ea] at h3
              exact ((nI_eq (by omega) (by omega)).mp h3).symm
            · left
              exact ⟨p, by omega, h2, h3⟩
        · intro j hj k hk ik ij e
          by_cases q : j = i
          · rw [q] at e hk
            exact hsn ((inv a ha).mpr ⟨k, hk, ik, e.trans ea⟩)
          · exact hd j (by omega) k hk ik ij e
  exact ⟨n + 1, H n 0 0 (by omega) (fun y hy => ⟨fun h => absurd h (uo_in0 (by omega)), fun ⟨p, h, _⟩ => absurd h (Nat.not_lt_zero p)⟩) (fun j hj => absurd hj (Nat.not_lt_zero j))⟩
end
