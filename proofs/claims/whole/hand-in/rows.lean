section
-- pasted from kit/rows: pk_*, bt, b_*, s_l
theorem pk_us {f : Nat → Int32} {k : Nat} {x : Int32} : upd f k x k = x := if_pos rfl
theorem pk_un {f : Nat → Int32} {k j : Nat} {x : Int32} (h : j ≠ k) : upd f k x j = f j := if_neg h
theorem pk_sub {a b : Nat} (h : b ≤ a) : nI a - nI b = nI (a - b) := by
  obtain ⟨c, rfl⟩ : ∃ c, a = c + b := ⟨a - b, by omega⟩
  rw [← nI_add, Int32.add_sub_cancel, Nat.add_sub_cancel]
theorem pk_m1 (n : Nat) : nI (n + 1) + (-1) = nI n := by
  rw [← nI_1, Int32.add_assoc, show (1 : Int32) + (-1) = 0 from rfl, Int32.add_zero]
theorem pk_mul (a b : Nat) : nI a * nI b = nI (a * b) := (Int32.ofNat_mul a b).symm
theorem pk_ix (x : Int32) {n : Nat} (hn : n < 2 ^ 31) : x < 0 ∨ nI n ≤ x ∨ ∃ j : Nat, j < n ∧ x = nI j := by
  by_cases h : x < 0
  · exact Or.inl h
  · obtain ⟨j, hj, rfl⟩ := nI_of h
    by_cases h2 : j < n
    · exact Or.inr (Or.inr ⟨j, h2, rfl⟩)
    · exact Or.inr (Or.inl (nI_le (by omega) hj))
theorem pk_le {x y : Int32} {A B : Prop} (a b : Nat) (f : a ≤ b → A) (g : b < a → B) (hx : x = nI a := by rfl) (hy : y = nI b := by rfl) (ha : a < 2 ^ 31 := by omega) (hb : b < 2 ^ 31 := by omega) : (x ≤ y → A) ∧ (¬ x ≤ y → B) := by
  subst hx hy
  rw [nI_leI ha hb]
  exact ⟨f, fun z => g (by omega)⟩
theorem pk_lt {x y : Int32} {A B : Prop} (a b : Nat) (f : a < b → A) (g : b ≤ a → B) (hx : x = nI a := by rfl) (hy : y = nI b := by rfl) (ha : a < 2 ^ 31 := by omega) (hb : b < 2 ^ 31 := by omega) : (x < y → A) ∧ (¬ x < y → B) := by
  subst hx hy
  rw [nI_ltI ha hb]
  exact ⟨f, fun z => g (by omega)⟩
theorem pk_eq {x y : Int32} {A B : Prop} (a b : Nat) (f : a = b → A) (g : a ≠ b → B) (hx : x = nI a := by rfl) (hy : y = nI b := by rfl) (ha : a < 2 ^ 31 := by omega) (hb : b < 2 ^ 31 := by omega) : (x = y → A) ∧ (¬ x = y → B) := by
  subst hx hy
  rw [nI_eq ha hb]
  exact ⟨f, g⟩
theorem pk_in {x : Int32} (n N : Nat) (h : n < N) (hx : x = nI n := by rfl) (hN : N < 2 ^ 31 := by omega) : vp_in x N := by
  subst hx
  exact vp_in_nI h hN
theorem pk_cl {x : Int32} (n : Nat) (hx : x = nI n := by rfl) (h : n < 2 ^ 31 := by omega) : x.toNatClampNeg = n := by
  subst hx
  exact nI_clamp h
def bt (x : Int32) (i : Nat) : Bool := x.toBitVec.getLsbD i
theorem b_ext {x y : Int32} (h : ∀ i, i < 32 → bt x i = bt y i) : x = y := Int32.toBitVec_inj.mp (BitVec.eq_of_getLsbD_eq (fun i hi => h i hi))
theorem b_or (x y : Int32) (i : Nat) : bt (x ||| y) i = (bt x i || bt y i) := by unfold bt; rw [Int32.toBitVec_or, BitVec.getLsbD_or]
theorem b_and (x y : Int32) (i : Nat) : bt (x &&& y) i = (bt x i && bt y i) := by unfold bt; rw [Int32.toBitVec_and, BitVec.getLsbD_and]
theorem b_xor (x y : Int32) (i : Nat) : bt (x ^^^ y) i = (bt x i ^^ bt y i) := by unfold bt; rw [Int32.toBitVec_xor, BitVec.getLsbD_xor]
theorem b_big {x : Int32} {i : Nat} (h : 32 ≤ i) : bt x i = false := BitVec.getLsbD_of_ge _ _ h
theorem b_0 (i : Nat) : bt 0 i = false := BitVec.getLsbD_zero
theorem s_l : ∀ n, n < 32 → ((nI n &&& 31).toBitVec.smod 32).toNat = n := by decide +kernel
theorem b_shl (n : Nat) (hn : n < 32) (x : Int32) {i : Nat} (hi : i < 32) : bt (x <<< (nI n &&& 31)) i = (decide (n ≤ i) && bt x (i - n)) := by
  unfold bt
  rw [Int32.toBitVec_shiftLeft]
  show (x.toBitVec <<< ((nI n &&& 31).toBitVec.smod 32).toNat).getLsbD i = _
  rw [s_l n hn, BitVec.getLsbD_shiftLeft]
  rcases Nat.lt_or_ge i n with h | h
  · simp [h, Nat.not_le.mpr h]
  · simp [hi, h, Nat.not_lt.mpr h]
theorem b_sshr (n : Nat) (hn : n < 32) (x : Int32) {i : Nat} (hi : i < 32) : bt (x >>> (nI n &&& 31)) i = if n + i < 32 then bt x (n + i) else bt x 31 := by
  unfold bt
  rw [Int32.toBitVec_shiftRight]
  show (x.toBitVec.sshiftRight ((nI n &&& 31).toBitVec.smod 32).toNat).getLsbD i = _
  rw [s_l n hn, BitVec.getLsbD_sshiftRight, BitVec.msb_eq_getLsbD_last]
  simp [hi]
-- own
theorem uo_srch (W : Nat → Nat → Prop) (P : Nat → Prop) (T F : Prop) (e : Nat) (hx : ∀ f, F → W (f + 1) e) (hs : ∀ f i, i < e → (P i → T) → (¬ P i → W f (i + 1)) → W (f + 1) i) (ht : (∃ j, j < e ∧ P j) → T) (hf : (¬ ∃ j, j < e ∧ P j) → F) : ∃ f, W f 0 := by
  have H : ∀ d i, i + d = e → ((∃ j, i ≤ j ∧ j < e ∧ P j) → T) → ((¬ ∃ j, i ≤ j ∧ j < e ∧ P j) → F) → W (d + 1) i := by
    intro d
    induction d with
    | zero =>
      intro i hi _ hf
      have hie : i = e := by omega
      rw [hie]
      refine hx 0 (hf ?_)
      rintro ⟨j, h1, h2, _⟩
      omega
    | succ d ih =>
      intro i hi ht hf
      refine hs (d + 1) i (by omega) (fun hp => ht ⟨i, Nat.le_refl i, by omega, hp⟩) (fun hp => ih (i + 1) (by omega) ?_ ?_)
      · rintro ⟨j, h1, h2, h3⟩
        exact ht ⟨j, by omega, h2, h3⟩
      · intro hn
        refine hf ?_
        rintro ⟨j, h1, h2, h3⟩
        by_cases e0 : i = j
        · rw [e0] at hp
          exact hp h3
        · exact hn ⟨j, by omega, h2, h3⟩
  refine ⟨e + 1, H e 0 (by omega) ?_ ?_⟩
  · rintro ⟨j, _, h2, h3⟩
    exact ht ⟨j, h2, h3⟩
  · intro hn
    refine hf ?_
    rintro ⟨j, h2, h3⟩
    exact hn ⟨j, by omega, h2, h3⟩
theorem uo_det {σ : Type} (W : Nat → Nat → σ → Prop) (st : Nat → σ) (e : Nat) (hx : ∀ f, W (f + 1) e (st e)) (hs : ∀ f i, i < e → W f (i + 1) (st (i + 1)) → W (f + 1) i (st i)) : ∃ f, W f 0 (st 0) := by
  have H : ∀ d i, i + d = e → W (d + 1) i (st i) := by
    intro d
    induction d with
    | zero =>
      intro i hi
      have hie : i = e := by omega
      rw [hie]
      exact hx 0
    | succ d ih =>
      intro i hi
      exact hs (d + 1) i (by omega) (ih (i + 1) (by omega))
  exact ⟨e + 1, H e 0 (by omega)⟩
noncomputable def uo_cn (P : Nat → Prop) : Nat → Nat
  | 0 => 0
  | i + 1 => uo_cn P i + @ite Nat (P i) (Classical.propDecidable (P i)) 1 0
theorem uo_cn_t {P : Nat → Prop} {i : Nat} (h : P i) : uo_cn P (i + 1) = uo_cn P i + 1 := by
  rw [show uo_cn P (i + 1) = uo_cn P i + @ite Nat (P i) (Classical.propDecidable (P i)) 1 0 from rfl, if_pos h]
theorem uo_cn_f {P : Nat → Prop} {i : Nat} (h : ¬ P i) : uo_cn P (i + 1) = uo_cn P i := by
  rw [show uo_cn P (i + 1) = uo_cn P i + @ite Nat (P i) (Classical.propDecidable (P i)) 1 0 from rfl, if_neg h, Nat.add_zero]
theorem uo_cnt (W : Nat → Nat → Nat → Prop) (P : Nat → Prop) (e : Nat) (hx : ∀ f, W (f + 1) e (uo_cn P e)) (hs : ∀ f i c, i < e → (P i → W f (i + 1) (c + 1)) → (¬ P i → W f (i + 1) c) → W (f + 1) i c) : ∃ f, W f 0 0 := by
  have H : ∀ d i, i + d = e → W (d + 1) i (uo_cn P i) := by
    intro d
    induction d with
    | zero =>
      intro i hi
      have hie : i = e := by omega
      rw [hie]
      exact hx 0
    | succ d ih =>
      intro i hi
      refine hs (d + 1) i _ (by omega) (fun hp => ?_) (fun hp => ?_)
      · rw [← uo_cn_t hp]
        exact ih (i + 1) (by omega)
      · rw [← uo_cn_f hp]
        exact ih (i + 1) (by omega)
  exact ⟨e + 1, H e 0 (by omega)⟩
theorem uo_cn_le (P : Nat → Prop) : ∀ e, uo_cn P e ≤ e := by
  intro e
  induction e with
  | zero => exact Nat.le_refl 0
  | succ e ih =>
    by_cases h : P e
    · rw [uo_cn_t h]
      omega
    · rw [uo_cn_f h]
      omega
theorem uo_cn_pos (P : Nat → Prop) : ∀ e, 0 < uo_cn P e ↔ ∃ j, j < e ∧ P j := by
  intro e
  induction e with
  | zero => exact ⟨fun h => absurd h (Nat.lt_irrefl 0), fun ⟨j, h, _⟩ => absurd h (Nat.not_lt_zero j)⟩
  | succ e ih =>
    by_cases h : P e
    · rw [uo_cn_t h]
      exact ⟨fun _ => ⟨e, Nat.lt_succ_self e, h⟩, fun _ => Nat.succ_pos _⟩
    · rw [uo_cn_f h, ih]
      constructor
      · rintro ⟨j, h1, h2⟩
        exact ⟨j, by omega, h2⟩
      · rintro ⟨j, h1, h2⟩
        by_cases q : j = e
        · rw [q] at h2
          exact absurd h2 h
        · exact ⟨j, by omega, h2⟩
theorem uo_cn_one (P : Nat → Prop) : ∀ e, uo_cn P e ≤ 1 ↔ ∀ j, j < e → ∀ k, k < j → P k → ¬ P j := by
  intro e
  induction e with
  | zero => exact ⟨fun _ j hj => absurd hj (Nat.not_lt_zero j), fun _ => Nat.zero_le 1⟩
  | succ e ih =>
    by_cases h : P e
    · rw [uo_cn_t h]
      constructor
      · intro h1 j hj k hk pk _
        have z : ¬ 0 < uo_cn P e := by omega
        exact z ((uo_cn_pos P e).mpr ⟨k, by omega, pk⟩)
      · intro h1
        have z : ¬ 0 < uo_cn P e := by
          intro z
          obtain ⟨k, hk, pk⟩ := (uo_cn_pos P e).mp z
          exact h1 e (Nat.lt_succ_self e) k hk pk h
        omega
    · rw [uo_cn_f h, ih]
      constructor
      · intro h1 j hj k hk pk pj
        by_cases q : j = e
        · rw [q] at pj
          exact h pj
        · exact h1 j (by omega) k hk pk pj
      · intro h1 j hj
        exact h1 j (by omega)
theorem uo_cn_iff {P Q : Nat → Prop} : ∀ e, (∀ j, j < e → (P j ↔ Q j)) → uo_cn P e = uo_cn Q e := by
  intro e
  induction e with
  | zero => exact fun _ => rfl
  | succ e ih =>
    intro h
    have i := ih (fun j hj => h j (by omega))
    by_cases p : P e
    · rw [uo_cn_t p, uo_cn_t ((h e (Nat.lt_succ_self e)).mp p), i]
    · rw [uo_cn_f p, uo_cn_f (fun q => p ((h e (Nat.lt_succ_self e)).mpr q)), i]
-- bits
def uo_in (s : Int32) (p : Nat) : Prop := (s >>> (nI p &&& 31)) &&& 1 = 1
theorem uo_b1 : ∀ i, i < 32 → bt 1 i = decide (i = 0) := by decide +kernel
theorem uo_b10 : bt 1 0 = true := uo_b1 0 (by decide)
theorem uo_and1 (x : Int32) : x &&& 1 = 1 ↔ bt x 0 = true := by
  constructor
  · intro h
    have e := b_and x 1 0
    rw [h, uo_b10, Bool.and_true] at e
    exact e.symm
  · intro h
    apply b_ext
    intro i hi
    rw [b_and, uo_b1 i hi]
    by_cases z : i = 0
    · rw [z, h]
      rfl
    · rw [decide_eq_false z, Bool.and_false]
theorem uo_in_bt {s : Int32} {p : Nat} (hp : p < 32) : uo_in s p ↔ bt s p = true := by
  refine (uo_and1 _).trans ?_
  rw [b_sshr p hp s (i := 0) (by decide), if_pos (show p + 0 < 32 from hp), Nat.add_zero]
theorem uo_in0 {p : Nat} (hp : p < 32) : ¬ uo_in 0 p := by
  rw [uo_in_bt hp, b_0]
  exact Bool.false_ne_true
theorem uo_ot0 : ∀ p, p < 10 → ∀ q, q < 10 → bt (((1 : Int32) <<< (nI p &&& 31)) ^^^ (-1)) q = !decide (q = p) := by decide +kernel
theorem uo_ot {s : Int32} {p q : Nat} (hp : p < 10) (hq : q < 10) : uo_in (s &&& (((1 : Int32) <<< (nI p &&& 31)) ^^^ (-1))) q ↔ q ≠ p ∧ uo_in s q := by
  have h32 : q < 32 := by omega
  rw [uo_in_bt h32, uo_in_bt h32, b_and, uo_ot0 p hp q hq]
  by_cases z : q = p
  · simp [z]
  · simp [z]
theorem uo_xr {s t : Int32} {p : Nat} (hp : p < 32) : uo_in (s ^^^ t) p ↔ ¬ (uo_in s p ↔ uo_in t p) := by
  rw [uo_in_bt (s := s ^^^ t) hp, uo_in_bt (s := s) hp, uo_in_bt (s := t) hp, b_xor]
  cases bt s p <;> cases bt t p <;> simp
theorem uo_sn0 : ∀ x, x < 5 → ∀ y, y < 5 → bt ((1 : Int32) <<< (nI x &&& 31)) y = decide (y = x) := by decide +kernel
theorem uo_sn {s : Int32} {x y : Nat} (hx : x < 5) (hy : y < 5) : uo_in (s ||| ((1 : Int32) <<< (nI x &&& 31))) y ↔ (uo_in s y ∨ y = x) := by
  have h32 : y < 32 := by omega
  rw [uo_in_bt h32, uo_in_bt h32, b_or, uo_sn0 x hx y hy, Bool.or_eq_true, decide_eq_true_eq]
theorem uo_pw : ∀ n, n < 11 → (1 : Int32) <<< (nI n &&& 31) = nI (2 ^ n) := by decide +kernel
theorem uo_pwb : ∀ n, n < 11 → 2 ^ n ≤ 1024 := by decide +kernel
theorem uo_n3 {b : Nat} (h : b < 2 ^ 31) : ¬ nI b = -3 := by
  intro e
  have e1 := nI_toInt h
  rw [e] at e1
  have e2 : (-3 : Int32).toInt = -3 := by decide
  omega
theorem uo_n1 {b : Nat} (h : b < 2 ^ 31) : ¬ nI b = -1 := by
  intro e
  have e1 := nI_toInt h
  rw [e] at e1
  have e2 : (-1 : Int32).toInt = -1 := by decide
  omega
end
section
section
variable {n w : Nat} {nm ve fe ne cl pa nf nx nb cf cx cb wn wt : Nat → Int32} {inst : Int32}
def uo_hn (n : Nat) (nm : Nat → Int32) (s x : Int32) : Prop := ∃ p, p < n ∧ uo_in s p ∧ nm p = x
def uo_fN (nm ve fe nf nx nb : Nat → Int32) (q a : Nat) : Prop := (¬ nf a = 0 ∧ (fe q >>> (nx a &&& 31)) &&& 1 = 1) ∨ (nf a = 0 ∧ nm q = nx a ∧ nb a ≤ ve q)
def uo_fC (nm ve fe cf cx cb : Nat → Int32) (q a : Nat) : Prop := (¬ cf a = 0 ∧ (fe q >>> (cx a &&& 31)) &&& 1 = 1) ∨ (cf a = 0 ∧ nm q = cx a ∧ ve q ≤ cb a)
def uo_pm (n : Nat) (nm ve fe nf nx nb : Nat → Int32) (s : Int32) (a : Nat) : Prop := ∃ q, q < n ∧ uo_in s q ∧ uo_fN nm ve fe nf nx nb q a
def uo_mt (n : Nat) (nm ve fe pa nf nx nb : Nat → Int32) (s : Int32) (m : Nat) : Prop := uo_pm n nm ve fe nf nx nb s (2 * m) ∨ (pa m = 2 ∧ uo_pm n nm ve fe nf nx nb s (2 * m + 1))
def uo_bN (n : Nat) (nm ve fe ne pa nf nx nb : Nat → Int32) (s : Int32) (p : Nat) : Prop := ∃ k, k < (ne p).toNatClampNeg ∧ ¬ uo_mt n nm ve fe pa nf nx nb s (2 * p + k)
def uo_tc (n : Nat) (nm ve fe cl cf cx cb : Nat → Int32) (s : Int32) (p : Nat) : Prop := ∃ k, k < (cl p).toNatClampNeg ∧ ∃ q, q < n ∧ (q ≠ p ∧ uo_in s q) ∧ uo_fC nm ve fe cf cx cb q (2 * p + k)
def uo_nd (n : Nat) (nm : Nat → Int32) (s : Int32) : Prop := ∀ j, j < n → ∀ k, k < j → uo_in s k → uo_in s j → ¬ nm k = nm j
def uo_wB (n : Nat) (nm wn wt : Nat → Int32) (s : Int32) (j : Nat) : Prop := (uo_hn n nm s (wn j) ∧ ¬ wt j = 1) ∨ (¬ uo_hn n nm s (wn j) ∧ ¬ wt j = 0)
def uo_R (n w : Nat) (nm ve fe ne cl pa nf nx nb cf cx cb wn wt : Nat → Int32) (s : Int32) : Prop := uo_nd n nm s ∧ (¬ ∃ p, p < n ∧ uo_in s p ∧ uo_bN n nm ve fe ne pa nf nx nb s p) ∧ (¬ ∃ p, p < n ∧ uo_in s p ∧ uo_tc n nm ve fe cl cf cx cb s p) ∧ (¬ ∃ j, j < w ∧ uo_wB n nm wn wt s j)
noncomputable def uo_lo (n : Nat) (nm : Nat → Int32) (inst s : Int32) : Nat := uo_cn (fun x => uo_hn n nm inst (nI x) ∧ ¬ uo_hn n nm s (nI x)) 5
noncomputable def uo_ch (n : Nat) (inst s : Int32) : Nat := uo_cn (fun p => ¬ (uo_in s p ↔ uo_in inst p)) n
def uo_tp (nm ve : Nat → Int32) (x : Int32) : Nat → Option Nat
  | 0 => none
  | i + 1 => match uo_tp nm ve x i with
    | none => if nm i = x then some i else none
    | some b => if nm i = x ∧ ve b < ve i then some i else some b
noncomputable def uo_st (n : Nat) (nm ve : Nat → Int32) (s : Int32) : Nat := uo_cn (fun x => uo_hn n nm s (nI x) ∧ ¬ uo_in s ((uo_tp nm ve (nI x) n).getD 0)) 5
noncomputable def uo_we (n : Nat) (nm ve : Nat → Int32) (inst s : Int32) : Nat := (uo_lo n nm inst s * 16 + uo_ch n inst s) * 16 + uo_st n nm ve s
noncomputable def uo_bf (R : Nat → Prop) (we : Nat → Nat) : Nat → Option Nat
  | 0 => none
  | i + 1 => @ite (Option Nat) (R i ∧ ∀ b, uo_bf R we i = some b → we i < we b) (Classical.propDecidable _) (some i) (uo_bf R we i)
def uo_bx : Option Nat → Int32
  | none => -3
  | some b => nI b
def uo_bl (we : Nat → Nat) : Option Nat → Int32
  | none => 0
  | some b => nI (we b)
def uo_tx : Option Nat → Int32
  | none => 0
  | some b => nI b
def uo_tg (ve : Nat → Int32) : Option Nat → Int32
  | none => 0
  | some b => ve b
def uo_ty : Option Nat → Int32
  | none => -1
  | some b => nI b
theorem uo_tp_n {x : Int32} {i : Nat} (e : uo_tp nm ve x i = none) : uo_tp nm ve x (i + 1) = if nm i = x then some i else none := by
  simp only [uo_tp, e]
theorem uo_tp_s {x : Int32} {i b : Nat} (e : uo_tp nm ve x i = some b) : uo_tp nm ve x (i + 1) = if nm i = x ∧ ve b < ve i then some i else some b := by
  simp only [uo_tp, e]
theorem uo_tp_lt {x : Int32} : ∀ i b, uo_tp nm ve x i = some b → b < i ∧ nm b = x := by
  intro i
  induction i with
  | zero =>
    intro b h
    have h' : (none : Option Nat) = some b := h
    cases h'
  | succ i ih =>
    intro b h
    cases e : uo_tp nm ve x i with
    | none =>
      rw [uo_tp_n e] at h
      by_cases z : nm i = x
      · rw [if_pos z] at h
        cases h
        exact ⟨Nat.lt_succ_self _, z⟩
      · rw [if_neg z] at h
        cases h
    | some c =>
      obtain ⟨h1, h2⟩ := ih c e
      rw [uo_tp_s e] at h
      by_cases z : nm i = x ∧ ve c < ve i
      · rw [if_pos z] at h
        cases h
        exact ⟨Nat.lt_succ_self _, z.1⟩
      · rw [if_neg z] at h
        cases h
        exact ⟨by omega, h2⟩
theorem uo_tp_ex {x : Int32} : ∀ i, (∃ p, p < i ∧ nm p = x) → ∃ b, uo_tp nm ve x i = some b := by
  intro i
  induction i with
  | zero =>
    rintro ⟨p, h, _⟩
    exact absurd h (Nat.not_lt_zero p)
  | succ i ih =>
    rintro ⟨p, h1, h2⟩
    cases e : uo_tp nm ve x i with
    | none =>
      by_cases z : nm i = x
      · exact ⟨i, by rw [uo_tp_n e, if_pos z]⟩
      · exfalso
        have hp : p < i := by
          rcases Nat.lt_or_ge p i with q | q
          · exact q
          · have hpi : p = i := by omega
            rw [hpi] at h2
            exact absurd h2 z
        obtain ⟨b, hb⟩ := ih ⟨p, hp, h2⟩
        rw [e] at hb
        cases hb
    | some c =>
      by_cases z : nm i = x ∧ ve c < ve i
      · exact ⟨i, by rw [uo_tp_s e, if_pos z]⟩
      · exact ⟨c, by rw [uo_tp_s e, if_neg z]⟩
theorem uo_hn_tp {s x : Int32} (h : uo_hn n nm s x) : ∃ b, b < n ∧ uo_tp nm ve x n = some b := by
  obtain ⟨p, h1, _, h3⟩ := h
  obtain ⟨b, hb⟩ := uo_tp_ex (ve := ve) n ⟨p, h1, h3⟩
  exact ⟨b, (uo_tp_lt n b hb).1, hb⟩
theorem uo_bf_t {R : Nat → Prop} {we : Nat → Nat} {i : Nat} (h : R i) (hb : ∀ b, uo_bf R we i = some b → we i < we b) : uo_bf R we (i + 1) = some i := by
  rw [show uo_bf R we (i + 1) = @ite (Option Nat) (R i ∧ ∀ b, uo_bf R we i = some b → we i < we b) (Classical.propDecidable _) (some i) (uo_bf R we i) from rfl, if_pos ⟨h, hb⟩]
theorem uo_bf_f {R : Nat → Prop} {we : Nat → Nat} {i : Nat} (h : ¬ (R i ∧ ∀ b, uo_bf R we i = some b → we i < we b)) : uo_bf R we (i + 1) = uo_bf R we i := by
  rw [show uo_bf R we (i + 1) = @ite (Option Nat) (R i ∧ ∀ b, uo_bf R we i = some b → we i < we b) (Classical.propDecidable _) (some i) (uo_bf R we i) from rfl, if_neg h]
theorem uo_bf_lt {R : Nat → Prop} {we : Nat → Nat} : ∀ i b, uo_bf R we i = some b → b < i ∧ R b := by
  intro i
  induction i with
  | zero =>
    intro b h
    have h' : (none : Option Nat) = some b := h
    cases h'
  | succ i ih =>
    intro b h
    by_cases z : R i ∧ ∀ b, uo_bf R we i = some b → we i < we b
    · rw [uo_bf_t z.1 z.2] at h
      cases h
      exact ⟨Nat.lt_succ_self _, z.1⟩
    · rw [uo_bf_f z] at h
      obtain ⟨h1, h2⟩ := ih b h
      exact ⟨by omega, h2⟩
theorem uo_nd_y (hn : ∀ j, j < n → ∃ a, a < 5 ∧ nm j = nI a) (s : Int32) : uo_nd n nm s ↔ ¬ ∃ x, x < 5 ∧ 1 < uo_cn (fun p => uo_in s p ∧ nm p = nI x) n := by
  constructor
  · rintro h ⟨x, hx, hc⟩
    have z := (uo_cn_one (fun p => uo_in s p ∧ nm p = nI x) n).mpr (fun j hj k hk pk pj => h j hj k hk pk.1 pj.1 (pk.2.trans pj.2.symm))
    omega
  · intro h j hj k hk ik ij e
    obtain ⟨a, ha, ea⟩ := hn j hj
    refine h ⟨a, ha, ?_⟩
    rcases Nat.lt_or_ge 1 (uo_cn (fun p => uo_in s p ∧ nm p = nI a) n) with z | z
    · exact z
    · exact False.elim ((uo_cn_one (fun p => uo_in s p ∧ nm p = nI a) n).mp z j hj k hk ⟨ik, e.trans ea⟩ ⟨ij, ea⟩)
theorem uo_mt_x {s : Int32} {c m : Nat} (hc : c = 1 ∨ c = 2) (e : pa m = nI c) : (∃ q, q < n ∧ uo_in s q ∧ ∃ k, k < c ∧ uo_fN nm ve fe nf nx nb q (2 * m + k)) ↔ uo_mt n nm ve fe pa nf nx nb s m := by
  unfold uo_mt uo_pm
  constructor
  · rintro ⟨q, hq, hi, k, hk, hf⟩
    rcases Nat.lt_or_ge 0 k with z | z
    · have hk1 : k = 1 := by omega
      have hc2 : c = 2 := by omega
      subst hk1
      exact Or.inr ⟨by rw [e, hc2]; rfl, q, hq, hi, hf⟩
    · have hk0 : k = 0 := by omega
      subst hk0
      exact Or.inl ⟨q, hq, hi, hf⟩
  · rintro (⟨q, hq, hi, hf⟩ | ⟨e2, q, hq, hi, hf⟩)
    · exact ⟨q, hq, hi, 0, by omega, hf⟩
    · have hc2 : c = 2 := by
        rcases hc with h | h
        · rw [e, h] at e2
          exact absurd e2 (by decide)
        · exact h
      exact ⟨q, hq, hi, 1, by omega, hf⟩
theorem uo_lex {l c t l' c' t' : Nat} (hc : c ≤ 10) (hc' : c' ≤ 10) (ht : t ≤ 5) (ht' : t' ≤ 5) : (l * 16 + c) * 16 + t < (l' * 16 + c') * 16 + t' ↔ (l < l' ∨ (l = l' ∧ (c < c' ∨ (c = c' ∧ t < t')))) := by
  omega
theorem uo_lo5 {s : Int32} : uo_lo n nm inst s ≤ 5 := uo_cn_le _ 5
theorem uo_st5 {s : Int32} : uo_st n nm ve s ≤ 5 := uo_cn_le _ 5
theorem uo_chn {s : Int32} : uo_ch n inst s ≤ n := uo_cn_le _ n
theorem uo_Rye {s : Int32} : (∃ p, p < n ∧ uo_in s p ∧ (uo_bN n nm ve fe ne pa nf nx nb s p ∨ uo_tc n nm ve fe cl cf cx cb s p)) ↔ ((∃ p, p < n ∧ uo_in s p ∧ uo_bN n nm ve fe ne pa nf nx nb s p) ∨ (∃ p, p < n ∧ uo_in s p ∧ uo_tc n nm ve fe cl cf cx cb s p)) := by
  constructor
  · rintro ⟨p, h1, h2, h3 | h3⟩
    · exact Or.inl ⟨p, h1, h2, h3⟩
    · exact Or.inr ⟨p, h1, h2, h3⟩
  · rintro (⟨p, h1, h2, h3⟩ | ⟨p, h1, h2, h3⟩)
    · exact ⟨p, h1, h2, Or.inl h3⟩
    · exact ⟨p, h1, h2, Or.inr h3⟩
theorem uo_seen (W : Nat → Nat → Int32 → Prop) (T F : Prop) (s : Int32) (hnm : ∀ j, j < n → ∃ a, a < 5 ∧ nm j = nI a) (hx : ∀ f sn, T → W (f + 1) n sn) (hs : ∀ f i a sn, i < n → a < 5 → nm i = nI a → (¬ uo_in s i → W f (i + 1) sn) → (uo_in s i → uo_in sn a → F) → (uo_in s i → ¬ uo_in sn a → W f (i + 1) (sn ||| ((1 : Int32) <<< (nI a &&& 31)))) → W (f + 1) i sn) (ht : uo_nd n nm s → T) (hf : ¬ uo_nd n nm s → F) : ∃ f, W f 0 0 := by
  have H : ∀ d i sn, i + d = n → (∀ y, y < 5 → (uo_in sn y ↔ ∃ p, p < i ∧ uo_in s p ∧ nm p = nI y)) → (∀ j, j < i → ∀ k, k < j → uo_in s k → uo_in s j → ¬ nm k = nm j) → W (d + 1) i sn := by
    intro d
    induction d with
    | zero =>
      intro i sn hi _ hd
      have hie : i = n := by omega
      rw [hie] at hd ⊢
      exact hx 0 sn (ht hd)
    | succ d ih =>
      intro i sn hi inv hd
      have hin : i < n := by omega
      obtain ⟨a, ha, ea⟩ := hnm i hin
      refine hs (d + 1) i a sn hin ha ea ?_ ?_ ?_
      · intro hni
        refine ih (i + 1) sn (by omega) ?_ ?_
        · intro y hy
          rw [inv y hy]
          constructor
          · rintro ⟨p, h1, h2, h3⟩
            exact ⟨p, by omega, h2, h3⟩
          · rintro ⟨p, h1, h2, h3⟩
            by_cases q : p = i
            · rw [q] at h2
              exact absurd h2 hni
            · exact ⟨p, by omega, h2, h3⟩
        · intro j hj k hk ik ij
          by_cases q : j = i
          · rw [q] at ij
            exact absurd ij hni
          · exact hd j (by omega) k hk ik ij
      · intro hii hsn
        obtain ⟨p, h1, h2, h3⟩ := (inv a ha).mp hsn
        exact hf (fun nd => nd i hin p h1 h2 hii (h3.trans ea.symm))
      · intro hii hsn
        refine ih (i + 1) _ (by omega) ?_ ?_
        · intro y hy
          rw [uo_sn ha hy, inv y hy]
          constructor
          · rintro (⟨p, h1, h2, h3⟩ | e)
            · exact ⟨p, by omega, h2, h3⟩
            · exact ⟨i, Nat.lt_succ_self i, hii, by rw [e]; exact ea⟩
          · rintro ⟨p, h1, h2, h3⟩
            by_cases q : p = i
            · right
              rw [q, ea] at h3
              exact ((nI_eq (by omega) (by omega)).mp h3).symm
            · left
              exact ⟨p, by omega, h2, h3⟩
        · intro j hj k hk ik ij e
          by_cases q : j = i
          · rw [q] at e hk
            exact hsn ((inv a ha).mpr ⟨k, hk, ik, e.trans ea⟩)
          · exact hd j (by omega) k hk ik ij e
  exact ⟨n + 1, H n 0 0 (by omega) (fun y hy => ⟨fun h => absurd h (uo_in0 (by omega)), fun ⟨p, h, _⟩ => absurd h (Nat.not_lt_zero p)⟩) (fun j hj => absurd hj (Nat.not_lt_zero j))⟩
end
end
section
section
variable {n w : Nat} {nm ve fe ne cl pa nf nx nb cf cx cb wn wt : Nat → Int32} {inst : Int32}
theorem uo_10 : ¬ (1 : Int32) = 0 := by decide
theorem xo_has {post : Int32 → Prop} {s : Int32} {p : Nat} (ht : uo_in s p → post 1) (hf : ¬ uo_in s p → post 0) : wpX_has post s (nI p) := by
  by_cases h : uo_in s p
  · exact br_t h (ht h)
  · exact br_f h (hf h)
theorem xo_hn {post : Int32 → Prop} {s x : Int32} (hn : n ≤ 10) (ht : uo_hn n nm s x → post 1) (hf : ¬ uo_hn n nm s x → post 0) : wpX_hasName post (nI n, nI w, inst, nm, ve, fe, ne, cl, pa, nf, nx, nb, cf, cx, cb, wn, wt) s x := by
  refine uo_srch (fun f i => wX_hasName_2 post s x (nI n) (nI w) inst nm ve fe ne cl pa nf nx nb cf cx cb wn wt f (nI i)) (fun p => uo_in s p ∧ nm p = x) (post 1) (post 0) n ?_ ?_ ht hf
  · exact fun f h => br_t (nI_le (Nat.le_refl n) (by omega)) h
  · intro f i hi h1 h2
    have e : (nI i).toNatClampNeg = i := nI_clamp (by omega)
    refine br_f (nI_ge hi (by omega)) (xo_has (fun a => br_f uo_10 ⟨vp_in_nI (by omega) (by omega), ?_⟩) (fun a => br_t rfl (nm_r (nI_1 i) (h2 (fun z => a z.1)))))
    rw [e]
    exact br_c (fun z => h1 ⟨a, z⟩) (fun z => nm_r (nI_1 i) (h2 (fun y => z y.2)))
theorem xo_nd {post : Int32 → Prop} {s : Int32} (hn : n ≤ 10) (hnm : ∀ j, j < n → ∃ a, a < 5 ∧ nm j = nI a) (ht : uo_nd n nm s → post 1) (hf : ¬ uo_nd n nm s → post 0) : wpX_namesDiffer post (nI n, nI w, inst, nm, ve, fe, ne, cl, pa, nf, nx, nb, cf, cx, cb, wn, wt) s := by
  refine uo_seen (fun f i sn => wX_namesDiffer_4 post s (nI n) (nI w) inst nm ve fe ne cl pa nf nx nb cf cx cb wn wt f sn (nI i)) (post 1) (post 0) s hnm ?_ ?_ ht hf
  · exact fun f sn h => br_t (nI_le (Nat.le_refl n) (by omega)) h
  · intro f i a sn hi ha ea k1 k2 k3
    have e : (nI i).toNatClampNeg = i := nI_clamp (by omega)
    refine br_f (nI_ge hi (by omega)) (xo_has (fun z => br_f uo_10 ⟨vp_in_nI (by omega) (by omega), ?_⟩) (fun z => br_t rfl (nm_r (nI_1 i) (k1 z))))
    rw [e, ea]
    exact xo_has (fun y => br_f uo_10 (k2 z y)) (fun y => br_t rfl ⟨vp_in_nI (by omega) (by omega), nm_e (nm_r (nI_1 i) (k3 z y))⟩)
theorem xo_fN {post : Int32 → Prop} {q a : Nat} (hq : q < 10) (ha : a < 40) (ht : uo_fN nm ve fe nf nx nb q a → post 1) (hf : ¬ uo_fN nm ve fe nf nx nb q a → post 0) : wpX_fitsNeed post (nI n, nI w, inst, nm, ve, fe, ne, cl, pa, nf, nx, nb, cf, cx, cb, wn, wt) (nI q) (nI a) := by
  have e1 : (nI q).toNatClampNeg = q := nI_clamp (by omega)
  have e2 : (nI a).toNatClampNeg = a := nI_clamp (by omega)
  have iq : vp_in (nI q) 10 := vp_in_nI hq (by omega)
  have ia : vp_in (nI a) 40 := vp_in_nI ha (by omega)
  unfold wpX_fitsNeed
  dsimp only
  rw [e1, e2]
  refine ⟨ia, nm_e ⟨ia, br_c (fun z => ⟨iq, br_c (fun z2 => ⟨iq, ia, br_c (fun z3 => hf ?_) (fun z3 => ht (Or.inr ⟨z, z2, Int32.not_lt.mp z3⟩))⟩) (fun z2 => hf ?_)⟩) (fun z => ⟨iq, br_c (fun y => ht (Or.inl ⟨z, y⟩)) (fun y => hf ?_)⟩)⟩⟩
  · rintro (h | h)
    · exact h.1 z
    · exact Int32.not_le.mpr z3 h.2.2
  · rintro (h | h)
    · exact h.1 z
    · exact z2 h.2.1
  · rintro (h | h)
    · exact y h.2
    · exact z h.1
theorem xo_fC {post : Int32 → Prop} {q a : Nat} (hq : q < 10) (ha : a < 20) (ht : uo_fC nm ve fe cf cx cb q a → post 1) (hf : ¬ uo_fC nm ve fe cf cx cb q a → post 0) : wpX_fitsClash post (nI n, nI w, inst, nm, ve, fe, ne, cl, pa, nf, nx, nb, cf, cx, cb, wn, wt) (nI q) (nI a) := by
  have e1 : (nI q).toNatClampNeg = q := nI_clamp (by omega)
  have e2 : (nI a).toNatClampNeg = a := nI_clamp (by omega)
  have iq : vp_in (nI q) 10 := vp_in_nI hq (by omega)
  have ia : vp_in (nI a) 20 := vp_in_nI ha (by omega)
  unfold wpX_fitsClash
  dsimp only
  rw [e1, e2]
  refine ⟨ia, nm_e ⟨ia, br_c (fun z => ⟨iq, br_c (fun z2 => ⟨iq, ia, br_c (fun z3 => hf ?_) (fun z3 => ht (Or.inr ⟨z, z2, Int32.not_lt.mp z3⟩))⟩) (fun z2 => hf ?_)⟩) (fun z => ⟨iq, br_c (fun y => ht (Or.inl ⟨z, y⟩)) (fun y => hf ?_)⟩)⟩⟩
  · rintro (h | h)
    · exact h.1 z
    · exact Int32.not_le.mpr z3 h.2.2
  · rintro (h | h)
    · exact h.1 z
    · exact z2 h.2.1
  · rintro (h | h)
    · exact y h.2
    · exact z h.1
theorem uo_ix (p k : Nat) : nI p * 2 + nI k = nI (2 * p + k) := by
  rw [show (2 : Int32) = nI 2 from rfl, pk_mul, nI_add, Nat.mul_comm]
theorem uo_iy (p k : Nat) : 2 * nI p + nI k = nI (2 * p + k) := by
  rw [show (2 : Int32) = nI 2 from rfl, pk_mul, nI_add]
theorem xo_mt {post : Int32 → Prop} {s : Int32} {m c : Nat} (hn : n ≤ 10) (hm : m < 20) (hc : c = 1 ∨ c = 2) (ec : pa m = nI c) (ht : uo_mt n nm ve fe pa nf nx nb s m → post 1) (hf : ¬ uo_mt n nm ve fe pa nf nx nb s m → post 0) : wpX_isMet post (nI n, nI w, inst, nm, ve, fe, ne, cl, pa, nf, nx, nb, cf, cx, cb, wn, wt) (nI m) s := by
  have em : (nI m).toNatClampNeg = m := nI_clamp (by omega)
  refine uo_srch (fun f i => wX_isMet_2 post (nI m) s (nI n) (nI w) inst nm ve fe ne cl pa nf nx nb cf cx cb wn wt f (nI i)) (fun q => uo_in s q ∧ ∃ k, k < c ∧ uo_fN nm ve fe nf nx nb q (2 * m + k)) (post 1) (post 0) n ?_ ?_ (fun h => ht ((uo_mt_x hc ec).mp h)) (fun h => hf (fun k => h ((uo_mt_x hc ec).mpr k)))
  · exact fun f h => br_t (nI_le (Nat.le_refl n) (by omega)) h
  · intro f q hq h1 h2
    refine br_f (nI_ge hq (by omega)) (xo_has (fun a => br_f uo_10 ?_) (fun a => br_t rfl (nm_r (nI_1 q) (h2 (fun z => a z.1)))))
    refine uo_srch (fun g k => wX_isMet_21 post (wX_isMet_2 post (nI m) s (nI n) (nI w) inst nm ve fe ne cl pa nf nx nb cf cx cb wn wt f) (nI m) s (nI q) (nI n) (nI w) inst nm ve fe ne cl pa nf nx nb cf cx cb wn wt g (nI k)) (fun k => uo_fN nm ve fe nf nx nb q (2 * m + k)) (post 1) (wX_isMet_2 post (nI m) s (nI n) (nI w) inst nm ve fe ne cl pa nf nx nb cf cx cb wn wt f (nI (q + 1))) c ?_ ?_ (fun h => h1 ⟨a, h⟩) (fun h => h2 (fun z => h z.2))
    · intro g h
      refine And.intro (vp_in_nI hm (by omega)) ?_
      rw [em, ec]
      exact br_t (nI_le (Nat.le_refl c) (by omega)) (nm_r (nI_1 q) h)
    · intro g k hk g1 g2
      refine And.intro (vp_in_nI hm (by omega)) ?_
      rw [em, ec]
      refine br_f (nI_ge hk (by omega)) ?_
      rw [uo_ix]
      exact xo_fN (by omega) (by omega) (fun y => br_f uo_10 (g1 y)) (fun y => br_t rfl (nm_r (nI_1 k) (g2 y)))
theorem xo_nm {post : Int32 → Prop} {s : Int32} (hn : n ≤ 10) (hne : ∀ j, ∃ c, c ≤ 2 ∧ ne j = nI c) (hpa : ∀ j k, k < (ne j).toNatClampNeg → pa (2 * j + k) = 1 ∨ pa (2 * j + k) = 2) (ht : (¬ ∃ p, p < n ∧ uo_in s p ∧ uo_bN n nm ve fe ne pa nf nx nb s p) → post 1) (hf : (∃ p, p < n ∧ uo_in s p ∧ uo_bN n nm ve fe ne pa nf nx nb s p) → post 0) : wpX_needsAreMet post (nI n, nI w, inst, nm, ve, fe, ne, cl, pa, nf, nx, nb, cf, cx, cb, wn, wt) s := by
  refine uo_srch (fun f i => wX_needsAreMet_2 post s (nI n) (nI w) inst nm ve fe ne cl pa nf nx nb cf cx cb wn wt f (nI i)) (fun p => uo_in s p ∧ uo_bN n nm ve fe ne pa nf nx nb s p) (post 0) (post 1) n ?_ ?_ hf ht
  · exact fun f h => br_t (nI_le (Nat.le_refl n) (by omega)) h
  · intro f p hp h1 h2
    obtain ⟨c, hc, ec⟩ := hne p
    have ecl : (ne p).toNatClampNeg = c := by rw [ec]; exact nI_clamp (by omega)
    have ep : (nI p).toNatClampNeg = p := nI_clamp (by omega)
    refine br_f (nI_ge hp (by omega)) (xo_has (fun a => br_f uo_10 ?_) (fun a => br_t rfl (nm_r (nI_1 p) (h2 (fun z => a z.1)))))
    refine uo_srch (fun g k => wX_needsAreMet_20 post (wX_needsAreMet_2 post s (nI n) (nI w) inst nm ve fe ne cl pa nf nx nb cf cx cb wn wt f) s (nI p) (nI n) (nI w) inst nm ve fe ne cl pa nf nx nb cf cx cb wn wt g (nI k)) (fun k => ¬ uo_mt n nm ve fe pa nf nx nb s (2 * p + k)) (post 0) (wX_needsAreMet_2 post s (nI n) (nI w) inst nm ve fe ne cl pa nf nx nb cf cx cb wn wt f (nI (p + 1))) c ?_ ?_ (fun ⟨k, hk, h⟩ => h1 ⟨a, k, by rw [ecl]; exact hk, h⟩) (fun h => h2 (fun ⟨_, k, hk, hm⟩ => h ⟨k, by rw [ecl] at hk; exact hk, hm⟩))
    · intro g h
      refine And.intro (vp_in_nI (show p < 10 by omega) (by omega)) ?_
      rw [ep, ec]
      exact br_t (nI_le (Nat.le_refl c) (by omega)) (nm_r (nI_1 p) h)
    · intro g k hk g1 g2
      refine And.intro (vp_in_nI (show p < 10 by omega) (by omega)) ?_
      rw [ep, ec]
      refine br_f (nI_ge hk (by omega)) ?_
      rw [uo_ix]
      rcases hpa p k (by rw [ecl]; exact hk) with e | e
      · exact xo_mt (c := 1) hn (by omega) (Or.inl rfl) e (fun y => br_f uo_10 (nm_r (nI_1 k) (g2 (fun z => z y)))) (fun y => br_t rfl (g1 y))
      · exact xo_mt (c := 2) hn (by omega) (Or.inr rfl) e (fun y => br_f uo_10 (nm_r (nI_1 k) (g2 (fun z => z y)))) (fun y => br_t rfl (g1 y))
theorem xo_tch {post : Int32 → Prop} {o : Int32} {a : Nat} (hn : n ≤ 10) (ha : a < 20) (ht : (∃ q, q < n ∧ uo_in o q ∧ uo_fC nm ve fe cf cx cb q a) → post 1) (hf : (¬ ∃ q, q < n ∧ uo_in o q ∧ uo_fC nm ve fe cf cx cb q a) → post 0) : wpX_isTouched post (nI n, nI w, inst, nm, ve, fe, ne, cl, pa, nf, nx, nb, cf, cx, cb, wn, wt) (nI a) o := by
  refine uo_srch (fun f i => wX_isTouched_2 post (nI a) o (nI n) (nI w) inst nm ve fe ne cl pa nf nx nb cf cx cb wn wt f (nI i)) (fun q => uo_in o q ∧ uo_fC nm ve fe cf cx cb q a) (post 1) (post 0) n ?_ ?_ ht hf
  · exact fun f h => br_t (nI_le (Nat.le_refl n) (by omega)) h
  · intro f q hq h1 h2
    exact br_f (nI_ge hq (by omega)) (xo_has (fun i => br_f uo_10 (xo_fC (by omega) ha (fun y => br_f uo_10 (h1 ⟨i, y⟩)) (fun y => br_t rfl (nm_r (nI_1 q) (h2 (fun z => y z.2)))))) (fun i => br_t rfl (nm_r (nI_1 q) (h2 (fun z => i z.1)))))
theorem xo_cu {post : Int32 → Prop} {s : Int32} (hn : n ≤ 10) (hcl : ∀ j, ∃ c, c ≤ 2 ∧ cl j = nI c) (ht : (¬ ∃ p, p < n ∧ uo_in s p ∧ uo_tc n nm ve fe cl cf cx cb s p) → post 1) (hf : (∃ p, p < n ∧ uo_in s p ∧ uo_tc n nm ve fe cl cf cx cb s p) → post 0) : wpX_clashesAreUntouched post (nI n, nI w, inst, nm, ve, fe, ne, cl, pa, nf, nx, nb, cf, cx, cb, wn, wt) s := by
  refine uo_srch (fun f i => wX_clashesAreUntouched_2 post s (nI n) (nI w) inst nm ve fe ne cl pa nf nx nb cf cx cb wn wt f (nI i)) (fun p => uo_in s p ∧ uo_tc n nm ve fe cl cf cx cb s p) (post 0) (post 1) n ?_ ?_ hf ht
  · exact fun f h => br_t (nI_le (Nat.le_refl n) (by omega)) h
  · intro f p hp h1 h2
    obtain ⟨c, hc, ec⟩ := hcl p
    have ecl : (cl p).toNatClampNeg = c := by rw [ec]; exact nI_clamp (by omega)
    have ep : (nI p).toNatClampNeg = p := nI_clamp (by omega)
    refine br_f (nI_ge hp (by omega)) (xo_has (fun a => br_f uo_10 (nm_e ?_)) (fun a => br_t rfl (nm_r (nI_1 p) (h2 (fun z => a z.1)))))
    refine uo_srch (fun g k => wX_clashesAreUntouched_29 post (wX_clashesAreUntouched_2 post s (nI n) (nI w) inst nm ve fe ne cl pa nf nx nb cf cx cb wn wt f) s (nI p) (s &&& (((1 : Int32) <<< (nI p &&& 31)) ^^^ (-1))) (nI n) (nI w) inst nm ve fe ne cl pa nf nx nb cf cx cb wn wt g (nI k)) (fun k => ∃ q, q < n ∧ (q ≠ p ∧ uo_in s q) ∧ uo_fC nm ve fe cf cx cb q (2 * p + k)) (post 0) (wX_clashesAreUntouched_2 post s (nI n) (nI w) inst nm ve fe ne cl pa nf nx nb cf cx cb wn wt f (nI (p + 1))) c ?_ ?_ (fun ⟨k, hk, h⟩ => h1 ⟨a, k, by rw [ecl]; exact hk, h⟩) (fun h => h2 (fun ⟨_, k, hk, hm⟩ => h ⟨k, by rw [ecl] at hk; exact hk, hm⟩))
    · intro g h
      refine And.intro (vp_in_nI (show p < 10 by omega) (by omega)) ?_
      rw [ep, ec]
      exact br_t (nI_le (Nat.le_refl c) (by omega)) (nm_r (nI_1 p) h)
    · intro g k hk g1 g2
      refine And.intro (vp_in_nI (show p < 10 by omega) (by omega)) ?_
      rw [ep, ec]
      refine br_f (nI_ge hk (by omega)) ?_
      rw [uo_ix]
      refine xo_tch hn (by omega) (fun y => br_f uo_10 (g1 ?_)) (fun y => br_t rfl (nm_r (nI_1 k) (g2 ?_)))
      · obtain ⟨q, hq, ho, hf⟩ := y
        exact ⟨q, hq, (uo_ot (by omega) (by omega)).mp ho, hf⟩
      · rintro ⟨q, hq, ho, hf⟩
        exact y ⟨q, hq, (uo_ot (by omega) (by omega)).mpr ho, hf⟩
theorem xo_wk {post : Int32 → Prop} {s : Int32} (hn : n ≤ 10) (hw : w ≤ 4) (ht : (¬ ∃ j, j < w ∧ uo_wB n nm wn wt s j) → post 1) (hf : (∃ j, j < w ∧ uo_wB n nm wn wt s j) → post 0) : wpX_wishesAreKept post (nI n, nI w, inst, nm, ve, fe, ne, cl, pa, nf, nx, nb, cf, cx, cb, wn, wt) s := by
  refine uo_srch (fun f i => wX_wishesAreKept_2 post s (nI n) (nI w) inst nm ve fe ne cl pa nf nx nb cf cx cb wn wt f (nI i)) (fun j => uo_wB n nm wn wt s j) (post 0) (post 1) w ?_ ?_ hf ht
  · exact fun f h => br_t (nI_le (Nat.le_refl w) (by omega)) h
  · intro f j hj h1 h2
    have ej : (nI j).toNatClampNeg = j := nI_clamp (by omega)
    refine br_f (nI_ge hj (by omega)) ⟨vp_in_nI (by omega) (by omega), ?_⟩
    rw [ej]
    refine xo_hn hn (fun y => ⟨vp_in_nI (by omega) (by omega), br_c (fun z => nm_r (nI_1 j) (h2 ?_)) (fun z => h1 (Or.inl ⟨y, fun k => z k.symm⟩))⟩) (fun y => ⟨vp_in_nI (by omega) (by omega), br_c (fun z => nm_r (nI_1 j) (h2 ?_)) (fun z => h1 (Or.inr ⟨y, fun k => z k.symm⟩))⟩)
    · rintro (h | h)
      · exact h.2 z.symm
      · exact h.1 y
    · rintro (h | h)
      · exact y h.1
      · exact h.2 z.symm
theorem xo_R {post : Int32 → Prop} {s : Int32} (hn : n ≤ 10) (hw : w ≤ 4) (hnm : ∀ j, j < n → ∃ a, a < 5 ∧ nm j = nI a) (hne : ∀ j, ∃ c, c ≤ 2 ∧ ne j = nI c) (hcl : ∀ j, ∃ c, c ≤ 2 ∧ cl j = nI c) (hpa : ∀ j k, k < (ne j).toNatClampNeg → pa (2 * j + k) = 1 ∨ pa (2 * j + k) = 2) (ht : uo_R n w nm ve fe ne cl pa nf nx nb cf cx cb wn wt s → post 1) (hf : ¬ uo_R n w nm ve fe ne cl pa nf nx nb cf cx cb wn wt s → post 0) : wpX_isRight post (nI n, nI w, inst, nm, ve, fe, ne, cl, pa, nf, nx, nb, cf, cx, cb, wn, wt) s := by
  unfold wpX_isRight
  dsimp only
  refine xo_nd hn hnm (fun h1 => br_f uo_10 ?_) (fun h1 => br_t rfl (hf (fun r => h1 r.1)))
  refine xo_nm hn hne hpa (fun h2 => br_f uo_10 ?_) (fun h2 => br_t rfl (hf (fun r => r.2.1 h2)))
  refine xo_cu hn hcl (fun h3 => br_f uo_10 ?_) (fun h3 => br_t rfl (hf (fun r => r.2.2.1 h3)))
  exact xo_wk hn hw (fun h4 => br_f uo_10 (ht ⟨h1, h2, h3, h4⟩)) (fun h4 => br_t rfl (hf (fun r => r.2.2.2 h4)))
end
end
section
section
variable {n w : Nat} {nm ve fe ne cl pa nf nx nb cf cx cb wn wt : Nat → Int32} {inst : Int32}
theorem xo_lo {post : Int32 → Prop} {s : Int32} (hn : n ≤ 10) (h : post (nI (uo_lo n nm inst s))) : wpX_lostNames post (nI n, nI w, inst, nm, ve, fe, ne, cl, pa, nf, nx, nb, cf, cx, cb, wn, wt) s := by
  refine uo_cnt (fun f i c => wX_lostNames_4 post s (nI n) (nI w) inst nm ve fe ne cl pa nf nx nb cf cx cb wn wt f (nI c) (nI i)) (fun x => uo_hn n nm inst (nI x) ∧ ¬ uo_hn n nm s (nI x)) 5 ?_ ?_
  · exact fun f => br_t (nI_le (Nat.le_refl 5) (by decide)) h
  · intro f i c hi h1 h2
    exact br_f (nI_ge (b := 5) hi (by decide)) (xo_hn hn (fun y => br_f uo_10 (xo_hn hn (fun z => br_f uo_10 (nm_r (nI_1 i) (h2 (fun k => k.2 z)))) (fun z => br_t rfl (nm_r (nI_1 c) (nm_r (nI_1 i) (h1 ⟨y, z⟩)))))) (fun y => br_t rfl (nm_r (nI_1 i) (h2 (fun k => y k.1)))))
theorem xo_ch {post : Int32 → Prop} {s : Int32} (hn : n ≤ 10) (h : post (nI (uo_ch n inst s))) : wpX_changedPackages post (nI n, nI w, inst, nm, ve, fe, ne, cl, pa, nf, nx, nb, cf, cx, cb, wn, wt) s := by
  refine nm_e ?_
  refine uo_cnt (fun f i c => wX_changedPackages_12 post (s ^^^ inst) (nI n) (nI w) inst nm ve fe ne cl pa nf nx nb cf cx cb wn wt f (nI c) (nI i)) (fun p => ¬ (uo_in s p ↔ uo_in inst p)) n ?_ ?_
  · exact fun f => br_t (nI_le (Nat.le_refl n) (by omega)) h
  · intro f i c hi h1 h2
    exact br_f (nI_ge hi (by omega)) (xo_has (fun y => br_f uo_10 (nm_r (nI_1 c) (nm_r (nI_1 i) (h1 ((uo_xr (by omega)).mp y))))) (fun y => br_t rfl (nm_r (nI_1 i) (h2 (fun z => y ((uo_xr (by omega)).mpr z))))))
theorem xo_nw {post : Int32 → Prop} {x : Int32} (hn : n ≤ 10) (hve : ∀ j, j < n → 0 < ve j) (h : post (uo_tx (uo_tp nm ve x n))) : wpX_newestOf post (nI n, nI w, inst, nm, ve, fe, ne, cl, pa, nf, nx, nb, cf, cx, cb, wn, wt) x := by
  refine uo_det (fun f i (t : Int32 × Int32) => wX_newestOf_7 post x (nI n) (nI w) inst nm ve fe ne cl pa nf nx nb cf cx cb wn wt f t.1 t.2 (nI i)) (fun i => (uo_tx (uo_tp nm ve x i), uo_tg ve (uo_tp nm ve x i))) n ?_ ?_
  · exact fun f => br_t (nI_le (Nat.le_refl n) (by omega)) h
  · intro f i hi K
    have e : (nI i).toNatClampNeg = i := nI_clamp (by omega)
    have ii : vp_in (nI i) 10 := vp_in_nI (by omega) (by omega)
    refine br_f (nI_ge hi (by omega)) ⟨ii, ?_⟩
    rw [e]
    cases et : uo_tp nm ve x i with
    | none =>
      have en := uo_tp_n et
      by_cases z : nm i = x
      · rw [if_pos z] at en
        dsimp only at K
        rw [en] at K
        exact br_t z ⟨ii, br_f (Int32.not_le.mpr (hve i hi)) ⟨ii, nm_e (nm_r (nI_1 i) K)⟩⟩
      · rw [if_neg z] at en
        dsimp only at K
        rw [en] at K
        exact br_f z (nm_r (nI_1 i) K)
    | some b =>
      have en := uo_tp_s et
      by_cases z : nm i = x
      · by_cases z2 : ve b < ve i
        · rw [if_pos ⟨z, z2⟩] at en
          dsimp only at K
          rw [en] at K
          exact br_t z ⟨ii, br_f (Int32.not_le.mpr z2) ⟨ii, nm_e (nm_r (nI_1 i) K)⟩⟩
        · rw [if_neg (fun k => z2 k.2)] at en
          dsimp only at K
          rw [en] at K
          exact br_t z ⟨ii, br_t (Int32.not_lt.mp z2) (nm_r (nI_1 i) K)⟩
      · rw [if_neg (fun k => z k.1)] at en
        dsimp only at K
        rw [en] at K
        exact br_f z (nm_r (nI_1 i) K)
theorem xo_st {post : Int32 → Prop} {s : Int32} (hn : n ≤ 10) (hve : ∀ j, j < n → 0 < ve j) (h : post (nI (uo_st n nm ve s))) : wpX_staleNames post (nI n, nI w, inst, nm, ve, fe, ne, cl, pa, nf, nx, nb, cf, cx, cb, wn, wt) s := by
  refine uo_cnt (fun f i c => wX_staleNames_4 post s (nI n) (nI w) inst nm ve fe ne cl pa nf nx nb cf cx cb wn wt f (nI c) (nI i)) (fun x => uo_hn n nm s (nI x) ∧ ¬ uo_in s ((uo_tp nm ve (nI x) n).getD 0)) 5 ?_ ?_
  · exact fun f => br_t (nI_le (Nat.le_refl 5) (by decide)) h
  · intro f i c hi h1 h2
    refine br_f (nI_ge (b := 5) hi (by decide)) (xo_hn hn (fun y => br_f uo_10 (xo_nw hn hve ?_)) (fun y => br_t rfl (nm_r (nI_1 i) (h2 (fun k => y k.1)))))
    obtain ⟨b, hb, eb⟩ := uo_hn_tp (ve := ve) y
    rw [eb] at h1 h2
    rw [eb]
    exact (xo_has (p := b) (fun z => br_f uo_10 (nm_r (nI_1 i) (h2 (fun k => k.2 z)))) (fun z => br_t rfl (nm_r (nI_1 c) (nm_r (nI_1 i) (h1 ⟨y, z⟩)))))
theorem xo_we {post : Int32 → Prop} {s : Int32} (hn : n ≤ 10) (hve : ∀ j, j < n → 0 < ve j) (h : post (nI (uo_we n nm ve inst s))) : wpX_weightOf post (nI n, nI w, inst, nm, ve, fe, ne, cl, pa, nf, nx, nb, cf, cx, cb, wn, wt) s := by
  unfold wpX_weightOf
  dsimp only
  refine xo_lo hn ?_
  refine xo_ch hn ?_
  refine xo_st hn hve ?_
  rw [show (16 : Int32) = nI 16 from rfl, pk_mul, nI_add, pk_mul, nI_add]
  exact h
theorem xo_best {post : Int32 → Prop} (hn : n ≤ 10) (hw : w ≤ 4) (hnm : ∀ j, j < n → ∃ a, a < 5 ∧ nm j = nI a) (hve : ∀ j, j < n → 0 < ve j) (hne : ∀ j, ∃ c, c ≤ 2 ∧ ne j = nI c) (hcl : ∀ j, ∃ c, c ≤ 2 ∧ cl j = nI c) (hpa : ∀ j k, k < (ne j).toNatClampNeg → pa (2 * j + k) = 1 ∨ pa (2 * j + k) = 2) (h : post (uo_bx (uo_bf (fun i => uo_R n w nm ve fe ne cl pa nf nx nb cf cx cb wn wt (nI i)) (fun i => uo_we n nm ve inst (nI i)) (2 ^ n)))) : wpX_best post (nI n, nI w, inst, nm, ve, fe, ne, cl, pa, nf, nx, nb, cf, cx, cb, wn, wt) := by
  have hp := uo_pwb n (by omega)
  have hch := fun s => uo_chn (n := n) (inst := inst) (s := s)
  have hlo := fun s => uo_lo5 (n := n) (nm := nm) (inst := inst) (s := s)
  have hst := fun s => uo_st5 (n := n) (nm := nm) (ve := ve) (s := s)
  refine nm_r (uo_pw n (by omega)) ?_
  refine uo_det (fun f i (t : Int32 × Int32) => wX_best_15 post (nI (2 ^ n)) (nI n) (nI w) inst nm ve fe ne cl pa nf nx nb cf cx cb wn wt f t.1 t.2 (nI i)) (fun i => (uo_bx (uo_bf (fun i => uo_R n w nm ve fe ne cl pa nf nx nb cf cx cb wn wt (nI i)) (fun i => uo_we n nm ve inst (nI i)) i), uo_bl (fun i => uo_we n nm ve inst (nI i)) (uo_bf (fun i => uo_R n w nm ve fe ne cl pa nf nx nb cf cx cb wn wt (nI i)) (fun i => uo_we n nm ve inst (nI i)) i))) (2 ^ n) ?_ ?_
  · exact fun f => br_t (nI_le (Nat.le_refl _) (by omega)) h
  · intro f i hi K
    dsimp only at K
    refine br_f (nI_ge hi (by omega)) (xo_R hn hw hnm hne hcl hpa (fun y => br_f uo_10 ?_) (fun y => br_t rfl ?_))
    · refine xo_we hn hve ?_
      dsimp only
      cases eb : uo_bf (fun i => uo_R n w nm ve fe ne cl pa nf nx nb cf cx cb wn wt (nI i)) (fun i => uo_we n nm ve inst (nI i)) i with
      | none =>
        rw [uo_bf_t (R := fun i => uo_R n w nm ve fe ne cl pa nf nx nb cf cx cb wn wt (nI i)) y (fun b h => by rw [eb] at h; cases h)] at K
        exact br_t rfl (nm_r (nI_1 i) K)
      | some b =>
        have hbi := (uo_bf_lt i b eb).1
        refine br_f (uo_n3 (by omega)) ?_
        have b1 : uo_we n nm ve inst (nI i) < 2 ^ 31 := by
          have := hch (nI i); have := hlo (nI i); have := hst (nI i)
          unfold uo_we
          omega
        have b2 : uo_we n nm ve inst (nI b) < 2 ^ 31 := by
          have := hch (nI b); have := hlo (nI b); have := hst (nI b)
          unfold uo_we
          omega
        by_cases z : uo_we n nm ve inst (nI i) < uo_we n nm ve inst (nI b)
        · rw [uo_bf_t (R := fun i => uo_R n w nm ve fe ne cl pa nf nx nb cf cx cb wn wt (nI i)) y (fun b' h => by rw [eb] at h; cases h; exact z)] at K
          exact br_f (nI_ge z b2) (nm_r (nI_1 i) K)
        · rw [uo_bf_f (R := fun i => uo_R n w nm ve fe ne cl pa nf nx nb cf cx cb wn wt (nI i)) (fun k => z (k.2 b eb)), eb] at K
          exact br_t (nI_le (Nat.not_lt.mp z) b1) (nm_r (nI_1 i) K)
    · rw [uo_bf_f (R := fun i => uo_R n w nm ve fe ne cl pa nf nx nb cf cx cb wn wt (nI i)) (fun k => y k.1)] at K
      exact nm_r (nI_1 i) K
theorem xo_rs {post : Int32 → Prop} (hn : n ≤ 10) (hw : w ≤ 4) (hnm : ∀ j, j < n → ∃ a, a < 5 ∧ nm j = nI a) (hne : ∀ j, ∃ c, c ≤ 2 ∧ ne j = nI c) (hcl : ∀ j, ∃ c, c ≤ 2 ∧ cl j = nI c) (hpa : ∀ j k, k < (ne j).toNatClampNeg → pa (2 * j + k) = 1 ∨ pa (2 * j + k) = 2) (h : post (nI (uo_cn (fun i => uo_R n w nm ve fe ne cl pa nf nx nb cf cx cb wn wt (nI i)) (2 ^ n)))) : wpX_rightSets post (nI n, nI w, inst, nm, ve, fe, ne, cl, pa, nf, nx, nb, cf, cx, cb, wn, wt) := by
  have hp := uo_pwb n (by omega)
  refine nm_r (uo_pw n (by omega)) ?_
  refine uo_cnt (fun f i c => wX_rightSets_11 post (nI (2 ^ n)) (nI n) (nI w) inst nm ve fe ne cl pa nf nx nb cf cx cb wn wt f (nI c) (nI i)) (fun i => uo_R n w nm ve fe ne cl pa nf nx nb cf cx cb wn wt (nI i)) (2 ^ n) ?_ ?_
  · exact fun f => br_t (nI_le (Nat.le_refl _) (by omega)) h
  · intro f i c hi h1 h2
    exact br_f (nI_ge hi (by omega)) (xo_R hn hw hnm hne hcl hpa (fun y => br_f uo_10 (nm_r (nI_1 c) (nm_r (nI_1 i) (h1 y)))) (fun y => br_t rfl (nm_r (nI_1 i) (h2 y))))
end
end
section
section
variable {n w : Nat} {nm ve fe ne cl pa nf nx nb cf cx cb wn wt : Nat → Int32} {inst : Int32}
def uo_sk (n : Nat) (s : Int32) : Prop := ¬ s < 0 ∧ ¬ nI (2 ^ n) ≤ s
theorem uo_sk_i {i : Nat} (hn : n ≤ 10) (hi : i < 2 ^ n) : uo_sk n (nI i) := by
  have hp := uo_pwb n (by omega)
  exact ⟨nI_pos (by omega), nI_ge hi (by omega)⟩
theorem yo_set {post : Int32 → Prop} {s : Int32} (hn : n ≤ 10) (ht : uo_sk n s → post 1) (hf : ¬ uo_sk n s → post 0) : wpY_isSet post (nI n, nI w, inst, nm, ve, fe, ne, cl, pa, nf, nx, nb, cf, cx, cb, wn, wt) s := by
  unfold wpY_isSet
  dsimp only
  rw [uo_pw n (by omega)]
  exact br_c (fun h => hf (fun k => k.1 h)) (fun h => br_c (fun h2 => hf (fun k => k.2 h2)) (fun h2 => ht ⟨h, h2⟩))
theorem xo_set {post : Int32 → Prop} {s : Int32} (hn : n ≤ 10) (ht : uo_sk n s → post 1) (hf : ¬ uo_sk n s → post 0) : wpX_isSet post (nI n, nI w, inst, nm, ve, fe, ne, cl, pa, nf, nx, nb, cf, cx, cb, wn, wt) s := by
  unfold wpX_isSet
  dsimp only
  rw [uo_pw n (by omega)]
  exact br_c (fun h => hf (fun k => k.1 h)) (fun h => br_c (fun h2 => hf (fun k => k.2 h2)) (fun h2 => ht ⟨h, h2⟩))
theorem yo_in {post : Int32 → Prop} {s : Int32} {p : Nat} (ht : uo_in s p → post 1) (hf : ¬ uo_in s p → post 0) : wpY_in post (nI n, nI w, inst, nm, ve, fe, ne, cl, pa, nf, nx, nb, cf, cx, cb, wn, wt) s (nI p) := by
  by_cases h : uo_in s p
  · exact br_t h (ht h)
  · exact br_f h (hf h)
theorem yo_ct {post : Int32 → Prop} {s x : Int32} (hn : n ≤ 10) (h : post (nI (uo_cn (fun p => uo_in s p ∧ nm p = x) n))) : wpY_countOf post (nI n, nI w, inst, nm, ve, fe, ne, cl, pa, nf, nx, nb, cf, cx, cb, wn, wt) s x := by
  refine uo_cnt (fun f i c => wY_countOf_5 post s x (nI n) (nI w) inst nm ve fe ne cl pa nf nx nb cf cx cb wn wt f (nI c) (nI i)) (fun p => uo_in s p ∧ nm p = x) n ?_ ?_
  · exact fun f => br_t (nI_le (Nat.le_refl n) (by omega)) h
  · intro f i c hi h1 h2
    have e : (nI i).toNatClampNeg = i := nI_clamp (by omega)
    refine br_f (nI_ge hi (by omega)) (yo_in (fun y => br_f uo_10 ⟨vp_in_nI (by omega) (by omega), ?_⟩) (fun y => br_t rfl (nm_r (nI_1 i) (h2 (fun k => y k.1)))))
    rw [e]
    exact br_c (fun z => nm_r (nI_1 c) (nm_r (nI_1 i) (h1 ⟨y, z⟩))) (fun z => nm_r (nI_1 i) (h2 (fun k => z k.2)))
theorem yo_of {post : Int32 → Prop} {q : Nat} {x : Int32} (hq : q < 10) (ht : (fe q >>> (x &&& 31)) &&& 1 = 1 → post 1) (hf : ¬ (fe q >>> (x &&& 31)) &&& 1 = 1 → post 0) : wpY_offers post (nI n, nI w, inst, nm, ve, fe, ne, cl, pa, nf, nx, nb, cf, cx, cb, wn, wt) (nI q) x := by
  have e : (nI q).toNatClampNeg = q := nI_clamp (by omega)
  unfold wpY_offers
  dsimp only
  rw [e]
  exact ⟨vp_in_nI hq (by omega), br_c ht hf⟩
theorem yo_pm {post : Int32 → Prop} {s : Int32} {a : Nat} (hn : n ≤ 10) (ha : a < 40) (ht : uo_pm n nm ve fe nf nx nb s a → post 1) (hf : ¬ uo_pm n nm ve fe nf nx nb s a → post 0) : wpY_patternMet post (nI n, nI w, inst, nm, ve, fe, ne, cl, pa, nf, nx, nb, cf, cx, cb, wn, wt) s (nI a) := by
  have e2 : (nI a).toNatClampNeg = a := nI_clamp (by omega)
  have ia : vp_in (nI a) 40 := vp_in_nI ha (by omega)
  refine uo_srch (fun f i => wY_patternMet_2 post s (nI a) (nI n) (nI w) inst nm ve fe ne cl pa nf nx nb cf cx cb wn wt f (nI i)) (fun q => uo_in s q ∧ uo_fN nm ve fe nf nx nb q a) (post 1) (post 0) n ?_ ?_ ht hf
  · exact fun f h => br_t (nI_le (Nat.le_refl n) (by omega)) h
  · intro f q hq h1 h2
    have e1 : (nI q).toNatClampNeg = q := nI_clamp (by omega)
    have iq : vp_in (nI q) 10 := vp_in_nI (by omega) (by omega)
    have J1 : uo_fN nm ve fe nf nx nb q a → wY_patternMet_68 post (wY_patternMet_2 post s (nI a) (nI n) (nI w) inst nm ve fe ne cl pa nf nx nb cf cx cb wn wt f) s (nI a) (nI q) 1 (nI n) (nI w) inst nm ve fe ne cl pa nf nx nb cf cx cb wn wt := fun y => yo_in (fun i => br_f uo_10 (br_f uo_10 (h1 ⟨i, y⟩))) (fun i => br_t rfl (nm_r (nI_1 q) (h2 (fun z => i z.1))))
    have J0 : ¬ uo_fN nm ve fe nf nx nb q a → wY_patternMet_68 post (wY_patternMet_2 post s (nI a) (nI n) (nI w) inst nm ve fe ne cl pa nf nx nb cf cx cb wn wt f) s (nI a) (nI q) 0 (nI n) (nI w) inst nm ve fe ne cl pa nf nx nb cf cx cb wn wt := fun y => yo_in (fun i => br_f uo_10 (br_t rfl (nm_r (nI_1 q) (h2 (fun z => y z.2))))) (fun i => br_t rfl (nm_r (nI_1 q) (h2 (fun z => i z.1))))
    refine br_f (nI_ge hq (by omega)) ⟨ia, ?_⟩
    rw [e1, e2]
    refine br_c (fun z => ⟨iq, ia, br_c (fun z2 => ⟨iq, ia, br_c (fun z3 => J0 ?_) (fun z3 => J1 (Or.inr ⟨z, z2, Int32.not_lt.mp z3⟩))⟩) (fun z2 => J0 ?_)⟩) (fun z => ⟨ia, yo_of (by omega) (fun y => J1 (Or.inl ⟨z, y⟩)) (fun y => J0 ?_)⟩)
    · rintro (h | h)
      · exact h.1 z
      · exact Int32.not_le.mpr z3 h.2.2
    · rintro (h | h)
      · exact h.1 z
      · exact z2 h.2.1
    · rintro (h | h)
      · exact y h.2
      · exact z h.1
theorem yo_nM {post : Int32 → Prop} {s : Int32} {p : Nat} (hn : n ≤ 10) (hp : p < n) (hne : ∀ j, ∃ c, c ≤ 2 ∧ ne j = nI c) (ht : ¬ uo_bN n nm ve fe ne pa nf nx nb s p → post 1) (hf : uo_bN n nm ve fe ne pa nf nx nb s p → post 0) : wpY_needsMet post (nI n, nI w, inst, nm, ve, fe, ne, cl, pa, nf, nx, nb, cf, cx, cb, wn, wt) s (nI p) := by
  obtain ⟨c, hc, ec⟩ := hne p
  have ecl : (ne p).toNatClampNeg = c := by rw [ec]; exact nI_clamp (by omega)
  have ep : (nI p).toNatClampNeg = p := nI_clamp (by omega)
  refine uo_srch (fun f k => wY_needsMet_2 post s (nI p) (nI n) (nI w) inst nm ve fe ne cl pa nf nx nb cf cx cb wn wt f (nI k)) (fun k => ¬ uo_mt n nm ve fe pa nf nx nb s (2 * p + k)) (post 0) (post 1) c ?_ ?_ (fun ⟨k, hk, h⟩ => hf ⟨k, by rw [ecl]; exact hk, h⟩) (fun h => ht (fun ⟨k, hk, hm⟩ => h ⟨k, by rw [ecl] at hk; exact hk, hm⟩))
  · intro f h
    refine And.intro (vp_in_nI (show p < 10 by omega) (by omega)) ?_
    rw [ep, ec]
    exact br_t (nI_le (Nat.le_refl c) (by omega)) h
  · intro f k hk g1 g2
    have e3 : (nI (2 * p + k)).toNatClampNeg = 2 * p + k := nI_clamp (by omega)
    have e4 : 2 * nI (2 * p + k) = nI (2 * (2 * p + k)) := pk_mul 2 _
    have J1 : uo_mt n nm ve fe pa nf nx nb s (2 * p + k) → wY_needsMet_60 post (wY_needsMet_2 post s (nI p) (nI n) (nI w) inst nm ve fe ne cl pa nf nx nb cf cx cb wn wt f) s (nI p) (nI k) 1 (nI n) (nI w) inst nm ve fe ne cl pa nf nx nb cf cx cb wn wt := fun y => br_f uo_10 (nm_r (nI_1 k) (g2 (fun z => z y)))
    have J0 : ¬ uo_mt n nm ve fe pa nf nx nb s (2 * p + k) → wY_needsMet_60 post (wY_needsMet_2 post s (nI p) (nI n) (nI w) inst nm ve fe ne cl pa nf nx nb cf cx cb wn wt f) s (nI p) (nI k) 0 (nI n) (nI w) inst nm ve fe ne cl pa nf nx nb cf cx cb wn wt := fun y => br_t rfl (g1 y)
    refine And.intro (vp_in_nI (show p < 10 by omega) (by omega)) ?_
    rw [ep, ec]
    refine br_f (nI_ge hk (by omega)) ?_
    rw [uo_iy p k, e3]
    refine nm_r e4 ?_
    refine yo_pm hn (by omega) (fun y => br_f uo_10 (J1 (Or.inl y))) (fun y => br_t rfl ⟨vp_in_nI (by omega) (by omega), br_c (fun z => ?_) (fun z => J0 ?_)⟩)
    · rw [nI_1 (2 * (2 * p + k))]
      refine yo_pm hn (by omega) (fun y2 => J1 (Or.inr ⟨z, y2⟩)) (fun y2 => J0 ?_)
      rintro (h | h)
      · exact y h
      · exact y2 h.2
    · rintro (h | h)
      · exact y h
      · exact z h.1
theorem yo_tc {post : Int32 → Prop} {s : Int32} {p : Nat} (hn : n ≤ 10) (hp : p < n) (hcl : ∀ j, ∃ c, c ≤ 2 ∧ cl j = nI c) (ht : uo_tc n nm ve fe cl cf cx cb s p → post 1) (hf : ¬ uo_tc n nm ve fe cl cf cx cb s p → post 0) : wpY_touched post (nI n, nI w, inst, nm, ve, fe, ne, cl, pa, nf, nx, nb, cf, cx, cb, wn, wt) s (nI p) := by
  obtain ⟨c, hc, ec⟩ := hcl p
  have ecl : (cl p).toNatClampNeg = c := by rw [ec]; exact nI_clamp (by omega)
  have ep : (nI p).toNatClampNeg = p := nI_clamp (by omega)
  refine uo_srch (fun f k => wY_touched_2 post s (nI p) (nI n) (nI w) inst nm ve fe ne cl pa nf nx nb cf cx cb wn wt f (nI k)) (fun k => ∃ q, q < n ∧ (q ≠ p ∧ uo_in s q) ∧ uo_fC nm ve fe cf cx cb q (2 * p + k)) (post 1) (post 0) c ?_ ?_ (fun ⟨k, hk, h⟩ => ht ⟨k, by rw [ecl]; exact hk, h⟩) (fun h => hf (fun ⟨k, hk, hm⟩ => h ⟨k, by rw [ecl] at hk; exact hk, hm⟩))
  · intro f h
    refine And.intro (vp_in_nI (show p < 10 by omega) (by omega)) ?_
    rw [ep, ec]
    exact br_t (nI_le (Nat.le_refl c) (by omega)) h
  · intro f k hk g1 g2
    have e2 : (nI (2 * p + k)).toNatClampNeg = 2 * p + k := nI_clamp (by omega)
    have ia : vp_in (nI (2 * p + k)) 20 := vp_in_nI (by omega) (by omega)
    refine And.intro (vp_in_nI (show p < 10 by omega) (by omega)) ?_
    rw [ep, ec]
    refine br_f (nI_ge hk (by omega)) (nm_r (uo_iy p k) ?_)
    refine uo_srch (fun g q => wY_touched_22 post (wY_touched_2 post s (nI p) (nI n) (nI w) inst nm ve fe ne cl pa nf nx nb cf cx cb wn wt f) s (nI p) (nI k) (nI (2 * p + k)) (nI n) (nI w) inst nm ve fe ne cl pa nf nx nb cf cx cb wn wt g (nI q)) (fun q => (q ≠ p ∧ uo_in s q) ∧ uo_fC nm ve fe cf cx cb q (2 * p + k)) (post 1) (wY_touched_2 post s (nI p) (nI n) (nI w) inst nm ve fe ne cl pa nf nx nb cf cx cb wn wt f (nI (k + 1))) n ?_ ?_ g1 g2
    · exact fun g h => br_t (nI_le (Nat.le_refl n) (by omega)) (nm_r (nI_1 k) h)
    · intro g q hq h1 h2
      have e1 : (nI q).toNatClampNeg = q := nI_clamp (by omega)
      have iq : vp_in (nI q) 10 := vp_in_nI (by omega) (by omega)
      have hqp : nI q = nI p → q = p := fun e => (nI_eq (by omega) (by omega)).mp e
      have J1 : uo_fC nm ve fe cf cx cb q (2 * p + k) → wY_touched_96 post (wY_touched_2 post s (nI p) (nI n) (nI w) inst nm ve fe ne cl pa nf nx nb cf cx cb wn wt f) (wY_touched_22 post (wY_touched_2 post s (nI p) (nI n) (nI w) inst nm ve fe ne cl pa nf nx nb cf cx cb wn wt f) s (nI p) (nI k) (nI (2 * p + k)) (nI n) (nI w) inst nm ve fe ne cl pa nf nx nb cf cx cb wn wt g) s (nI p) (nI k) (nI (2 * p + k)) (nI q) 1 (nI n) (nI w) inst nm ve fe ne cl pa nf nx nb cf cx cb wn wt := fun y => br_c (fun e => nm_r (nI_1 q) (h2 (fun z => z.1.1 (hqp e)))) (fun e => yo_in (fun i => br_f uo_10 (br_f uo_10 (h1 ⟨⟨fun e2 => e (congrArg nI e2), i⟩, y⟩))) (fun i => br_t rfl (nm_r (nI_1 q) (h2 (fun z => i z.1.2)))))
      have J0 : ¬ uo_fC nm ve fe cf cx cb q (2 * p + k) → wY_touched_96 post (wY_touched_2 post s (nI p) (nI n) (nI w) inst nm ve fe ne cl pa nf nx nb cf cx cb wn wt f) (wY_touched_22 post (wY_touched_2 post s (nI p) (nI n) (nI w) inst nm ve fe ne cl pa nf nx nb cf cx cb wn wt f) s (nI p) (nI k) (nI (2 * p + k)) (nI n) (nI w) inst nm ve fe ne cl pa nf nx nb cf cx cb wn wt g) s (nI p) (nI k) (nI (2 * p + k)) (nI q) 0 (nI n) (nI w) inst nm ve fe ne cl pa nf nx nb cf cx cb wn wt := fun y => br_c (fun e => nm_r (nI_1 q) (h2 (fun z => z.1.1 (hqp e)))) (fun e => yo_in (fun i => br_f uo_10 (br_t rfl (nm_r (nI_1 q) (h2 (fun z => y z.2))))) (fun i => br_t rfl (nm_r (nI_1 q) (h2 (fun z => i z.1.2)))))
      refine br_f (nI_ge hq (by omega)) ⟨ia, ?_⟩
      rw [e1, e2]
      refine br_c (fun z => ⟨iq, ia, br_c (fun z2 => ⟨iq, ia, br_c (fun z3 => J0 ?_) (fun z3 => J1 (Or.inr ⟨z, z2, Int32.not_lt.mp z3⟩))⟩) (fun z2 => J0 ?_)⟩) (fun z => ⟨ia, yo_of (by omega) (fun y => J1 (Or.inl ⟨z, y⟩)) (fun y => J0 ?_)⟩)
      · rintro (h | h)
        · exact h.1 z
        · exact Int32.not_le.mpr z3 h.2.2
      · rintro (h | h)
        · exact h.1 z
        · exact z2 h.2.1
      · rintro (h | h)
        · exact y h.2
        · exact z h.1
theorem yo_R {post : Int32 → Prop} {s : Int32} (hn : n ≤ 10) (hw : w ≤ 4) (hnm : ∀ j, j < n → ∃ a, a < 5 ∧ nm j = nI a) (hne : ∀ j, ∃ c, c ≤ 2 ∧ ne j = nI c) (hcl : ∀ j, ∃ c, c ≤ 2 ∧ cl j = nI c) (ht : uo_sk n s → uo_R n w nm ve fe ne cl pa nf nx nb cf cx cb wn wt s → post 1) (hf : ¬ (uo_sk n s ∧ uo_R n w nm ve fe ne cl pa nf nx nb cf cx cb wn wt s) → post 0) : wpY_right post (nI n, nI w, inst, nm, ve, fe, ne, cl, pa, nf, nx, nb, cf, cx, cb, wn, wt) s := by
  unfold wpY_right
  dsimp only
  refine yo_set hn (fun k => br_f uo_10 ?_) (fun k => br_t rfl (hf (fun z => k z.1)))
  refine uo_srch (fun f x => wY_right_12 post s (nI n) (nI w) inst nm ve fe ne cl pa nf nx nb cf cx cb wn wt f (nI x)) (fun x => 1 < uo_cn (fun p => uo_in s p ∧ nm p = nI x) n) (post 0) (∃ m, wY_right_37 post s (nI n) (nI w) inst nm ve fe ne cl pa nf nx nb cf cx cb wn wt m 0) 5 ?_ ?_ (fun h => hf (fun z => (uo_nd_y hnm s).mp z.2.1 h)) (fun h1 => ?_)
  · exact fun f h => br_t (nI_le (Nat.le_refl 5) (by decide)) h
  · intro f x hx h1 h2
    refine br_f (nI_ge (b := 5) hx (by decide)) (yo_ct hn ?_)
    have hc := uo_cn_le (fun p => uo_in s p ∧ nm p = nI x) n
    exact pk_le (uo_cn (fun p => uo_in s p ∧ nm p = nI x) n) 1 (fun z => nm_r (nI_1 x) (h2 (Nat.not_lt.mpr z))) (fun z => h1 z)
  · have hnd := (uo_nd_y hnm s).mpr h1
    refine uo_srch (fun f p => wY_right_37 post s (nI n) (nI w) inst nm ve fe ne cl pa nf nx nb cf cx cb wn wt f (nI p)) (fun p => uo_in s p ∧ (uo_bN n nm ve fe ne pa nf nx nb s p ∨ uo_tc n nm ve fe cl cf cx cb s p)) (post 0) (∃ m, wY_right_82 post s (nI n) (nI w) inst nm ve fe ne cl pa nf nx nb cf cx cb wn wt m 0) n ?_ ?_ (fun h => hf (fun z => ?_)) (fun h2 => ?_)
    · exact fun f h => br_t (nI_le (Nat.le_refl n) (by omega)) h
    · intro f p hp g1 g2
      exact br_f (nI_ge hp (by omega)) (yo_in (fun i => br_f uo_10 (yo_nM hn hp hne (fun y => br_f uo_10 (yo_tc hn hp hcl (fun y2 => br_f uo_10 (g1 ⟨i, Or.inr y2⟩)) (fun y2 => br_t rfl (nm_r (nI_1 p) (g2 (fun z => z.2.elim y y2)))))) (fun y => br_t rfl (g1 ⟨i, Or.inl y⟩)))) (fun i => br_t rfl (nm_r (nI_1 p) (g2 (fun z => i z.1)))))
    · rcases uo_Rye.mp h with h | h
      · exact z.2.2.1 h
      · exact z.2.2.2.1 h
    · refine uo_srch (fun f j => wY_right_82 post s (nI n) (nI w) inst nm ve fe ne cl pa nf nx nb cf cx cb wn wt f (nI j)) (fun j => uo_wB n nm wn wt s j) (post 0) (post 1) w ?_ ?_ (fun h => hf (fun z => z.2.2.2.2 h)) (fun h3 => ht k ⟨hnd, fun z => h2 (uo_Rye.mpr (Or.inl z)), fun z => h2 (uo_Rye.mpr (Or.inr z)), h3⟩)
      · exact fun f h => br_t (nI_le (Nat.le_refl w) (by omega)) h
      · intro f j hj g1 g2
        have ej : (nI j).toNatClampNeg = j := nI_clamp (by omega)
        have ij : vp_in (nI j) 4 := vp_in_nI (by omega) (by omega)
        have hc := uo_cn_le (fun p => uo_in s p ∧ nm p = wn j) n
        have hcp := uo_cn_pos (fun p => uo_in s p ∧ nm p = wn j) n
        refine br_f (nI_ge hj (by omega)) ⟨ij, ?_⟩
        rw [ej]
        refine yo_ct hn ?_
        refine pk_le (uo_cn (fun p => uo_in s p ∧ nm p = wn j) n) 0 (fun z => ?_) (fun z => ?_)
        · have y : ¬ uo_hn n nm s (wn j) := fun y => Nat.not_lt.mpr z (hcp.mpr y)
          refine And.intro ij ?_
          rw [ej]
          refine br_c (fun e => nm_r (nI_1 j) (g2 ?_)) (fun e => g1 (Or.inr ⟨y, fun k => e k.symm⟩))
          rintro (h | h)
          · exact y h.1
          · exact h.2 e.symm
        · have y : uo_hn n nm s (wn j) := hcp.mp z
          refine And.intro ij ?_
          rw [ej]
          refine br_c (fun e => nm_r (nI_1 j) (g2 ?_)) (fun e => g1 (Or.inl ⟨y, fun k => e k.symm⟩))
          rintro (h | h)
          · exact h.2 e.symm
          · exact h.1 y
end
end
section
section
variable {n w : Nat} {nm ve fe ne cl pa nf nx nb cf cx cb wn wt : Nat → Int32} {inst : Int32}
theorem yo_nw {post : Int32 → Prop} {x : Int32} (hn : n ≤ 10) (h : post (uo_ty (uo_tp nm ve x n))) : wpY_newest post (nI n, nI w, inst, nm, ve, fe, ne, cl, pa, nf, nx, nb, cf, cx, cb, wn, wt) x := by
  refine uo_det (fun f i (t : Int32) => wY_newest_4 post x (nI n) (nI w) inst nm ve fe ne cl pa nf nx nb cf cx cb wn wt f t (nI i)) (fun i => uo_ty (uo_tp nm ve x i)) n ?_ ?_
  · exact fun f => br_t (nI_le (Nat.le_refl n) (by omega)) h
  · intro f i hi K
    have e : (nI i).toNatClampNeg = i := nI_clamp (by omega)
    have ii : vp_in (nI i) 10 := vp_in_nI (by omega) (by omega)
    refine br_f (nI_ge hi (by omega)) ⟨ii, ?_⟩
    rw [e]
    cases et : uo_tp nm ve x i with
    | none =>
      have en := uo_tp_n et
      by_cases z : nm i = x
      · rw [if_pos z] at en
        rw [en] at K
        exact br_t z (br_t (by decide) (nm_r (nI_1 i) K))
      · rw [if_neg z] at en
        rw [en] at K
        exact br_f z (nm_r (nI_1 i) K)
    | some b =>
      have en := uo_tp_s et
      have hb := (uo_tp_lt i b et).1
      have eb : (nI b).toNatClampNeg = b := nI_clamp (by omega)
      by_cases z : nm i = x
      · refine br_t z (br_f (nI_pos (by omega)) ⟨ii, vp_in_nI (by omega) (by omega), ?_⟩)
        dsimp only [uo_ty]
        rw [eb]
        by_cases z2 : ve b < ve i
        · rw [if_pos ⟨z, z2⟩] at en
          rw [en] at K
          exact br_f (Int32.not_le.mpr z2) (nm_r (nI_1 i) K)
        · rw [if_neg (fun k => z2 k.2)] at en
          rw [en] at K
          exact br_t (Int32.not_lt.mp z2) (nm_r (nI_1 i) K)
      · rw [if_neg (fun k => z k.1)] at en
        rw [en] at K
        exact br_f z (nm_r (nI_1 i) K)
theorem yo_ch {post : Int32 → Prop} {s : Int32} (hn : n ≤ 10) (h : post (nI (uo_ch n inst s))) : wpY_price post (nI n, nI w, inst, nm, ve, fe, ne, cl, pa, nf, nx, nb, cf, cx, cb, wn, wt) s (nI 1) := by
  refine br_t rfl ?_
  refine uo_cnt (fun f i c => wY_price_10 post s (nI n) (nI w) inst nm ve fe ne cl pa nf nx nb cf cx cb wn wt f (nI c) (nI i)) (fun p => ¬ (uo_in s p ↔ uo_in inst p)) n ?_ ?_
  · exact fun f => br_t (nI_le (Nat.le_refl n) (by omega)) h
  · intro f i c hi h1 h2
    refine br_f (nI_ge hi (by omega)) (yo_in (fun y => yo_in (fun z => ?_) (fun z => ?_)) (fun y => yo_in (fun z => ?_) (fun z => ?_)))
    · exact br_t rfl (nm_r (nI_1 i) (h2 (fun k => k ⟨fun _ => z, fun _ => y⟩)))
    · exact br_f (by decide) (nm_r (nI_1 c) (nm_r (nI_1 i) (h1 (fun k => z (k.mp y)))))
    · exact br_f (by decide) (nm_r (nI_1 c) (nm_r (nI_1 i) (h1 (fun k => y (k.mpr z)))))
    · exact br_t rfl (nm_r (nI_1 i) (h2 (fun k => k ⟨fun a => absurd a y, fun a => absurd a z⟩)))
theorem yo_lo {post : Int32 → Prop} {s : Int32} (hn : n ≤ 10) (h : post (nI (uo_lo n nm inst s))) : wpY_price post (nI n, nI w, inst, nm, ve, fe, ne, cl, pa, nf, nx, nb, cf, cx, cb, wn, wt) s (nI 0) := by
  refine br_f (by decide) ?_
  refine uo_cnt (fun f i c => wY_price_53 post s (nI 0) (nI n) (nI w) inst nm ve fe ne cl pa nf nx nb cf cx cb wn wt f (nI c) (nI i)) (fun x => uo_hn n nm inst (nI x) ∧ ¬ uo_hn n nm s (nI x)) 5 ?_ ?_
  · exact fun f => br_t (nI_le (Nat.le_refl 5) (by decide)) h
  · intro f i c hi h1 h2
    have c1 := uo_cn_le (fun p => uo_in s p ∧ nm p = nI i) n
    have c2 := uo_cn_le (fun p => uo_in inst p ∧ nm p = nI i) n
    have p1 := uo_cn_pos (fun p => uo_in s p ∧ nm p = nI i) n
    have p2 := uo_cn_pos (fun p => uo_in inst p ∧ nm p = nI i) n
    refine br_f (nI_ge (b := 5) hi (by decide)) (yo_ct hn (yo_ct hn (yo_nw hn ?_)))
    refine br_t rfl (pk_le (uo_cn (fun p => uo_in inst p ∧ nm p = nI i) n) 0 (fun z => ?_) (fun z => pk_eq (uo_cn (fun p => uo_in s p ∧ nm p = nI i) n) 0 (fun z2 => nm_r (nI_1 c) ?_) (fun z2 => ?_)))
    · exact br_f (by decide) (nm_r (nI_1 i) (h2 (fun k => Nat.not_lt.mpr z (p2.mpr k.1))))
    · exact br_f (by decide) (nm_r (nI_1 i) (h1 ⟨p2.mp z, fun k => absurd z2 (Nat.pos_iff_ne_zero.mp (p1.mpr k))⟩))
    · exact br_f (by decide) (nm_r (nI_1 i) (h2 (fun k => k.2 (p1.mp (Nat.pos_iff_ne_zero.mpr z2)))))
theorem yo_st {post : Int32 → Prop} {s : Int32} (hn : n ≤ 10) (h : post (nI (uo_st n nm ve s))) : wpY_price post (nI n, nI w, inst, nm, ve, fe, ne, cl, pa, nf, nx, nb, cf, cx, cb, wn, wt) s (nI 2) := by
  refine br_f (by decide) ?_
  refine uo_cnt (fun f i c => wY_price_53 post s (nI 2) (nI n) (nI w) inst nm ve fe ne cl pa nf nx nb cf cx cb wn wt f (nI c) (nI i)) (fun x => uo_hn n nm s (nI x) ∧ ¬ uo_in s ((uo_tp nm ve (nI x) n).getD 0)) 5 ?_ ?_
  · exact fun f => br_t (nI_le (Nat.le_refl 5) (by decide)) h
  · intro f i c hi h1 h2
    have c1 := uo_cn_le (fun p => uo_in s p ∧ nm p = nI i) n
    have p1 := uo_cn_pos (fun p => uo_in s p ∧ nm p = nI i) n
    refine br_f (nI_ge (b := 5) hi (by decide)) (yo_ct hn (yo_ct hn (yo_nw hn ?_)))
    refine br_f (by decide) ?_
    refine br_t rfl (pk_le (uo_cn (fun p => uo_in s p ∧ nm p = nI i) n) 0 (fun z => nm_r (nI_1 i) (h2 (fun k => Nat.not_lt.mpr z (p1.mpr k.1)))) (fun z => ?_))
    have y : uo_hn n nm s (nI i) := p1.mp z
    obtain ⟨b, hb, eb⟩ := uo_hn_tp (ve := ve) y
    rw [eb] at h1 h2
    rw [eb]
    exact (yo_in (p := b) (fun v => br_f uo_10 (nm_r (nI_1 i) (h2 (fun k => k.2 v)))) (fun v => br_t rfl (nm_r (nI_1 c) (nm_r (nI_1 i) (h1 ⟨y, v⟩)))))
theorem yo_cheap {post : Int32 → Prop} {s o : Int32} (hn : n ≤ 10) (ht : uo_we n nm ve inst s < uo_we n nm ve inst o → post 1) (hf : ¬ uo_we n nm ve inst s < uo_we n nm ve inst o → post 0) : wpY_cheaper post (nI n, nI w, inst, nm, ve, fe, ne, cl, pa, nf, nx, nb, cf, cx, cb, wn, wt) s o := by
  have l1 : uo_lo n nm inst s ≤ 5 := uo_lo5
  have l2 : uo_lo n nm inst o ≤ 5 := uo_lo5
  have c1 : uo_ch n inst s ≤ n := uo_chn
  have c2 : uo_ch n inst o ≤ n := uo_chn
  have t1 : uo_st n nm ve s ≤ 5 := uo_st5
  have t2 : uo_st n nm ve o ≤ 5 := uo_st5
  have lex : uo_we n nm ve inst s < uo_we n nm ve inst o ↔ (uo_lo n nm inst s < uo_lo n nm inst o ∨ (uo_lo n nm inst s = uo_lo n nm inst o ∧ (uo_ch n inst s < uo_ch n inst o ∨ (uo_ch n inst s = uo_ch n inst o ∧ uo_st n nm ve s < uo_st n nm ve o)))) := uo_lex (by omega) (by omega) t1 t2
  rw [lex] at ht hf
  clear lex
  refine Exists.intro 4 ?_
  refine br_f (by decide) (yo_lo hn (yo_lo hn ?_))
  refine pk_eq (uo_lo n nm inst s) (uo_lo n nm inst o) (fun z1 => nm_r (show (0 : Int32) + 1 = nI 1 from rfl) ?_) (fun z1 => pk_le (uo_lo n nm inst o) (uo_lo n nm inst s) (fun z => hf (by omega)) (fun z => ht (by omega)))
  refine br_f (by decide) (yo_ch hn (yo_ch hn ?_))
  refine pk_eq (uo_ch n inst s) (uo_ch n inst o) (fun z2 => nm_r (show nI 1 + 1 = nI 2 from rfl) ?_) (fun z2 => pk_le (uo_ch n inst o) (uo_ch n inst s) (fun z => hf (by omega)) (fun z => ht (by omega)))
  refine br_f (by decide) (yo_st hn (yo_st hn ?_))
  refine pk_eq (uo_st n nm ve s) (uo_st n nm ve o) (fun z3 => nm_r (show nI 2 + 1 = nI 3 from rfl) ?_) (fun z3 => pk_le (uo_st n nm ve o) (uo_st n nm ve s) (fun z => hf (by omega)) (fun z => ht (by omega)))
  exact br_t (by decide) (hf (by omega))
theorem yo_best {post : Int32 → Prop} (hn : n ≤ 10) (hw : w ≤ 4) (hnm : ∀ j, j < n → ∃ a, a < 5 ∧ nm j = nI a) (hne : ∀ j, ∃ c, c ≤ 2 ∧ ne j = nI c) (hcl : ∀ j, ∃ c, c ≤ 2 ∧ cl j = nI c) (h : post (uo_bx (uo_bf (fun i => uo_R n w nm ve fe ne cl pa nf nx nb cf cx cb wn wt (nI i)) (fun i => uo_we n nm ve inst (nI i)) (2 ^ n)))) : wpY_best post (nI n, nI w, inst, nm, ve, fe, ne, cl, pa, nf, nx, nb, cf, cx, cb, wn, wt) := by
  have hp := uo_pwb n (by omega)
  have hpw := uo_pw n (by omega)
  refine uo_det (fun f i (t : Int32) => wY_best_5 post (nI n) (nI w) inst nm ve fe ne cl pa nf nx nb cf cx cb wn wt f t (nI i)) (fun i => uo_bx (uo_bf (fun i => uo_R n w nm ve fe ne cl pa nf nx nb cf cx cb wn wt (nI i)) (fun i => uo_we n nm ve inst (nI i)) i)) (2 ^ n) ?_ ?_
  · exact fun f => br_t (by rw [hpw]; exact nI_le (Nat.le_refl _) (by omega)) h
  · intro f i hi K
    refine br_f (by rw [hpw]; exact nI_ge hi (by omega)) (yo_R hn hw hnm hne hcl (fun _ y => br_f uo_10 ?_) (fun y => br_t rfl ?_))
    · cases eb : uo_bf (fun i => uo_R n w nm ve fe ne cl pa nf nx nb cf cx cb wn wt (nI i)) (fun i => uo_we n nm ve inst (nI i)) i with
      | none =>
        rw [uo_bf_t (R := fun i => uo_R n w nm ve fe ne cl pa nf nx nb cf cx cb wn wt (nI i)) y (fun b h => by rw [eb] at h; cases h)] at K
        exact br_t rfl (nm_r (nI_1 i) K)
      | some b =>
        have hbi := (uo_bf_lt i b eb).1
        refine br_f (uo_n3 (by omega)) (yo_cheap hn (fun z => br_f uo_10 ?_) (fun z => br_t rfl ?_))
        · rw [uo_bf_t (R := fun i => uo_R n w nm ve fe ne cl pa nf nx nb cf cx cb wn wt (nI i)) y (fun b' h => by rw [eb] at h; cases h; exact z)] at K
          exact nm_r (nI_1 i) K
        · rw [uo_bf_f (R := fun i => uo_R n w nm ve fe ne cl pa nf nx nb cf cx cb wn wt (nI i)) (fun k => z (k.2 b eb)), eb] at K
          exact nm_r (nI_1 i) K
    · rw [uo_bf_f (R := fun i => uo_R n w nm ve fe ne cl pa nf nx nb cf cx cb wn wt (nI i)) (fun k => y ⟨uo_sk_i hn hi, k.1⟩)] at K
      exact nm_r (nI_1 i) K
theorem yo_rs {post : Int32 → Prop} (hn : n ≤ 10) (hw : w ≤ 4) (hnm : ∀ j, j < n → ∃ a, a < 5 ∧ nm j = nI a) (hne : ∀ j, ∃ c, c ≤ 2 ∧ ne j = nI c) (hcl : ∀ j, ∃ c, c ≤ 2 ∧ cl j = nI c) (h : post (nI (uo_cn (fun i => uo_R n w nm ve fe ne cl pa nf nx nb cf cx cb wn wt (nI i)) (2 ^ n)))) : wpY_rightSets post (nI n, nI w, inst, nm, ve, fe, ne, cl, pa, nf, nx, nb, cf, cx, cb, wn, wt) := by
  have hp := uo_pwb n (by omega)
  have hpw := uo_pw n (by omega)
  refine uo_cnt (fun f i c => wY_rightSets_4 post (nI n) (nI w) inst nm ve fe ne cl pa nf nx nb cf cx cb wn wt f (nI c) (nI i)) (fun i => uo_R n w nm ve fe ne cl pa nf nx nb cf cx cb wn wt (nI i)) (2 ^ n) ?_ ?_
  · exact fun f => br_t (by rw [hpw]; exact nI_le (Nat.le_refl _) (by omega)) h
  · intro f i c hi h1 h2
    exact br_f (by rw [hpw]; exact nI_ge hi (by omega)) (yo_R hn hw hnm hne hcl (fun _ y => br_f uo_10 (nm_r (nI_1 c) (nm_r (nI_1 i) (h1 y)))) (fun y => br_t rfl (nm_r (nI_1 i) (h2 (fun k => y ⟨uo_sk_i hn hi, k⟩)))))
noncomputable def uo_cv (n : Nat) (nm ve : Nat → Int32) (inst : Int32) : Nat → Option Nat → Int32
  | _, none => -3
  | 0, some b => nI (uo_lo n nm inst (nI b))
  | 1, some b => nI (uo_ch n inst (nI b))
  | _, some b => nI (uo_st n nm ve (nI b))
theorem xo_cost {post : Int32 → Prop} {j : Nat} (hj : j < 3) (hve : ∀ j, j < n → 0 < ve j) (hpa : ∀ j k, k < (ne j).toNatClampNeg → pa (2 * j + k) = 1 ∨ pa (2 * j + k) = 2) (hn : n ≤ 10) (hw : w ≤ 4) (hnm : ∀ j, j < n → ∃ a, a < 5 ∧ nm j = nI a) (hne : ∀ j, ∃ c, c ≤ 2 ∧ ne j = nI c) (hcl : ∀ j, ∃ c, c ≤ 2 ∧ cl j = nI c) (h : post (uo_cv n nm ve inst j (uo_bf (fun i => uo_R n w nm ve fe ne cl pa nf nx nb cf cx cb wn wt (nI i)) (fun i => uo_we n nm ve inst (nI i)) (2 ^ n)))) : wpX_cost post (nI n, nI w, inst, nm, ve, fe, ne, cl, pa, nf, nx, nb, cf, cx, cb, wn, wt) (nI j) := by
  have hp := uo_pwb n (by omega)
  refine br_f (nI_pos (by omega)) (br_t (nI_lt (b := 3) hj (by decide)) (xo_best hn hw hnm hve hne hcl hpa ?_))
  cases eb : uo_bf (fun i => uo_R n w nm ve fe ne cl pa nf nx nb cf cx cb wn wt (nI i)) (fun i => uo_we n nm ve inst (nI i)) (2 ^ n) with
  | none =>
    rw [eb] at h
    have h' : post (-3) := by
      have : j = 0 ∨ j = 1 ∨ j = 2 := by omega
      rcases this with e | e | e <;> subst e <;> exact h
    exact br_t rfl h'
  | some b =>
    rw [eb] at h
    have hb := (uo_bf_lt _ b eb).1
    refine br_f (uo_n3 (by omega)) ?_
    have hj3 : j = 0 ∨ j = 1 ∨ j = 2 := by omega
    rcases hj3 with e | e | e
    · subst e
      exact br_t rfl (xo_lo hn h)
    · subst e
      exact br_f (by decide) (br_t rfl (xo_ch hn h))
    · subst e
      exact br_f (by decide) (br_f (by decide) (xo_st hn hve h))
theorem yo_cost {post : Int32 → Prop} {j : Nat} (hj : j < 3) (hn : n ≤ 10) (hw : w ≤ 4) (hnm : ∀ j, j < n → ∃ a, a < 5 ∧ nm j = nI a) (hne : ∀ j, ∃ c, c ≤ 2 ∧ ne j = nI c) (hcl : ∀ j, ∃ c, c ≤ 2 ∧ cl j = nI c) (h : post (uo_cv n nm ve inst j (uo_bf (fun i => uo_R n w nm ve fe ne cl pa nf nx nb cf cx cb wn wt (nI i)) (fun i => uo_we n nm ve inst (nI i)) (2 ^ n)))) : wpY_cost post (nI n, nI w, inst, nm, ve, fe, ne, cl, pa, nf, nx, nb, cf, cx, cb, wn, wt) (nI j) := by
  have hp := uo_pwb n (by omega)
  refine br_f (nI_pos (by omega)) (br_t (nI_le (b := 2) (by omega) (by decide)) (yo_best hn hw hnm hne hcl ?_))
  cases eb : uo_bf (fun i => uo_R n w nm ve fe ne cl pa nf nx nb cf cx cb wn wt (nI i)) (fun i => uo_we n nm ve inst (nI i)) (2 ^ n) with
  | none =>
    rw [eb] at h
    have h' : post (-3) := by
      have : j = 0 ∨ j = 1 ∨ j = 2 := by omega
      rcases this with e | e | e <;> subst e <;> exact h
    exact br_t rfl h'
  | some b =>
    rw [eb] at h
    have hb := (uo_bf_lt _ b eb).1
    refine br_f (uo_n3 (by omega)) ?_
    have hj3 : j = 0 ∨ j = 1 ∨ j = 2 := by omega
    rcases hj3 with e | e | e
    · subst e
      exact yo_lo hn h
    · subst e
      exact yo_ch hn h
    · subst e
      exact yo_st hn h
end
end
section
section
variable {n w : Nat} {nm ve fe ne cl pa nf nx nb cf cx cb wn wt : Nat → Int32} {inst : Int32}
def uo_rg (x : Int32) (a b : Int) : Prop := a ≤ x.toInt ∧ x.toInt ≤ b
theorem uo_rg_lo {x y : Int32} {a b : Int} (h : uo_rg x a b) (e : y.toInt = a) : ¬ x < y := by
  rw [Int32.lt_iff_toInt_lt, e]
  exact Int.not_lt.mpr h.1
theorem uo_rg_hi {x y : Int32} {a b : Int} (h : uo_rg x a b) (e : y.toInt = b) : ¬ y < x := by
  rw [Int32.lt_iff_toInt_lt, e]
  exact Int.not_lt.mpr h.2
theorem uo_rg_h2 {x y : Int32} {a b : Int} (h : uo_rg x a b) (e : y.toInt = b + 1) : ¬ y ≤ x := by
  rw [Int32.le_iff_toInt_le, e]
  have := h.2
  omega
theorem uo_rg_l2 {x y : Int32} {a b : Int} (h : uo_rg x a b) (e : y.toInt = a) : y ≤ x := by
  rw [Int32.le_iff_toInt_le, e]
  exact h.1
theorem uo_rg_mk {x y z : Int32} {a b : Int} (h1 : ¬ x < y) (e1 : y.toInt = a) (h2 : ¬ z < x) (e2 : z.toInt = b) : uo_rg x a b := by
  rw [Int32.lt_iff_toInt_lt] at h1 h2
  unfold uo_rg
  omega
theorem uo_rg_m2 {x y z : Int32} {a b : Int} (h1 : ¬ x < y) (e1 : y.toInt = a) (h2 : ¬ z ≤ x) (e2 : z.toInt = b + 1) : uo_rg x a b := by
  rw [Int32.lt_iff_toInt_lt] at h1
  rw [Int32.le_iff_toInt_le] at h2
  unfold uo_rg
  omega
def uo_okP (f x b : Int32) : Prop := (¬ f = 0 ∧ uo_rg x 0 3) ∨ (f = 0 ∧ uo_rg x 0 4 ∧ uo_rg b 1 9)
theorem uo_ofI {x : Int32} {N : Nat} (h0 : 0 ≤ x.toInt) (h : x.toInt < N) : ∃ j : Nat, j < N ∧ x = nI j := by
  have t0 : (0 : Int32).toInt = 0 := by decide
  obtain ⟨j, hj, e⟩ := nI_of (x := x) (by rw [Int32.lt_iff_toInt_lt, t0]; omega)
  rw [e, nI_toInt hj] at h
  exact ⟨j, by omega, e⟩
theorem xo_isName {post : Int32 → Prop} {x : Int32} (ht : uo_rg x 0 4 → post 1) (hf : ¬ uo_rg x 0 4 → post 0) : wpX_isName post x :=
  br_c (fun h => hf (fun k => uo_rg_lo k (by decide) h)) (fun h => br_c (fun h2 => hf (fun k => uo_rg_h2 k (by decide) h2)) (fun h2 => ht (uo_rg_m2 h (by decide) h2 (by decide))))
theorem xo_isVer {post : Int32 → Prop} {x : Int32} (ht : uo_rg x 1 9 → post 1) (hf : ¬ uo_rg x 1 9 → post 0) : wpX_isVersion post x :=
  br_c (fun h => hf (fun k => uo_rg_lo k (by decide) h)) (fun h => br_c (fun h2 => hf (fun k => uo_rg_hi k (by decide) h2)) (fun h2 => ht (uo_rg_mk h (by decide) h2 (by decide))))
theorem xo_isPat {post : Int32 → Prop} {f x b : Int32} (ht : uo_okP f x b → post 1) (hf : ¬ uo_okP f x b → post 0) : wpX_isPattern post f x b := by
  refine br_c (fun h => ?_) (fun h => ?_)
  · refine xo_isName (fun h2 => br_f uo_10 (xo_isVer (fun h3 => br_f uo_10 (ht (Or.inr ⟨h, h2, h3⟩))) (fun h3 => br_t rfl (hf ?_)))) (fun h2 => br_t rfl (hf ?_))
    · rintro (k | k)
      · exact k.1 h
      · exact h3 k.2.2
    · rintro (k | k)
      · exact k.1 h
      · exact h2 k.2.1
  · refine br_c (fun h2 => hf ?_) (fun h2 => br_c (fun h3 => hf ?_) (fun h3 => ht (Or.inl ⟨h, uo_rg_m2 h2 (by decide) h3 (by decide)⟩)))
    · rintro (k | k)
      · exact uo_rg_lo k.2 (by decide) h2
      · exact h k.1
    · rintro (k | k)
      · exact uo_rg_h2 k.2 (by decide) h3
      · exact h k.1
theorem xo_pk1 {post : Int32 → Prop} {j : Nat} (hn : n ≤ 10) (hj : j < n) (h : post 1) : wpX_isPackage post (nI n, nI w, inst, nm, ve, fe, ne, cl, pa, nf, nx, nb, cf, cx, cb, wn, wt) (nI j) := br_f (nI_pos (by omega)) (br_f (nI_ge hj (by omega)) h)
theorem xo_pk0 {post : Int32 → Prop} {p : Int32} (hn : n ≤ 10) (hp : ¬ ∃ j, j < n ∧ p = nI j) (h : post 0) : wpX_isPackage post (nI n, nI w, inst, nm, ve, fe, ne, cl, pa, nf, nx, nb, cf, cx, cb, wn, wt) p := by
  refine br_c (fun _ => h) (fun h1 => br_c (fun _ => h) (fun h2 => ?_))
  rcases pk_ix p (n := n) (by omega) with k | k | k
  · exact absurd k h1
  · exact absurd k h2
  · exact absurd k hp
theorem yo_ff0 {post : Int32 → Prop} {p f x b : Int32} (hn : n ≤ 10) (hp : ¬ ∃ j, j < n ∧ p = nI j) (h : post 0) : wpY_fitsForm post (nI n, nI w, inst, nm, ve, fe, ne, cl, pa, nf, nx, nb, cf, cx, cb, wn, wt) p f x b := by
  refine br_c (fun _ => h) (fun h1 => br_c (fun _ => h) (fun h2 => ?_))
  rcases pk_ix p (n := n) (by omega) with k | k | k
  · exact absurd k h1
  · exact absurd k h2
  · exact absurd k hp
theorem yo_ff1 {post : Int32 → Prop} {j : Nat} {f x b : Int32} (hn : n ≤ 10) (hj : j < n) (ht : uo_okP f x b → post 1) (hf : ¬ uo_okP f x b → post 0) : wpY_fitsForm post (nI n, nI w, inst, nm, ve, fe, ne, cl, pa, nf, nx, nb, cf, cx, cb, wn, wt) (nI j) f x b := by
  refine br_f (nI_pos (by omega)) (br_f (nI_ge hj (by omega)) (br_c (fun hx => br_c (fun h => br_c (fun h4 => hf ?_) (fun h4 => br_c (fun h1 => hf ?_) (fun h1 => br_c (fun h9 => hf ?_) (fun h9 => ht (Or.inr ⟨h, uo_rg_mk (Int32.not_lt.mpr hx) (by decide) h4 (by decide), uo_rg_mk h1 (by decide) h9 (by decide)⟩))))) (fun h => br_c (fun h3 => hf ?_) (fun h3 => ht (Or.inl ⟨h, uo_rg_mk (Int32.not_lt.mpr hx) (by decide) h3 (by decide)⟩)))) (fun hx => hf ?_)))
  · rintro (k | k)
    · exact k.1 h
    · exact uo_rg_hi k.2.1 (by decide) h4
  · rintro (k | k)
    · exact k.1 h
    · exact uo_rg_lo k.2.2 (by decide) h1
  · rintro (k | k)
    · exact k.1 h
    · exact uo_rg_hi k.2.2 (by decide) h9
  · rintro (k | k)
    · exact uo_rg_hi k.2 (by decide) h3
    · exact h k.1
  · rintro (k | k)
    · exact hx (uo_rg_l2 k.2 (by decide))
    · exact hx (uo_rg_l2 k.2.1 (by decide))
theorem xo_known {post : Int32 → Prop} {a b : Int32} (hn : n ≤ 10) (ht : (∃ p, p < n ∧ nm p = a ∧ ve p = b) → post 1) (hf : (¬ ∃ p, p < n ∧ nm p = a ∧ ve p = b) → post 0) : wpX_isKnown post (nI n, nI w, inst, nm, ve, fe, ne, cl, pa, nf, nx, nb, cf, cx, cb, wn, wt) a b := by
  refine uo_srch (fun f i => wX_isKnown_2 post a b (nI n) (nI w) inst nm ve fe ne cl pa nf nx nb cf cx cb wn wt f (nI i)) (fun p => nm p = a ∧ ve p = b) (post 1) (post 0) n ?_ ?_ ht hf
  · exact fun f h => br_t (nI_le (Nat.le_refl n) (by omega)) h
  · intro f i hi h1 h2
    have e : (nI i).toNatClampNeg = i := nI_clamp (by omega)
    have ii : vp_in (nI i) 10 := vp_in_nI (by omega) (by omega)
    refine br_f (nI_ge hi (by omega)) ⟨ii, ?_⟩
    rw [e]
    exact br_c (fun z => ⟨ii, br_c (fun y => h1 ⟨z, y⟩) (fun y => nm_r (nI_1 i) (h2 (fun k => y k.2)))⟩) (fun z => nm_r (nI_1 i) (h2 (fun k => z k.1)))
theorem xo_add {post : Int32 → SX → Prop} {a b c : Int32} (hn : n ≤ 10) (hF : n = 10 → post (-2) (nI n, nI w, inst, nm, ve, fe, ne, cl, pa, nf, nx, nb, cf, cx, cb, wn, wt)) (hB : n ≠ 10 → ¬ (uo_rg a 0 4 ∧ uo_rg b 1 9 ∧ uo_rg c 0 15) → post (-1) (nI n, nI w, inst, nm, ve, fe, ne, cl, pa, nf, nx, nb, cf, cx, cb, wn, wt)) (hK : n ≠ 10 → (uo_rg a 0 4 ∧ uo_rg b 1 9 ∧ uo_rg c 0 15) → (∃ p, p < n ∧ nm p = a ∧ ve p = b) → post (-1) (nI n, nI w, inst, nm, ve, fe, ne, cl, pa, nf, nx, nb, cf, cx, cb, wn, wt)) (hN : n ≠ 10 → (uo_rg a 0 4 ∧ uo_rg b 1 9 ∧ uo_rg c 0 15) → (¬ ∃ p, p < n ∧ nm p = a ∧ ve p = b) → post (nI n) (nI (n + 1), nI w, inst, upd nm n a, upd ve n b, upd fe n c, ne, cl, pa, nf, nx, nb, cf, cx, cb, wn, wt)) : wpX_addPackage post (nI n, nI w, inst, nm, ve, fe, ne, cl, pa, nf, nx, nb, cf, cx, cb, wn, wt) a b c := by
  unfold wpX_addPackage
  dsimp only
  have en : (nI n).toNatClampNeg = n := nI_clamp (by omega)
  refine pk_lt n 10 (fun hl => ?_) (fun hl => hF (by omega))
  have h10 : n ≠ 10 := by omega
  refine xo_isName (fun h1 => br_f uo_10 ?_) (fun h1 => br_t rfl (hB h10 (fun k => h1 k.1)))
  refine xo_isVer (fun h2 => br_f uo_10 ?_) (fun h2 => br_t rfl (hB h10 (fun k => h2 k.2.1)))
  refine br_c (fun h3 => hB h10 (fun k => uo_rg_lo k.2.2 (by decide) h3)) (fun h3 => br_c (fun h4 => ?_) (fun h4 => hB h10 (fun k => h4 (Int32.not_le.mp (uo_rg_h2 k.2.2 (by decide))))))
  have hr : uo_rg c 0 15 := uo_rg_m2 h3 (by decide) (Int32.not_le.mpr h4) (by decide)
  refine xo_known hn (fun hk => br_f uo_10 (hK h10 ⟨h1, h2, hr⟩ hk)) (fun hk => br_t rfl ?_)
  have ip : vp_in (nI n) 10 := vp_in_nI hl (by omega)
  refine ⟨ip, nm_e ⟨ip, nm_e ⟨ip, nm_e (nm_r (nI_1 n) ?_)⟩⟩⟩
  rw [en]
  exact hN h10 ⟨h1, h2, hr⟩ hk
theorem yo_add {post : Int32 → SY → Prop} {a b c : Int32} (hn : n ≤ 10) (hF : n = 10 → post (-2) (nI n, nI w, inst, nm, ve, fe, ne, cl, pa, nf, nx, nb, cf, cx, cb, wn, wt)) (hB : n ≠ 10 → ¬ (uo_rg a 0 4 ∧ uo_rg b 1 9 ∧ uo_rg c 0 15) → post (-1) (nI n, nI w, inst, nm, ve, fe, ne, cl, pa, nf, nx, nb, cf, cx, cb, wn, wt)) (hK : n ≠ 10 → (uo_rg a 0 4 ∧ uo_rg b 1 9 ∧ uo_rg c 0 15) → (∃ p, p < n ∧ nm p = a ∧ ve p = b) → post (-1) (nI n, nI w, inst, nm, ve, fe, ne, cl, pa, nf, nx, nb, cf, cx, cb, wn, wt)) (hN : n ≠ 10 → (uo_rg a 0 4 ∧ uo_rg b 1 9 ∧ uo_rg c 0 15) → (¬ ∃ p, p < n ∧ nm p = a ∧ ve p = b) → post (nI n) (nI (n + 1), nI w, inst, upd nm n a, upd ve n b, upd fe n c, upd ne n 0, upd cl n 0, pa, nf, nx, nb, cf, cx, cb, wn, wt)) : wpY_addPackage post (nI n, nI w, inst, nm, ve, fe, ne, cl, pa, nf, nx, nb, cf, cx, cb, wn, wt) a b c := by
  unfold wpY_addPackage
  dsimp only
  have en : (nI n).toNatClampNeg = n := nI_clamp (by omega)
  refine pk_eq n 10 (fun h => hF h) (fun h10 => ?_)
  have ip : vp_in (nI n) 10 := vp_in_nI (by omega) (by omega)
  refine br_c (fun h => hB h10 (fun k => uo_rg_lo k.1 (by decide) h)) (fun g0 => ?_)
  refine br_c (fun h => hB h10 (fun k => uo_rg_hi k.1 (by decide) h)) (fun g1 => ?_)
  refine br_c (fun h => hB h10 (fun k => uo_rg_lo k.2.1 (by decide) h)) (fun g2 => ?_)
  refine br_c (fun h => hB h10 (fun k => uo_rg_hi k.2.1 (by decide) h)) (fun g3 => ?_)
  refine br_c (fun h => hB h10 (fun k => uo_rg_lo k.2.2 (by decide) h)) (fun g4 => ?_)
  refine br_c (fun g5 => ?_) (fun h => hB h10 (fun k => h (Int32.not_lt.mp (uo_rg_hi k.2.2 (by decide)))))
  have ok : uo_rg a 0 4 ∧ uo_rg b 1 9 ∧ uo_rg c 0 15 := ⟨uo_rg_mk g0 (by decide) g1 (by decide), uo_rg_mk g2 (by decide) g3 (by decide), uo_rg_mk g4 (by decide) (Int32.not_lt.mpr g5) (by decide)⟩
  refine uo_srch (fun f i => wY_addPackage_47 post a b c (nI n) (nI w) inst nm ve fe ne cl pa nf nx nb cf cx cb wn wt f (nI i)) (fun p => nm p = a ∧ ve p = b) (post (-1) (nI n, nI w, inst, nm, ve, fe, ne, cl, pa, nf, nx, nb, cf, cx, cb, wn, wt)) (post (nI n) (nI (n + 1), nI w, inst, upd nm n a, upd ve n b, upd fe n c, upd ne n 0, upd cl n 0, pa, nf, nx, nb, cf, cx, cb, wn, wt)) n ?_ ?_ (fun h => hK h10 ok h) (fun h => hN h10 ok h)
  · intro f h
    refine br_t (nI_le (Nat.le_refl n) (by omega)) ⟨ip, nm_e ⟨ip, nm_e ⟨ip, nm_e ⟨ip, nm_e ⟨ip, nm_e (nm_r (nI_1 n) ?_)⟩⟩⟩⟩⟩
    rw [en, nI_pred]
    exact h
  · intro f i hi h1 h2
    have e : (nI i).toNatClampNeg = i := nI_clamp (by omega)
    have ii : vp_in (nI i) 10 := vp_in_nI (by omega) (by omega)
    refine br_f (nI_ge hi (by omega)) ⟨ii, ?_⟩
    rw [e]
    exact br_c (fun z => ⟨ii, br_c (fun y => h1 ⟨z, y⟩) (fun y => nm_r (nI_1 i) (h2 (fun k => y k.2)))⟩) (fun z => nm_r (nI_1 i) (h2 (fun k => z k.1)))
end
end
section
section
variable {n w : Nat} {nm ve fe ne cl pa nf nx nb cf cx cb wn wt : Nat → Int32} {inst : Int32}
theorem xo_sp {post : SX → Prop} {a : Nat} {f x b : Int32} (ha : a < 40) (h : post (nI n, nI w, inst, nm, ve, fe, ne, cl, pa, upd nf a (vp_nar .boolean f), upd nx a x, upd nb a b, cf, cx, cb, wn, wt)) : wpX_setNeedPattern post (nI n, nI w, inst, nm, ve, fe, ne, cl, pa, nf, nx, nb, cf, cx, cb, wn, wt) (nI a) f x b := by
  have e : (nI a).toNatClampNeg = a := nI_clamp (by omega)
  have ia : vp_in (nI a) 40 := vp_in_nI ha (by omega)
  unfold wpX_setNeedPattern
  dsimp only
  rw [e]
  exact ⟨ia, nm_e ⟨ia, nm_e ⟨ia, nm_e h⟩⟩⟩
theorem yo_sp {post : SY → Prop} {a : Nat} {f x b : Int32} (ha : a < 40) (h : post (nI n, nI w, inst, nm, ve, fe, ne, cl, pa, upd nf a (vp_nar .boolean f), upd nx a x, upd nb a b, cf, cx, cb, wn, wt)) : wpY_setPattern post (nI n, nI w, inst, nm, ve, fe, ne, cl, pa, nf, nx, nb, cf, cx, cb, wn, wt) (nI a) f x b := by
  have e : (nI a).toNatClampNeg = a := nI_clamp (by omega)
  have ia : vp_in (nI a) 40 := vp_in_nI ha (by omega)
  unfold wpY_setPattern
  dsimp only
  rw [e]
  exact ⟨ia, nm_e ⟨ia, nm_e ⟨ia, nm_e h⟩⟩⟩
theorem uo_dx (m : Nat) : nI m * 2 = nI (2 * m) := by
  rw [show (2 : Int32) = nI 2 from rfl, pk_mul, Nat.mul_comm]
theorem uo_dy (m : Nat) : 2 * nI m = nI (2 * m) := pk_mul 2 m
theorem xo_need0 {post : Int32 → SX → Prop} {p f x b : Int32} (hn : n ≤ 10) (hp : ¬ ∃ j, j < n ∧ p = nI j) (h : post (-1) (nI n, nI w, inst, nm, ve, fe, ne, cl, pa, nf, nx, nb, cf, cx, cb, wn, wt)) : wpX_need post (nI n, nI w, inst, nm, ve, fe, ne, cl, pa, nf, nx, nb, cf, cx, cb, wn, wt) p f x b := by
  unfold wpX_need
  dsimp only
  exact xo_pk0 hn hp (br_t rfl h)
theorem yo_need0 {post : Int32 → SY → Prop} {p f x b : Int32} (hn : n ≤ 10) (hp : ¬ ∃ j, j < n ∧ p = nI j) (h : post (-1) (nI n, nI w, inst, nm, ve, fe, ne, cl, pa, nf, nx, nb, cf, cx, cb, wn, wt)) : wpY_need post (nI n, nI w, inst, nm, ve, fe, ne, cl, pa, nf, nx, nb, cf, cx, cb, wn, wt) p f x b := by
  unfold wpY_need
  dsimp only
  exact yo_ff0 hn hp (br_t rfl h)
theorem xo_or0 {post : Int32 → SX → Prop} {p f x b : Int32} (hn : n ≤ 10) (hp : ¬ ∃ j, j < n ∧ p = nI j) (h : post (-1) (nI n, nI w, inst, nm, ve, fe, ne, cl, pa, nf, nx, nb, cf, cx, cb, wn, wt)) : wpX_orNeed post (nI n, nI w, inst, nm, ve, fe, ne, cl, pa, nf, nx, nb, cf, cx, cb, wn, wt) p f x b := by
  unfold wpX_orNeed
  dsimp only
  exact xo_pk0 hn hp (br_t rfl h)
theorem yo_or0 {post : Int32 → SY → Prop} {p f x b : Int32} (hn : n ≤ 10) (hp : ¬ ∃ j, j < n ∧ p = nI j) (h : post (-1) (nI n, nI w, inst, nm, ve, fe, ne, cl, pa, nf, nx, nb, cf, cx, cb, wn, wt)) : wpY_orNeed post (nI n, nI w, inst, nm, ve, fe, ne, cl, pa, nf, nx, nb, cf, cx, cb, wn, wt) p f x b := by
  unfold wpY_orNeed
  dsimp only
  exact yo_ff0 hn hp (br_t rfl h)
theorem xo_cl0 {post : Int32 → SX → Prop} {p f x b : Int32} (hn : n ≤ 10) (hp : ¬ ∃ j, j < n ∧ p = nI j) (h : post (-1) (nI n, nI w, inst, nm, ve, fe, ne, cl, pa, nf, nx, nb, cf, cx, cb, wn, wt)) : wpX_clash post (nI n, nI w, inst, nm, ve, fe, ne, cl, pa, nf, nx, nb, cf, cx, cb, wn, wt) p f x b := by
  unfold wpX_clash
  dsimp only
  exact xo_pk0 hn hp (br_t rfl h)
theorem yo_cl0 {post : Int32 → SY → Prop} {p f x b : Int32} (hn : n ≤ 10) (hp : ¬ ∃ j, j < n ∧ p = nI j) (h : post (-1) (nI n, nI w, inst, nm, ve, fe, ne, cl, pa, nf, nx, nb, cf, cx, cb, wn, wt)) : wpY_clash post (nI n, nI w, inst, nm, ve, fe, ne, cl, pa, nf, nx, nb, cf, cx, cb, wn, wt) p f x b := by
  unfold wpY_clash
  dsimp only
  exact yo_ff0 hn hp (br_t rfl h)
theorem xo_need1 {post : Int32 → SX → Prop} {j c : Nat} {f x b : Int32} (hn : n ≤ 10) (hj : j < n) (hc : c ≤ 2) (ec : ne j = nI c) (hB : ¬ uo_okP f x b → post (-1) (nI n, nI w, inst, nm, ve, fe, ne, cl, pa, nf, nx, nb, cf, cx, cb, wn, wt)) (hF : uo_okP f x b → c = 2 → post (-2) (nI n, nI w, inst, nm, ve, fe, ne, cl, pa, nf, nx, nb, cf, cx, cb, wn, wt)) (hN : uo_okP f x b → c < 2 → post (nI (c + 1)) (nI n, nI w, inst, nm, ve, fe, upd ne j (nI (c + 1)), cl, upd pa (2 * j + c) 1, upd nf (2 * (2 * j + c)) (vp_nar .boolean f), upd nx (2 * (2 * j + c)) x, upd nb (2 * (2 * j + c)) b, cf, cx, cb, wn, wt)) : wpX_need post (nI n, nI w, inst, nm, ve, fe, ne, cl, pa, nf, nx, nb, cf, cx, cb, wn, wt) (nI j) f x b := by
  have ej : (nI j).toNatClampNeg = j := nI_clamp (by omega)
  have ij : vp_in (nI j) 10 := vp_in_nI (by omega) (by omega)
  unfold wpX_need
  dsimp only
  refine xo_pk1 hn hj (br_f uo_10 ?_)
  refine xo_isPat (fun h => br_f uo_10 ⟨ij, ?_⟩) (fun h => br_t rfl (hB h))
  rw [ej, ec]
  refine nm_e (pk_lt c 2 (fun h2 => nm_r (uo_ix j c) ?_) (fun h2 => hF h (by omega)))
  have e2 : (nI (2 * j + c)).toNatClampNeg = 2 * j + c := nI_clamp (by omega)
  rw [uo_dx]
  refine xo_sp (by omega) ?_
  dsimp only
  refine ⟨vp_in_nI (by omega) (by omega), nm_e ⟨ij, nm_e ?_⟩⟩
  rw [e2, nI_1 c]
  exact hN h h2
theorem yo_need1 {post : Int32 → SY → Prop} {j c : Nat} {f x b : Int32} (hn : n ≤ 10) (hj : j < n) (hc : c ≤ 2) (ec : ne j = nI c) (hB : ¬ uo_okP f x b → post (-1) (nI n, nI w, inst, nm, ve, fe, ne, cl, pa, nf, nx, nb, cf, cx, cb, wn, wt)) (hF : uo_okP f x b → c = 2 → post (-2) (nI n, nI w, inst, nm, ve, fe, ne, cl, pa, nf, nx, nb, cf, cx, cb, wn, wt)) (hN : uo_okP f x b → c < 2 → post (nI (c + 1)) (nI n, nI w, inst, nm, ve, fe, upd ne j (nI (c + 1)), cl, upd pa (2 * j + c) 1, upd nf (2 * (2 * j + c)) (vp_nar .boolean f), upd nx (2 * (2 * j + c)) x, upd nb (2 * (2 * j + c)) b, cf, cx, cb, wn, wt)) : wpY_need post (nI n, nI w, inst, nm, ve, fe, ne, cl, pa, nf, nx, nb, cf, cx, cb, wn, wt) (nI j) f x b := by
  have ej : (nI j).toNatClampNeg = j := nI_clamp (by omega)
  have ij : vp_in (nI j) 10 := vp_in_nI (by omega) (by omega)
  unfold wpY_need
  dsimp only
  refine yo_ff1 hn hj (fun h => br_f uo_10 ⟨ij, ?_⟩) (fun h => br_t rfl (hB h))
  rw [ej, ec]
  refine pk_eq c 2 (fun h2 => hF h h2) (fun h2 => ⟨ij, nm_r (uo_iy j c) ?_⟩)
  have e2 : (nI (2 * j + c)).toNatClampNeg = 2 * j + c := nI_clamp (by omega)
  rw [uo_dy]
  refine yo_sp (by omega) ?_
  dsimp only
  refine ⟨vp_in_nI (by omega) (by omega), nm_e ⟨ij, ij, nm_e ⟨ij, ?_⟩⟩⟩
  rw [e2, ec, pk_us, nI_1 c]
  exact hN h (by omega)
theorem xo_orZ {post : Int32 → SX → Prop} {j : Nat} {f x b : Int32} (hn : n ≤ 10) (hj : j < n) (ec : ne j = 0) (hB : ¬ uo_okP f x b → post (-1) (nI n, nI w, inst, nm, ve, fe, ne, cl, pa, nf, nx, nb, cf, cx, cb, wn, wt)) (hZ : uo_okP f x b → post (-3) (nI n, nI w, inst, nm, ve, fe, ne, cl, pa, nf, nx, nb, cf, cx, cb, wn, wt)) : wpX_orNeed post (nI n, nI w, inst, nm, ve, fe, ne, cl, pa, nf, nx, nb, cf, cx, cb, wn, wt) (nI j) f x b := by
  have ej : (nI j).toNatClampNeg = j := nI_clamp (by omega)
  have ij : vp_in (nI j) 10 := vp_in_nI (by omega) (by omega)
  unfold wpX_orNeed
  dsimp only
  refine xo_pk1 hn hj (br_f uo_10 ?_)
  refine xo_isPat (fun h => br_f uo_10 ⟨ij, ?_⟩) (fun h => br_t rfl (hB h))
  rw [ej, ec]
  exact br_t rfl (hZ h)
theorem yo_orZ {post : Int32 → SY → Prop} {j : Nat} {f x b : Int32} (hn : n ≤ 10) (hj : j < n) (ec : ne j = 0) (hB : ¬ uo_okP f x b → post (-1) (nI n, nI w, inst, nm, ve, fe, ne, cl, pa, nf, nx, nb, cf, cx, cb, wn, wt)) (hZ : uo_okP f x b → post (-3) (nI n, nI w, inst, nm, ve, fe, ne, cl, pa, nf, nx, nb, cf, cx, cb, wn, wt)) : wpY_orNeed post (nI n, nI w, inst, nm, ve, fe, ne, cl, pa, nf, nx, nb, cf, cx, cb, wn, wt) (nI j) f x b := by
  have ej : (nI j).toNatClampNeg = j := nI_clamp (by omega)
  have ij : vp_in (nI j) 10 := vp_in_nI (by omega) (by omega)
  unfold wpY_orNeed
  dsimp only
  refine yo_ff1 hn hj (fun h => br_f uo_10 ⟨ij, ?_⟩) (fun h => br_t rfl (hB h))
  rw [ej, ec]
  exact br_t rfl (hZ h)
theorem xo_orS {post : Int32 → SX → Prop} {j d : Nat} {f x b : Int32} (hn : n ≤ 10) (hj : j < n) (hd : d < 2) (ec : ne j = nI (d + 1)) (hq : pa (2 * j + d) = 1 ∨ pa (2 * j + d) = 2) (hB : ¬ uo_okP f x b → post (-1) (nI n, nI w, inst, nm, ve, fe, ne, cl, pa, nf, nx, nb, cf, cx, cb, wn, wt)) (hF : uo_okP f x b → pa (2 * j + d) = 2 → post (-2) (nI n, nI w, inst, nm, ve, fe, ne, cl, pa, nf, nx, nb, cf, cx, cb, wn, wt)) (hN : uo_okP f x b → pa (2 * j + d) = 1 → post 2 (nI n, nI w, inst, nm, ve, fe, ne, cl, upd pa (2 * j + d) 2, upd nf (2 * (2 * j + d) + 1) (vp_nar .boolean f), upd nx (2 * (2 * j + d) + 1) x, upd nb (2 * (2 * j + d) + 1) b, cf, cx, cb, wn, wt)) : wpX_orNeed post (nI n, nI w, inst, nm, ve, fe, ne, cl, pa, nf, nx, nb, cf, cx, cb, wn, wt) (nI j) f x b := by
  have ej : (nI j).toNatClampNeg = j := nI_clamp (by omega)
  have ij : vp_in (nI j) 10 := vp_in_nI (by omega) (by omega)
  have e2 : (nI (2 * j + d)).toNatClampNeg = 2 * j + d := nI_clamp (by omega)
  have i2 : vp_in (nI (2 * j + d)) 20 := vp_in_nI (by omega) (by omega)
  have e5 : nI j * 2 + nI (d + 1) - 1 = nI (2 * j + d) := by rw [uo_ix]; exact nI_pred (2 * j + d)
  unfold wpX_orNeed
  dsimp only
  refine xo_pk1 hn hj (br_f uo_10 ?_)
  refine xo_isPat (fun h => br_f uo_10 ⟨ij, ?_⟩) (fun h => br_t rfl (hB h))
  rw [ej, ec]
  refine br_f (nI_ne0 (by omega) (by omega)) ⟨ij, nm_r e5 ⟨i2, ?_⟩⟩
  rw [e2, uo_dx, nI_1 (2 * (2 * j + d))]
  rcases hq with hq | hq
  · refine br_t (by rw [hq]; decide) ?_
    refine xo_sp (by omega) ?_
    dsimp only
    exact ⟨i2, nm_e (hN h hq)⟩
  · exact br_f (by rw [hq]; decide) (hF h hq)
theorem yo_orS {post : Int32 → SY → Prop} {j d : Nat} {f x b : Int32} (hn : n ≤ 10) (hj : j < n) (hd : d < 2) (ec : ne j = nI (d + 1)) (hq : pa (2 * j + d) = 1 ∨ pa (2 * j + d) = 2) (hB : ¬ uo_okP f x b → post (-1) (nI n, nI w, inst, nm, ve, fe, ne, cl, pa, nf, nx, nb, cf, cx, cb, wn, wt)) (hF : uo_okP f x b → pa (2 * j + d) = 2 → post (-2) (nI n, nI w, inst, nm, ve, fe, ne, cl, pa, nf, nx, nb, cf, cx, cb, wn, wt)) (hN : uo_okP f x b → pa (2 * j + d) = 1 → post 2 (nI n, nI w, inst, nm, ve, fe, ne, cl, upd pa (2 * j + d) 2, upd nf (2 * (2 * j + d) + 1) (vp_nar .boolean f), upd nx (2 * (2 * j + d) + 1) x, upd nb (2 * (2 * j + d) + 1) b, cf, cx, cb, wn, wt)) : wpY_orNeed post (nI n, nI w, inst, nm, ve, fe, ne, cl, pa, nf, nx, nb, cf, cx, cb, wn, wt) (nI j) f x b := by
  have ej : (nI j).toNatClampNeg = j := nI_clamp (by omega)
  have ij : vp_in (nI j) 10 := vp_in_nI (by omega) (by omega)
  have e2 : (nI (2 * j + d)).toNatClampNeg = 2 * j + d := nI_clamp (by omega)
  have i2 : vp_in (nI (2 * j + d)) 20 := vp_in_nI (by omega) (by omega)
  have e5 : 2 * nI j + nI (d + 1) - 1 = nI (2 * j + d) := by rw [uo_iy]; exact nI_pred (2 * j + d)
  unfold wpY_orNeed
  dsimp only
  refine yo_ff1 hn hj (fun h => br_f uo_10 ⟨ij, ?_⟩) (fun h => br_t rfl (hB h))
  rw [ej, ec]
  refine br_f (nI_ne0 (by omega) (by omega)) ⟨ij, nm_r e5 ⟨i2, ?_⟩⟩
  rw [e2, uo_dy, nI_1 (2 * (2 * j + d))]
  rcases hq with hq | hq
  · refine br_f (by rw [hq]; decide) ?_
    refine yo_sp (by omega) ?_
    dsimp only
    exact ⟨i2, nm_e (hN h hq)⟩
  · exact br_t hq (hF h hq)
theorem xo_cl1 {post : Int32 → SX → Prop} {j c : Nat} {f x b : Int32} (hn : n ≤ 10) (hj : j < n) (hc : c ≤ 2) (ec : cl j = nI c) (hB : ¬ uo_okP f x b → post (-1) (nI n, nI w, inst, nm, ve, fe, ne, cl, pa, nf, nx, nb, cf, cx, cb, wn, wt)) (hF : uo_okP f x b → c = 2 → post (-2) (nI n, nI w, inst, nm, ve, fe, ne, cl, pa, nf, nx, nb, cf, cx, cb, wn, wt)) (hN : uo_okP f x b → c < 2 → post (nI (c + 1)) (nI n, nI w, inst, nm, ve, fe, ne, upd cl j (nI (c + 1)), pa, nf, nx, nb, upd cf (2 * j + c) (vp_nar .boolean f), upd cx (2 * j + c) x, upd cb (2 * j + c) b, wn, wt)) : wpX_clash post (nI n, nI w, inst, nm, ve, fe, ne, cl, pa, nf, nx, nb, cf, cx, cb, wn, wt) (nI j) f x b := by
  have ej : (nI j).toNatClampNeg = j := nI_clamp (by omega)
  have ij : vp_in (nI j) 10 := vp_in_nI (by omega) (by omega)
  unfold wpX_clash
  dsimp only
  refine xo_pk1 hn hj (br_f uo_10 ?_)
  refine xo_isPat (fun h => br_f uo_10 ⟨ij, ?_⟩) (fun h => br_t rfl (hB h))
  rw [ej, ec]
  refine nm_e (pk_lt c 2 (fun h2 => nm_r (uo_ix j c) ?_) (fun h2 => hF h (by omega)))
  have e2 : (nI (2 * j + c)).toNatClampNeg = 2 * j + c := nI_clamp (by omega)
  have i2 : vp_in (nI (2 * j + c)) 20 := vp_in_nI (by omega) (by omega)
  refine ⟨i2, nm_e ⟨i2, nm_e ⟨i2, nm_e ⟨ij, nm_e ?_⟩⟩⟩⟩
  rw [e2, nI_1 c]
  exact hN h h2
theorem yo_cl1 {post : Int32 → SY → Prop} {j c : Nat} {f x b : Int32} (hn : n ≤ 10) (hj : j < n) (hc : c ≤ 2) (ec : cl j = nI c) (hB : ¬ uo_okP f x b → post (-1) (nI n, nI w, inst, nm, ve, fe, ne, cl, pa, nf, nx, nb, cf, cx, cb, wn, wt)) (hF : uo_okP f x b → c = 2 → post (-2) (nI n, nI w, inst, nm, ve, fe, ne, cl, pa, nf, nx, nb, cf, cx, cb, wn, wt)) (hN : uo_okP f x b → c < 2 → post (nI (c + 1)) (nI n, nI w, inst, nm, ve, fe, ne, upd cl j (nI (c + 1)), pa, nf, nx, nb, upd cf (2 * j + c) (vp_nar .boolean f), upd cx (2 * j + c) x, upd cb (2 * j + c) b, wn, wt)) : wpY_clash post (nI n, nI w, inst, nm, ve, fe, ne, cl, pa, nf, nx, nb, cf, cx, cb, wn, wt) (nI j) f x b := by
  have ej : (nI j).toNatClampNeg = j := nI_clamp (by omega)
  have ij : vp_in (nI j) 10 := vp_in_nI (by omega) (by omega)
  unfold wpY_clash
  dsimp only
  refine yo_ff1 hn hj (fun h => br_f uo_10 ⟨ij, ?_⟩) (fun h => br_t rfl (hB h))
  rw [ej, ec]
  refine pk_eq c 2 (fun h2 => hF h h2) (fun h2 => ⟨ij, nm_r (uo_iy j c) ?_⟩)
  have e2 : (nI (2 * j + c)).toNatClampNeg = 2 * j + c := nI_clamp (by omega)
  have i2 : vp_in (nI (2 * j + c)) 20 := vp_in_nI (by omega) (by omega)
  refine ⟨i2, nm_e ⟨i2, nm_e ⟨i2, nm_e ⟨ij, ij, nm_e ⟨ij, ?_⟩⟩⟩⟩⟩
  rw [e2, pk_us, nI_1 c]
  exact hN h (by omega)
theorem xo_wish {post : Int32 → SX → Prop} {x f : Int32} (hw : w ≤ 4) (hB : ¬ uo_rg x 0 4 → post (-1) (nI n, nI w, inst, nm, ve, fe, ne, cl, pa, nf, nx, nb, cf, cx, cb, wn, wt)) (hF : uo_rg x 0 4 → w = 4 → post (-2) (nI n, nI w, inst, nm, ve, fe, ne, cl, pa, nf, nx, nb, cf, cx, cb, wn, wt)) (hN : uo_rg x 0 4 → w < 4 → post (nI (w + 1)) (nI n, nI (w + 1), inst, nm, ve, fe, ne, cl, pa, nf, nx, nb, cf, cx, cb, upd wn w x, upd wt w (vp_nar .boolean f))) : wpX_wish post (nI n, nI w, inst, nm, ve, fe, ne, cl, pa, nf, nx, nb, cf, cx, cb, wn, wt) x f := by
  have ew : (nI w).toNatClampNeg = w := nI_clamp (by omega)
  unfold wpX_wish
  dsimp only
  refine xo_isName (fun h => br_f uo_10 (pk_lt w 4 (fun h2 => ?_) (fun h2 => hF h (by omega)))) (fun h => br_t rfl (hB h))
  have iw : vp_in (nI w) 4 := vp_in_nI h2 (by omega)
  refine ⟨iw, nm_e ⟨iw, nm_e (nm_r (nI_1 w) ?_)⟩⟩
  rw [ew]
  exact hN h h2
theorem yo_wish {post : Int32 → SY → Prop} {x f : Int32} (hw : w ≤ 4) (hB : ¬ uo_rg x 0 4 → post (-1) (nI n, nI w, inst, nm, ve, fe, ne, cl, pa, nf, nx, nb, cf, cx, cb, wn, wt)) (hF : uo_rg x 0 4 → w = 4 → post (-2) (nI n, nI w, inst, nm, ve, fe, ne, cl, pa, nf, nx, nb, cf, cx, cb, wn, wt)) (hN : uo_rg x 0 4 → w < 4 → post (nI (w + 1)) (nI n, nI (w + 1), inst, nm, ve, fe, ne, cl, pa, nf, nx, nb, cf, cx, cb, upd wn w x, upd wt w (vp_nar .boolean f))) : wpY_wish post (nI n, nI w, inst, nm, ve, fe, ne, cl, pa, nf, nx, nb, cf, cx, cb, wn, wt) x f := by
  have ew : (nI w).toNatClampNeg = w := nI_clamp (by omega)
  unfold wpY_wish
  dsimp only
  refine br_c (fun h => hB (fun k => uo_rg_lo k (by decide) h)) (fun g0 => br_c (fun g1 => ?_) (fun h => hB (fun k => h (Int32.not_lt.mp (uo_rg_hi k (by decide))))))
  have h : uo_rg x 0 4 := uo_rg_mk g0 (by decide) (Int32.not_lt.mpr g1) (by decide)
  refine pk_eq w 4 (fun h2 => hF h h2) (fun h2 => ?_)
  have iw : vp_in (nI w) 4 := vp_in_nI (by omega) (by omega)
  refine ⟨iw, nm_e ⟨iw, nm_e (nm_r (nI_1 w) ?_)⟩⟩
  rw [ew]
  exact hN h (by omega)
theorem xo_inst {post : Int32 → SX → Prop} {s : Int32} (hn : n ≤ 10) (hB : ¬ uo_sk n s → post 0 (nI n, nI w, inst, nm, ve, fe, ne, cl, pa, nf, nx, nb, cf, cx, cb, wn, wt)) (hN : uo_sk n s → post 1 (nI n, nI w, s, nm, ve, fe, ne, cl, pa, nf, nx, nb, cf, cx, cb, wn, wt)) : wpX_install post (nI n, nI w, inst, nm, ve, fe, ne, cl, pa, nf, nx, nb, cf, cx, cb, wn, wt) s := by
  unfold wpX_install
  dsimp only
  exact xo_set hn (fun h => br_f uo_10 (hN h)) (fun h => br_t rfl (hB h))
theorem yo_inst {post : Int32 → SY → Prop} {s : Int32} (hn : n ≤ 10) (hB : ¬ uo_sk n s → post 0 (nI n, nI w, inst, nm, ve, fe, ne, cl, pa, nf, nx, nb, cf, cx, cb, wn, wt)) (hN : uo_sk n s → post 1 (nI n, nI w, s, nm, ve, fe, ne, cl, pa, nf, nx, nb, cf, cx, cb, wn, wt)) : wpY_install post (nI n, nI w, inst, nm, ve, fe, ne, cl, pa, nf, nx, nb, cf, cx, cb, wn, wt) s := by
  unfold wpY_install
  dsimp only
  exact yo_set hn (fun h => br_f uo_10 (hN h)) (fun h => br_t rfl (hB h))
end
end
section
section
variable {n w : Nat} {nm ve fe ne cl pa nf nx nb cf cx cb wn wt : Nat → Int32} {inst : Int32}
theorem uo_upd0 {f : Nat → Int32} {k : Nat} {v : Int32} (h : f k = v) : upd f k v = f := by
  funext j
  unfold upd
  by_cases e : j = k
  · rw [if_pos e, e, h]
  · rw [if_neg e]
def uo_ok (n w : Nat) (nm ve ne cl pa : Nat → Int32) : Prop := n ≤ 10 ∧ w ≤ 4 ∧ (∀ j, j < n → ∃ a, a < 5 ∧ nm j = nI a) ∧ (∀ j, j < n → 0 < ve j) ∧ (∀ j, ∃ c, c ≤ 2 ∧ ne j = nI c) ∧ (∀ j, ∃ c, c ≤ 2 ∧ cl j = nI c) ∧ (∀ j, n ≤ j → ne j = 0 ∧ cl j = 0) ∧ (∀ j k, k < (ne j).toNatClampNeg → pa (2 * j + k) = 1 ∨ pa (2 * j + k) = 2)
theorem uo_okA {a b : Int32} (ok : uo_ok n w nm ve ne cl pa) (h10 : n ≠ 10) (ra : uo_rg a 0 4) (rb : uo_rg b 1 9) : uo_ok (n + 1) w (upd nm n a) (upd ve n b) ne cl pa := by
  obtain ⟨hn, hw, hnm, hve, hne, hcl, hz, hpa⟩ := ok
  refine ⟨by omega, hw, ?_, ?_, hne, hcl, fun j hj => hz j (by omega), hpa⟩
  · intro j hj
    by_cases e : j = n
    · rw [e, pk_us]
      exact uo_ofI ra.1 (by have := ra.2; omega)
    · rw [pk_un e]
      exact hnm j (by omega)
  · intro j hj
    by_cases e : j = n
    · rw [e, pk_us, Int32.lt_iff_toInt_lt, show (0 : Int32).toInt = 0 from by decide]
      have := rb.1
      omega
    · rw [pk_un e]
      exact hve j (by omega)
theorem uo_okN {j c : Nat} (ok : uo_ok n w nm ve ne cl pa) (hj : j < n) (hc : c < 2) (ec : ne j = nI c) : uo_ok n w nm ve (upd ne j (nI (c + 1))) cl (upd pa (2 * j + c) 1) := by
  obtain ⟨hn, hw, hnm, hve, hne, hcl, hz, hpa⟩ := ok
  refine ⟨hn, hw, hnm, hve, ?_, hcl, ?_, ?_⟩
  · intro i
    by_cases e : i = j
    · rw [e, pk_us]
      exact ⟨c + 1, by omega, rfl⟩
    · rw [pk_un e]
      exact hne i
  · intro i hi
    rw [pk_un (show i ≠ j by omega)]
    exact hz i hi
  · intro i k hk
    by_cases e : i = j
    · rw [e, pk_us, nI_clamp (by omega)] at hk
      rw [e]
      by_cases e2 : k = c
      · rw [e2, pk_us]
        exact Or.inl rfl
      · rw [pk_un (show 2 * j + k ≠ 2 * j + c by omega)]
        exact hpa j k (by rw [ec, nI_clamp (by omega)]; omega)
    · rw [pk_un e] at hk
      obtain ⟨d, hd, ed⟩ := hne i
      have hk2 := hk
      rw [ed, nI_clamp (by omega)] at hk2
      rw [pk_un (show 2 * i + k ≠ 2 * j + c by omega)]
      exact hpa i k hk
theorem uo_okO {m : Nat} (ok : uo_ok n w nm ve ne cl pa) : uo_ok n w nm ve ne cl (upd pa m 2) := by
  obtain ⟨hn, hw, hnm, hve, hne, hcl, hz, hpa⟩ := ok
  refine ⟨hn, hw, hnm, hve, hne, hcl, hz, ?_⟩
  intro i k hk
  by_cases e : 2 * i + k = m
  · rw [e, pk_us]
    exact Or.inr rfl
  · rw [pk_un e]
    exact hpa i k hk
theorem uo_okC {j c : Nat} (ok : uo_ok n w nm ve ne cl pa) (hj : j < n) (hc : c < 2) : uo_ok n w nm ve ne (upd cl j (nI (c + 1))) pa := by
  obtain ⟨hn, hw, hnm, hve, hne, hcl, hz, hpa⟩ := ok
  refine ⟨hn, hw, hnm, hve, hne, ?_, ?_, hpa⟩
  · intro i
    by_cases e : i = j
    · rw [e, pk_us]
      exact ⟨c + 1, by omega, rfl⟩
    · rw [pk_un e]
      exact hcl i
  · intro i hi
    rw [pk_un (show i ≠ j by omega)]
    exact hz i hi
theorem xo_right {post : Int32 → Prop} {s : Int32} (hn : n ≤ 10) (hw : w ≤ 4) (hnm : ∀ j, j < n → ∃ a, a < 5 ∧ nm j = nI a) (hne : ∀ j, ∃ c, c ≤ 2 ∧ ne j = nI c) (hcl : ∀ j, ∃ c, c ≤ 2 ∧ cl j = nI c) (hpa : ∀ j k, k < (ne j).toNatClampNeg → pa (2 * j + k) = 1 ∨ pa (2 * j + k) = 2) (ht : uo_sk n s → uo_R n w nm ve fe ne cl pa nf nx nb cf cx cb wn wt s → post 1) (hf : ¬ (uo_sk n s ∧ uo_R n w nm ve fe ne cl pa nf nx nb cf cx cb wn wt s) → post 0) : wpX_right post (nI n, nI w, inst, nm, ve, fe, ne, cl, pa, nf, nx, nb, cf, cx, cb, wn, wt) s := by
  unfold wpX_right
  dsimp only
  exact xo_set hn (fun k => br_f uo_10 (xo_R hn hw hnm hne hcl hpa (fun r => br_f uo_10 (ht k r)) (fun r => br_t rfl (hf (fun z => r z.2))))) (fun k => br_t rfl (hf (fun z => k z.1)))
end
end
section
def i_Rel (_ : Nat) (u : SX) (v : SY) : Prop := ∃ (n w : Nat) (inst : Int32) (nm ve fe ne cl pa nf nx nb cf cx cb wn wt : Nat → Int32), u = (nI n, nI w, inst, nm, ve, fe, ne, cl, pa, nf, nx, nb, cf, cx, cb, wn, wt) ∧ v = (nI n, nI w, inst, nm, ve, fe, ne, cl, pa, nf, nx, nb, cf, cx, cb, wn, wt) ∧ uo_ok n w nm ve ne cl pa
theorem i_up {k : Nat} {u : SX} {v : SY} (h : i_Rel k u v) : i_Rel (k + 5) u v := h
theorem i_vc0 : wpX_init (fun u => wpY_init (fun v => i_Rel 0 u v)) := by
  refine ⟨0, 0, 0, fun _ => 0, fun _ => 0, fun _ => 0, fun _ => 0, fun _ => 0, fun _ => 0, fun _ => 0, fun _ => 0, fun _ => 0, fun _ => 0, fun _ => 0, fun _ => 0, fun _ => 0, fun _ => 0, rfl, rfl, ?_⟩
  refine ⟨by omega, by omega, fun j hj => absurd hj (Nat.not_lt_zero j), fun j hj => absurd hj (Nat.not_lt_zero j), fun _ => ⟨0, by omega, rfl⟩, fun _ => ⟨0, by omega, rfl⟩, fun _ _ => ⟨rfl, rfl⟩, ?_⟩
  intro j k hk
  exact absurd hk (Nat.not_lt_zero k)
theorem i_vc_addPackage {k : Nat} {u : SX} {v : SY} (I : i_Rel k u v) (hk : k + 5 ≤ 2560) (v1 : Int32) (v2 : Int32) (v3 : Int32) : wpX_addPackage (fun r u' => wpY_addPackage (fun r' v' => r' = r ∧ i_Rel (k + 5) u' v') v v1 v2 v3) u v1 v2 v3 := by
  obtain ⟨n, w, inst, nm, ve, fe, ne, cl, pa, nf, nx, nb, cf, cx, cb, wn, wt, rfl, rfl, ok⟩ := I
  have R0 : i_Rel (k + 5) (nI n, nI w, inst, nm, ve, fe, ne, cl, pa, nf, nx, nb, cf, cx, cb, wn, wt) (nI n, nI w, inst, nm, ve, fe, ne, cl, pa, nf, nx, nb, cf, cx, cb, wn, wt) := ⟨n, w, inst, nm, ve, fe, ne, cl, pa, nf, nx, nb, cf, cx, cb, wn, wt, rfl, rfl, ok⟩
  have ok2 := ok
  obtain ⟨hn, hw, hnm, hve, hne, hcl, hz, hpa⟩ := ok2
  refine xo_add hn (fun h1 => yo_add hn (fun _ => ⟨rfl, R0⟩) (fun z _ => absurd h1 z) (fun z _ _ => absurd h1 z) (fun z _ _ => absurd h1 z)) (fun h1 h2 => yo_add hn (fun z => absurd z h1) (fun _ _ => ⟨rfl, R0⟩) (fun _ z _ => absurd z h2) (fun _ z _ => absurd z h2)) (fun h1 h2 h3 => yo_add hn (fun z => absurd z h1) (fun _ z => absurd h2 z) (fun _ _ _ => ⟨rfl, R0⟩) (fun _ _ z => absurd h3 z)) (fun h1 h2 h3 => yo_add hn (fun z => absurd z h1) (fun _ z => absurd h2 z) (fun _ _ z => absurd z h3) (fun _ _ _ => ⟨rfl, ?_⟩))
  have z := hz n (Nat.le_refl n)
  rw [uo_upd0 z.1, uo_upd0 z.2]
  exact ⟨n + 1, w, inst, upd nm n v1, upd ve n v2, upd fe n v3, ne, cl, pa, nf, nx, nb, cf, cx, cb, wn, wt, rfl, rfl, uo_okA ok h1 h2.1 h2.2.1⟩
theorem i_vc_need {k : Nat} {u : SX} {v : SY} (I : i_Rel k u v) (hk : k + 5 ≤ 2560) (v1 : Int32) (v2 : Int32) (v3 : Int32) (v4 : Int32) : wpX_need (fun r u' => wpY_need (fun r' v' => r' = r ∧ i_Rel (k + 5) u' v') v v1 (lw_bz v2) v3 v4) u v1 (lw_bz v2) v3 v4 := by
  obtain ⟨n, w, inst, nm, ve, fe, ne, cl, pa, nf, nx, nb, cf, cx, cb, wn, wt, rfl, rfl, ok⟩ := I
  have R0 : i_Rel (k + 5) (nI n, nI w, inst, nm, ve, fe, ne, cl, pa, nf, nx, nb, cf, cx, cb, wn, wt) (nI n, nI w, inst, nm, ve, fe, ne, cl, pa, nf, nx, nb, cf, cx, cb, wn, wt) := ⟨n, w, inst, nm, ve, fe, ne, cl, pa, nf, nx, nb, cf, cx, cb, wn, wt, rfl, rfl, ok⟩
  have ok2 := ok
  obtain ⟨hn, hw, hnm, hve, hne, hcl, hz, hpa⟩ := ok2
  by_cases hp : ∃ j, j < n ∧ v1 = nI j
  · obtain ⟨j, hj, rfl⟩ := hp
    obtain ⟨c, hc, ec⟩ := hne j
    exact xo_need1 hn hj hc ec (fun h => yo_need1 hn hj hc ec (fun _ => ⟨rfl, R0⟩) (fun z _ => absurd z h) (fun z _ => absurd z h)) (fun h h2 => yo_need1 hn hj hc ec (fun z => absurd h z) (fun _ _ => ⟨rfl, R0⟩) (fun _ z => absurd z (by omega))) (fun h h2 => yo_need1 hn hj hc ec (fun z => absurd h z) (fun _ z => absurd z (by omega)) (fun _ _ => ⟨rfl, ⟨n, w, inst, nm, ve, fe, _, cl, _, _, _, _, cf, cx, cb, wn, wt, rfl, rfl, uo_okN ok hj h2 ec⟩⟩))
  · exact xo_need0 hn hp (yo_need0 hn hp ⟨rfl, R0⟩)
theorem i_vc_orNeed {k : Nat} {u : SX} {v : SY} (I : i_Rel k u v) (hk : k + 5 ≤ 2560) (v1 : Int32) (v2 : Int32) (v3 : Int32) (v4 : Int32) : wpX_orNeed (fun r u' => wpY_orNeed (fun r' v' => r' = r ∧ i_Rel (k + 5) u' v') v v1 (lw_bz v2) v3 v4) u v1 (lw_bz v2) v3 v4 := by
  obtain ⟨n, w, inst, nm, ve, fe, ne, cl, pa, nf, nx, nb, cf, cx, cb, wn, wt, rfl, rfl, ok⟩ := I
  have R0 : i_Rel (k + 5) (nI n, nI w, inst, nm, ve, fe, ne, cl, pa, nf, nx, nb, cf, cx, cb, wn, wt) (nI n, nI w, inst, nm, ve, fe, ne, cl, pa, nf, nx, nb, cf, cx, cb, wn, wt) := ⟨n, w, inst, nm, ve, fe, ne, cl, pa, nf, nx, nb, cf, cx, cb, wn, wt, rfl, rfl, ok⟩
  have ok2 := ok
  obtain ⟨hn, hw, hnm, hve, hne, hcl, hz, hpa⟩ := ok2
  by_cases hp : ∃ j, j < n ∧ v1 = nI j
  · obtain ⟨j, hj, rfl⟩ := hp
    obtain ⟨c, hc, ec⟩ := hne j
    cases c with
    | zero => exact xo_orZ hn hj ec (fun h => yo_orZ hn hj ec (fun _ => ⟨rfl, R0⟩) (fun z => absurd z h)) (fun h => yo_orZ hn hj ec (fun z => absurd h z) (fun _ => ⟨rfl, R0⟩))
    | succ d =>
      have hq := hpa j d (by rw [ec, nI_clamp (by omega)]; omega)
      have h12 : ¬ (1 : Int32) = 2 := by decide
      exact xo_orS hn hj (by omega) ec hq (fun h => yo_orS hn hj (by omega) ec hq (fun _ => ⟨rfl, R0⟩) (fun z _ => absurd z h) (fun z _ => absurd z h)) (fun h h2 => yo_orS hn hj (by omega) ec hq (fun z => absurd h z) (fun _ _ => ⟨rfl, R0⟩) (fun _ z => absurd (z.symm.trans h2) h12)) (fun h h2 => yo_orS hn hj (by omega) ec hq (fun z => absurd h z) (fun _ z => absurd (h2.symm.trans z) h12) (fun _ _ => ⟨rfl, ⟨n, w, inst, nm, ve, fe, ne, cl, _, _, _, _, cf, cx, cb, wn, wt, rfl, rfl, uo_okO ok⟩⟩))
  · exact xo_or0 hn hp (yo_or0 hn hp ⟨rfl, R0⟩)
theorem i_vc_clash {k : Nat} {u : SX} {v : SY} (I : i_Rel k u v) (hk : k + 5 ≤ 2560) (v1 : Int32) (v2 : Int32) (v3 : Int32) (v4 : Int32) : wpX_clash (fun r u' => wpY_clash (fun r' v' => r' = r ∧ i_Rel (k + 5) u' v') v v1 (lw_bz v2) v3 v4) u v1 (lw_bz v2) v3 v4 := by
  obtain ⟨n, w, inst, nm, ve, fe, ne, cl, pa, nf, nx, nb, cf, cx, cb, wn, wt, rfl, rfl, ok⟩ := I
  have R0 : i_Rel (k + 5) (nI n, nI w, inst, nm, ve, fe, ne, cl, pa, nf, nx, nb, cf, cx, cb, wn, wt) (nI n, nI w, inst, nm, ve, fe, ne, cl, pa, nf, nx, nb, cf, cx, cb, wn, wt) := ⟨n, w, inst, nm, ve, fe, ne, cl, pa, nf, nx, nb, cf, cx, cb, wn, wt, rfl, rfl, ok⟩
  have ok2 := ok
  obtain ⟨hn, hw, hnm, hve, hne, hcl, hz, hpa⟩ := ok2
  by_cases hp : ∃ j, j < n ∧ v1 = nI j
  · obtain ⟨j, hj, rfl⟩ := hp
    obtain ⟨c, hc, ec⟩ := hcl j
    exact xo_cl1 hn hj hc ec (fun h => yo_cl1 hn hj hc ec (fun _ => ⟨rfl, R0⟩) (fun z _ => absurd z h) (fun z _ => absurd z h)) (fun h h2 => yo_cl1 hn hj hc ec (fun z => absurd h z) (fun _ _ => ⟨rfl, R0⟩) (fun _ z => absurd z (by omega))) (fun h h2 => yo_cl1 hn hj hc ec (fun z => absurd h z) (fun _ z => absurd z (by omega)) (fun _ _ => ⟨rfl, ⟨n, w, inst, nm, ve, fe, ne, _, pa, nf, nx, nb, _, _, _, wn, wt, rfl, rfl, uo_okC ok hj h2⟩⟩))
  · exact xo_cl0 hn hp (yo_cl0 hn hp ⟨rfl, R0⟩)
theorem i_vc_install {k : Nat} {u : SX} {v : SY} (I : i_Rel k u v) (hk : k + 5 ≤ 2560) (v1 : Int32) : wpX_install (fun r u' => wpY_install (fun r' v' => r' = r ∧ i_Rel (k + 5) u' v') v v1) u v1 := by
  obtain ⟨n, w, inst, nm, ve, fe, ne, cl, pa, nf, nx, nb, cf, cx, cb, wn, wt, rfl, rfl, ok⟩ := I
  have R0 : i_Rel (k + 5) (nI n, nI w, inst, nm, ve, fe, ne, cl, pa, nf, nx, nb, cf, cx, cb, wn, wt) (nI n, nI w, inst, nm, ve, fe, ne, cl, pa, nf, nx, nb, cf, cx, cb, wn, wt) := ⟨n, w, inst, nm, ve, fe, ne, cl, pa, nf, nx, nb, cf, cx, cb, wn, wt, rfl, rfl, ok⟩
  have ok2 := ok
  obtain ⟨hn, hw, hnm, hve, hne, hcl, hz, hpa⟩ := ok2
  exact xo_inst hn (fun h => yo_inst hn (fun _ => ⟨rfl, R0⟩) (fun z => absurd z h)) (fun h => yo_inst hn (fun z => absurd h z) (fun _ => ⟨rfl, ⟨n, w, v1, nm, ve, fe, ne, cl, pa, nf, nx, nb, cf, cx, cb, wn, wt, rfl, rfl, ok⟩⟩))
theorem i_vc_wish {k : Nat} {u : SX} {v : SY} (I : i_Rel k u v) (hk : k + 5 ≤ 2560) (v1 : Int32) (v2 : Int32) : wpX_wish (fun r u' => wpY_wish (fun r' v' => r' = r ∧ i_Rel (k + 5) u' v') v v1 (lw_bz v2)) u v1 (lw_bz v2) := by
  obtain ⟨n, w, inst, nm, ve, fe, ne, cl, pa, nf, nx, nb, cf, cx, cb, wn, wt, rfl, rfl, ok⟩ := I
  have R0 : i_Rel (k + 5) (nI n, nI w, inst, nm, ve, fe, ne, cl, pa, nf, nx, nb, cf, cx, cb, wn, wt) (nI n, nI w, inst, nm, ve, fe, ne, cl, pa, nf, nx, nb, cf, cx, cb, wn, wt) := ⟨n, w, inst, nm, ve, fe, ne, cl, pa, nf, nx, nb, cf, cx, cb, wn, wt, rfl, rfl, ok⟩
  have ok2 := ok
  obtain ⟨hn, hw, hnm, hve, hne, hcl, hz, hpa⟩ := ok2
  exact xo_wish hw (fun h => yo_wish hw (fun _ => ⟨rfl, R0⟩) (fun z _ => absurd z h) (fun z _ => absurd z h)) (fun h h2 => yo_wish hw (fun z => absurd h z) (fun _ _ => ⟨rfl, R0⟩) (fun _ z => absurd z (by omega))) (fun h h2 => yo_wish hw (fun z => absurd h z) (fun _ z => absurd z (by omega)) (fun _ _ => ⟨rfl, ⟨n, w + 1, inst, nm, ve, fe, ne, cl, pa, nf, nx, nb, cf, cx, cb, _, _, rfl, rfl, ⟨hn, by omega, hnm, hve, hne, hcl, hz, hpa⟩⟩⟩))
theorem i_vc_dropWishes {k : Nat} {u : SX} {v : SY} (I : i_Rel k u v) (hk : k + 5 ≤ 2560) : wpX_dropWishes (fun r u' => wpY_dropWishes (fun r' v' => r' = r ∧ i_Rel (k + 5) u' v') v) u := by
  obtain ⟨n, w, inst, nm, ve, fe, ne, cl, pa, nf, nx, nb, cf, cx, cb, wn, wt, rfl, rfl, ok⟩ := I
  have R0 : i_Rel (k + 5) (nI n, nI w, inst, nm, ve, fe, ne, cl, pa, nf, nx, nb, cf, cx, cb, wn, wt) (nI n, nI w, inst, nm, ve, fe, ne, cl, pa, nf, nx, nb, cf, cx, cb, wn, wt) := ⟨n, w, inst, nm, ve, fe, ne, cl, pa, nf, nx, nb, cf, cx, cb, wn, wt, rfl, rfl, ok⟩
  have ok2 := ok
  obtain ⟨hn, hw, hnm, hve, hne, hcl, hz, hpa⟩ := ok2
  exact ⟨rfl, ⟨n, 0, inst, nm, ve, fe, ne, cl, pa, nf, nx, nb, cf, cx, cb, wn, wt, rfl, rfl, ⟨hn, by omega, hnm, hve, hne, hcl, hz, hpa⟩⟩⟩
theorem i_vc_right {k : Nat} {u : SX} {v : SY} (I : i_Rel k u v) (hk : k + 5 ≤ 2560) (v1 : Int32) : wpX_right (fun r => wpY_right (fun r' => r' = r ∧ i_Rel (k + 5) u v) v v1) u v1 := by
  obtain ⟨n, w, inst, nm, ve, fe, ne, cl, pa, nf, nx, nb, cf, cx, cb, wn, wt, rfl, rfl, ok⟩ := I
  have R0 : i_Rel (k + 5) (nI n, nI w, inst, nm, ve, fe, ne, cl, pa, nf, nx, nb, cf, cx, cb, wn, wt) (nI n, nI w, inst, nm, ve, fe, ne, cl, pa, nf, nx, nb, cf, cx, cb, wn, wt) := ⟨n, w, inst, nm, ve, fe, ne, cl, pa, nf, nx, nb, cf, cx, cb, wn, wt, rfl, rfl, ok⟩
  have ok2 := ok
  obtain ⟨hn, hw, hnm, hve, hne, hcl, hz, hpa⟩ := ok2
  exact xo_right hn hw hnm hne hcl hpa (fun a b => yo_R hn hw hnm hne hcl (fun _ _ => ⟨rfl, R0⟩) (fun z => absurd ⟨a, b⟩ z)) (fun z => yo_R hn hw hnm hne hcl (fun a b => absurd ⟨a, b⟩ z) (fun _ => ⟨rfl, R0⟩))
theorem i_vc_best {k : Nat} {u : SX} {v : SY} (I : i_Rel k u v) (hk : k + 5 ≤ 2560) : wpX_best (fun r => wpY_best (fun r' => r' = r ∧ i_Rel (k + 5) u v) v) u := by
  obtain ⟨n, w, inst, nm, ve, fe, ne, cl, pa, nf, nx, nb, cf, cx, cb, wn, wt, rfl, rfl, ok⟩ := I
  have R0 : i_Rel (k + 5) (nI n, nI w, inst, nm, ve, fe, ne, cl, pa, nf, nx, nb, cf, cx, cb, wn, wt) (nI n, nI w, inst, nm, ve, fe, ne, cl, pa, nf, nx, nb, cf, cx, cb, wn, wt) := ⟨n, w, inst, nm, ve, fe, ne, cl, pa, nf, nx, nb, cf, cx, cb, wn, wt, rfl, rfl, ok⟩
  have ok2 := ok
  obtain ⟨hn, hw, hnm, hve, hne, hcl, hz, hpa⟩ := ok2
  exact xo_best hn hw hnm hve hne hcl hpa (yo_best hn hw hnm hne hcl ⟨rfl, R0⟩)
theorem i_vc_cost {k : Nat} {u : SX} {v : SY} (I : i_Rel k u v) (hk : k + 5 ≤ 2560) (v1 : Int32) : wpX_cost (fun r => wpY_cost (fun r' => r' = r ∧ i_Rel (k + 5) u v) v v1) u v1 := by
  obtain ⟨n, w, inst, nm, ve, fe, ne, cl, pa, nf, nx, nb, cf, cx, cb, wn, wt, rfl, rfl, ok⟩ := I
  have R0 : i_Rel (k + 5) (nI n, nI w, inst, nm, ve, fe, ne, cl, pa, nf, nx, nb, cf, cx, cb, wn, wt) (nI n, nI w, inst, nm, ve, fe, ne, cl, pa, nf, nx, nb, cf, cx, cb, wn, wt) := ⟨n, w, inst, nm, ve, fe, ne, cl, pa, nf, nx, nb, cf, cx, cb, wn, wt, rfl, rfl, ok⟩
  have ok2 := ok
  obtain ⟨hn, hw, hnm, hve, hne, hcl, hz, hpa⟩ := ok2
  by_cases h0 : v1 < 0
  · exact br_t h0 (br_t h0 ⟨rfl, R0⟩)
  · obtain ⟨j, hj, rfl⟩ := nI_of h0
    by_cases h3 : j < 3
    · exact xo_cost h3 hve hpa hn hw hnm hne hcl (yo_cost h3 hn hw hnm hne hcl ⟨rfl, R0⟩)
    · exact br_f h0 (br_f (nI_nlt (b := 3) (by omega) hj) (br_f h0 (br_f (nI_ge (a := 2) (by omega) hj) ⟨rfl, R0⟩)))
theorem i_vc_rightSets {k : Nat} {u : SX} {v : SY} (I : i_Rel k u v) (hk : k + 5 ≤ 2560) : wpX_rightSets (fun r => wpY_rightSets (fun r' => r' = r ∧ i_Rel (k + 5) u v) v) u := by
  obtain ⟨n, w, inst, nm, ve, fe, ne, cl, pa, nf, nx, nb, cf, cx, cb, wn, wt, rfl, rfl, ok⟩ := I
  have R0 : i_Rel (k + 5) (nI n, nI w, inst, nm, ve, fe, ne, cl, pa, nf, nx, nb, cf, cx, cb, wn, wt) (nI n, nI w, inst, nm, ve, fe, ne, cl, pa, nf, nx, nb, cf, cx, cb, wn, wt) := ⟨n, w, inst, nm, ve, fe, ne, cl, pa, nf, nx, nb, cf, cx, cb, wn, wt, rfl, rfl, ok⟩
  have ok2 := ok
  obtain ⟨hn, hw, hnm, hve, hne, hcl, hz, hpa⟩ := ok2
  exact xo_rs hn hw hnm hne hcl hpa (yo_rs hn hw hnm hne hcl ⟨rfl, R0⟩)
end
