-- pasted from kit/rows: pk_*, bt, b_*, s_l
theorem pk_us {f : Nat → Int32} {k : Nat} {x : Int32} : upd f k x k = x := if_pos rfl
theorem pk_un {f : Nat → Int32} {k j : Nat} {x : Int32} (h : j ≠ k) : upd f k x j = f j := if_neg h
theorem pk_sub {a b : Nat} (h : b ≤ a) : nI a - nI b = nI (a - b) := by
  obtain ⟨c, rfl⟩ : ∃ c, a = c + b := ⟨a - b, by omega⟩
  rw [← nI_add, Int32.add_sub_cancel, Nat.add_sub_cancel]
theorem pk_m1 (n : Nat) : nI (n + 1) + (-1) = nI n := by
  rw [← nI_1, Int32.add_assoc, show (1 : Int32) + (-1) = 0 from rfl, Int32.add_zero]
theorem pk_mul (a b : Nat) : nI a * nI b = nI (a * b) := (Int32.ofNat_mul a b).symm
theorem pk_ix (x : Int32) {n : Nat} (hn : n < 2 ^ 31) : x < 0 ∨ nI n ≤ x ∨ ∃ j : Nat, j < n ∧ x = nI j := by
  by_cases h : x < 0
  · exact Or.inl h
  · obtain ⟨j, hj, rfl⟩ := nI_of h
    by_cases h2 : j < n
    · exact Or.inr (Or.inr ⟨j, h2, rfl⟩)
    · exact Or.inr (Or.inl (nI_le (by omega) hj))
theorem pk_le {x y : Int32} {A B : Prop} (a b : Nat) (f : a ≤ b → A) (g : b < a → B) (hx : x = nI a := by rfl) (hy : y = nI b := by rfl) (ha : a < 2 ^ 31 := by omega) (hb : b < 2 ^ 31 := by omega) : (x ≤ y → A) ∧ (¬ x ≤ y → B) := by
  subst hx hy
  rw [nI_leI ha hb]
  exact ⟨f, fun z => g (by omega)⟩
theorem pk_lt {x y : Int32} {A B : Prop} (a b : Nat) (f : a < b → A) (g : b ≤ a → B) (hx : x = nI a := by rfl) (hy : y = nI b := by rfl) (ha : a < 2 ^ 31 := by omega) (hb : b < 2 ^ 31 := by omega) : (x < y → A) ∧ (¬ x < y → B) := by
  subst hx hy
  rw [nI_ltI ha hb]
  exact ⟨f, fun z => g (by omega)⟩
theorem pk_eq {x y : Int32} {A B : Prop} (a b : Nat) (f : a = b → A) (g : a ≠ b → B) (hx : x = nI a := by rfl) (hy : y = nI b := by rfl) (ha : a < 2 ^ 31 := by omega) (hb : b < 2 ^ 31 := by omega) : (x = y → A) ∧ (¬ x = y → B) := by
  subst hx hy
  rw [nI_eq ha hb]
  exact ⟨f, g⟩
theorem pk_in {x : Int32} (n N : Nat) (h : n < N) (hx : x = nI n := by rfl) (hN : N < 2 ^ 31 := by omega) : vp_in x N := by
  subst hx
  exact vp_in_nI h hN
theorem pk_cl {x : Int32} (n : Nat) (hx : x = nI n := by rfl) (h : n < 2 ^ 31 := by omega) : x.toNatClampNeg = n := by
  subst hx
  exact nI_clamp h
def bt (x : Int32) (i : Nat) : Bool := x.toBitVec.getLsbD i
theorem b_ext {x y : Int32} (h : ∀ i, i < 32 → bt x i = bt y i) : x = y := Int32.toBitVec_inj.mp (BitVec.eq_of_getLsbD_eq (fun i hi => h i hi))
theorem b_or (x y : Int32) (i : Nat) : bt (x ||| y) i = (bt x i || bt y i) := by unfold bt; rw [Int32.toBitVec_or, BitVec.getLsbD_or]
theorem b_and (x y : Int32) (i : Nat) : bt (x &&& y) i = (bt x i && bt y i) := by unfold bt; rw [Int32.toBitVec_and, BitVec.getLsbD_and]
theorem b_xor (x y : Int32) (i : Nat) : bt (x ^^^ y) i = (bt x i ^^ bt y i) := by unfold bt; rw [Int32.toBitVec_xor, BitVec.getLsbD_xor]
theorem b_big {x : Int32} {i : Nat} (h : 32 ≤ i) : bt x i = false := BitVec.getLsbD_of_ge _ _ h
theorem b_0 (i : Nat) : bt 0 i = false := BitVec.getLsbD_zero
theorem s_l : ∀ n, n < 32 → ((nI n &&& 31).toBitVec.smod 32).toNat = n := by decide +kernel
theorem b_shl (n : Nat) (hn : n < 32) (x : Int32) {i : Nat} (hi : i < 32) : bt (x <<< (nI n &&& 31)) i = (decide (n ≤ i) && bt x (i - n)) := by
  unfold bt
  rw [Int32.toBitVec_shiftLeft]
  show (x.toBitVec <<< ((nI n &&& 31).toBitVec.smod 32).toNat).getLsbD i = _
  rw [s_l n hn, BitVec.getLsbD_shiftLeft]
  rcases Nat.lt_or_ge i n with h | h
  · simp [h, Nat.not_le.mpr h]
  · simp [hi, h, Nat.not_lt.mpr h]
theorem b_sshr (n : Nat) (hn : n < 32) (x : Int32) {i : Nat} (hi : i < 32) : bt (x >>> (nI n &&& 31)) i = if n + i < 32 then bt x (n + i) else bt x 31 := by
  unfold bt
  rw [Int32.toBitVec_shiftRight]
  show (x.toBitVec.sshiftRight ((nI n &&& 31).toBitVec.smod 32).toNat).getLsbD i = _
  rw [s_l n hn, BitVec.getLsbD_sshiftRight, BitVec.msb_eq_getLsbD_last]
  simp [hi]
-- own
theorem uo_srch (W : Nat → Nat → Prop) (P : Nat → Prop) (T F : Prop) (e : Nat) (hx : ∀ f, F → W (f + 1) e) (hs : ∀ f i, i < e → (P i → T) → (¬ P i → W f (i + 1)) → W (f + 1) i) (ht : (∃ j, j < e ∧ P j) → T) (hf : (¬ ∃ j, j < e ∧ P j) → F) : ∃ f, W f 0 := by
  have H : ∀ d i, i + d = e → ((∃ j, i ≤ j ∧ j < e ∧ P j) → T) → ((¬ ∃ j, i ≤ j ∧ j < e ∧ P j) → F) → W (d + 1) i := by
    intro d
    induction d with
    | zero =>
      intro i hi _ hf
      have hie : i = e := by omega
      rw [hie]
      refine hx 0 (hf ?_)
      rintro ⟨j, h1, h2, _⟩
      omega
    | succ d ih =>
      intro i hi ht hf
      refine hs (d + 1) i (by omega) (fun hp => ht ⟨i, Nat.le_refl i, by omega, hp⟩) (fun hp => ih (i + 1) (by omega) ?_ ?_)
      · rintro ⟨j, h1, h2, h3⟩
        exact ht ⟨j, by omega, h2, h3⟩
      · intro hn
        refine hf ?_
        rintro ⟨j, h1, h2, h3⟩
        by_cases e0 : i = j
        · rw [e0] at hp
          exact hp h3
        · exact hn ⟨j, by omega, h2, h3⟩
  refine ⟨e + 1, H e 0 (by omega) ?_ ?_⟩
  · rintro ⟨j, _, h2, h3⟩
    exact ht ⟨j, h2, h3⟩
  · intro hn
    refine hf ?_
    rintro ⟨j, h2, h3⟩
    exact hn ⟨j, by omega, h2, h3⟩
theorem uo_det {σ : Type} (W : Nat → Nat → σ → Prop) (st : Nat → σ) (e : Nat) (hx : ∀ f, W (f + 1) e (st e)) (hs : ∀ f i, i < e → W f (i + 1) (st (i + 1)) → W (f + 1) i (st i)) : ∃ f, W f 0 (st 0) := by
  have H : ∀ d i, i + d = e → W (d + 1) i (st i) := by
    intro d
    induction d with
    | zero =>
      intro i hi
      have hie : i = e := by omega
      rw [hie]
      exact hx 0
    | succ d ih =>
      intro i hi
      exact hs (d + 1) i (by omega) (ih (i + 1) (by omega))
  exact ⟨e + 1, H e 0 (by omega)⟩
noncomputable def uo_cn (P : Nat → Prop) : Nat → Nat
  | 0 => 0
  | i + 1 => uo_cn P i + @ite Nat (P i) (Classical.propDecidable (P i)) 1 0
theorem uo_cn_t {P : Nat → Prop} {i : Nat} (h : P i) : uo_cn P (i + 1) = uo_cn P i + 1 := by
  rw [show uo_cn P (i + 1) = uo_cn P i + @ite Nat (P i) (Classical.propDecidable (P i)) 1 0 from rfl, if_pos h]
theorem uo_cn_f {P : Nat → Prop} {i : Nat} (h : ¬ P i) : uo_cn P (i + 1) = uo_cn P i := by
  rw [show uo_cn P (i + 1) = uo_cn P i + @ite Nat (P i) (Classical.propDecidable (P i)) 1 0 from rfl, if_neg h, Nat.add_zero]
theorem uo_cnt (W : Nat → Nat → Nat → Prop) (P : Nat → Prop) (e : Nat) (hx : ∀ f, W (f + 1) e (uo_cn P e)) (hs : ∀ f i c, i < e → (P i → W f (i + 1) (c + 1)) → (¬ P i → W f (i + 1) c) → W (f + 1) i c) : ∃ f, W f 0 0 := by
  have H : ∀ d i, i + d = e → W (d + 1) i (uo_cn P i) := by
    intro d
    induction d with
    | zero =>
      intro i hi
      have hie : i = e := by omega
      rw [hie]
      exact hx 0
    | succ d ih =>
      intro i hi
      refine hs (d + 1) i _ (by omega) (fun hp => ?_) (fun hp => ?_)
      · rw [← uo_cn_t hp]
        exact ih (i + 1) (by omega)
      · rw [← uo_cn_f hp]
        exact ih (i + 1) (by omega)
  exact ⟨e + 1, H e 0 (by omega)⟩
theorem uo_cn_le (P : Nat → Prop) : ∀ e, uo_cn P e ≤ e := by
  intro e
  induction e with
  | zero => exact Nat.le_refl 0
  | succ e ih =>
    by_cases h : P e
    · rw [uo_cn_t h]
      omega
    · rw [uo_cn_f h]
      omega
theorem uo_cn_pos (P : Nat → Prop) : ∀ e, 0 < uo_cn P e ↔ ∃ j, j < e ∧ P j := by
  intro e
  induction e with
  | zero => exact ⟨fun h => absurd h (Nat.lt_irrefl 0), fun ⟨j, h, _⟩ => absurd h (Nat.not_lt_zero j)⟩
  | succ e ih =>
    by_cases h : P e
    · rw [uo_cn_t h]
      exact ⟨fun _ => ⟨e, Nat.lt_succ_self e, h⟩, fun _ => Nat.succ_pos _⟩
    · rw [uo_cn_f h, ih]
      constructor
      · rintro ⟨j, h1, h2⟩
        exact ⟨j, by omega, h2⟩
      · rintro ⟨j, h1, h2⟩
        by_cases q : j = e
        · rw [q] at h2
          exact absurd h2 h
        · exact ⟨j, by omega, h2⟩
theorem uo_cn_one (P : Nat → Prop) : ∀ e, uo_cn P e ≤ 1 ↔ ∀ j, j < e → ∀ k, k < j → P k → ¬ P j := by
  intro e
  induction e with
  | zero => exact ⟨fun _ j hj => absurd hj (Nat.not_lt_zero j), fun _ => Nat.zero_le 1⟩
  | succ e ih =>
    by_cases h : P e
    · rw [uo_cn_t h]
      constructor
      · intro h1 j hj k hk pk _
        have z : ¬ 0 < uo_cn P e := by omega
        exact z ((uo_cn_pos P e).mpr ⟨k, by omega, pk⟩)
      · intro h1
        have z : ¬ 0 < uo_cn P e := by
          intro z
          obtain ⟨k, hk, pk⟩ := (uo_cn_pos P e).mp z
          exact h1 e (Nat.lt_succ_self e) k hk pk h
        omega
    · rw [uo_cn_f h, ih]
      constructor
      · intro h1 j hj k hk pk pj
        by_cases q : j = e
        · rw [q] at pj
          exact h pj
        · exact h1 j (by omega) k hk pk pj
      · intro h1 j hj
        exact h1 j (by omega)
theorem uo_cn_iff {P Q : Nat → Prop} : ∀ e, (∀ j, j < e → (P j ↔ Q j)) → uo_cn P e = uo_cn Q e := by
  intro e
  induction e with
  | zero => exact fun _ => rfl
  | succ e ih =>
    intro h
    have i := ih (fun j hj => h j (by omega))
    by_cases p : P e
    · rw [uo_cn_t p, uo_cn_t ((h e (Nat.lt_succ_self e)).mp p), i]
    · rw [uo_cn_f p, uo_cn_f (fun q => p ((h e (Nat.lt_succ_self e)).mpr q)), i]
-- bits
def uo_in (s : Int32) (p : Nat) : Prop := (s >>> (nI p &&& 31)) &&& 1 = 1
theorem uo_b1 : ∀ i, i < 32 → bt 1 i = decide (i = 0) := by decide +kernel
theorem uo_b10 : bt 1 0 = true := uo_b1 0 (by decide)
theorem uo_and1 (x : Int32) : x &&& 1 = 1 ↔ bt x 0 = true := by
  constructor
  · intro h
    have e := b_and x 1 0
    rw [h, uo_b10, Bool.and_true] at e
    exact e.symm
  · intro h
    apply b_ext
    intro i hi
    rw [b_and, uo_b1 i hi]
    by_cases z : i = 0
    · rw [z, h]
      rfl
    · rw [decide_eq_false z, Bool.and_false]
theorem uo_in_bt {s : Int32} {p : Nat} (hp : p < 32) : uo_in s p ↔ bt s p = true := by
  refine (uo_and1 _).trans ?_
  rw [b_sshr p hp s (i := 0) (by decide), if_pos (show p + 0 < 32 from hp), Nat.add_zero]
theorem uo_in0 {p : Nat} (hp : p < 32) : ¬ uo_in 0 p := by
  rw [uo_in_bt hp, b_0]
  exact Bool.false_ne_true
theorem uo_ot0 : ∀ p, p < 10 → ∀ q, q < 10 → bt (((1 : Int32) <<< (nI p &&& 31)) ^^^ (-1)) q = !decide (q = p) := by decide +kernel
theorem uo_ot {s : Int32} {p q : Nat} (hp : p < 10) (hq : q < 10) : uo_in (s &&& (((1 : Int32) <<< (nI p &&& 31)) ^^^ (-1))) q ↔ q ≠ p ∧ uo_in s q := by
  have h32 : q < 32 := by omega
  rw [uo_in_bt h32, uo_in_bt h32, b_and, uo_ot0 p hp q hq]
  by_cases z : q = p
  · simp [z]
  · simp [z]
theorem uo_xr {s t : Int32} {p : Nat} (hp : p < 32) : uo_in (s ^^^ t) p ↔ ¬ (uo_in s p ↔ uo_in t p) := by
  rw [uo_in_bt (s := s ^^^ t) hp, uo_in_bt (s := s) hp, uo_in_bt (s := t) hp, b_xor]
  cases bt s p <;> cases bt t p <;> simp
theorem uo_sn0 : ∀ x, x < 5 → ∀ y, y < 5 → bt ((1 : Int32) <<< (nI x &&& 31)) y = decide (y = x) := by decide +kernel
theorem uo_sn {s : Int32} {x y : Nat} (hx : x < 5) (hy : y < 5) : uo_in (s ||| ((1 : Int32) <<< (nI x &&& 31))) y ↔ (uo_in s y ∨ y = x) := by
  have h32 : y < 32 := by omega
  rw [uo_in_bt h32, uo_in_bt h32, b_or, uo_sn0 x hx y hy, Bool.or_eq_true, decide_eq_true_eq]
theorem uo_pw : ∀ n, n < 11 → (1 : Int32) <<< (nI n &&& 31) = nI (2 ^ n) := by decide +kernel
theorem uo_pwb : ∀ n, n < 11 → 2 ^ n ≤ 1024 := by decide +kernel
theorem uo_n3 {b : Nat} (h : b < 2 ^ 31) : ¬ nI b = -3 := by
  intro e
  have e1 := nI_toInt h
  rw [e] at e1
  have e2 : (-3 : Int32).toInt = -3 := by decide
  omega
theorem uo_n1 {b : Nat} (h : b < 2 ^ 31) : ¬ nI b = -1 := by
  intro e
  have e1 := nI_toInt h
  rw [e] at e1
  have e2 : (-1 : Int32).toInt = -1 := by decide
  omega
