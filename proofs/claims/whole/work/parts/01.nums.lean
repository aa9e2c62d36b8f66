/-! 01: rows of kit/rows (pk_*) and the numbers: a score is an Int, its cell aa_i of it -/
theorem pk_us {f : Nat → Int32} {k : Nat} {x : Int32} : upd f k x k = x := if_pos rfl
theorem pk_un {f : Nat → Int32} {k j : Nat} {x : Int32} (h : j ≠ k) : upd f k x j = f j := if_neg h
theorem pk_sub {a b : Nat} (h : b ≤ a) : nI a - nI b = nI (a - b) := by
  obtain ⟨c, rfl⟩ : ∃ c, a = c + b := ⟨a - b, by omega⟩
  rw [← nI_add, Int32.add_sub_cancel, Nat.add_sub_cancel]
theorem pk_m1 (n : Nat) : nI (n + 1) + (-1) = nI n := by
  rw [← nI_1, Int32.add_assoc, show (1 : Int32) + (-1) = 0 from rfl, Int32.add_zero]
theorem pk_mul (a b : Nat) : nI a * nI b = nI (a * b) := (Int32.ofNat_mul a b).symm
theorem pk_div {a d : Nat} (ha : a < 2 ^ 31) (h0 : 0 < d) (hd : d < 2 ^ 31) : nI a / nI d = nI (a / d) := by
  apply Int32.toInt_inj.mp
  rw [lg_idiv_nonneg (by rw [nI_toInt ha]; omega) (by rw [nI_toInt hd]; omega), nI_toInt ha, nI_toInt hd, nI_toInt (Nat.lt_of_le_of_lt (Nat.div_le_self a d) ha)]
  first | rfl | exact (Int.natCast_ediv _ _).symm
theorem pk_rem {a d : Nat} (ha : a < 2 ^ 31) (h0 : 0 < d) (hd : d < 2 ^ 31) : nI a - nI a / nI d * nI d = nI (a % d) := by
  rw [pk_div ha h0 hd, pk_mul, pk_sub (Nat.div_mul_le_self a d)]
  exact congrArg nI (by have := Nat.div_add_mod' a d; omega)
theorem pk_ix (x : Int32) {n : Nat} (hn : n < 2 ^ 31) : x < 0 ∨ nI n ≤ x ∨ ∃ j : Nat, j < n ∧ x = nI j := by
  by_cases h : x < 0
  · exact Or.inl h
  · obtain ⟨j, hj, rfl⟩ := nI_of h
    by_cases h2 : j < n
    · exact Or.inr (Or.inr ⟨j, h2, rfl⟩)
    · exact Or.inr (Or.inl (nI_le (by omega) hj))
theorem pk_le {x y : Int32} {A B : Prop} (a b : Nat) (f : a ≤ b → A) (g : b < a → B) (hx : x = nI a := by rfl) (hy : y = nI b := by rfl) (ha : a < 2 ^ 31 := by omega) (hb : b < 2 ^ 31 := by omega) : (x ≤ y → A) ∧ (¬ x ≤ y → B) := by
  subst hx hy
  rw [nI_leI ha hb]
  exact ⟨f, fun z => g (by omega)⟩
theorem pk_lt {x y : Int32} {A B : Prop} (a b : Nat) (f : a < b → A) (g : b ≤ a → B) (hx : x = nI a := by rfl) (hy : y = nI b := by rfl) (ha : a < 2 ^ 31 := by omega) (hb : b < 2 ^ 31 := by omega) : (x < y → A) ∧ (¬ x < y → B) := by
  subst hx hy
  rw [nI_ltI ha hb]
  exact ⟨f, fun z => g (by omega)⟩
theorem pk_eq {x y : Int32} {A B : Prop} (a b : Nat) (f : a = b → A) (g : a ≠ b → B) (hx : x = nI a := by rfl) (hy : y = nI b := by rfl) (ha : a < 2 ^ 31 := by omega) (hb : b < 2 ^ 31 := by omega) : (x = y → A) ∧ (¬ x = y → B) := by
  subst hx hy
  rw [nI_eq ha hb]
  exact ⟨f, g⟩
theorem pk_in {x : Int32} (n N : Nat) (h : n < N) (hx : x = nI n := by rfl) (hN : N < 2 ^ 31 := by omega) : vp_in x N := by
  subst hx
  exact vp_in_nI h hN
theorem pk_cl {x : Int32} (n : Nat) (hx : x = nI n := by rfl) (h : n < 2 ^ 31 := by omega) : x.toNatClampNeg = n := by
  subst hx
  exact nI_clamp h
theorem pk_loopD {σ : Type} (W : Nat → Nat → σ → Prop) (I : Nat → σ → Prop) (hx : ∀ n s, I 0 s → W (n + 1) 0 s)
    (hs : ∀ n i s, I (i + 1) s → (∀ s', I i s' → W n i s') → W (n + 1) (i + 1) s) : ∀ (e : Nat) (s : σ), I e s → W (e + 1) e s := by
  intro e
  induction e with
  | zero => exact fun s h => hx 0 s h
  | succ e ih => exact fun s h => hs (e + 1) e s h (fun s' h' => ih s' h')
def aa_i (x : Int) : Int32 := Int32.ofInt x
theorem aa_i_add (a b : Int) : aa_i (a + b) = aa_i a + aa_i b := Int32.ofInt_add a b
theorem aa_i_sub (a b : Int) : aa_i (a - b) = aa_i a - aa_i b := Int32.ofInt_sub a b
theorem aa_i_mul (a b : Int) : aa_i (a * b) = aa_i a * aa_i b := Int32.ofInt_mul a b
theorem aa_i_neg (a : Int) : aa_i (-a) = -aa_i a := Int32.ofInt_neg a
theorem aa_i_of (x : Int32) : aa_i x.toInt = x := Int32.ofInt_toInt x
theorem aa_i_n (k : Nat) : aa_i (k : Int) = nI k := Int32.ofInt_eq_ofNat
theorem aa_i_T {x : Int} (h1 : -2000000000 ≤ x) (h2 : x ≤ 2000000000) : (aa_i x).toInt = x := Int32.toInt_ofInt_of_le (by omega) (by omega)
theorem aa_i_lt {a b : Int} (h1 : -2000000000 ≤ a) (h2 : a ≤ 2000000000) (h3 : -2000000000 ≤ b) (h4 : b ≤ 2000000000) : aa_i a < aa_i b ↔ a < b := by
  rw [Int32.lt_iff_toInt_lt, aa_i_T h1 h2, aa_i_T h3 h4]
theorem aa_i_le {a b : Int} (h1 : -2000000000 ≤ a) (h2 : a ≤ 2000000000) (h3 : -2000000000 ≤ b) (h4 : b ≤ 2000000000) : aa_i a ≤ aa_i b ↔ a ≤ b := by
  rw [Int32.le_iff_toInt_le, aa_i_T h1 h2, aa_i_T h3 h4]
theorem aa_i_eq {a b : Int} (h1 : -2000000000 ≤ a) (h2 : a ≤ 2000000000) (h3 : -2000000000 ≤ b) (h4 : b ≤ 2000000000) : aa_i a = aa_i b ↔ a = b := by
  rw [← Int32.toInt_inj, aa_i_T h1 h2, aa_i_T h3 h4]
/-- the state's index -/
def aa_s (i j t : Nat) : Nat := (i * 11 + j) * 3 + t
theorem aa_s_inj {i j t i' j' t' : Nat} (hj : j ≤ 10) (ht : t < 3) (hj' : j' ≤ 10) (ht' : t' < 3) (h : aa_s i j t = aa_s i' j' t') : i = i' ∧ j = j' ∧ t = t' := by
  unfold aa_s at h
  omega
theorem aa_s_lt {i j t : Nat} (hi : i ≤ 10) (hj : j ≤ 10) (ht : t < 3) : aa_s i j t < 363 := by
  unfold aa_s
  omega
theorem aa_s_nI (i j t : Nat) : (nI i * 11 + nI j) * 3 + nI t = nI (aa_s i j t) := by
  show (nI i * nI 11 + nI j) * nI 3 + nI t = _
  rw [pk_mul, nI_add, pk_mul, nI_add]
  rfl
