section
/-! 01: rows of kit/rows (pk_*) and the numbers: a score is an Int, its cell aa_i of it -/
theorem pk_us {f : Nat → Int32} {k : Nat} {x : Int32} : upd f k x k = x := if_pos rfl
theorem pk_un {f : Nat → Int32} {k j : Nat} {x : Int32} (h : j ≠ k) : upd f k x j = f j := if_neg h
theorem pk_sub {a b : Nat} (h : b ≤ a) : nI a - nI b = nI (a - b) := by
  obtain ⟨c, rfl⟩ : ∃ c, a = c + b := ⟨a - b, by omega⟩
  rw [← nI_add, Int32.add_sub_cancel, Nat.add_sub_cancel]
theorem pk_m1 (n : Nat) : nI (n + 1) + (-1) = nI n := by
  rw [← nI_1, Int32.add_assoc, show (1 : Int32) + (-1) = 0 from rfl, Int32.add_zero]
theorem pk_mul (a b : Nat) : nI a * nI b = nI (a * b) := (Int32.ofNat_mul a b).symm
theorem pk_div {a d : Nat} (ha : a < 2 ^ 31) (h0 : 0 < d) (hd : d < 2 ^ 31) : nI a / nI d = nI (a / d) := by
  apply Int32.toInt_inj.mp
  rw [lg_idiv_nonneg (by rw [nI_toInt ha]; omega) (by rw [nI_toInt hd]; omega), nI_toInt ha, nI_toInt hd, nI_toInt (Nat.lt_of_le_of_lt (Nat.div_le_self a d) ha)]
  first | rfl | exact (Int.natCast_ediv _ _).symm
theorem pk_rem {a d : Nat} (ha : a < 2 ^ 31) (h0 : 0 < d) (hd : d < 2 ^ 31) : nI a - nI a / nI d * nI d = nI (a % d) := by
  rw [pk_div ha h0 hd, pk_mul, pk_sub (Nat.div_mul_le_self a d)]
  exact congrArg nI (by have := Nat.div_add_mod' a d; omega)
theorem pk_ix (x : Int32) {n : Nat} (hn : n < 2 ^ 31) : x < 0 ∨ nI n ≤ x ∨ ∃ j : Nat, j < n ∧ x = nI j := by
  by_cases h : x < 0
  · exact Or.inl h
  · obtain ⟨j, hj, rfl⟩ := nI_of h
    by_cases h2 : j < n
    · exact Or.inr (Or.inr ⟨j, h2, rfl⟩)
    · exact Or.inr (Or.inl (nI_le (by omega) hj))
theorem pk_le {x y : Int32} {A B : Prop} (a b : Nat) (f : a ≤ b → A) (g : b < a → B) (hx : x = nI a := by rfl) (hy : y = nI b := by rfl) (ha : a < 2 ^ 31 := by omega) (hb : b < 2 ^ 31 := by omega) : (x ≤ y → A) ∧ (¬ x ≤ y → B) := by
  subst hx hy
  rw [nI_leI ha hb]
  exact ⟨f, fun z => g (by omega)⟩
theorem pk_lt {x y : Int32} {A B : Prop} (a b : Nat) (f : a < b → A) (g : b ≤ a → B) (hx : x = nI a := by rfl) (hy : y = nI b := by rfl) (ha : a < 2 ^ 31 := by omega) (hb : b < 2 ^ 31 := by omega) : (x < y → A) ∧ (¬ x < y → B) := by
  subst hx hy
  rw [nI_ltI ha hb]
  exact ⟨f, fun z => g (by omega)⟩
theorem pk_eq {x y : Int32} {A B : Prop} (a b : Nat) (f : a = b → A) (g : a ≠ b → B) (hx : x = nI a := by rfl) (hy : y = nI b := by rfl) (ha : a < 2 ^ 31 := by omega) (hb : b < 2 ^ 31 := by omega) : (x = y → A) ∧ (¬ x = y → B) := by
  subst hx hy
  rw [nI_eq ha hb]
  exact ⟨f, g⟩
theorem pk_in {x : Int32} (n N : Nat) (h : n < N) (hx : x = nI n := by rfl) (hN : N < 2 ^ 31 := by omega) : vp_in x N := by
  subst hx
  exact vp_in_nI h hN
theorem pk_cl {x : Int32} (n : Nat) (hx : x = nI n := by rfl) (h : n < 2 ^ 31 := by omega) : x.toNatClampNeg = n := by
  subst hx
  exact nI_clamp h
theorem pk_loopD {σ : Type} (W : Nat → Nat → σ → Prop) (I : Nat → σ → Prop) (hx : ∀ n s, I 0 s → W (n + 1) 0 s)
    (hs : ∀ n i s, I (i + 1) s → (∀ s', I i s' → W n i s') → W (n + 1) (i + 1) s) : ∀ (e : Nat) (s : σ), I e s → W (e + 1) e s := by
  intro e
  induction e with
  | zero => exact fun s h => hx 0 s h
  | succ e ih => exact fun s h => hs (e + 1) e s h (fun s' h' => ih s' h')
def aa_i (x : Int) : Int32 := Int32.ofInt x
theorem aa_i_add (a b : Int) : aa_i (a + b) = aa_i a + aa_i b := Int32.ofInt_add a b
theorem aa_i_sub (a b : Int) : aa_i (a - b) = aa_i a - aa_i b := Int32.ofInt_sub a b
theorem aa_i_mul (a b : Int) : aa_i (a * b) = aa_i a * aa_i b := Int32.ofInt_mul a b
theorem aa_i_neg (a : Int) : aa_i (-a) = -aa_i a := Int32.ofInt_neg a
theorem aa_i_of (x : Int32) : aa_i x.toInt = x := Int32.ofInt_toInt x
theorem aa_i_n (k : Nat) : aa_i (k : Int) = nI k := Int32.ofInt_eq_ofNat
theorem aa_i_T {x : Int} (h1 : -2000000000 ≤ x) (h2 : x ≤ 2000000000) : (aa_i x).toInt = x := Int32.toInt_ofInt_of_le (by omega) (by omega)
theorem aa_i_lt {a b : Int} (h1 : -2000000000 ≤ a) (h2 : a ≤ 2000000000) (h3 : -2000000000 ≤ b) (h4 : b ≤ 2000000000) : aa_i a < aa_i b ↔ a < b := by
  rw [Int32.lt_iff_toInt_lt, aa_i_T h1 h2, aa_i_T h3 h4]
theorem aa_i_le {a b : Int} (h1 : -2000000000 ≤ a) (h2 : a ≤ 2000000000) (h3 : -2000000000 ≤ b) (h4 : b ≤ 2000000000) : aa_i a ≤ aa_i b ↔ a ≤ b := by
  rw [Int32.le_iff_toInt_le, aa_i_T h1 h2, aa_i_T h3 h4]
theorem aa_i_eq {a b : Int} (h1 : -2000000000 ≤ a) (h2 : a ≤ 2000000000) (h3 : -2000000000 ≤ b) (h4 : b ≤ 2000000000) : aa_i a = aa_i b ↔ a = b := by
  rw [← Int32.toInt_inj, aa_i_T h1 h2, aa_i_T h3 h4]
/-- the state's index -/
def aa_s (i j t : Nat) : Nat := (i * 11 + j) * 3 + t
theorem aa_s_inj {i j t i' j' t' : Nat} (hj : j ≤ 10) (ht : t < 3) (hj' : j' ≤ 10) (ht' : t' < 3) (h : aa_s i j t = aa_s i' j' t') : i = i' ∧ j = j' ∧ t = t' := by
  unfold aa_s at h
  omega
theorem aa_s_lt {i j t : Nat} (hi : i ≤ 10) (hj : j ≤ 10) (ht : t < 3) : aa_s i j t < 363 := by
  unfold aa_s
  omega
theorem aa_s_nI (i j t : Nat) : (nI i * 11 + nI j) * 3 + nI t = nI (aa_s i j t) := by
  show (nI i * nI 11 + nI j) * nI 3 + nI t = _
  rw [pk_mul, nI_add, pk_mul, nI_add]
  rfl
end
section
/-! 02: pairs of a score and of how often; none: nothing fits -/
abbrev aa_P : Type := Option (Int × Int32)
def aa_j2 (a b : Int × Int32) : Int × Int32 := if a.1 < b.1 then b else if b.1 < a.1 then a else (a.1, a.2 + b.2)
def aa_jn (x y : aa_P) : aa_P :=
  match x, y with
  | none, y => y
  | some a, none => some a
  | some a, some b => some (aa_j2 a b)
def aa_sh (c : Int) (x : aa_P) : aa_P :=
  match x with
  | none => none
  | some a => some (a.1 + c, a.2)
theorem aa_jn_n (x : aa_P) : aa_jn x none = x := by cases x <;> rfl
theorem aa_n_jn (x : aa_P) : aa_jn none x = x := by cases x <;> rfl
theorem aa_j2_comm (a b : Int × Int32) : aa_j2 a b = aa_j2 b a := by
  obtain ⟨a1, a2⟩ := a
  obtain ⟨b1, b2⟩ := b
  unfold aa_j2
  dsimp only
  by_cases h1 : a1 < b1
  · rw [if_pos h1, if_neg (by omega), if_pos h1]
  · by_cases h2 : b1 < a1
    · rw [if_neg h1, if_pos h2, if_pos h2]
    · have e : a1 = b1 := by omega
      subst e
      rw [if_neg h1, if_neg h1, if_neg h1, if_neg h1, Int32.add_comm]
theorem aa_j2_assoc (a b c : Int × Int32) : aa_j2 (aa_j2 a b) c = aa_j2 a (aa_j2 b c) := by
  obtain ⟨a1, a2⟩ := a
  obtain ⟨b1, b2⟩ := b
  obtain ⟨c1, c2⟩ := c
  unfold aa_j2
  grind
theorem aa_jn_comm (x y : aa_P) : aa_jn x y = aa_jn y x := by
  cases x with
  | none => rw [aa_n_jn, aa_jn_n]
  | some a =>
    cases y with
    | none => rfl
    | some b => exact congrArg some (aa_j2_comm a b)
theorem aa_jn_assoc (x y z : aa_P) : aa_jn (aa_jn x y) z = aa_jn x (aa_jn y z) := by
  cases x with
  | none => rw [aa_n_jn, aa_n_jn]
  | some a =>
    cases y with
    | none => rw [aa_jn_n, aa_n_jn]
    | some b =>
      cases z with
      | none => rw [aa_jn_n, aa_jn_n]
      | some c => exact congrArg some (aa_j2_assoc a b c)
theorem aa_jn_swap (x y z : aa_P) : aa_jn (aa_jn x y) z = aa_jn (aa_jn x z) y := by
  rw [aa_jn_assoc, aa_jn_comm y z, ← aa_jn_assoc]
theorem aa_sh_n (c : Int) : aa_sh c none = none := rfl
theorem aa_sh_jn (c : Int) (x y : aa_P) : aa_sh c (aa_jn x y) = aa_jn (aa_sh c x) (aa_sh c y) := by
  cases x with
  | none => rw [aa_n_jn, aa_sh_n, aa_n_jn]
  | some a =>
    cases y with
    | none => rfl
    | some b =>
      obtain ⟨a1, a2⟩ := a
      obtain ⟨b1, b2⟩ := b
      refine congrArg some ?_
      unfold aa_j2
      dsimp only
      grind
theorem aa_sh_sh (c d : Int) (x : aa_P) : aa_sh c (aa_sh d x) = aa_sh (d + c) x := by
  cases x with
  | none => rfl
  | some a => exact congrArg some (by rw [show a.1 + d + c = a.1 + (d + c) by omega])
theorem aa_sh_0 (x : aa_P) : aa_sh 0 x = x := by
  cases x with
  | none => rfl
  | some a => exact congrArg some (by rw [show a.1 + 0 = a.1 by omega])
/-- bounds -/
def aa_Bd (k : Nat) (x : aa_P) : Prop := ∀ p, x = some p → -18 * (k : Int) ≤ p.1 ∧ p.1 ≤ 18 * (k : Int)
theorem aa_Bd_n (k : Nat) : aa_Bd k none := fun _ h => nomatch h
theorem aa_Bd_s {k : Nat} {p : Int × Int32} (h1 : -18 * (k : Int) ≤ p.1) (h2 : p.1 ≤ 18 * (k : Int)) : aa_Bd k (some p) := fun q h => by
  cases h
  exact ⟨h1, h2⟩
theorem aa_Bd_mono {k k' : Nat} {x : aa_P} (h : aa_Bd k x) (hk : k ≤ k') : aa_Bd k' x := fun p e => by
  have := h p e
  omega
theorem aa_j2_or (a b : Int × Int32) : (aa_j2 a b).1 = a.1 ∨ (aa_j2 a b).1 = b.1 := by
  unfold aa_j2
  split
  · exact Or.inr rfl
  · split
    · exact Or.inl rfl
    · exact Or.inl rfl
theorem aa_Bd_jn {k : Nat} {x y : aa_P} (hx : aa_Bd k x) (hy : aa_Bd k y) : aa_Bd k (aa_jn x y) := by
  cases x with
  | none => rw [aa_n_jn]; exact hy
  | some a =>
    cases y with
    | none => exact hx
    | some b =>
      have ha := hx a rfl
      have hb := hy b rfl
      refine aa_Bd_s ?_ ?_
      · rcases aa_j2_or a b with h | h <;> rw [h] <;> omega
      · rcases aa_j2_or a b with h | h <;> rw [h] <;> omega
theorem aa_Bd_sh {k : Nat} {x : aa_P} {c : Int} (hx : aa_Bd k x) (h1 : -18 ≤ c) (h2 : c ≤ 18) : aa_Bd (k + 1) (aa_sh c x) := by
  cases x with
  | none => exact aa_Bd_n _
  | some a =>
    have ha := hx a rfl
    refine aa_Bd_s ?_ ?_
    · show _ ≤ a.1 + c
      omega
    · show a.1 + c ≤ _
      omega
theorem aa_so_l {x : aa_P} (y : aa_P) (h : ∃ p, x = some p) : ∃ p, aa_jn x y = some p := by
  obtain ⟨p, rfl⟩ := h
  cases y with
  | none => exact ⟨p, rfl⟩
  | some b => exact ⟨_, rfl⟩
theorem aa_so_r (x : aa_P) {y : aa_P} (h : ∃ p, y = some p) : ∃ p, aa_jn x y = some p := by
  rw [aa_jn_comm]
  exact aa_so_l x h
/-- score, count -/
def aa_sc (x : aa_P) : Int :=
  match x with
  | none => -100000
  | some p => p.1
def aa_ct (x : aa_P) : Int32 :=
  match x with
  | none => 0
  | some p => p.2
/-- how often at score s -/
def aa_cn (s : Int) (x : aa_P) : Int32 :=
  match x with
  | none => 0
  | some p => if p.1 = s then p.2 else 0
def aa_Le (s : Int) (x : aa_P) : Prop := ∀ p, x = some p → p.1 ≤ s
def aa_At (s : Int) (x : aa_P) : Prop := ∃ p, x = some p ∧ p.1 = s
theorem aa_cn_jn {s : Int} {x y : aa_P} (h : aa_Le s (aa_jn x y)) : aa_cn s (aa_jn x y) = aa_cn s x + aa_cn s y ∧ aa_Le s x ∧ aa_Le s y := by
  cases x with
  | none =>
    rw [aa_n_jn] at h ⊢
    exact ⟨(Int32.zero_add _).symm, (fun _ e => nomatch e), h⟩
  | some a =>
    cases y with
    | none => exact ⟨(Int32.add_zero _).symm, h, (fun _ e => nomatch e)⟩
    | some b =>
      obtain ⟨a1, a2⟩ := a
      obtain ⟨b1, b2⟩ := b
      have h0 := h _ rfl
      have h1 : a1 ≤ s ∧ b1 ≤ s := by
        unfold aa_j2 at h0
        dsimp only at h0
        split at h0
        · dsimp only at h0; omega
        · split at h0
          · dsimp only at h0; omega
          · dsimp only at h0; omega
      refine ⟨?_, fun p e => by cases e; exact h1.1, fun p e => by cases e; exact h1.2⟩
      show (if (aa_j2 (a1, a2) (b1, b2)).1 = s then (aa_j2 (a1, a2) (b1, b2)).2 else 0) = (if a1 = s then a2 else 0) + (if b1 = s then b2 else 0)
      unfold aa_j2
      dsimp only
      by_cases q1 : a1 < b1
      · rw [if_pos q1, if_neg (show ¬ a1 = s by omega), Int32.zero_add]
      · by_cases q2 : b1 < a1
        · rw [if_neg q1, if_pos q2, if_neg (show ¬ b1 = s by omega), Int32.add_zero]
        · have e : a1 = b1 := by omega
          subst e
          rw [if_neg q1, if_neg q1]
          by_cases q3 : a1 = s
          · rw [if_pos q3, if_pos q3, if_pos q3]
          · rw [if_neg q3, if_neg q3, if_neg q3, Int32.add_zero]
theorem aa_At_jn {s : Int} {x y : aa_P} (h : aa_At s (aa_jn x y)) : aa_At s x ∨ aa_At s y := by
  cases x with
  | none =>
    rw [aa_n_jn] at h
    exact Or.inr h
  | some a =>
    cases y with
    | none => exact Or.inl h
    | some b =>
      obtain ⟨p, e, hp⟩ := h
      cases e
      rcases aa_j2_or a b with q | q
      · exact Or.inl ⟨a, rfl, by rw [← hp, q]⟩
      · exact Or.inr ⟨b, rfl, by rw [← hp, q]⟩
theorem aa_cn_sh {s c : Int} {x : aa_P} : aa_cn s (aa_sh c x) = if aa_sc x + c = s then aa_ct x else 0 := by
  cases x with
  | none =>
    show (0 : Int32) = if _ then 0 else 0
    split <;> rfl
  | some a => rfl
end
section
/-! 03: the values: aa_V the component's (a gap column by column), aa_Q the reference's (a gap taken whole) -/
section
def aa_E (n m h i j : Nat) : aa_P := if (i = n ∧ j = m) ∨ h = 1 ∨ (h = 2 ∧ i = n) then some (0, 1) else none
def aa_V (g : Nat → Nat → Int) (o l : Int) (n m h i j t : Nat) : aa_P :=
  aa_jn (aa_jn (aa_jn (aa_E n m h i j)
    (if hh : i < n ∧ j < m then aa_sh (g i j) (aa_V g o l n m h (i + 1) (j + 1) 0) else none))
    (if hh : i < n then aa_sh (if t = 1 then -l else -o - l) (aa_V g o l n m h (i + 1) j 1) else none))
    (if hh : j < m then aa_sh (if t = 2 then -l else -o - l) (aa_V g o l n m h i (j + 1) 2) else none)
termination_by (n - i) + (m - j)
decreasing_by
  all_goals omega
variable (g : Nat → Nat → Int) (o l : Int) (n m h : Nat)
def aa_D (i j : Nat) : aa_P := if i < n ∧ j < m then aa_sh (g i j) (aa_V g o l n m h (i + 1) (j + 1) 0) else none
def aa_U (c : Int) (i j : Nat) : aa_P := if i < n then aa_sh c (aa_V g o l n m h (i + 1) j 1) else none
def aa_L (c : Int) (i j : Nat) : aa_P := if j < m then aa_sh c (aa_V g o l n m h i (j + 1) 2) else none
theorem aa_V_eq (i j t : Nat) : aa_V g o l n m h i j t = aa_jn (aa_jn (aa_jn (aa_E n m h i j) (aa_D g o l n m h i j)) (aa_U g o l n m h (if t = 1 then -l else -o - l) i j)) (aa_L g o l n m h (if t = 2 then -l else -o - l) i j) := by
  conv => lhs; unfold aa_V
  simp only [dite_eq_ite, aa_D, aa_U, aa_L]
def aa_Q (i j t : Nat) : aa_P := aa_jn (aa_jn (aa_jn (aa_E n m h i j) (aa_D g o l n m h i j)) (if t = 1 then none else aa_U g o l n m h (-o - l) i j)) (if t = 2 then none else aa_L g o l n m h (-o - l) i j)
theorem aa_V0 (i j : Nat) : aa_V g o l n m h i j 0 = aa_Q g o l n m h i j 0 := by
  rw [aa_V_eq]
  rfl
theorem aa_V1 (i j : Nat) : aa_V g o l n m h i j 1 = aa_jn (aa_Q g o l n m h i j 1) (aa_U g o l n m h (-l) i j) := by
  rw [aa_V_eq]
  show aa_jn (aa_jn (aa_jn (aa_E n m h i j) (aa_D g o l n m h i j)) (aa_U g o l n m h (-l) i j)) (aa_L g o l n m h (-o - l) i j) = aa_jn (aa_jn (aa_jn (aa_jn (aa_E n m h i j) (aa_D g o l n m h i j)) none) (aa_L g o l n m h (-o - l) i j)) (aa_U g o l n m h (-l) i j)
  rw [aa_jn_n, aa_jn_swap]
theorem aa_V2 (i j : Nat) : aa_V g o l n m h i j 2 = aa_jn (aa_Q g o l n m h i j 2) (aa_L g o l n m h (-l) i j) := by
  rw [aa_V_eq]
  show aa_jn (aa_jn (aa_jn (aa_E n m h i j) (aa_D g o l n m h i j)) (aa_U g o l n m h (-o - l) i j)) (aa_L g o l n m h (-l) i j) = aa_jn (aa_jn (aa_jn (aa_jn (aa_E n m h i j) (aa_D g o l n m h i j)) (aa_U g o l n m h (-o - l) i j)) none) (aa_L g o l n m h (-l) i j)
  rw [aa_jn_n]
def aa_Ok : Prop := (∀ i j, i < n → j < m → -9 ≤ g i j ∧ g i j ≤ 9) ∧ 0 ≤ o ∧ o ≤ 9 ∧ 0 ≤ l ∧ l ≤ 9 ∧ n ≤ 10 ∧ m ≤ 10
end
section
variable {g : Nat → Nat → Int} {o l : Int} {n m h : Nat}
theorem aa_E_bd (k i j : Nat) : aa_Bd k (aa_E n m h i j) := by
  unfold aa_E
  split
  · refine aa_Bd_s ?_ ?_
    · show -18 * (k : Int) ≤ 0
      omega
    · show 0 ≤ 18 * (k : Int)
      omega
  · exact aa_Bd_n _
theorem aa_D_bd (H : aa_Ok g o l n m) {i j : Nat} (ih : i < n → j < m → aa_Bd ((n - (i + 1)) + (m - (j + 1))) (aa_V g o l n m h (i + 1) (j + 1) 0)) : aa_Bd ((n - i) + (m - j)) (aa_D g o l n m h i j) := by
  unfold aa_D
  split
  · rename_i q
    have hg := H.1 i j q.1 q.2
    exact aa_Bd_mono (aa_Bd_sh (ih q.1 q.2) (by omega) (by omega)) (by omega)
  · exact aa_Bd_n _
theorem aa_U_bd {c : Int} (h1 : -18 ≤ c) (h2 : c ≤ 18) {i j : Nat} (ih : i < n → aa_Bd ((n - (i + 1)) + (m - j)) (aa_V g o l n m h (i + 1) j 1)) : aa_Bd ((n - i) + (m - j)) (aa_U g o l n m h c i j) := by
  unfold aa_U
  split
  · rename_i q
    exact aa_Bd_mono (aa_Bd_sh (ih q) h1 h2) (by omega)
  · exact aa_Bd_n _
theorem aa_L_bd {c : Int} (h1 : -18 ≤ c) (h2 : c ≤ 18) {i j : Nat} (ih : j < m → aa_Bd ((n - i) + (m - (j + 1))) (aa_V g o l n m h i (j + 1) 2)) : aa_Bd ((n - i) + (m - j)) (aa_L g o l n m h c i j) := by
  unfold aa_L
  split
  · rename_i q
    exact aa_Bd_mono (aa_Bd_sh (ih q) h1 h2) (by omega)
  · exact aa_Bd_n _
theorem aa_sh_so {c : Int} {x : aa_P} (hx : ∃ p, x = some p) : ∃ p, aa_sh c x = some p := by
  obtain ⟨p, rfl⟩ := hx
  exact ⟨_, rfl⟩
theorem aa_V_ok (H : aa_Ok g o l n m) : ∀ (k i j t : Nat), i ≤ n → j ≤ m → (n - i) + (m - j) ≤ k → (∃ p, aa_V g o l n m h i j t = some p) ∧ aa_Bd ((n - i) + (m - j)) (aa_V g o l n m h i j t) := by
  intro k
  have hcl := H.2.2.2.1
  have hcl' := H.2.2.2.2.1
  have hco := H.2.1
  have hco' := H.2.2.1
  induction k with
  | zero =>
    intro i j t hi hj hk
    have e1 : i = n := by omega
    have e2 : j = m := by omega
    subst e1 e2
    have e3 : aa_V g o l i j h i j t = some (0, 1) := by
      rw [aa_V_eq, aa_E, aa_D, aa_U, aa_L, if_pos (Or.inl ⟨rfl, rfl⟩), if_neg (by omega), if_neg (by omega), if_neg (by omega)]
      rfl
    rw [e3]
    exact ⟨⟨_, rfl⟩, aa_Bd_s (by show _ ≤ (0 : Int); omega) (by show (0 : Int) ≤ _; omega)⟩
  | succ k ih =>
    intro i j t hi hj hk
    have c1 : -18 ≤ (if t = 1 then -l else -o - l) ∧ (if t = 1 then -l else -o - l) ≤ 18 := by split <;> omega
    have c2 : -18 ≤ (if t = 2 then -l else -o - l) ∧ (if t = 2 then -l else -o - l) ≤ 18 := by split <;> omega
    rw [aa_V_eq]
    refine ⟨?_, aa_Bd_jn (aa_Bd_jn (aa_Bd_jn (aa_E_bd _ _ _) (aa_D_bd H fun a b => (ih _ _ _ (by omega) (by omega) (by omega)).2)) (aa_U_bd c1.1 c1.2 fun a => (ih _ _ _ (by omega) (by omega) (by omega)).2)) (aa_L_bd c2.1 c2.2 fun a => (ih _ _ _ (by omega) (by omega) (by omega)).2)⟩
    by_cases q1 : i < n
    · refine aa_so_l _ (aa_so_r _ ?_)
      rw [aa_U, if_pos q1]
      exact aa_sh_so (ih _ _ _ (by omega) (by omega) (by omega)).1
    · by_cases q2 : j < m
      · refine aa_so_r _ ?_
        rw [aa_L, if_pos q2]
        exact aa_sh_so (ih _ _ _ (by omega) (by omega) (by omega)).1
      · refine aa_so_l _ (aa_so_l _ (aa_so_l _ ?_))
        rw [aa_E, if_pos (Or.inl ⟨by omega, by omega⟩)]
        exact ⟨_, rfl⟩
theorem aa_V_so (H : aa_Ok g o l n m) {i j : Nat} (hi : i ≤ n) (hj : j ≤ m) (t : Nat) : ∃ p, aa_V g o l n m h i j t = some p := (aa_V_ok H _ i j t hi hj (Nat.le_refl _)).1
theorem aa_V_bd (H : aa_Ok g o l n m) {i j : Nat} (hi : i ≤ n) (hj : j ≤ m) (t : Nat) : aa_Bd ((n - i) + (m - j)) (aa_V g o l n m h i j t) := (aa_V_ok H _ i j t hi hj (Nat.le_refl _)).2
theorem aa_V_in (H : aa_Ok g o l n m) {i j : Nat} (hi : i ≤ n) (hj : j ≤ m) (t : Nat) : -360 ≤ aa_sc (aa_V g o l n m h i j t) ∧ aa_sc (aa_V g o l n m h i j t) ≤ 360 := by
  obtain ⟨p, e⟩ := aa_V_so (h := h) H hi hj t
  have b := aa_V_bd (h := h) H hi hj t p e
  have h1 := H.2.2.2.2.2.1
  have h2 := H.2.2.2.2.2.2
  rw [e]
  show -360 ≤ p.1 ∧ p.1 ≤ 360
  omega
theorem aa_Q_bd (H : aa_Ok g o l n m) {i j : Nat} (hi : i ≤ n) (hj : j ≤ m) (t : Nat) : aa_Bd 20 (aa_Q g o l n m h i j t) := by
  have hcl := H.2.2.2.1
  have hcl' := H.2.2.2.2.1
  have hco := H.2.1
  have hco' := H.2.2.1
  have h1 := H.2.2.2.2.2.1
  have h2 := H.2.2.2.2.2.2
  have bU : aa_Bd ((n - i) + (m - j)) (aa_U g o l n m h (-o - l) i j) := aa_U_bd (by omega) (by omega) fun a => aa_V_bd H (by omega) (by omega) _
  have bL : aa_Bd ((n - i) + (m - j)) (aa_L g o l n m h (-o - l) i j) := aa_L_bd (by omega) (by omega) fun a => aa_V_bd H (by omega) (by omega) _
  unfold aa_Q
  refine aa_Bd_mono (k := (n - i) + (m - j)) (aa_Bd_jn (aa_Bd_jn (aa_Bd_jn (aa_E_bd _ _ _) (aa_D_bd H fun a b => aa_V_bd H (by omega) (by omega) _)) ?_) ?_) (by omega)
  · split
    · exact aa_Bd_n _
    · exact bU
  · split
    · exact aa_Bd_n _
    · exact bL
end
end
section
/-! 04: the moves; tight ones; the counts -/
section
abbrev aa_ni (i s : Nat) : Nat := if s = 2 then i else i + 1
abbrev aa_nj (j s : Nat) : Nat := if s = 1 then j else j + 1
abbrev aa_has (n m i j s : Nat) : Prop := (s = 2 ∨ i < n) ∧ (s = 1 ∨ j < m)
variable (g : Nat → Nat → Int) (o l : Int) (n m h : Nat)
def aa_cs (i j t s : Nat) : Int := if s = 0 then g i j else if s = t then -l else -o - l
def aa_cd (i j t s : Nat) : aa_P := if aa_has n m i j s then aa_sh (aa_cs g o l i j t s) (aa_V g o l n m h (aa_ni i s) (aa_nj j s) s) else none
abbrev aa_tg (i j t s : Nat) : Prop := aa_has n m i j s ∧ aa_cs g o l i j t s + aa_sc (aa_V g o l n m h (aa_ni i s) (aa_nj j s) s) = aa_sc (aa_V g o l n m h i j t)
theorem aa_cd0 (i j t : Nat) : aa_cd g o l n m h i j t 0 = aa_D g o l n m h i j := by
  unfold aa_cd aa_D aa_cs
  simp [aa_has, aa_ni, aa_nj]
theorem aa_cd1 (i j t : Nat) : aa_cd g o l n m h i j t 1 = aa_U g o l n m h (if t = 1 then -l else -o - l) i j := by
  unfold aa_cd aa_U aa_cs
  by_cases q : t = 1
  · subst q; simp [aa_has, aa_ni, aa_nj]
  · have q' : ¬ 1 = t := fun e => q e.symm
    simp [q, q', aa_has, aa_ni, aa_nj]
theorem aa_cd2 (i j t : Nat) : aa_cd g o l n m h i j t 2 = aa_L g o l n m h (if t = 2 then -l else -o - l) i j := by
  unfold aa_cd aa_L aa_cs
  by_cases q : t = 2
  · subst q; simp [aa_has, aa_ni, aa_nj]
  · have q' : ¬ 2 = t := fun e => q e.symm
    simp [q, q', aa_has, aa_ni, aa_nj]
theorem aa_V_cd (i j t : Nat) : aa_V g o l n m h i j t = aa_jn (aa_jn (aa_jn (aa_E n m h i j) (aa_cd g o l n m h i j t 0)) (aa_cd g o l n m h i j t 1)) (aa_cd g o l n m h i j t 2) := by
  rw [aa_cd0, aa_cd1, aa_cd2]
  exact aa_V_eq g o l n m h i j t
end
section
variable {g : Nat → Nat → Int} {o l : Int} {n m h : Nat}
theorem aa_top (H : aa_Ok g o l n m) {i j : Nat} (hi : i ≤ n) (hj : j ≤ m) (t : Nat) :
    (aa_ct (aa_V g o l n m h i j t) = aa_cn (aa_sc (aa_V g o l n m h i j t)) (aa_E n m h i j) + aa_cn (aa_sc (aa_V g o l n m h i j t)) (aa_cd g o l n m h i j t 0) + aa_cn (aa_sc (aa_V g o l n m h i j t)) (aa_cd g o l n m h i j t 1) + aa_cn (aa_sc (aa_V g o l n m h i j t)) (aa_cd g o l n m h i j t 2))
    ∧ aa_Le (aa_sc (aa_V g o l n m h i j t)) (aa_E n m h i j)
    ∧ (∀ s, s < 3 → aa_Le (aa_sc (aa_V g o l n m h i j t)) (aa_cd g o l n m h i j t s))
    ∧ (aa_At (aa_sc (aa_V g o l n m h i j t)) (aa_E n m h i j) ∨ ∃ s, s < 3 ∧ aa_At (aa_sc (aa_V g o l n m h i j t)) (aa_cd g o l n m h i j t s)) := by
  obtain ⟨p, e⟩ := aa_V_so (h := h) H hi hj t
  have e1 : aa_sc (aa_V g o l n m h i j t) = p.1 := by rw [e]; rfl
  have e2 : aa_ct (aa_V g o l n m h i j t) = p.2 := by rw [e]; rfl
  have e3 := aa_V_cd g o l n m h i j t
  rw [e1, e2]
  rw [e] at e3
  have hLe : aa_Le p.1 (some p) := fun q eq => by cases eq; exact Int.le_refl _
  have hAt : aa_At p.1 (some p) := ⟨p, rfl, rfl⟩
  have hcn : aa_cn p.1 (some p) = p.2 := if_pos rfl
  rw [e3] at hLe hAt hcn
  obtain ⟨a1, a2, a3⟩ := aa_cn_jn hLe
  obtain ⟨b1, b2, b3⟩ := aa_cn_jn a2
  obtain ⟨c1, c2, c3⟩ := aa_cn_jn b2
  refine ⟨?_, c2, ?_, ?_⟩
  · rw [← hcn, a1, b1, c1]
  · intro s hs
    match s, hs with
    | 0, _ => exact c3
    | 1, _ => exact b3
    | 2, _ => exact a3
  · rcases aa_At_jn hAt with q | q
    · rcases aa_At_jn q with q | q
      · rcases aa_At_jn q with q | q
        · exact Or.inl q
        · exact Or.inr ⟨0, by decide, q⟩
      · exact Or.inr ⟨1, by decide, q⟩
    · exact Or.inr ⟨2, by decide, q⟩
theorem aa_has_in {i j s : Nat} (hs : aa_has n m i j s) (hi : i ≤ n) (hj : j ≤ m) : aa_ni i s ≤ n ∧ aa_nj j s ≤ m := by
  obtain ⟨h1, h2⟩ := hs
  refine ⟨?_, ?_⟩
  · unfold aa_ni
    split <;> omega
  · unfold aa_nj
    split <;> omega
theorem aa_nij {i j s : Nat} : i ≤ aa_ni i s ∧ j ≤ aa_nj j s ∧ i + j < aa_ni i s + aa_nj j s := by
  unfold aa_ni aa_nj
  by_cases h1 : s = 2
  · subst h1
    rw [if_pos rfl, if_neg (by decide)]
    omega
  · rw [if_neg h1]
    split <;> omega
theorem aa_cd_le (H : aa_Ok g o l n m) {i j : Nat} (hi : i ≤ n) (hj : j ≤ m) (t : Nat) {s : Nat} (hs : s < 3) (hh : aa_has n m i j s) : aa_cs g o l i j t s + aa_sc (aa_V g o l n m h (aa_ni i s) (aa_nj j s) s) ≤ aa_sc (aa_V g o l n m h i j t) := by
  have h1 := (aa_top (h := h) H hi hj t).2.2.1 s hs
  have hin := aa_has_in hh hi hj
  obtain ⟨q, e⟩ := aa_V_so (h := h) H hin.1 hin.2 s
  rw [aa_cd, if_pos hh, e] at h1
  have h2 := h1 _ rfl
  rw [e]
  show _ + q.1 ≤ _
  have h3 : q.1 + aa_cs g o l i j t s ≤ aa_sc (aa_V g o l n m h i j t) := h2
  omega
theorem aa_tg_ex (H : aa_Ok g o l n m) {i j : Nat} (hi : i ≤ n) (hj : j ≤ m) (t : Nat) (hE : aa_E n m h i j = none) : ∃ s, s < 3 ∧ aa_tg g o l n m h i j t s := by
  rcases (aa_top (h := h) H hi hj t).2.2.2 with q | ⟨s, hs, p, e, hp⟩
  · rw [hE] at q
    obtain ⟨p, e, _⟩ := q
    exact nomatch e
  · refine ⟨s, hs, ?_⟩
    by_cases hh : aa_has n m i j s
    · refine ⟨hh, ?_⟩
      rw [aa_cd, if_pos hh] at e
      have hin := aa_has_in hh hi hj
      obtain ⟨q, e'⟩ := aa_V_so (h := h) H hin.1 hin.2 s
      rw [e'] at e
      rw [e', ← hp]
      cases e
      show _ + q.1 = q.1 + _
      omega
    · rw [aa_cd, if_neg hh] at e
      exact nomatch e
theorem aa_cn_cd (i j t s : Nat) : aa_cn (aa_sc (aa_V g o l n m h i j t)) (aa_cd g o l n m h i j t s) = if aa_tg g o l n m h i j t s then aa_ct (aa_V g o l n m h (aa_ni i s) (aa_nj j s) s) else 0 := by
  by_cases hh : aa_has n m i j s
  · rw [aa_cd, if_pos hh, aa_cn_sh]
    by_cases e : aa_sc (aa_V g o l n m h (aa_ni i s) (aa_nj j s) s) + aa_cs g o l i j t s = aa_sc (aa_V g o l n m h i j t)
    · rw [if_pos e, if_pos ⟨hh, by omega⟩]
    · rw [if_neg e, if_neg (fun q => e (by have := q.2; omega))]
  · rw [aa_cd, if_neg hh, if_neg (fun q => hh q.1)]
    rfl
theorem aa_ct_eq (H : aa_Ok g o l n m) {i j : Nat} (hi : i ≤ n) (hj : j ≤ m) (t : Nat) (hE : aa_E n m h i j = none) :
    aa_ct (aa_V g o l n m h i j t) = (0 + (if aa_tg g o l n m h i j t 0 then aa_ct (aa_V g o l n m h (aa_ni i 0) (aa_nj j 0) 0) else 0)) + (if aa_tg g o l n m h i j t 1 then aa_ct (aa_V g o l n m h (aa_ni i 1) (aa_nj j 1) 1) else 0) + (if aa_tg g o l n m h i j t 2 then aa_ct (aa_V g o l n m h (aa_ni i 2) (aa_nj j 2) 2) else 0) := by
  rw [(aa_top (h := h) H hi hj t).1, hE, aa_cn_cd, aa_cn_cd, aa_cn_cd]
  rfl
theorem aa_V_end (t : Nat) : aa_V g o l n m 0 n m t = some (0, 1) := by
  rw [aa_V_eq, aa_E, aa_D, aa_U, aa_L, if_pos (Or.inl ⟨rfl, rfl⟩), if_neg (by omega), if_neg (by omega), if_neg (by omega)]
  rfl
theorem aa_E_no {i j : Nat} (hn : ¬ (i = n ∧ j = m)) : aa_E n m 0 i j = none := by
  unfold aa_E
  rw [if_neg]
  omega
end
end
section
/-! 05: paired and the walk, in the picture -/
section
variable {g : Nat → Nat → Int} {o l : Int} {n m : Nat}
theorem aa_Ok_box (H : aa_Ok g o l n m) {a b : Nat} (ha : a < n) (hb : b < m) : aa_Ok g o l a b := by
  obtain ⟨h1, h2, h3, h4, h5, h6, h7⟩ := H
  exact ⟨fun i j hi hj => h1 i j (by omega) (by omega), h2, h3, h4, h5, by omega, by omega⟩
theorem aa_has_box {a b i j s : Nat} (ha : a < n) (hb : b < m) (hh : aa_has a b i j s) : aa_has n m i j s :=
  ⟨hh.1.imp id (fun q => Nat.lt_trans q ha), hh.2.imp id (fun q => Nat.lt_trans q hb)⟩
theorem aa_sup (H : aa_Ok g o l n m) {a b : Nat} (ha : a < n) (hb : b < m) : ∀ (k i j t : Nat), i ≤ a → j ≤ b → (a - i) + (b - j) ≤ k →
    aa_sc (aa_V g o l a b 0 i j t) + (g a b + aa_sc (aa_V g o l n m 0 (a + 1) (b + 1) 0)) ≤ aa_sc (aa_V g o l n m 0 i j t) := by
  have H' := aa_Ok_box H ha hb
  have hend : ∀ t, aa_sc (aa_V g o l a b 0 a b t) + (g a b + aa_sc (aa_V g o l n m 0 (a + 1) (b + 1) 0)) ≤ aa_sc (aa_V g o l n m 0 a b t) := by
    intro t
    have q : g a b + aa_sc (aa_V g o l n m 0 (a + 1) (b + 1) 0) ≤ aa_sc (aa_V g o l n m 0 a b t) := aa_cd_le (s := 0) H (Nat.le_of_lt ha) (Nat.le_of_lt hb) t (by decide) ⟨Or.inr ha, Or.inr hb⟩
    rw [aa_V_end]
    show (0 : Int) + _ ≤ _
    omega
  intro k
  induction k with
  | zero =>
    intro i j t hi hj hk
    have e1 : i = a := by omega
    have e2 : j = b := by omega
    subst e1 e2
    exact hend t
  | succ k ih =>
    intro i j t hi hj hk
    by_cases e : i = a ∧ j = b
    · obtain ⟨rfl, rfl⟩ := e
      exact hend t
    · obtain ⟨s, hs, hh, ht⟩ := aa_tg_ex H' hi hj t (aa_E_no e)
      have hin := aa_has_in hh hi hj
      have hgt := aa_nij (i := i) (j := j) (s := s)
      have h1 := ih (aa_ni i s) (aa_nj j s) s hin.1 hin.2 (by omega)
      have h2 := aa_cd_le (h := 0) H (by omega) (by omega) t hs (aa_has_box ha hb hh)
      omega
theorem aa_pr1 (H : aa_Ok g o l n m) {a b : Nat} (ha : a < n) (hb : b < m) (R : Nat → Nat → Nat → Prop)
    (hc : ∀ i j t s, i ≤ n → j ≤ m → t < 3 → s < 3 → R i j t → aa_tg g o l n m 0 i j t s → R (aa_ni i s) (aa_nj j s) s) :
    ∀ (k i j t : Nat), i ≤ a → j ≤ b → t < 3 → (a - i) + (b - j) ≤ k → R i j t →
    aa_sc (aa_V g o l a b 0 i j t) + (g a b + aa_sc (aa_V g o l n m 0 (a + 1) (b + 1) 0)) = aa_sc (aa_V g o l n m 0 i j t) →
    ∃ t', t' < 3 ∧ R a b t' ∧ aa_tg g o l n m 0 a b t' 0 := by
  have H' := aa_Ok_box H ha hb
  have hend : ∀ t, t < 3 → R a b t → aa_sc (aa_V g o l a b 0 a b t) + (g a b + aa_sc (aa_V g o l n m 0 (a + 1) (b + 1) 0)) = aa_sc (aa_V g o l n m 0 a b t) → ∃ t', t' < 3 ∧ R a b t' ∧ aa_tg g o l n m 0 a b t' 0 := by
    intro t ht hR hT
    rw [aa_V_end] at hT
    have hT' : (0 : Int) + (g a b + aa_sc (aa_V g o l n m 0 (a + 1) (b + 1) 0)) = aa_sc (aa_V g o l n m 0 a b t) := hT
    refine ⟨t, ht, hR, ⟨Or.inr ha, Or.inr hb⟩, ?_⟩
    show g a b + aa_sc (aa_V g o l n m 0 (a + 1) (b + 1) 0) = _
    omega
  intro k
  induction k with
  | zero =>
    intro i j t hi hj ht hk hR hT
    have e1 : i = a := by omega
    have e2 : j = b := by omega
    subst e1 e2
    exact hend t ht hR hT
  | succ k ih =>
    intro i j t hi hj ht hk hR hT
    by_cases e : i = a ∧ j = b
    · obtain ⟨rfl, rfl⟩ := e
      exact hend t ht hR hT
    · obtain ⟨s, hs, hh, hts⟩ := aa_tg_ex H' hi hj t (aa_E_no e)
      have hin := aa_has_in hh hi hj
      have hgt := aa_nij (i := i) (j := j) (s := s)
      have h1 := aa_sup H ha hb k (aa_ni i s) (aa_nj j s) s hin.1 hin.2 (by omega)
      have h2 := aa_cd_le (h := 0) H (by omega) (by omega) t hs (aa_has_box ha hb hh)
      have hR' := hc i j t s (by omega) (by omega) ht hs hR ⟨aa_has_box ha hb hh, by omega⟩
      exact ih (aa_ni i s) (aa_nj j s) s hin.1 hin.2 hs (by omega) hR' (by omega)
theorem aa_pr2 (H : aa_Ok g o l n m) {a b : Nat} (ha : a < n) (hb : b < m) (R : Nat → Nat → Nat → Prop)
    (hp : ∀ i j t, i ≤ n → j ≤ m → t < 3 → R i j t → (i = 0 ∧ j = 0 ∧ t = 0) ∨ ∃ i' j' t', i' ≤ n ∧ j' ≤ m ∧ t' < 3 ∧ R i' j' t' ∧ aa_tg g o l n m 0 i' j' t' t ∧ aa_ni i' t = i ∧ aa_nj j' t = j) :
    ∀ (k i j t : Nat), i ≤ a → j ≤ b → t < 3 → i + j ≤ k → R i j t →
    aa_sc (aa_V g o l a b 0 i j t) + (g a b + aa_sc (aa_V g o l n m 0 (a + 1) (b + 1) 0)) = aa_sc (aa_V g o l n m 0 i j t) →
    aa_sc (aa_V g o l a b 0 0 0 0) + (g a b + aa_sc (aa_V g o l n m 0 (a + 1) (b + 1) 0)) = aa_sc (aa_V g o l n m 0 0 0 0) := by
  have H' := aa_Ok_box H ha hb
  intro k
  induction k with
  | zero =>
    intro i j t hi hj ht hk hR hT
    rcases hp i j t (by omega) (by omega) ht hR with ⟨rfl, rfl, rfl⟩ | ⟨i', j', t', hi', hj', ht', hR', htg, e1, e2⟩
    · exact hT
    · have hgt := aa_nij (i := i') (j := j') (s := t)
      omega
  | succ k ih =>
    intro i j t hi hj ht hk hR hT
    rcases hp i j t (by omega) (by omega) ht hR with ⟨rfl, rfl, rfl⟩ | ⟨i', j', t', hi', hj', ht', hR', htg, e1, e2⟩
    · exact hT
    · have hgt := aa_nij (i := i') (j := j') (s := t)
      have hb1 : aa_has a b i' j' t := by
        refine ⟨?_, ?_⟩
        · by_cases q : t = 2
          · exact Or.inl q
          · rw [aa_ni, if_neg q] at e1
            exact Or.inr (by omega)
        · by_cases q : t = 1
          · exact Or.inl q
          · rw [aa_nj, if_neg q] at e2
            exact Or.inr (by omega)
      have h1 := aa_cd_le (h := 0) H' (show i' ≤ a by omega) (show j' ≤ b by omega) t' ht hb1
      have h2 := aa_sup H ha hb _ i' j' t' (by omega) (by omega) (Nat.le_refl _)
      have h3 := htg.2
      rw [e1, e2] at h1 h3
      exact ih i' j' t' (by omega) (by omega) ht' (by omega) hR' (by omega)
theorem aa_pair (H : aa_Ok g o l n m) {a b : Nat} (ha : a < n) (hb : b < m) (R : Nat → Nat → Nat → Prop) (h0 : R 0 0 0)
    (hc : ∀ i j t s, i ≤ n → j ≤ m → t < 3 → s < 3 → R i j t → aa_tg g o l n m 0 i j t s → R (aa_ni i s) (aa_nj j s) s)
    (hp : ∀ i j t, i ≤ n → j ≤ m → t < 3 → R i j t → (i = 0 ∧ j = 0 ∧ t = 0) ∨ ∃ i' j' t', i' ≤ n ∧ j' ≤ m ∧ t' < 3 ∧ R i' j' t' ∧ aa_tg g o l n m 0 i' j' t' t ∧ aa_ni i' t = i ∧ aa_nj j' t = j) :
    (∃ t, t < 3 ∧ R a b t ∧ aa_tg g o l n m 0 a b t 0) ↔ aa_sc (aa_V g o l a b 0 0 0 0) + (g a b + aa_sc (aa_V g o l n m 0 (a + 1) (b + 1) 0)) = aa_sc (aa_V g o l n m 0 0 0 0) := by
  constructor
  · rintro ⟨t, ht, hR, htg⟩
    refine aa_pr2 H ha hb R hp _ a b t (Nat.le_refl _) (Nat.le_refl _) ht (Nat.le_refl _) hR ?_
    rw [aa_V_end]
    show (0 : Int) + _ = _
    have q : g a b + aa_sc (aa_V g o l n m 0 (a + 1) (b + 1) 0) = aa_sc (aa_V g o l n m 0 a b t) := htg.2
    omega
  · intro hT
    exact aa_pr1 H ha hb R hc _ 0 0 0 (by omega) (by omega) (by decide) (Nat.le_refl _) h0 hT
end
section
variable (g : Nat → Nat → Int) (o l : Int) (n m : Nat)
def aa_fm (i j t : Nat) : Nat := if aa_tg g o l n m 0 i j t 0 then 0 else if aa_tg g o l n m 0 i j t 1 then 1 else 2
def aa_wk : Nat → Nat × Nat × Nat
  | 0 => (0, 0, 0)
  | k + 1 => (aa_ni (aa_wk k).1 (aa_fm g o l n m (aa_wk k).1 (aa_wk k).2.1 (aa_wk k).2.2), aa_nj (aa_wk k).2.1 (aa_fm g o l n m (aa_wk k).1 (aa_wk k).2.1 (aa_wk k).2.2), aa_fm g o l n m (aa_wk k).1 (aa_wk k).2.1 (aa_wk k).2.2)
end
section
variable {g : Nat → Nat → Int} {o l : Int} {n m : Nat}
theorem aa_fm_lt (i j t : Nat) : aa_fm g o l n m i j t < 3 := by
  unfold aa_fm
  split
  · decide
  · split <;> decide
theorem aa_fm_tg (H : aa_Ok g o l n m) {i j : Nat} (hi : i ≤ n) (hj : j ≤ m) (t : Nat) (hn : ¬ (i = n ∧ j = m)) : aa_tg g o l n m 0 i j t (aa_fm g o l n m i j t) := by
  obtain ⟨s, hs, ht⟩ := aa_tg_ex (h := 0) H hi hj t (aa_E_no hn)
  unfold aa_fm
  by_cases q0 : aa_tg g o l n m 0 i j t 0
  · rw [if_pos q0]; exact q0
  · rw [if_neg q0]
    by_cases q1 : aa_tg g o l n m 0 i j t 1
    · rw [if_pos q1]; exact q1
    · rw [if_neg q1]
      match s, hs, ht with
      | 0, _, ht => exact absurd ht q0
      | 1, _, ht => exact absurd ht q1
      | 2, _, ht => exact ht
def aa_wkIn (g : Nat → Nat → Int) (o l : Int) (n m k : Nat) : Prop := (aa_wk g o l n m k).1 ≤ n ∧ (aa_wk g o l n m k).2.1 ≤ m ∧ (aa_wk g o l n m k).2.2 < 3
def aa_wkEnd (g : Nat → Nat → Int) (o l : Int) (n m k : Nat) : Prop := (aa_wk g o l n m k).1 = n ∧ (aa_wk g o l n m k).2.1 = m
theorem aa_wk_go (H : aa_Ok g o l n m) : ∀ (d k : Nat), aa_wkIn g o l n m k → n + m - ((aa_wk g o l n m k).1 + (aa_wk g o l n m k).2.1) ≤ d → k ≤ (aa_wk g o l n m k).1 + (aa_wk g o l n m k).2.1 →
    (∀ k', k' < k → aa_wkIn g o l n m k' ∧ ¬ aa_wkEnd g o l n m k') → ∃ L, L ≤ n + m ∧ aa_wkEnd g o l n m L ∧ aa_wkIn g o l n m L ∧ ∀ k', k' < L → aa_wkIn g o l n m k' ∧ ¬ aa_wkEnd g o l n m k' := by
  intro d
  induction d with
  | zero =>
    intro k hin hd hk hall
    obtain ⟨h1, h2, h3⟩ := hin
    exact ⟨k, by omega, ⟨by omega, by omega⟩, ⟨h1, h2, h3⟩, hall⟩
  | succ d ih =>
    intro k hin hd hk hall
    by_cases he : aa_wkEnd g o l n m k
    · obtain ⟨h1, h2, h3⟩ := hin
      exact ⟨k, by omega, he, ⟨h1, h2, h3⟩, hall⟩
    · have htg := aa_fm_tg H hin.1 hin.2.1 (aa_wk g o l n m k).2.2 he
      have hI := aa_has_in htg.1 hin.1 hin.2.1
      have hgt := aa_nij (i := (aa_wk g o l n m k).1) (j := (aa_wk g o l n m k).2.1) (s := aa_fm g o l n m (aa_wk g o l n m k).1 (aa_wk g o l n m k).2.1 (aa_wk g o l n m k).2.2)
      have h1 : aa_wkIn g o l n m (k + 1) := ⟨hI.1, hI.2, aa_fm_lt _ _ _⟩
      refine ih (k + 1) h1 ?_ ?_ ?_
      · show n + m - (aa_ni _ _ + aa_nj _ _) ≤ d
        omega
      · show k + 1 ≤ aa_ni _ _ + aa_nj _ _
        omega
      · intro k' hk'
        by_cases e : k' = k
        · subst e
          exact ⟨hin, he⟩
        · exact hall k' (by omega)
theorem aa_wk_L (H : aa_Ok g o l n m) : ∃ L, L ≤ n + m ∧ aa_wkEnd g o l n m L ∧ aa_wkIn g o l n m L ∧ ∀ k', k' < L → aa_wkIn g o l n m k' ∧ ¬ aa_wkEnd g o l n m k' :=
  aa_wk_go H _ 0 ⟨Nat.zero_le _, Nat.zero_le _, (show 0 < 3 by decide)⟩ (Nat.le_refl _) (Nat.zero_le _) (fun k' h => absurd h (Nat.not_lt_zero _))
end
end
section
/-! 06: the component's small methods -/
def aa_g (xu xl : Nat → Int32) (ge gu : Int32) (i j : Nat) : Int := (if xu i = xl j then ge else gu).toInt
/-- the table holds f at all states from index K on -/
def aa_Tab (f : Nat → Nat → Nat → Int32) (n m K : Nat) (a : Nat → Int32) : Prop := ∀ i j t, i ≤ n → j ≤ m → t < 3 → K ≤ aa_s i j t → a (aa_s i j t) = f i j t
def aa_VS (g : Nat → Nat → Int) (o l : Int) (n m h i j t : Nat) : Int32 := aa_i (aa_sc (aa_V g o l n m h i j t))
def aa_VC (g : Nat → Nat → Int) (o l : Int) (n m h i j t : Nat) : Int32 := aa_ct (aa_V g o l n m h i j t)
theorem aa_s_next (i j s : Nat) : aa_s i (j + 1) 0 ≤ aa_s (aa_ni i s) (aa_nj j s) s := by
  unfold aa_s aa_ni aa_nj
  by_cases h1 : s = 2
  · subst h1
    rw [if_pos rfl, if_neg (by decide)]
    omega
  · rw [if_neg h1]
    split <;> omega
section
variable {n m h : Nat} {ge gu co cl : Int32} {xu xl a b r d : Nat → Int32}
theorem xa_1 : ¬ (1 : Int32) = 0 := by decide
theorem xa_h18_1 {post : Int32 → Prop} {j s : Nat} (hm : m ≤ 10) (hj : j ≤ 10) (hs : s < 3) (h1 : (s = 1 ∨ j < m) → post 1) (h0 : ¬ (s = 1 ∨ j < m) → post 0) : wX_hasLetters_18 post (nI j) (nI s) 1 (nI n) (nI m) ge gu co cl xu xl a b r d :=
  pk_eq s 1 (fun e => br_f xa_1 (br_f xa_1 (h1 (Or.inl e)))) (fun e => pk_le m j (fun q => br_f xa_1 (br_t rfl (h0 (by omega)))) (fun q => br_f xa_1 (br_f xa_1 (h1 (Or.inr q)))))
theorem xa_h18_0 {post : Int32 → Prop} {j s : Nat} (hm : m ≤ 10) (hj : j ≤ 10) (hs : s < 3) (h0 : post 0) : wX_hasLetters_18 post (nI j) (nI s) 0 (nI n) (nI m) ge gu co cl xu xl a b r d :=
  pk_eq s 1 (fun e => br_t rfl h0) (fun e => pk_le m j (fun q => br_t rfl h0) (fun q => br_t rfl h0))
theorem xa_has {post : Int32 → Prop} {i j s : Nat} (hn : n ≤ 10) (hm : m ≤ 10) (hi : i ≤ n) (hj : j ≤ m) (hs : s < 3) (h1 : aa_has n m i j s → post 1) (h0 : ¬ aa_has n m i j s → post 0) : wpX_hasLetters post (nI n, nI m, ge, gu, co, cl, xu, xl, a, b, r, d) (nI i) (nI j) (nI s) :=
  pk_eq s 2 (fun e => xa_h18_1 hm (by omega) hs (fun q => h1 ⟨Or.inl e, q⟩) (fun q => h0 (fun z => q z.2))) (fun e => pk_le n i (fun q => xa_h18_0 hm (by omega) hs (h0 (fun z => by have := z.1; omega))) (fun q => xa_h18_1 hm (by omega) hs (fun z => h1 ⟨Or.inr q, z⟩) (fun z => h0 (fun y => z y.2))))
theorem xa_cs {post : Int32 → Prop} {i j t s : Nat} (hn : n ≤ 10) (hm : m ≤ 10) (hi : i ≤ n) (hj : j ≤ m) (ht : t < 3) (hs : s < 3) (hh : aa_has n m i j s) (hp : post (aa_i (aa_cs (aa_g xu xl ge gu) co.toInt cl.toInt i j t s))) : wpX_columnScore post (nI n, nI m, ge, gu, co, cl, xu, xl, a, b, r, d) (nI i) (nI j) (nI t) (nI s) := by
  have h1 := hh.1
  have h2 := hh.2
  refine pk_eq s 0 (fun e => ⟨pk_in i 10 (by omega), pk_in j 10 (by omega), br_c (fun q => ?_) (fun q => ?_)⟩) (fun e => pk_eq s t (fun q => ?_) (fun q => ?_))
  · rw [nI_clamp (by omega), nI_clamp (by omega)] at q
    rw [aa_cs, if_pos e, aa_g, if_pos q, aa_i_of] at hp
    exact hp
  · rw [nI_clamp (by omega), nI_clamp (by omega)] at q
    rw [aa_cs, if_pos e, aa_g, if_neg q, aa_i_of] at hp
    exact hp
  · rw [aa_cs, if_neg e, if_pos q, aa_i_neg, aa_i_of] at hp
    exact hp
  · rw [aa_cs, if_neg e, if_neg q, aa_i_sub, aa_i_neg, aa_i_of, aa_i_of] at hp
    exact hp
theorem xa_sa {post : Int32 → Prop} {i j s : Nat} (hs : s < 3) (hp : post (nI (aa_s (aa_ni i s) (aa_nj j s) s))) : wpX_stateAfter post (nI i) (nI j) (nI s) := by
  refine pk_eq s 2 (fun e => pk_eq s 1 (fun e' => by omega) (fun e' => ?_)) (fun e => pk_eq s 1 (fun e' => ?_) (fun e' => ?_))
  · show post ((((nI i * 11) + (nI j + 1)) * 3) + nI s)
    rw [nI_1 j, aa_s_nI]
    rw [aa_ni, aa_nj, if_pos e, if_neg e'] at hp
    exact hp
  · show post (((((nI i + 1) * 11) + nI j) * 3) + nI s)
    rw [nI_1 i, aa_s_nI]
    rw [aa_ni, aa_nj, if_neg e, if_pos e'] at hp
    exact hp
  · show post (((((nI i + 1) * 11) + (nI j + 1)) * 3) + nI s)
    rw [nI_1 i, nI_1 j, aa_s_nI]
    rw [aa_ni, aa_nj, if_neg e, if_neg e'] at hp
    exact hp
theorem xa_state {post : Int32 → Prop} {i j t : Nat} (hp : post (nI (aa_s i j t))) : wpX_state post (nI i) (nI j) (nI t) := by
  show post ((((nI i * 11) + nI j) * 3) + nI t)
  rw [aa_s_nI]
  exact hp
theorem xa_st {post : Int32 → Prop} {i j t s : Nat} {v : Int} (hn : n ≤ 10) (hm : m ≤ 10) (hi : i ≤ n) (hj : j ≤ m) (ht : t < 3) (hs : s < 3) (hh : aa_has n m i j s) (hv : a (aa_s (aa_ni i s) (aa_nj j s) s) = aa_i v) (hp : post (aa_i (aa_cs (aa_g xu xl ge gu) co.toInt cl.toInt i j t s + v))) : wpX_scoreThrough post (nI n, nI m, ge, gu, co, cl, xu, xl, a, b, r, d) (nI i) (nI j) (nI t) (nI s) := by
  have hin := aa_has_in hh hi hj
  have hlt : aa_s (aa_ni i s) (aa_nj j s) s < 363 := aa_s_lt (by omega) (by omega) hs
  unfold wpX_scoreThrough
  dsimp only
  refine xa_cs hn hm hi hj ht hs hh ?_
  refine xa_sa hs ?_
  refine ⟨pk_in _ 363 hlt, ?_⟩
  rw [nI_clamp (by omega), hv, ← aa_i_add]
  exact hp
theorem xa_bm {post : Int32 → Prop} {i j t s : Nat} (H : aa_Ok (aa_g xu xl ge gu) co.toInt cl.toInt n m) (hT : aa_Tab (aa_VS (aa_g xu xl ge gu) co.toInt cl.toInt n m h) n m 0 a) (hi : i ≤ n) (hj : j ≤ m) (ht : t < 3) (hs : s < 3)
    (h1 : aa_tg (aa_g xu xl ge gu) co.toInt cl.toInt n m h i j t s → post 1) (h0 : ¬ aa_tg (aa_g xu xl ge gu) co.toInt cl.toInt n m h i j t s → post 0) : wpX_isBestMove post (nI n, nI m, ge, gu, co, cl, xu, xl, a, b, r, d) (nI i) (nI j) (nI t) (nI s) := by
  have hn := H.2.2.2.2.2.1
  have hm := H.2.2.2.2.2.2
  unfold wpX_isBestMove
  dsimp only
  refine xa_has hn hm hi hj hs (fun hh => br_f xa_1 ?_) (fun hh => br_t rfl (h0 (fun q => hh q.1)))
  have hin := aa_has_in hh hi hj
  refine xa_st hn hm hi hj ht hs hh (hT _ _ _ hin.1 hin.2 hs (Nat.zero_le _)) ?_
  refine xa_state ?_
  have hlt : aa_s i j t < 363 := aa_s_lt (by omega) (by omega) ht
  refine ⟨pk_in _ 363 hlt, ?_⟩
  rw [nI_clamp (by omega), hT i j t hi hj ht (Nat.zero_le _), aa_VS]
  have b1 := aa_V_in (h := h) H hi hj t
  have b2 := aa_V_in (h := h) H hin.1 hin.2 s
  have b3 : -18 ≤ aa_cs (aa_g xu xl ge gu) co.toInt cl.toInt i j t s ∧ aa_cs (aa_g xu xl ge gu) co.toInt cl.toInt i j t s ≤ 18 := by
    obtain ⟨q1, q2, q3, q4, q5, q6, q7⟩ := H
    unfold aa_cs
    split
    · rename_i e
      have z1 := hh.1
      have z2 := hh.2
      have := q1 i j (by omega) (by omega)
      omega
    · split <;> omega
  rw [aa_i_eq (by omega) (by omega) (by omega) (by omega)]
  exact ⟨fun q => h1 ⟨hh, q⟩, fun q => h0 (fun z => q z.2)⟩
end
end
section
/-! 07: the component's fillScores -/
def aa_sd (x : aa_P) : Int :=
  match x with
  | none => -1000000
  | some p => p.1
theorem aa_sd_in {x : aa_P} (hx : aa_Bd 20 x) : -1000000 ≤ aa_sd x ∧ aa_sd x ≤ 360 := by
  cases x with
  | none =>
    show (-1000000 : Int) ≤ -1000000 ∧ (-1000000 : Int) ≤ 360
    omega
  | some p =>
    have := hx p rfl
    show -1000000 ≤ p.1 ∧ p.1 ≤ 360
    omega
theorem aa_sd_jn (x : aa_P) (p : Int × Int32) (hp : -1000000 < p.1) : aa_sd (aa_jn x (some p)) = if p.1 ≤ aa_sd x then aa_sd x else p.1 := by
  cases x with
  | none =>
    rw [aa_n_jn, if_neg]
    · rfl
    · show ¬ p.1 ≤ -1000000
      omega
  | some q =>
    show (aa_j2 q p).1 = if p.1 ≤ q.1 then q.1 else p.1
    unfold aa_j2
    by_cases h1 : q.1 < p.1
    · rw [if_pos h1, if_neg (by omega)]
    · by_cases h2 : p.1 < q.1
      · rw [if_neg h1, if_pos h2, if_pos (by omega)]
      · rw [if_neg h1, if_neg h2, if_pos (by omega)]
theorem aa_c6 : aa_i (-1000000) = -1000000 := by decide
theorem aa_c0 : aa_i 0 = 0 := by decide
theorem aa_cd_bd {g : Nat → Nat → Int} {o l : Int} {n m h : Nat} (H : aa_Ok g o l n m) {i j : Nat} (hi : i ≤ n) (hj : j ≤ m) (t : Nat) {s : Nat} (hs : s < 3) : aa_Bd 20 (aa_cd g o l n m h i j t s) := by
  have hcl := H.2.2.2.1
  have hcl' := H.2.2.2.2.1
  have hco := H.2.1
  have hco' := H.2.2.1
  have h1 := H.2.2.2.2.2.1
  have h2 := H.2.2.2.2.2.2
  refine aa_Bd_mono (k := (n - i) + (m - j)) ?_ (by omega)
  match s, hs with
  | 0, _ => rw [aa_cd0]; exact aa_D_bd H fun a b => aa_V_bd H (by omega) (by omega) _
  | 1, _ => rw [aa_cd1]; exact aa_U_bd (by split <;> omega) (by split <;> omega) fun a => aa_V_bd H (by omega) (by omega) _
  | 2, _ => rw [aa_cd2]; exact aa_L_bd (by split <;> omega) (by split <;> omega) fun a => aa_V_bd H (by omega) (by omega) _
theorem aa_cs_in {g : Nat → Nat → Int} {o l : Int} {n m : Nat} (H : aa_Ok g o l n m) {i j t s : Nat} (hh : aa_has n m i j s) : -18 ≤ aa_cs g o l i j t s ∧ aa_cs g o l i j t s ≤ 18 := by
  obtain ⟨q1, q2, q3, q4, q5, q6, q7⟩ := H
  unfold aa_cs
  split
  · rename_i e
    have z1 := hh.1
    have z2 := hh.2
    have := q1 i j (by omega) (by omega)
    omega
  · split <;> omega
section
variable {n m h : Nat} {ge gu co cl : Int32} {xu xl a b r d : Nat → Int32}
theorem xa_f24 {post : SX → Prop} {J3 : Int32 → (Nat → Int32) → (Nat → Int32) → (Nat → Int32) → (Nat → Int32) → (Nat → Int32) → (Nat → Int32) → Prop} {x3 : Int32} {i j t s k : Nat} (H : aa_Ok (aa_g xu xl ge gu) co.toInt cl.toInt n m) (hi : i ≤ n) (hj : j ≤ m) (ht : t < 3) (hs : s < 3)
    (hT : aa_Tab (aa_VS (aa_g xu xl ge gu) co.toInt cl.toInt n m h) n m (aa_s i (j + 1) 0) a) (x : aa_P) (hx : aa_Bd 20 x)
    (hk : wX_fillScoresAt_24 post J3 (nI i) (nI j) x3 (nI t) (nI n) (nI m) ge gu co cl xu xl a b r d k (aa_i (aa_sd (aa_jn x (aa_cd (aa_g xu xl ge gu) co.toInt cl.toInt n m h i j t s)))) (nI (s + 1))) :
    wX_fillScoresAt_24 post J3 (nI i) (nI j) x3 (nI t) (nI n) (nI m) ge gu co cl xu xl a b r d (k + 1) (aa_i (aa_sd x)) (nI s) := by
  have hn := H.2.2.2.2.2.1
  have hm := H.2.2.2.2.2.2
  refine pk_le 3 s (fun q => by omega) (fun _ => ?_)
  refine xa_has hn hm hi hj hs (fun hh => br_f xa_1 ?_) (fun hh => br_t rfl ?_)
  · have hin := aa_has_in hh hi hj
    refine xa_st (v := aa_sc (aa_V (aa_g xu xl ge gu) co.toInt cl.toInt n m h (aa_ni i s) (aa_nj j s) s)) hn hm hi hj ht hs hh (hT _ _ _ hin.1 hin.2 hs (aa_s_next i j s)) ?_
    have b2 := aa_V_in (h := h) H hin.1 hin.2 s
    have b3 := aa_cs_in (t := t) H hh
    have b4 := aa_sd_in hx
    obtain ⟨p, e⟩ := aa_V_so (h := h) H hin.1 hin.2 s
    rw [e] at b2
    have b2' : -360 ≤ p.1 ∧ p.1 ≤ 360 := b2
    rw [aa_cd, if_pos hh, e] at hk
    have hk' : wX_fillScoresAt_24 post J3 (nI i) (nI j) x3 (nI t) (nI n) (nI m) ge gu co cl xu xl a b r d k (aa_i (aa_sd (aa_jn x (some (p.1 + aa_cs (aa_g xu xl ge gu) co.toInt cl.toInt i j t s, p.2))))) (nI (s + 1)) := hk
    rw [aa_sd_jn x _ (by show -1000000 < p.1 + _; omega)] at hk'
    dsimp only at hk'
    rw [e]
    show (aa_i (aa_cs (aa_g xu xl ge gu) co.toInt cl.toInt i j t s + p.1) ≤ aa_i (aa_sd x) → _) ∧ (¬ aa_i (aa_cs (aa_g xu xl ge gu) co.toInt cl.toInt i j t s + p.1) ≤ aa_i (aa_sd x) → _)
    rw [aa_i_le (by omega) (by omega) (by omega) (by omega)]
    rw [Int.add_comm p.1] at hk'
    refine ⟨fun q => ?_, fun q => ?_⟩
    · rw [if_pos q] at hk'
      intro y ey
      rw [ey, nI_1]
      exact hk'
    · rw [if_neg q] at hk'
      intro y ey
      rw [ey, nI_1]
      exact hk'
  · rw [aa_cd, if_neg hh, aa_jn_n] at hk
    intro y ey
    rw [ey, nI_1]
    exact hk
theorem xa_f24a {post : SX → Prop} {J3 : Int32 → (Nat → Int32) → (Nat → Int32) → (Nat → Int32) → (Nat → Int32) → (Nat → Int32) → (Nat → Int32) → Prop} {x3 x5 : Int32} {i j t : Nat} (H : aa_Ok (aa_g xu xl ge gu) co.toInt cl.toInt n m) (hi : i ≤ n) (hj : j ≤ m) (ht : t < 3)
    (hT : aa_Tab (aa_VS (aa_g xu xl ge gu) co.toInt cl.toInt n m h) n m (aa_s i (j + 1) 0) a) (h5 : x5 = aa_i (aa_sd (aa_E n m h i j)))
    (hp : J3 (nI (t + 1)) xu xl (upd a (aa_s i j t) (aa_VS (aa_g xu xl ge gu) co.toInt cl.toInt n m h i j t)) b r d) :
    ∃ n24, wX_fillScoresAt_24 post J3 (nI i) (nI j) x3 (nI t) (nI n) (nI m) ge gu co cl xu xl a b r d n24 x5 0 := by
  have hn := H.2.2.2.2.2.1
  have hm := H.2.2.2.2.2.2
  have hlt : aa_s i j t < 363 := aa_s_lt (by omega) (by omega) ht
  subst h5
  have b0 : aa_Bd 20 (aa_E n m h i j) := aa_E_bd _ _ _
  have b1 := aa_Bd_jn b0 (aa_cd_bd (h := h) H hi hj t (s := 0) (by decide))
  have b2 := aa_Bd_jn b1 (aa_cd_bd (h := h) H hi hj t (s := 1) (by decide))
  refine ⟨4, xa_f24 (s := 0) H hi hj ht (by decide) hT _ b0 (xa_f24 (s := 1) H hi hj ht (by decide) hT _ b1 (xa_f24 (s := 2) H hi hj ht (by decide) hT _ b2 ?_))⟩
  rw [← aa_V_cd]
  refine pk_le 3 3 (fun _ => xa_state ⟨pk_in _ 363 hlt, fun a' ea' y ey => ?_⟩) (fun q => by omega)
  rw [ea', ey, nI_clamp (by omega), nI_1]
  obtain ⟨p, e⟩ := aa_V_so (h := h) H hi hj t
  have e2 : aa_VS (aa_g xu xl ge gu) co.toInt cl.toInt n m h i j t = aa_i (aa_sd (aa_V (aa_g xu xl ge gu) co.toInt cl.toInt n m h i j t)) := by
    unfold aa_VS
    rw [e]
    rfl
  rw [e2] at hp
  exact hp
theorem xa_fsa {post : SX → Prop} {x3 : Int32} {i j : Nat} (H : aa_Ok (aa_g xu xl ge gu) co.toInt cl.toInt n m) (hi : i ≤ n) (hj : j ≤ m)
    (hT : aa_Tab (aa_VS (aa_g xu xl ge gu) co.toInt cl.toInt n m h) n m (aa_s i (j + 1) 0) a) (hE : (x3 = 0 ∧ aa_E n m h i j = none) ∨ (x3 = 1 ∧ aa_E n m h i j = some (0, 1)))
    (hp : ∀ a', aa_Tab (aa_VS (aa_g xu xl ge gu) co.toInt cl.toInt n m h) n m (aa_s i j 0) a' → post (nI n, nI m, ge, gu, co, cl, xu, xl, a', b, r, d)) : wpX_fillScoresAt post (nI n, nI m, ge, gu, co, cl, xu, xl, a, b, r, d) (nI i) (nI j) x3 := by
  have hm := H.2.2.2.2.2.2
  refine loop_0 (fun k t a' => wX_fillScoresAt_3 post (nI i) (nI j) x3 (nI n) (nI m) ge gu co cl k (nI t) xu xl a' b r d)
    (fun t a' => aa_Tab (aa_VS (aa_g xu xl ge gu) co.toInt cl.toInt n m h) n m (aa_s i (j + 1) 0) a' ∧ ∀ t', t' < t → a' (aa_s i j t') = aa_VS (aa_g xu xl ge gu) co.toInt cl.toInt n m h i j t') 3 a ⟨hT, fun _ q => absurd q (Nat.not_lt_zero _)⟩ ?_ ?_
  · intro k a' hI
    refine pk_le 3 3 (fun _ => hp a' ?_) (fun q => by omega)
    intro i' j' t' hi' hj' ht' hK
    by_cases q : aa_s i (j + 1) 0 ≤ aa_s i' j' t'
    · exact hI.1 i' j' t' hi' hj' ht' q
    · have e : i' = i ∧ j' = j := by
        unfold aa_s at hK q
        omega
      obtain ⟨rfl, rfl⟩ := e
      exact hI.2 t' ht'
  · intro k t a' ht hI hc
    have hnew : aa_Tab (aa_VS (aa_g xu xl ge gu) co.toInt cl.toInt n m h) n m (aa_s i (j + 1) 0) (upd a' (aa_s i j t) (aa_VS (aa_g xu xl ge gu) co.toInt cl.toInt n m h i j t)) ∧ ∀ t', t' < t + 1 → (upd a' (aa_s i j t) (aa_VS (aa_g xu xl ge gu) co.toInt cl.toInt n m h i j t)) (aa_s i j t') = aa_VS (aa_g xu xl ge gu) co.toInt cl.toInt n m h i j t' := by
      refine ⟨fun i' j' t' hi' hj' ht' hK => ?_, fun t' ht' => ?_⟩
      · rw [pk_un (by unfold aa_s at hK ⊢; omega)]
        exact hI.1 i' j' t' hi' hj' ht' hK
      · by_cases q : t' = t
        · subst q
          exact pk_us
        · rw [pk_un (by unfold aa_s; omega)]
          exact hI.2 t' (by omega)
    refine pk_le 3 t (fun q => by omega) (fun _ => ?_)
    rcases hE with ⟨rfl, e⟩ | ⟨rfl, e⟩
    · exact br_t rfl (xa_f24a H hi hj ht hI.1 (by rw [e]; exact aa_c6.symm) (hc _ hnew))
    · exact br_f xa_1 (xa_f24a H hi hj ht hI.1 (by rw [e]; exact aa_c0.symm) (hc _ hnew))
/-- the modes -/
def aa_Mo (x1 x2 : Int32) (h : Nat) : Prop := (x1 = 0 ∧ x2 = 0 ∧ h = 0) ∨ (x1 = 1 ∧ x2 = 1 ∧ h = 1) ∨ (x1 = 0 ∧ x2 = 1 ∧ h = 2)
theorem xa_78 {post : SX → Prop} {J5 J15 : Int32 → Int32 → Int32 → Int32 → Int32 → Int32 → Int32 → (Nat → Int32) → (Nat → Int32) → (Nat → Int32) → (Nat → Int32) → (Nat → Int32) → (Nat → Int32) → Prop} {x1 x2 x3 : Int32} {i j : Nat} (H : aa_Ok (aa_g xu xl ge gu) co.toInt cl.toInt n m) (hi : i ≤ n) (hj : j ≤ m)
    (hT : aa_Tab (aa_VS (aa_g xu xl ge gu) co.toInt cl.toInt n m h) n m (aa_s i (j + 1) 0) a) (hE : (x3 = 0 ∧ aa_E n m h i j = none) ∨ (x3 = 1 ∧ aa_E n m h i j = some (0, 1)))
    (hp : ∀ a', aa_Tab (aa_VS (aa_g xu xl ge gu) co.toInt cl.toInt n m h) n m (aa_s i j 0) a' → J15 (nI j + (-1)) (nI n) (nI m) ge gu co cl xu xl a' b r d) : wX_fillScores_78 post J5 J15 x1 x2 (nI i) (nI j) x3 (nI j) (nI i) (nI n) (nI m) ge gu co cl xu xl a b r d := by
  unfold wX_fillScores_78
  exact xa_fsa H hi hj hT hE (fun a' h' => nm_e (hp a' h'))
theorem xa_body {post : SX → Prop} {J5 J15 : Int32 → Int32 → Int32 → Int32 → Int32 → Int32 → Int32 → (Nat → Int32) → (Nat → Int32) → (Nat → Int32) → (Nat → Int32) → (Nat → Int32) → (Nat → Int32) → Prop} {x1 x2 : Int32} {i j : Nat} (M : aa_Mo x1 x2 h) (H : aa_Ok (aa_g xu xl ge gu) co.toInt cl.toInt n m) (hi : i ≤ n) (hj : j ≤ m)
    (hT : aa_Tab (aa_VS (aa_g xu xl ge gu) co.toInt cl.toInt n m h) n m (aa_s i (j + 1) 0) a)
    (hp : ∀ a', aa_Tab (aa_VS (aa_g xu xl ge gu) co.toInt cl.toInt n m h) n m (aa_s i j 0) a' → J15 (nI j + (-1)) (nI n) (nI m) ge gu co cl xu xl a' b r d) :
    (x1 = 0 → ((nI i = nI n → wX_fillScores_32 post J5 J15 x1 x2 (nI i) (nI j) (nI n) (nI m) ge gu co cl xu xl a b r d) ∧ (¬ nI i = nI n → wX_fillScores_37 post J5 J15 x1 x2 (nI i) (nI j) 0 (nI n) (nI m) ge gu co cl xu xl a b r d))) ∧ (¬ x1 = 0 → wX_fillScores_32 post J5 J15 x1 x2 (nI i) (nI j) (nI n) (nI m) ge gu co cl xu xl a b r d) := by
  have hn := H.2.2.2.2.2.1
  have hm := H.2.2.2.2.2.2
  have K1 : aa_E n m h i j = some (0, 1) → wX_fillScores_78 post J5 J15 x1 x2 (nI i) (nI j) 1 (nI j) (nI i) (nI n) (nI m) ge gu co cl xu xl a b r d := fun e => xa_78 H hi hj hT (Or.inr ⟨rfl, e⟩) hp
  have K0 : aa_E n m h i j = none → wX_fillScores_78 post J5 J15 x1 x2 (nI i) (nI j) 0 (nI j) (nI i) (nI n) (nI m) ge gu co cl xu xl a b r d := fun e => xa_78 H hi hj hT (Or.inl ⟨rfl, e⟩) hp
  rcases M with ⟨rfl, rfl, rfl⟩ | ⟨rfl, rfl, rfl⟩ | ⟨rfl, rfl, rfl⟩
  · have k0 : ¬ (i = n ∧ j = m) → aa_E n m 0 i j = none := aa_E_no
    have k1 : (i = n ∧ j = m) → aa_E n m 0 i j = some (0, 1) := fun e => if_pos (Or.inl e)
    exact br_t rfl (pk_eq i n
      (fun e => br_t rfl (pk_eq j m (fun e' => br_f xa_1 (br_f xa_1 (K1 (k1 ⟨e, e'⟩)))) (fun e' => br_f xa_1 (br_t rfl (K0 (k0 (fun z => e' z.2)))))))
      (fun e => br_t rfl (pk_eq j m (fun e' => br_t rfl (K0 (k0 (fun z => e z.1)))) (fun e' => br_t rfl (K0 (k0 (fun z => e z.1)))))))
  · have k1 : aa_E n m 1 i j = some (0, 1) := if_pos (Or.inr (Or.inl rfl))
    exact br_f xa_1 (br_f xa_1 (br_f xa_1 (br_f xa_1 (K1 k1))))
  · have k0 : ¬ i = n → aa_E n m 2 i j = none := fun e => if_neg (by omega)
    have k1 : i = n → aa_E n m 2 i j = some (0, 1) := fun e => if_pos (Or.inr (Or.inr ⟨rfl, e⟩))
    exact br_t rfl (pk_eq i n (fun e => br_f xa_1 (br_f xa_1 (br_f xa_1 (K1 (k1 e))))) (fun e => br_f xa_1 (br_t rfl (K0 (k0 e)))))
theorem xa_neg1 : nI 0 + (-1) < 0 := by decide
theorem xa_15 {post : SX → Prop} {J5 : Int32 → Int32 → Int32 → Int32 → Int32 → Int32 → Int32 → (Nat → Int32) → (Nat → Int32) → (Nat → Int32) → (Nat → Int32) → (Nat → Int32) → (Nat → Int32) → Prop} {x1 x2 : Int32} {i : Nat} (M : aa_Mo x1 x2 h) (H : aa_Ok (aa_g xu xl ge gu) co.toInt cl.toInt n m) (hi : i ≤ n)
    (hJ : ∀ a', aa_Tab (aa_VS (aa_g xu xl ge gu) co.toInt cl.toInt n m h) n m (aa_s i 0 0) a' → J5 (nI i + (-1)) (nI n) (nI m) ge gu co cl xu xl a' b r d) :
    ∀ (c : Nat) (a : Nat → Int32), c ≤ m + 1 → aa_Tab (aa_VS (aa_g xu xl ge gu) co.toInt cl.toInt n m h) n m (aa_s i c 0) a → wX_fillScores_15 post J5 x1 x2 (nI i) (c + 1) (nI c + (-1)) (nI n) (nI m) ge gu co cl xu xl a b r d := by
  have hm := H.2.2.2.2.2.2
  intro c
  induction c with
  | zero =>
    intro a hc hT
    exact br_t xa_neg1 (nm_e (hJ a hT))
  | succ c ih =>
    intro a hc hT
    rw [pk_m1]
    refine br_f (nI_pos (by omega)) ?_
    exact xa_body M H hi (by omega) hT (fun a' h' => ih a' (by omega) h')
theorem xa_5 {post : SX → Prop} {x1 x2 : Int32} (M : aa_Mo x1 x2 h) (H : aa_Ok (aa_g xu xl ge gu) co.toInt cl.toInt n m)
    (hp : ∀ a', aa_Tab (aa_VS (aa_g xu xl ge gu) co.toInt cl.toInt n m h) n m 0 a' → post (nI n, nI m, ge, gu, co, cl, xu, xl, a', b, r, d)) :
    ∀ (c : Nat) (a : Nat → Int32), c ≤ n + 1 → aa_Tab (aa_VS (aa_g xu xl ge gu) co.toInt cl.toInt n m h) n m (aa_s c 0 0) a → wX_fillScores_5 post x1 x2 (c + 1) (nI c + (-1)) (nI n) (nI m) ge gu co cl xu xl a b r d := by
  have hn := H.2.2.2.2.2.1
  have hm := H.2.2.2.2.2.2
  intro c
  induction c with
  | zero =>
    intro a hc hT
    exact br_t xa_neg1 (hp a hT)
  | succ c ih =>
    intro a hc hT
    rw [pk_m1]
    refine br_f (nI_pos (by omega)) ⟨m + 1 + 1, ?_⟩
    have h1 := xa_15 (post := post) (J5 := wX_fillScores_5 post x1 x2 (c + 1)) (b := b) (r := r) (d := d) M H (show c ≤ n by omega) (fun a' h' => ih a' (by omega) h') (m + 1) a (Nat.le_refl _) ?_
    · rw [pk_m1] at h1
      exact h1
    · intro i' j' t' hi' hj' ht' hK
      refine hT i' j' t' hi' hj' ht' ?_
      unfold aa_s at hK ⊢
      omega
theorem xa_fs {post : SX → Prop} {x1 x2 : Int32} (M : aa_Mo x1 x2 h) (H : aa_Ok (aa_g xu xl ge gu) co.toInt cl.toInt n m)
    (hp : ∀ a', aa_Tab (aa_VS (aa_g xu xl ge gu) co.toInt cl.toInt n m h) n m 0 a' → post (nI n, nI m, ge, gu, co, cl, xu, xl, a', b, r, d)) : wpX_fillScores post (nI n, nI m, ge, gu, co, cl, xu, xl, a, b, r, d) x1 x2 := by
  refine ⟨n + 1 + 1, ?_⟩
  have h1 := xa_5 (b := b) (r := r) (d := d) M H hp (n + 1) a (Nat.le_refl _) ?_
  · rw [pk_m1] at h1
    exact h1
  · intro i' j' t' hi' hj' ht' hK
    have hm := H.2.2.2.2.2.2
    unfold aa_s at hK
    omega
end
end
section
/-! 08: the reference's offer, fill and work -/
section
variable (g : Nat → Nat → Int) (o l : Int) (n m h : Nat)
theorem aa_sh_k (c : Int) (k : Nat) : -l + -(c + (k : Int) * l) = -(c + ((k + 1 : Nat) : Int) * l) := by
  rw [show ((k + 1 : Nat) : Int) = (k : Int) + 1 from rfl, Int.add_mul, Int.one_mul]
  omega
theorem aa_sh_1 (c : Int) : -(c + ((1 : Nat) : Int) * l) = -c - l := by
  rw [show ((1 : Nat) : Int) = 1 from rfl, Int.one_mul]
  omega
theorem aa_L1 (c : Int) (i j : Nat) : aa_L g o l n m h (-c - l) i j = if j + 1 ≤ m then aa_sh (-(c + ((1 : Nat) : Int) * l)) (aa_V g o l n m h i (j + 1) 2) else none := by
  rw [aa_sh_1]
  unfold aa_L
  by_cases q : j < m
  · rw [if_pos q, if_pos (by omega)]
  · rw [if_neg q, if_neg (by omega)]
theorem aa_U1 (c : Int) (i j : Nat) : aa_U g o l n m h (-c - l) i j = if i + 1 ≤ n then aa_sh (-(c + ((1 : Nat) : Int) * l)) (aa_V g o l n m h (i + 1) j 1) else none := by
  rw [aa_sh_1]
  unfold aa_U
  by_cases q : i < n
  · rw [if_pos q, if_pos (by omega)]
  · rw [if_neg q, if_neg (by omega)]
theorem aa_Lk (c : Int) (i j k : Nat) : aa_sh (-(c + (k : Int) * l)) (aa_V g o l n m h i (j + k) 2) = aa_jn (aa_sh (-(c + (k : Int) * l)) (aa_Q g o l n m h i (j + k) 2)) (if j + (k + 1) ≤ m then aa_sh (-(c + ((k + 1 : Nat) : Int) * l)) (aa_V g o l n m h i (j + (k + 1)) 2) else none) := by
  rw [aa_V2, aa_sh_jn]
  congr 1
  unfold aa_L
  by_cases q : j + k < m
  · rw [if_pos q, if_pos (by omega), aa_sh_sh, aa_sh_k]
    rfl
  · rw [if_neg q, if_neg (by omega)]
    rfl
theorem aa_Uk (c : Int) (i j k : Nat) : aa_sh (-(c + (k : Int) * l)) (aa_V g o l n m h (i + k) j 1) = aa_jn (aa_sh (-(c + (k : Int) * l)) (aa_Q g o l n m h (i + k) j 1)) (if i + (k + 1) ≤ n then aa_sh (-(c + ((k + 1 : Nat) : Int) * l)) (aa_V g o l n m h (i + (k + 1)) j 1) else none) := by
  rw [aa_V1, aa_sh_jn]
  congr 1
  unfold aa_U
  by_cases q : i + k < n
  · rw [if_pos q, if_pos (by omega), aa_sh_sh, aa_sh_k]
    rfl
  · rw [if_neg q, if_neg (by omega)]
    rfl
/-- the reference's tables from index K on -/
def aa_TY (K : Nat) (a b : Nat → Int32) : Prop := ∀ i j t, i ≤ n → j ≤ m → t < 3 → K ≤ aa_s i j t → a (aa_s i j t) = aa_i (aa_sc (aa_Q g o l n m h i j t)) ∧ b (aa_s i j t) = aa_ct (aa_Q g o l n m h i j t)
def aa_YI (q : Nat) (x : aa_P) (a b : Nat → Int32) : Prop := a q = aa_i (aa_sc x) ∧ b q = aa_ct x ∧ aa_TY g o l n m h (q + 1) a b
end
theorem aa_jn_hi {x : aa_P} {v : Int} {c : Int32} (hx : aa_sc x < v) : aa_jn x (some (v, c)) = some (v, c) := by
  cases x with
  | none => rfl
  | some p => exact congrArg some (if_pos hx)
theorem aa_jn_lo {p : Int × Int32} {v : Int} {c : Int32} (hx : v < p.1) : aa_jn (some p) (some (v, c)) = some p :=
  congrArg some ((if_neg (show ¬ p.1 < v by omega)).trans (if_pos hx))
theorem aa_jn_eq {p : Int × Int32} {v : Int} {c : Int32} (hx : v = p.1) : aa_jn (some p) (some (v, c)) = some (p.1, p.2 + c) :=
  congrArg some ((if_neg (show ¬ p.1 < v by omega)).trans (if_neg (show ¬ v < p.1 by omega)))
theorem aa_sc_in {x : aa_P} (hx : aa_Bd 30 x) : (x = none ∧ aa_sc x = -100000) ∨ (-540 ≤ aa_sc x ∧ aa_sc x ≤ 540) := by
  cases x with
  | none => exact Or.inl ⟨rfl, rfl⟩
  | some p =>
    have := hx p rfl
    refine Or.inr ?_
    show -540 ≤ p.1 ∧ p.1 ≤ 540
    omega
theorem aa_Bd_off {x : aa_P} (hx : aa_Bd 20 x) {e : Int} (h1 : -100 ≤ e) (h2 : e ≤ 100) : aa_Bd 30 (aa_sh (-e) x) := by
  cases x with
  | none => exact aa_Bd_n _
  | some p =>
    have := hx p rfl
    refine aa_Bd_s ?_ ?_
    · show _ ≤ p.1 + -e
      omega
    · show p.1 + -e ≤ _
      omega
theorem aa_off {x : aa_P} (hx : aa_Bd 20 x) {e : Int} (h1 : 0 ≤ e) (h2 : e ≤ 1000) : (aa_sh (-e) x = some (aa_sc x - e, aa_ct x) ∧ -2000 ≤ aa_sc x - e ∧ aa_sc x - e ≤ 2000) ∨ (aa_sh (-e) x = none ∧ -200000 ≤ aa_sc x - e ∧ aa_sc x - e ≤ -100000) := by
  cases x with
  | none =>
    refine Or.inr ⟨rfl, ?_⟩
    show -200000 ≤ (-100000 : Int) - e ∧ (-100000 : Int) - e ≤ -100000
    omega
  | some p =>
    have := hx p rfl
    refine Or.inl ⟨rfl, ?_⟩
    show -2000 ≤ p.1 - e ∧ p.1 - e ≤ 2000
    omega
theorem aa_c5 : aa_i (-50000) = -50000 := by decide
theorem aa_c1e5 : aa_i (-100000) = -100000 := by decide
section
variable {g : Nat → Nat → Int} {n m h : Nat} {ge gu co cl : Int32} {yt yn a b : Nat → Int32} {o l : Int}
theorem aa_TY_upd {K q : Nat} {z w : Int32} (hq : q < K) (hT : aa_TY g o l n m h K a b) : aa_TY g o l n m h K (upd a q z) (upd b q w) := fun i j t hi hj ht hK => by
  rw [pk_un (by omega), pk_un (by omega)]
  exact hT i j t hi hj ht hK
theorem aa_TY_updb {K q : Nat} {w : Int32} (hq : q < K) (hT : aa_TY g o l n m h K a b) : aa_TY g o l n m h K a (upd b q w) := fun i j t hi hj ht hK => by
  rw [pk_un (f := b) (by omega)]
  exact hT i j t hi hj ht hK
theorem ya_24 {post : SY → Prop} {q : Nat} (hq : q < 363) {v w : Int} {c : Int32} (hv : -200000 ≤ v) (hv' : v ≤ 2000) (hw : -200000 ≤ w) (hw' : w ≤ 2000) (ha : a q = aa_i w)
    (h1 : v = w → -50000 < v → post (ge, gu, co, cl, yt, yn, a, (upd b q (b q + c)))) (h0 : (v ≠ w ∨ v ≤ -50000) → post (ge, gu, co, cl, yt, yn, a, b)) : wY_offer_24 post (nI q) (aa_i v) c ge gu co cl yt yn a b := by
  have vp : vp_in (nI q) 363 := pk_in q 363 hq
  refine ⟨vp, ?_⟩
  rw [nI_clamp (by omega), ha, aa_i_eq (by omega) (by omega) (by omega) (by omega), ← aa_c5, aa_i_le (by omega) (by omega) (by omega) (by omega)]
  refine ⟨fun e => ⟨fun e2 => h0 (Or.inr e2), fun e2 => ⟨vp, vp, nm_e (h1 e (by omega))⟩⟩, fun e => h0 (Or.inl e)⟩
theorem ya_offer {post : SY → Prop} {q : Nat} (hq : q < 363) {x y : aa_P} {v : Int} {c : Int32} (hI : aa_YI g o l n m h q x a b) (hx : aa_Bd 30 x)
    (hy : (y = some (v, c) ∧ -2000 ≤ v ∧ v ≤ 2000) ∨ (y = none ∧ -200000 ≤ v ∧ v ≤ -100000))
    (hp : ∀ a' b', aa_YI g o l n m h q (aa_jn x y) a' b' → post (ge, gu, co, cl, yt, yn, a', b')) : wpY_offer post (ge, gu, co, cl, yt, yn, a, b) (nI q) (aa_i v) c := by
  have vp : vp_in (nI q) 363 := pk_in q 363 hq
  obtain ⟨i1, i2, i3⟩ := hI
  have hs := aa_sc_in hx
  refine ⟨vp, ?_⟩
  rw [nI_clamp (by omega), i1, aa_i_le (by omega) (by omega) (by omega) (by omega)]
  refine ⟨fun hle => ?_, fun hgt => ⟨vp, fun a' ea => ⟨vp, fun b' eb => ?_⟩⟩⟩
  · refine ya_24 hq (w := aa_sc x) (by omega) (by omega) (by omega) (by omega) i1 (fun e e5 => ?_) (fun e => ?_)
    · rcases hy with ⟨rfl, y1, y2⟩ | ⟨rfl, y1, y2⟩
      · cases x with
        | none => exact absurd (show v = -100000 from e) (by omega)
        | some p =>
          refine hp _ _ ⟨?_, ?_, aa_TY_updb (by omega) i3⟩
          · rw [aa_jn_eq e, i1]
            rfl
          · rw [aa_jn_eq e, pk_us, i2]
            rfl
      · omega
    · refine hp _ _ ?_
      rcases hy with ⟨rfl, y1, y2⟩ | ⟨rfl, y1, y2⟩
      · cases x with
        | none => exact absurd (show v ≤ -100000 from hle) (by omega)
        | some p =>
          have hle' : v ≤ p.1 := hle
          have e' : v ≠ p.1 ∨ v ≤ -50000 := e
          rw [aa_jn_lo (by omega)]
          exact ⟨i1, i2, i3⟩
      · rw [aa_jn_n]
        exact ⟨i1, i2, i3⟩
  · subst ea eb
    rcases hy with ⟨rfl, y1, y2⟩ | ⟨rfl, y1, y2⟩
    · refine ya_24 hq (w := v) (by omega) (by omega) (by omega) (by omega) pk_us (fun e e5 => ?_) (fun e => by omega)
      refine hp _ _ ⟨?_, ?_, aa_TY_updb (by omega) (aa_TY_upd (by omega) i3)⟩
      · rw [aa_jn_hi (by omega)]
        exact pk_us
      · rw [aa_jn_hi (by omega), pk_us, pk_us, Int32.zero_add]
        rfl
    · omega
theorem ya_gain {post : Int32 → Prop} {i j : Nat} (hi : i < 10) (hj : j < 10) (hg : (if yt i = yt (10 + j) then ge else gu) = aa_i (g i j)) (hp : post (aa_i (g i j))) : wpY_gain post (ge, gu, co, cl, yt, yn, a, b) (nI i) (nI j) := by
  have e10 : (10 : Int32) + nI j = nI (10 + j) := nI_add 10 j
  refine ⟨pk_in i 20 (by omega), pk_in (10 + j) 20 (by omega) e10, br_c (fun q => ?_) (fun q => ?_)⟩
  · rw [e10, nI_clamp (by omega), nI_clamp (by omega)] at q
    rw [if_pos q] at hg
    rw [hg]
    exact hp
  · rw [e10, nI_clamp (by omega), nI_clamp (by omega)] at q
    rw [if_neg q] at hg
    rw [hg]
    exact hp
theorem aa_val (z : Int) (k : Nat) : aa_i z - co - nI k * cl = aa_i (z - (co.toInt + (k : Int) * cl.toInt)) := by
  rw [show z - (co.toInt + (k : Int) * cl.toInt) = z - co.toInt - (k : Int) * cl.toInt by omega, aa_i_sub, aa_i_sub, aa_i_mul, aa_i_of, aa_i_of, aa_i_n]
theorem aa_kl {k : Nat} {l : Int} (hk : k ≤ 10) (h0 : 0 ≤ l) (h9 : l ≤ 9) : 0 ≤ (k : Int) * l ∧ (k : Int) * l ≤ 90 := by
  refine ⟨Int.mul_nonneg (by omega) h0, ?_⟩
  have h1 : (k : Int) * l ≤ (k : Int) * 9 := Int.mul_le_mul_of_nonneg_left h9 (by omega)
  omega
theorem aa_ixL (i j k : Nat) : ((((nI i * 11) + nI j) + nI k) * 3) + 2 = nI (aa_s i (j + k) 2) := by
  rw [Int32.add_assoc (nI i * 11), nI_add]
  exact aa_s_nI i (j + k) 2
theorem aa_ixU (i j k : Nat) : ((((nI i + nI k) * 11) + nI j) * 3) + 1 = nI (aa_s (i + k) j 1) := by
  rw [nI_add]
  exact aa_s_nI (i + k) j 1
theorem ya_198 {post : SY → Prop} {i j t : Nat} (H : aa_Ok g co.toInt cl.toInt n m) (hi : i ≤ n) (hj : j ≤ m) (ht : t < 3) (ht2 : t ≠ 2) {F : aa_P}
    (hp : ∀ a' b', aa_YI g co.toInt cl.toInt n m h (aa_s i j t) F a' b' → post (ge, gu, co, cl, yt, yn, a', b')) :
    ∀ (e k : Nat) (x : aa_P) (a b : Nat → Int32), j + k + e = m + 1 → 1 ≤ k → aa_Bd 30 x → aa_YI g co.toInt cl.toInt n m h (aa_s i j t) x a b →
    aa_jn x (if j + k ≤ m then aa_sh (-(co.toInt + (k : Int) * cl.toInt)) (aa_V g co.toInt cl.toInt n m h i (j + k) 2) else none) = F →
    wY_fill_198 post (nI i) (nI j) (nI t) (nI m) (nI (aa_s i j t)) (e + 1) (nI k) ge gu co cl yt yn a b := by
  have hn := H.2.2.2.2.2.1
  have hm := H.2.2.2.2.2.2
  have hq : aa_s i j t < 363 := aa_s_lt (by omega) (by omega) ht
  intro e
  induction e with
  | zero =>
    intro k x a b he hk hx hI hF
    rw [if_neg (by omega), aa_jn_n] at hF
    subst hF
    exact pk_eq t 2 (fun z => by omega) (fun _ => pk_lt m (j + k) (fun _ => hp _ _ hI) (fun z => by omega) rfl (nI_add j k))
  | succ e ih =>
    intro k x a b he hk hx hI hF
    have hlt : aa_s i (j + k) 2 < 363 := aa_s_lt (by omega) (by omega) (by decide)
    have hge : aa_s i j t + 1 ≤ aa_s i (j + k) 2 := by unfold aa_s; omega
    have hT := hI.2.2 i (j + k) 2 hi (by omega) (by decide) hge
    have hQ := aa_Q_bd (h := h) H hi (show j + k ≤ m by omega) 2
    have hkl := aa_kl (show k ≤ 10 by omega) H.2.2.2.1 H.2.2.2.2.1
    have ho := H.2.1
    have ho' := H.2.2.1
    rw [if_pos (by omega), aa_Lk, ← aa_jn_assoc] at hF
    refine pk_eq t 2 (fun z => by omega) (fun _ => pk_lt m (j + k) (fun z => by omega) (fun _ => nm_r (aa_ixL i j k) ⟨pk_in _ 363 hlt, pk_in _ 363 hlt, ?_⟩) rfl (nI_add j k))
    rw [nI_clamp (by omega), hT.1, hT.2, aa_val]
    have hoff := aa_off hQ (e := co.toInt + (k : Int) * cl.toInt) (by omega) (by omega)
    refine ya_offer hq hI hx hoff (fun a' b' hI' => nm_r (nI_1 k) ?_)
    exact ih (k + 1) _ a' b' (by omega) (by omega) (aa_Bd_jn hx (aa_Bd_off hQ (by omega) (by omega))) hI' hF
theorem ya_127 {post : SY → Prop} {i j t : Nat} (H : aa_Ok g co.toInt cl.toInt n m) (hi : i ≤ n) (hj : j ≤ m) (ht : t < 3) (ht1 : t ≠ 1) {F : aa_P}
    (hp : ∀ a b, aa_YI g co.toInt cl.toInt n m h (aa_s i j t) F a b → ∃ n198, wY_fill_198 post (nI i) (nI j) (nI t) (nI m) (nI (aa_s i j t)) n198 1 ge gu co cl yt yn a b) :
    ∀ (e k : Nat) (x : aa_P) (a b : Nat → Int32), i + k + e = n + 1 → 1 ≤ k → aa_Bd 30 x → aa_YI g co.toInt cl.toInt n m h (aa_s i j t) x a b →
    aa_jn x (if i + k ≤ n then aa_sh (-(co.toInt + (k : Int) * cl.toInt)) (aa_V g co.toInt cl.toInt n m h (i + k) j 1) else none) = F →
    wY_fill_127 post (nI i) (nI j) (nI t) (nI n) (nI m) (nI (aa_s i j t)) (e + 1) (nI k) ge gu co cl yt yn a b := by
  have hn := H.2.2.2.2.2.1
  have hm := H.2.2.2.2.2.2
  have hq : aa_s i j t < 363 := aa_s_lt (by omega) (by omega) ht
  intro e
  induction e with
  | zero =>
    intro k x a b he hk hx hI hF
    rw [if_neg (by omega), aa_jn_n] at hF
    subst hF
    exact pk_eq t 1 (fun z => by omega) (fun _ => pk_lt n (i + k) (fun _ => hp _ _ hI) (fun z => by omega) rfl (nI_add i k))
  | succ e ih =>
    intro k x a b he hk hx hI hF
    have hlt : aa_s (i + k) j 1 < 363 := aa_s_lt (by omega) (by omega) (by decide)
    have hge : aa_s i j t + 1 ≤ aa_s (i + k) j 1 := by unfold aa_s; omega
    have hT := hI.2.2 (i + k) j 1 (by omega) hj (by decide) hge
    have hQ := aa_Q_bd (h := h) H (show i + k ≤ n by omega) hj 1
    have hkl := aa_kl (show k ≤ 10 by omega) H.2.2.2.1 H.2.2.2.2.1
    have ho := H.2.1
    have ho' := H.2.2.1
    rw [if_pos (by omega), aa_Uk, ← aa_jn_assoc] at hF
    refine pk_eq t 1 (fun z => by omega) (fun _ => pk_lt n (i + k) (fun z => by omega) (fun _ => nm_r (aa_ixU i j k) ⟨pk_in _ 363 hlt, pk_in _ 363 hlt, ?_⟩) rfl (nI_add i k))
    rw [nI_clamp (by omega), hT.1, hT.2, aa_val]
    have hoff := aa_off hQ (e := co.toInt + (k : Int) * cl.toInt) (by omega) (by omega)
    refine ya_offer hq hI hx hoff (fun a' b' hI' => nm_r (nI_1 k) ?_)
    exact ih (k + 1) _ a' b' (by omega) (by omega) (aa_Bd_jn hx (aa_Bd_off hQ (by omega) (by omega))) hI' hF
theorem aa_s9 (i j : Nat) : ((((nI i + 1) * 11) + nI j) + 1) * 3 = nI (aa_s (i + 1) (j + 1) 0) := by
  rw [nI_1 i, Int32.add_assoc, nI_1 j]
  have e := aa_s_nI (i + 1) (j + 1) 0
  rw [nI_0, Int32.add_zero] at e
  exact e
theorem ya_67 {post : SY → Prop} {i j t : Nat} (H : aa_Ok g co.toInt cl.toInt n m) (hg : ∀ i j, i < n → j < m → (if yt i = yt (10 + j) then ge else gu) = aa_i (g i j)) (hi : i ≤ n) (hj : j ≤ m) (ht : t < 3)
    (hI : aa_YI g co.toInt cl.toInt n m h (aa_s i j t) (aa_E n m h i j) a b)
    (hp : ∀ a' b', aa_YI g co.toInt cl.toInt n m h (aa_s i j t) (aa_Q g co.toInt cl.toInt n m h i j t) a' b' → post (ge, gu, co, cl, yt, yn, a', b')) :
    wY_fill_67 post (nI i) (nI j) (nI t) (nI n) (nI m) (nI (aa_s i j t)) ge gu co cl yt yn a b := by
  have hn := H.2.2.2.2.2.1
  have hm := H.2.2.2.2.2.2
  have hcl := H.2.2.2.1
  have hcl' := H.2.2.2.2.1
  have hco := H.2.1
  have hco' := H.2.2.1
  have hq : aa_s i j t < 363 := aa_s_lt (by omega) (by omega) ht
  have bE : aa_Bd 30 (aa_E n m h i j) := aa_E_bd _ _ _
  have bD : aa_Bd 30 (aa_D g co.toInt cl.toInt n m h i j) := aa_Bd_mono (aa_D_bd H fun a b => aa_V_bd H (by omega) (by omega) _) (by omega)
  have bU : aa_Bd 30 (aa_U g co.toInt cl.toInt n m h (-co.toInt - cl.toInt) i j) := aa_Bd_mono (aa_U_bd (by omega) (by omega) fun a => aa_V_bd H (by omega) (by omega) _) (by omega)
  -- the second loop
  have s2 : ∀ a b, aa_YI g co.toInt cl.toInt n m h (aa_s i j t) (aa_jn (aa_jn (aa_E n m h i j) (aa_D g co.toInt cl.toInt n m h i j)) (if t = 1 then none else aa_U g co.toInt cl.toInt n m h (-co.toInt - cl.toInt) i j)) a b → ∃ n198, wY_fill_198 post (nI i) (nI j) (nI t) (nI m) (nI (aa_s i j t)) n198 1 ge gu co cl yt yn a b := by
    intro a b hI'
    by_cases t2 : t = 2
    · refine ⟨1, pk_eq t 2 (fun _ => hp _ _ ?_) (fun z => absurd t2 z)⟩
      have e : aa_Q g co.toInt cl.toInt n m h i j t = aa_jn (aa_jn (aa_E n m h i j) (aa_D g co.toInt cl.toInt n m h i j)) (if t = 1 then none else aa_U g co.toInt cl.toInt n m h (-co.toInt - cl.toInt) i j) := by
        unfold aa_Q
        rw [if_pos t2, aa_jn_n]
      rw [e]
      exact hI'
    · refine ⟨m + 1 - (j + 1) + 1, ya_198 H hi hj ht t2 hp (m + 1 - (j + 1)) 1 _ a b (by omega) (by omega) ?_ hI' ?_⟩
      · refine aa_Bd_jn (aa_Bd_jn bE bD) ?_
        split
        · exact aa_Bd_n _
        · exact bU
      · unfold aa_Q
        rw [if_neg t2, aa_L1]
  -- the first loop
  have s1 : ∀ a b, aa_YI g co.toInt cl.toInt n m h (aa_s i j t) (aa_jn (aa_E n m h i j) (aa_D g co.toInt cl.toInt n m h i j)) a b → ∃ n127, wY_fill_127 post (nI i) (nI j) (nI t) (nI n) (nI m) (nI (aa_s i j t)) n127 1 ge gu co cl yt yn a b := by
    intro a b hI'
    by_cases t1 : t = 1
    · refine ⟨1, pk_eq t 1 (fun _ => s2 _ _ ?_) (fun z => absurd t1 z)⟩
      rw [if_pos t1, aa_jn_n]
      exact hI'
    · refine ⟨n + 1 - (i + 1) + 1, ya_127 H hi hj ht t1 s2 (n + 1 - (i + 1)) 1 _ a b (by omega) (by omega) (aa_Bd_jn bE bD) hI' ?_⟩
      rw [if_neg t1, aa_U1]
  have hDn : ¬ (i < n ∧ j < m) → ∃ n127, wY_fill_127 post (nI i) (nI j) (nI t) (nI n) (nI m) (nI (aa_s i j t)) n127 1 ge gu co cl yt yn a b := fun z => by
    refine s1 _ _ ?_
    rw [aa_D, if_neg z, aa_jn_n]
    exact hI
  refine pk_le n i (fun z => hDn (by omega)) (fun z1 => pk_le m j (fun z => hDn (by omega)) (fun z2 => ?_))
  have hlt : aa_s (i + 1) (j + 1) 0 < 363 := aa_s_lt (by omega) (by omega) (by decide)
  have hT := hI.2.2 (i + 1) (j + 1) 0 (by omega) (by omega) (by decide) (by unfold aa_s; omega)
  refine nm_r (aa_s9 i j) ⟨pk_in _ 363 hlt, ?_⟩
  refine ya_gain (by omega) (by omega) (hg i j z1 z2) ?_
  refine nm_e ⟨pk_in _ 363 hlt, ?_⟩
  rw [nI_clamp (by omega), hT.1, hT.2, ← aa_i_add]
  obtain ⟨p, e⟩ := aa_V_so (h := h) H (show i + 1 ≤ n by omega) (show j + 1 ≤ m by omega) 0
  have bp := aa_V_bd (h := h) H (show i + 1 ≤ n by omega) (show j + 1 ≤ m by omega) 0 p e
  have bg := H.1 i j z1 z2
  rw [← aa_V0, e]
  have eD : aa_D g co.toInt cl.toInt n m h i j = some (p.1 + g i j, p.2) := by
    unfold aa_D
    rw [if_pos ⟨z1, z2⟩, e]
    rfl
  refine ya_offer (y := aa_D g co.toInt cl.toInt n m h i j) hq hI bE (Or.inl ⟨eD, ?_⟩) (fun a' b' hI' => s1 a' b' hI')
  show -2000 ≤ p.1 + g i j ∧ p.1 + g i j ≤ 2000
  omega
theorem ya_fill {post : SY → Prop} {i j t : Nat} (H : aa_Ok g co.toInt cl.toInt n m) (hg : ∀ i j, i < n → j < m → (if yt i = yt (10 + j) then ge else gu) = aa_i (g i j)) (hi : i ≤ n) (hj : j ≤ m) (ht : t < 3) (hh : h < 3)
    (hT : aa_TY g co.toInt cl.toInt n m h (aa_s i j t + 1) a b)
    (hp : ∀ a' b', aa_TY g co.toInt cl.toInt n m h (aa_s i j t) a' b' → post (ge, gu, co, cl, yt, yn, a', b')) :
    wpY_fill post (ge, gu, co, cl, yt, yn, a, b) (nI i) (nI j) (nI t) (nI n) (nI m) (nI h) := by
  have hn := H.2.2.2.2.2.1
  have hm := H.2.2.2.2.2.2
  have hq : aa_s i j t < 363 := aa_s_lt (by omega) (by omega) ht
  have hp' : ∀ a' b', aa_YI g co.toInt cl.toInt n m h (aa_s i j t) (aa_Q g co.toInt cl.toInt n m h i j t) a' b' → post (ge, gu, co, cl, yt, yn, a', b') := by
    intro a' b' hI
    refine hp a' b' (fun i' j' t' hi' hj' ht' hK => ?_)
    by_cases e : aa_s i j t + 1 ≤ aa_s i' j' t'
    · exact hI.2.2 i' j' t' hi' hj' ht' e
    · obtain ⟨rfl, rfl, rfl⟩ := aa_s_inj (show j' ≤ 10 by omega) ht' (show j ≤ 10 by omega) ht (show aa_s i' j' t' = aa_s i j t by omega)
      exact ⟨hI.1, hI.2.1⟩
  refine nm_r (aa_s_nI i j t) ⟨pk_in _ 363 hq, fun a1 ea => ⟨pk_in _ 363 hq, fun b1 eb => ?_⟩⟩
  rw [nI_clamp (by omega)] at ea eb
  have hI0 : aa_YI g co.toInt cl.toInt n m h (aa_s i j t) none a1 b1 := by
    subst ea eb
    refine ⟨?_, pk_us, aa_TY_upd (by omega) hT⟩
    rw [pk_us]
    exact aa_c1e5.symm
  have K0 : aa_E n m h i j = none → wY_fill_67 post (nI i) (nI j) (nI t) (nI n) (nI m) (nI (aa_s i j t)) ge gu co cl yt yn a1 b1 := fun e => ya_67 H hg hi hj ht (by rw [e]; exact hI0) hp'
  have K1 : aa_E n m h i j = some (0, 1) → wY_fill_59 post (nI i) (nI j) (nI t) (nI n) (nI m) (nI (aa_s i j t)) ge gu co cl yt yn a1 b1 := fun e => by
    unfold wY_fill_59
    rw [← aa_c0]
    refine ya_offer (y := some (0, 1)) hq hI0 (aa_Bd_n _) (Or.inl ⟨rfl, by omega, by omega⟩) (fun a' b' hI' => ya_67 H hg hi hj ht ?_ hp')
    rw [e]
    exact hI'
  have k1 : ((i = n ∧ j = m) ∨ h = 1 ∨ (h = 2 ∧ i = n)) → aa_E n m h i j = some (0, 1) := fun z => if_pos z
  have k0 : ¬ ((i = n ∧ j = m) ∨ h = 1 ∨ (h = 2 ∧ i = n)) → aa_E n m h i j = none := fun z => if_neg z
  have K41 : ¬ (i = n ∧ j = m) → wY_fill_41 post (nI i) (nI j) (nI t) (nI n) (nI m) (nI h) (nI (aa_s i j t)) ge gu co cl yt yn a1 b1 := fun z =>
    pk_eq h 1 (fun e => K1 (k1 (by omega))) (fun e => pk_eq h 2 (fun e2 => pk_eq i n (fun e3 => K1 (k1 (by omega))) (fun e3 => K0 (k0 (by omega)))) (fun e2 => K0 (k0 (by omega))))
  exact pk_eq i n (fun e => pk_eq j m (fun e' => K1 (k1 (by omega))) (fun e' => K41 (by omega))) (fun e => K41 (by omega))
theorem ya_17 {post : SY → Prop} {J3 : Int32 → Int32 → Int32 → Int32 → Int32 → (Nat → Int32) → (Nat → Int32) → (Nat → Int32) → (Nat → Int32) → Prop} {i : Nat} (H : aa_Ok g co.toInt cl.toInt n m) (hg : ∀ i j, i < n → j < m → (if yt i = yt (10 + j) then ge else gu) = aa_i (g i j)) (hi : i ≤ n) (hh : h < 3)
    (hJ : ∀ a b, aa_TY g co.toInt cl.toInt n m h (i * 33) a b → J3 (nI i + (-1)) ge gu co cl yt yn a b) :
    ∀ (c : Nat) (a b : Nat → Int32), c ≤ (m + 1) * 3 → aa_TY g co.toInt cl.toInt n m h (i * 33 + c) a b → wY_work_17 post J3 (nI n) (nI m) (nI h) (nI i) (c + 1) (nI c + (-1)) ge gu co cl yt yn a b := by
  have hm := H.2.2.2.2.2.2
  intro c
  induction c with
  | zero =>
    intro a b hc hT
    exact br_t xa_neg1 (nm_e (hJ a b hT))
  | succ c ih =>
    intro a b hc hT
    rw [pk_m1]
    have e1 : nI c / 3 = nI (c / 3) := pk_div (d := 3) (by omega) (by decide) (by decide)
    have e2 : nI c - nI c / 3 * 3 = nI (c % 3) := pk_rem (d := 3) (by omega) (by decide) (by decide)
    have e3 : aa_s i (c / 3) (c % 3) = i * 33 + c := by unfold aa_s; omega
    refine br_f (nI_pos (by omega)) ⟨by decide, by decide, ?_⟩
    rw [e2, e1]
    refine ya_fill H hg hi (by omega) (by omega) hh (by rw [e3]; exact hT) (fun a' b' hT' => nm_e (ih a' b' (by omega) ?_))
    rw [e3] at hT'
    exact hT'
theorem ya_3 {post : SY → Prop} (H : aa_Ok g co.toInt cl.toInt n m) (hg : ∀ i j, i < n → j < m → (if yt i = yt (10 + j) then ge else gu) = aa_i (g i j)) (hh : h < 3)
    (hp : ∀ a b, aa_TY g co.toInt cl.toInt n m h 0 a b → post (ge, gu, co, cl, yt, yn, a, b)) :
    ∀ (c : Nat) (a b : Nat → Int32), c ≤ n + 1 → aa_TY g co.toInt cl.toInt n m h (c * 33) a b → wY_work_3 post (nI n) (nI m) (nI h) (c + 1) (nI c + (-1)) ge gu co cl yt yn a b := by
  have hn := H.2.2.2.2.2.1
  have hm := H.2.2.2.2.2.2
  intro c
  induction c with
  | zero =>
    intro a b hc hT
    refine br_t xa_neg1 (hp a b ?_)
    rw [Nat.zero_mul] at hT
    exact hT
  | succ c ih =>
    intro a b hc hT
    rw [pk_m1]
    have e1 : ((nI m + 1) * 3) - 1 = nI ((m + 1) * 3) + (-1) := by
      rw [Int32.sub_eq_add_neg, nI_1 m]
      exact congrArg (· + (-1)) (pk_mul (m + 1) 3)
    refine br_f (nI_pos (by omega)) (nm_r e1 ⟨(m + 1) * 3 + 1, ?_⟩)
    refine ya_17 H hg (by omega) hh (fun a' b' hT' => ih a' b' (by omega) hT') ((m + 1) * 3) a b (Nat.le_refl _) ?_
    intro i' j' t' hi' hj' ht' hK
    refine hT i' j' t' hi' hj' ht' ?_
    unfold aa_s at hK ⊢
    omega
theorem ya_work {post : SY → Prop} (H : aa_Ok g co.toInt cl.toInt n m) (hg : ∀ i j, i < n → j < m → (if yt i = yt (10 + j) then ge else gu) = aa_i (g i j)) (hh : h < 3)
    (hp : ∀ a b, aa_TY g co.toInt cl.toInt n m h 0 a b → post (ge, gu, co, cl, yt, yn, a, b)) : wpY_work post (ge, gu, co, cl, yt, yn, a, b) (nI n) (nI m) (nI h) := by
  refine ⟨n + 1 + 1, ?_⟩
  have h1 := ya_3 H hg hh hp (n + 1) a b (Nat.le_refl _) ?_
  · rw [pk_m1] at h1
    exact h1
  · intro i' j' t' hi' hj' ht' hK
    have hm := H.2.2.2.2.2.2
    unfold aa_s at hK
    omega
end
end
section
/-! 09: the component's fillCounts and traceFirst -/
section
variable {n m : Nat} {ge gu co cl : Int32} {xu xl a b r d : Nat → Int32}
theorem xa_c24 {post : Int32 → Prop} {i j t s k : Nat} (H : aa_Ok (aa_g xu xl ge gu) co.toInt cl.toInt n m) (hT : aa_Tab (aa_VS (aa_g xu xl ge gu) co.toInt cl.toInt n m 0) n m 0 a) (hi : i ≤ n) (hj : j ≤ m) (ht : t < 3) (hs : s < 3)
    (hC : aa_Tab (aa_VC (aa_g xu xl ge gu) co.toInt cl.toInt n m 0) n m (aa_s i (j + 1) 0) b) (x : Int32)
    (hk : wX_countFrom_24 post (nI i) (nI j) (nI t) (nI n) (nI m) ge gu co cl xu xl a b r d k (x + (if aa_tg (aa_g xu xl ge gu) co.toInt cl.toInt n m 0 i j t s then aa_ct (aa_V (aa_g xu xl ge gu) co.toInt cl.toInt n m 0 (aa_ni i s) (aa_nj j s) s) else 0)) (nI (s + 1))) :
    wX_countFrom_24 post (nI i) (nI j) (nI t) (nI n) (nI m) ge gu co cl xu xl a b r d (k + 1) x (nI s) := by
  have hn := H.2.2.2.2.2.1
  have hm := H.2.2.2.2.2.2
  refine pk_le 3 s (fun q => by omega) (fun _ => ?_)
  refine xa_bm H hT hi hj ht hs (fun h1 => br_f xa_1 ?_) (fun h0 => br_t rfl ?_)
  · have hin := aa_has_in h1.1 hi hj
    have hlt : aa_s (aa_ni i s) (aa_nj j s) s < 363 := aa_s_lt (by omega) (by omega) hs
    refine xa_sa hs ⟨pk_in _ 363 hlt, ?_⟩
    rw [nI_clamp (by omega), hC _ _ _ hin.1 hin.2 hs (aa_s_next i j s)]
    rw [if_pos h1] at hk
    exact nm_e (nm_r (nI_1 s) hk)
  · rw [if_neg h0, Int32.add_zero] at hk
    exact nm_r (nI_1 s) hk
theorem xa_cf {post : Int32 → Prop} {i j t : Nat} (H : aa_Ok (aa_g xu xl ge gu) co.toInt cl.toInt n m) (hT : aa_Tab (aa_VS (aa_g xu xl ge gu) co.toInt cl.toInt n m 0) n m 0 a) (hi : i ≤ n) (hj : j ≤ m) (ht : t < 3)
    (hC : aa_Tab (aa_VC (aa_g xu xl ge gu) co.toInt cl.toInt n m 0) n m (aa_s i (j + 1) 0) b) (hp : post (aa_VC (aa_g xu xl ge gu) co.toInt cl.toInt n m 0 i j t)) : wpX_countFrom post (nI n, nI m, ge, gu, co, cl, xu, xl, a, b, r, d) (nI i) (nI j) (nI t) := by
  have hn := H.2.2.2.2.2.1
  have hm := H.2.2.2.2.2.2
  have hne : ¬ (i = n ∧ j = m) → ∃ n24, wX_countFrom_24 post (nI i) (nI j) (nI t) (nI n) (nI m) ge gu co cl xu xl a b r d n24 0 0 := by
    intro e
    refine ⟨4, xa_c24 (s := 0) H hT hi hj ht (by decide) hC 0 (xa_c24 (s := 1) H hT hi hj ht (by decide) hC _ (xa_c24 (s := 2) H hT hi hj ht (by decide) hC _ ?_))⟩
    refine pk_le 3 3 (fun _ => ?_) (fun q => by omega)
    rw [aa_VC, aa_ct_eq H hi hj t (aa_E_no e)] at hp
    exact hp
  refine pk_eq i n (fun e => pk_eq j m (fun e' => ?_) (fun e' => hne (by omega))) (fun e => hne (by omega))
  subst e e'
  rw [aa_VC, aa_V_end] at hp
  exact hp
theorem xa_c20 {post : SX → Prop} {J5 J14 : Int32 → (Nat → Int32) → (Nat → Int32) → (Nat → Int32) → (Nat → Int32) → (Nat → Int32) → (Nat → Int32) → Prop} {i j : Nat} (H : aa_Ok (aa_g xu xl ge gu) co.toInt cl.toInt n m) (hT : aa_Tab (aa_VS (aa_g xu xl ge gu) co.toInt cl.toInt n m 0) n m 0 a) (hi : i ≤ n) (hj : j ≤ m)
    (hC : aa_Tab (aa_VC (aa_g xu xl ge gu) co.toInt cl.toInt n m 0) n m (aa_s i (j + 1) 0) b)
    (hp : ∀ b', aa_Tab (aa_VC (aa_g xu xl ge gu) co.toInt cl.toInt n m 0) n m (aa_s i j 0) b' → J14 (nI j + (-1)) xu xl a b' r d) : ∃ n20, wX_fillCounts_20 post J5 J14 (nI i) (nI j) (nI n) (nI m) ge gu co cl n20 0 xu xl a b r d := by
  have hn := H.2.2.2.2.2.1
  have hm := H.2.2.2.2.2.2
  refine loop_0 (fun k t b' => wX_fillCounts_20 post J5 J14 (nI i) (nI j) (nI n) (nI m) ge gu co cl k (nI t) xu xl a b' r d)
    (fun t b' => aa_Tab (aa_VC (aa_g xu xl ge gu) co.toInt cl.toInt n m 0) n m (aa_s i (j + 1) 0) b' ∧ ∀ t', t' < t → b' (aa_s i j t') = aa_VC (aa_g xu xl ge gu) co.toInt cl.toInt n m 0 i j t') 3 b ⟨hC, fun _ q => absurd q (Nat.not_lt_zero _)⟩ ?_ ?_
  · intro k b' hI
    refine pk_le 3 3 (fun _ => nm_e (hp b' ?_)) (fun q => by omega)
    intro i' j' t' hi' hj' ht' hK
    by_cases q : aa_s i (j + 1) 0 ≤ aa_s i' j' t'
    · exact hI.1 i' j' t' hi' hj' ht' q
    · have e : i' = i ∧ j' = j := by
        unfold aa_s at hK q
        omega
      obtain ⟨rfl, rfl⟩ := e
      exact hI.2 t' ht'
  · intro k t b' ht hI hc
    have hlt : aa_s i j t < 363 := aa_s_lt (by omega) (by omega) ht
    have hnew : aa_Tab (aa_VC (aa_g xu xl ge gu) co.toInt cl.toInt n m 0) n m (aa_s i (j + 1) 0) (upd b' (aa_s i j t) (aa_VC (aa_g xu xl ge gu) co.toInt cl.toInt n m 0 i j t)) ∧ ∀ t', t' < t + 1 → (upd b' (aa_s i j t) (aa_VC (aa_g xu xl ge gu) co.toInt cl.toInt n m 0 i j t)) (aa_s i j t') = aa_VC (aa_g xu xl ge gu) co.toInt cl.toInt n m 0 i j t' := by
      refine ⟨fun i' j' t' hi' hj' ht' hK => ?_, fun t' ht' => ?_⟩
      · rw [pk_un (by unfold aa_s at hK ⊢; omega)]
        exact hI.1 i' j' t' hi' hj' ht' hK
      · by_cases q : t' = t
        · subst q
          exact pk_us
        · rw [pk_un (by unfold aa_s; omega)]
          exact hI.2 t' (by omega)
    refine pk_le 3 t (fun q => by omega) (fun _ => ?_)
    refine xa_state ?_
    refine xa_cf H hT hi hj ht hI.1 ⟨pk_in _ 363 hlt, ?_⟩
    rw [nI_clamp (by omega)]
    exact nm_e (nm_r (nI_1 t) (hc _ hnew))
theorem xa_c14 {post : SX → Prop} {J5 : Int32 → (Nat → Int32) → (Nat → Int32) → (Nat → Int32) → (Nat → Int32) → (Nat → Int32) → (Nat → Int32) → Prop} {i : Nat} (H : aa_Ok (aa_g xu xl ge gu) co.toInt cl.toInt n m) (hT : aa_Tab (aa_VS (aa_g xu xl ge gu) co.toInt cl.toInt n m 0) n m 0 a) (hi : i ≤ n)
    (hJ : ∀ b', aa_Tab (aa_VC (aa_g xu xl ge gu) co.toInt cl.toInt n m 0) n m (aa_s i 0 0) b' → J5 (nI i + (-1)) xu xl a b' r d) :
    ∀ (c : Nat) (b : Nat → Int32), c ≤ m + 1 → aa_Tab (aa_VC (aa_g xu xl ge gu) co.toInt cl.toInt n m 0) n m (aa_s i c 0) b → wX_fillCounts_14 post J5 (nI i) (nI n) (nI m) ge gu co cl (c + 1) (nI c + (-1)) xu xl a b r d := by
  have hm := H.2.2.2.2.2.2
  intro c
  induction c with
  | zero =>
    intro b hc hC
    exact br_t xa_neg1 (nm_e (hJ b hC))
  | succ c ih =>
    intro b hc hC
    rw [pk_m1]
    refine br_f (nI_pos (by omega)) ?_
    exact xa_c20 H hT hi (by omega) hC (fun b' h' => ih b' (by omega) h')
theorem xa_c5 {post : SX → Prop} (H : aa_Ok (aa_g xu xl ge gu) co.toInt cl.toInt n m) (hT : aa_Tab (aa_VS (aa_g xu xl ge gu) co.toInt cl.toInt n m 0) n m 0 a)
    (hp : ∀ b', aa_Tab (aa_VC (aa_g xu xl ge gu) co.toInt cl.toInt n m 0) n m 0 b' → post (nI n, nI m, ge, gu, co, cl, xu, xl, a, b', r, d)) :
    ∀ (c : Nat) (b : Nat → Int32), c ≤ n + 1 → aa_Tab (aa_VC (aa_g xu xl ge gu) co.toInt cl.toInt n m 0) n m (aa_s c 0 0) b → wX_fillCounts_5 post (nI n) (nI m) ge gu co cl (c + 1) (nI c + (-1)) xu xl a b r d := by
  have hn := H.2.2.2.2.2.1
  have hm := H.2.2.2.2.2.2
  intro c
  induction c with
  | zero =>
    intro b hc hC
    exact br_t xa_neg1 (hp b hC)
  | succ c ih =>
    intro b hc hC
    rw [pk_m1]
    refine br_f (nI_pos (by omega)) ⟨m + 1 + 1, ?_⟩
    have h1 := xa_c14 (post := post) (J5 := wX_fillCounts_5 post (nI n) (nI m) ge gu co cl (c + 1)) (r := r) (d := d) H hT (show c ≤ n by omega) (fun b' h' => ih b' (by omega) h') (m + 1) b (Nat.le_refl _) ?_
    · rw [pk_m1] at h1
      exact h1
    · intro i' j' t' hi' hj' ht' hK
      refine hC i' j' t' hi' hj' ht' ?_
      unfold aa_s at hK ⊢
      omega
theorem xa_fc {post : SX → Prop} (H : aa_Ok (aa_g xu xl ge gu) co.toInt cl.toInt n m) (hT : aa_Tab (aa_VS (aa_g xu xl ge gu) co.toInt cl.toInt n m 0) n m 0 a)
    (hp : ∀ b', aa_Tab (aa_VC (aa_g xu xl ge gu) co.toInt cl.toInt n m 0) n m 0 b' → post (nI n, nI m, ge, gu, co, cl, xu, xl, a, b', r, d)) : wpX_fillCounts post (nI n, nI m, ge, gu, co, cl, xu, xl, a, b, r, d) := by
  refine ⟨n + 1 + 1, ?_⟩
  have h1 := xa_c5 (r := r) (d := d) H hT hp (n + 1) b (Nat.le_refl _) ?_
  · rw [pk_m1] at h1
    exact h1
  · intro i' j' t' hi' hj' ht' hK
    have hm := H.2.2.2.2.2.2
    unfold aa_s at hK
    omega
theorem xa_fbm {post : Int32 → Prop} {i j t : Nat} (H : aa_Ok (aa_g xu xl ge gu) co.toInt cl.toInt n m) (hT : aa_Tab (aa_VS (aa_g xu xl ge gu) co.toInt cl.toInt n m 0) n m 0 a) (hi : i ≤ n) (hj : j ≤ m) (ht : t < 3)
    (hp : post (nI (aa_fm (aa_g xu xl ge gu) co.toInt cl.toInt n m i j t))) : wpX_firstBestMove post (nI n, nI m, ge, gu, co, cl, xu, xl, a, b, r, d) (nI i) (nI j) (nI t) := by
  unfold aa_fm at hp
  refine ⟨3, pk_le 2 0 (fun q => by omega) (fun _ => xa_bm (s := 0) H hT hi hj ht (by decide) (fun h1 => br_f xa_1 ?_) (fun h0 => br_t rfl (nm_r (nI_1 0) (pk_le 2 1 (fun q => by omega) (fun _ => xa_bm (s := 1) H hT hi hj ht (by decide) (fun h1 => br_f xa_1 ?_) (fun h0' => br_t rfl (nm_r (nI_1 1) (pk_le 2 2 (fun _ => ?_) (fun q => by omega)))))))))⟩
  · rw [if_pos h1] at hp
    exact hp
  · rw [if_neg h0, if_pos h1] at hp
    exact hp
  · rw [if_neg h0, if_neg h0'] at hp
    exact hp
/-- the column k of the walk -/
def aa_col (g : Nat → Nat → Int) (o l : Int) (n m k : Nat) : Nat := aa_fm g o l n m (aa_wk g o l n m k).1 (aa_wk g o l n m k).2.1 (aa_wk g o l n m k).2.2
theorem xa_t32 {post : Int32 → SX → Prop} {J9 : Int32 → Int32 → Int32 → Int32 → (Nat → Int32) → (Nat → Int32) → (Nat → Int32) → (Nat → Int32) → (Nat → Int32) → (Nat → Int32) → Prop} {i j t k : Nat} (H : aa_Ok (aa_g xu xl ge gu) co.toInt cl.toInt n m) (hT : aa_Tab (aa_VS (aa_g xu xl ge gu) co.toInt cl.toInt n m 0) n m 0 a) (hi : i ≤ n) (hj : j ≤ m) (ht : t < 3) (hk : k < 20)
    (hp : J9 (nI (aa_ni i (aa_fm (aa_g xu xl ge gu) co.toInt cl.toInt n m i j t))) (nI (aa_nj j (aa_fm (aa_g xu xl ge gu) co.toInt cl.toInt n m i j t))) (nI (aa_fm (aa_g xu xl ge gu) co.toInt cl.toInt n m i j t)) (nI (k + 1)) xu xl a b r (upd d k (nI (aa_fm (aa_g xu xl ge gu) co.toInt cl.toInt n m i j t)))) :
    wX_traceFirst_32 post J9 (nI i) (nI j) (nI t) (nI k) (nI n) (nI m) ge gu co cl xu xl a b r d := by
  unfold wX_traceFirst_32
  refine xa_fbm H hT hi hj ht ?_
  have hf : aa_fm (aa_g xu xl ge gu) co.toInt cl.toInt n m i j t < 3 := aa_fm_lt i j t
  generalize aa_fm (aa_g xu xl ge gu) co.toInt cl.toInt n m i j t = s at hp hf
  refine ⟨pk_in k 20 hk, ?_⟩
  rw [nI_clamp (by omega)]
  refine nm_e (nm_r (nI_1 k) ?_)
  refine pk_eq s 2 (fun e => ?_) (fun e => ?_)
  · rw [aa_ni, aa_nj, if_pos e, if_neg (by omega)] at hp
    refine nm_r (Int32.add_zero (nI i)) (pk_eq s 1 (fun e' => by omega) (fun e' => nm_r (nI_1 j) hp))
  · rw [aa_ni, if_neg e] at hp
    refine nm_r (nI_1 i) (pk_eq s 1 (fun e' => ?_) (fun e' => ?_))
    · rw [aa_nj, if_pos e'] at hp
      exact nm_r (Int32.add_zero (nI j)) hp
    · rw [aa_nj, if_neg e'] at hp
      exact nm_r (nI_1 j) hp
theorem xa_t9 {post : Int32 → SX → Prop} (H : aa_Ok (aa_g xu xl ge gu) co.toInt cl.toInt n m) (hT : aa_Tab (aa_VS (aa_g xu xl ge gu) co.toInt cl.toInt n m 0) n m 0 a) {L : Nat} (hL : L ≤ n + m) (hE : aa_wkEnd (aa_g xu xl ge gu) co.toInt cl.toInt n m L) (hA : ∀ k', k' < L → aa_wkIn (aa_g xu xl ge gu) co.toInt cl.toInt n m k' ∧ ¬ aa_wkEnd (aa_g xu xl ge gu) co.toInt cl.toInt n m k')
    (hp : ∀ d', (∀ k', k' < L → d' k' = nI (aa_col (aa_g xu xl ge gu) co.toInt cl.toInt n m k')) → post (nI L) (nI n, nI m, ge, gu, co, cl, xu, xl, a, b, r, d')) :
    ∀ (e k : Nat) (d : Nat → Int32), k + e = L → (∀ k', k' < k → d k' = nI (aa_col (aa_g xu xl ge gu) co.toInt cl.toInt n m k')) →
    wX_traceFirst_9 post (nI n) (nI m) ge gu co cl (e + 1) (nI (aa_wk (aa_g xu xl ge gu) co.toInt cl.toInt n m k).1) (nI (aa_wk (aa_g xu xl ge gu) co.toInt cl.toInt n m k).2.1) (nI (aa_wk (aa_g xu xl ge gu) co.toInt cl.toInt n m k).2.2) (nI k) xu xl a b r d := by
  have hn := H.2.2.2.2.2.1
  have hm := H.2.2.2.2.2.2
  intro e
  induction e with
  | zero =>
    intro k d hk hd
    have e : k = L := by omega
    subst e
    rw [hE.1, hE.2]
    exact pk_le 20 k (fun _ => hp d hd) (fun _ => pk_lt n n (fun q => by omega) (fun _ => pk_le m m (fun _ => hp d hd) (fun q => by omega)))
  | succ e ih =>
    intro k d hk hd
    obtain ⟨⟨h1, h2, h3⟩, h4⟩ := hA k (by omega)
    have h32 : wX_traceFirst_32 post (wX_traceFirst_9 post (nI n) (nI m) ge gu co cl (e + 1)) (nI (aa_wk (aa_g xu xl ge gu) co.toInt cl.toInt n m k).1) (nI (aa_wk (aa_g xu xl ge gu) co.toInt cl.toInt n m k).2.1) (nI (aa_wk (aa_g xu xl ge gu) co.toInt cl.toInt n m k).2.2) (nI k) (nI n) (nI m) ge gu co cl xu xl a b r d := by
      refine xa_t32 H hT h1 h2 h3 (by omega) (ih (k + 1) _ (by omega) ?_)
      intro k' hk'
      by_cases q : k' = k
      · subst q
        exact pk_us
      · rw [pk_un q]
        exact hd k' (by omega)
    refine pk_le 20 k (fun q => by omega) (fun _ => pk_lt (aa_wk (aa_g xu xl ge gu) co.toInt cl.toInt n m k).1 n (fun _ => h32) (fun q1 => pk_le m (aa_wk (aa_g xu xl ge gu) co.toInt cl.toInt n m k).2.1 (fun q2 => absurd ⟨by omega, by omega⟩ h4) (fun _ => h32)))
theorem xa_tf {post : Int32 → SX → Prop} (H : aa_Ok (aa_g xu xl ge gu) co.toInt cl.toInt n m) (hT : aa_Tab (aa_VS (aa_g xu xl ge gu) co.toInt cl.toInt n m 0) n m 0 a) {L : Nat} (hL : L ≤ n + m) (hE : aa_wkEnd (aa_g xu xl ge gu) co.toInt cl.toInt n m L) (hA : ∀ k', k' < L → aa_wkIn (aa_g xu xl ge gu) co.toInt cl.toInt n m k' ∧ ¬ aa_wkEnd (aa_g xu xl ge gu) co.toInt cl.toInt n m k')
    (hp : ∀ d', (∀ k', k' < L → d' k' = nI (aa_col (aa_g xu xl ge gu) co.toInt cl.toInt n m k')) → post (nI L) (nI n, nI m, ge, gu, co, cl, xu, xl, a, b, r, d')) : wpX_traceFirst post (nI n, nI m, ge, gu, co, cl, xu, xl, a, b, r, d) :=
  ⟨L + 1, xa_t9 H hT hL hE hA hp L 0 d (by omega) (fun _ q => absurd q (Nat.not_lt_zero _))⟩
end
end
section
/-! 10: greatest starts, and the component's reached -/
def aa_Mx (v : Nat → Nat → Int) (I J : Nat) (z : Int) : Prop := (∀ i j, i ≤ I → j ≤ J → v i j ≤ z) ∧ ∃ i j, i ≤ I ∧ j ≤ J ∧ v i j = z
theorem aa_Mx_un {v : Nat → Nat → Int} {I J : Nat} {z z' : Int} (h : aa_Mx v I J z) (h' : aa_Mx v I J z') : z = z' := by
  obtain ⟨h1, i, j, hi, hj, e⟩ := h
  obtain ⟨h1', i', j', hi', hj', e'⟩ := h'
  have a1 := h1 i' j' hi' hj'
  have a2 := h1' i j hi hj
  omega
def aa_MI (v : Nat → Nat → Int) (I J : Nat) (z0 : Int) (i j : Nat) (z : Int) : Prop := (∀ i' j', j' ≤ J → (i' < i ∨ (i' = i ∧ j' < j)) → v i' j' ≤ z) ∧ (z = z0 ∨ ∃ i' j', i' ≤ I ∧ j' ≤ J ∧ v i' j' = z) ∧ z0 ≤ z
theorem aa_MI_0 (v : Nat → Nat → Int) (I J : Nat) (z0 : Int) : aa_MI v I J z0 0 0 z0 := ⟨fun i' j' _ h => by omega, Or.inl rfl, Int.le_refl _⟩
theorem aa_MI_s {v : Nat → Nat → Int} {I J : Nat} {z0 z : Int} {i j : Nat} (h : aa_MI v I J z0 i j z) (hi : i ≤ I) (hj : j ≤ J) : (v i j ≤ z → aa_MI v I J z0 i (j + 1) z) ∧ (¬ v i j ≤ z → aa_MI v I J z0 i (j + 1) (v i j)) := by
  obtain ⟨h1, h2, h3⟩ := h
  refine ⟨fun q => ⟨fun i' j' hj' e => ?_, h2, h3⟩, fun q => ⟨fun i' j' hj' e => ?_, Or.inr ⟨i, j, hi, hj, rfl⟩, by omega⟩⟩
  · by_cases e1 : i' = i ∧ j' = j
    · obtain ⟨rfl, rfl⟩ := e1
      exact q
    · exact h1 i' j' hj' (by omega)
  · by_cases e1 : i' = i ∧ j' = j
    · obtain ⟨rfl, rfl⟩ := e1
      exact Int.le_refl _
    · have := h1 i' j' hj' (by omega)
      omega
theorem aa_MI_r {v : Nat → Nat → Int} {I J : Nat} {z0 z : Int} {i j : Nat} (h : aa_MI v I J z0 i j z) (hj : J < j) : aa_MI v I J z0 (i + 1) 0 z := by
  obtain ⟨h1, h2, h3⟩ := h
  exact ⟨fun i' j' hj' e => h1 i' j' hj' (by omega), h2, h3⟩
theorem aa_MI_e {v : Nat → Nat → Int} {I J : Nat} {z0 z : Int} {i : Nat} (h : aa_MI v I J z0 i 0 z) (hi : I < i) (h0 : z0 ≤ v 0 0) : aa_Mx v I J z := by
  obtain ⟨h1, h2, h3⟩ := h
  have h4 := h1 0 0 (by omega) (by omega)
  refine ⟨fun i' j' hi' hj' => h1 i' j' hj' (by omega), ?_⟩
  rcases h2 with e | e
  · exact ⟨0, 0, by omega, by omega, by omega⟩
  · exact e
theorem aa_MI_in {v : Nat → Nat → Int} {I J : Nat} {z0 z : Int} {i j : Nat} (h : aa_MI v I J z0 i j z) (hv : ∀ i j, i ≤ I → j ≤ J → -360 ≤ v i j ∧ v i j ≤ 360) (h0 : -1000000 ≤ z0) (h0' : z0 ≤ 360) : -1000000 ≤ z ∧ z ≤ 360 := by
  obtain ⟨h1, h2, h3⟩ := h
  rcases h2 with e | ⟨i', j', hi', hj', e⟩
  · omega
  · have := hv i' j' hi' hj'
    omega
section
variable {n m h : Nat} {ge gu co cl : Int32} {xu xl a b r d : Nat → Int32}
theorem xa_g15 {post : Int32 → Prop} {J6 : Int32 → Int32 → Prop} {I J i : Nat} (H : aa_Ok (aa_g xu xl ge gu) co.toInt cl.toInt n m) (hT : aa_Tab (aa_VS (aa_g xu xl ge gu) co.toInt cl.toInt n m h) n m 0 a) (hI : I ≤ n) (hJ : J ≤ m) (hi : i ≤ I)
    (hp : ∀ z, aa_MI (fun i j => aa_sc (aa_V (aa_g xu xl ge gu) co.toInt cl.toInt n m h i j 0)) I J (-1000000) (i + 1) 0 z → J6 (aa_i z) (nI (i + 1))) :
    ∀ (e j : Nat) (z : Int), j + e = J + 1 → aa_MI (fun i j => aa_sc (aa_V (aa_g xu xl ge gu) co.toInt cl.toInt n m h i j 0)) I J (-1000000) i j z → wX_greatestStart_15 post J6 (nI I) (nI J) (nI i) (nI n) (nI m) ge gu co cl xu xl a b r d (e + 1) (aa_i z) (nI j) := by
  have hn := H.2.2.2.2.2.1
  have hm := H.2.2.2.2.2.2
  intro e
  induction e with
  | zero =>
    intro j z hj hM
    exact pk_lt J j (fun _ => nm_r (nI_1 i) (hp z (aa_MI_r hM (by omega)))) (fun q => by omega)
  | succ e ih =>
    intro j z hj hM
    have hlt : aa_s i j 0 < 363 := aa_s_lt (by omega) (by omega) (by decide)
    have bv := aa_V_in (h := h) H (show i ≤ n by omega) (show j ≤ m by omega) 0
    have bz := aa_MI_in hM (fun i' j' hi' hj' => aa_V_in (h := h) H (by omega) (by omega) 0) (by omega) (by omega)
    have hs := aa_MI_s hM hi (by omega)
    refine pk_lt J j (fun q => by omega) (fun _ => ?_)
    refine xa_state (t := 0) ⟨pk_in _ 363 hlt, ?_⟩
    rw [nI_clamp (by omega), hT i j 0 (by omega) (by omega) (by decide) (Nat.zero_le _)]
    refine nm_e ?_
    show (aa_i (aa_sc (aa_V (aa_g xu xl ge gu) co.toInt cl.toInt n m h i j 0)) ≤ aa_i z → _) ∧ (¬ aa_i (aa_sc (aa_V (aa_g xu xl ge gu) co.toInt cl.toInt n m h i j 0)) ≤ aa_i z → _)
    rw [aa_i_le (by omega) (by omega) (by omega) (by omega)]
    exact ⟨fun q => nm_r (nI_1 j) (ih (j + 1) _ (by omega) (hs.1 q)), fun q => nm_r (nI_1 j) (ih (j + 1) _ (by omega) (hs.2 q))⟩
theorem xa_g6 {post : Int32 → Prop} {I J : Nat} (H : aa_Ok (aa_g xu xl ge gu) co.toInt cl.toInt n m) (hT : aa_Tab (aa_VS (aa_g xu xl ge gu) co.toInt cl.toInt n m h) n m 0 a) (hI : I ≤ n) (hJ : J ≤ m)
    (hp : ∀ z, aa_Mx (fun i j => aa_sc (aa_V (aa_g xu xl ge gu) co.toInt cl.toInt n m h i j 0)) I J z → post (aa_i z)) :
    ∀ (e i : Nat) (z : Int), i + e = I + 1 → aa_MI (fun i j => aa_sc (aa_V (aa_g xu xl ge gu) co.toInt cl.toInt n m h i j 0)) I J (-1000000) i 0 z → wX_greatestStart_6 post (nI I) (nI J) (nI n) (nI m) ge gu co cl xu xl a b r d (e + 1) (aa_i z) (nI i) := by
  have hn := H.2.2.2.2.2.1
  have hm := H.2.2.2.2.2.2
  have b0 := aa_V_in (h := h) H (Nat.zero_le n) (Nat.zero_le m) 0
  intro e
  induction e with
  | zero =>
    intro i z hi hM
    exact pk_lt I i (fun _ => hp z (aa_MI_e hM (by omega) (by show (-1000000 : Int) ≤ aa_sc _; omega))) (fun q => by omega)
  | succ e ih =>
    intro i z hi hM
    refine pk_lt I i (fun q => by omega) (fun _ => ⟨J + 1 + 1, ?_⟩)
    exact xa_g15 H hT hI hJ (by omega) (fun z' hM' => ih (i + 1) z' (by omega) hM') (J + 1) 0 z (by omega) hM
theorem xa_gs {post : Int32 → Prop} {I J : Nat} (H : aa_Ok (aa_g xu xl ge gu) co.toInt cl.toInt n m) (hT : aa_Tab (aa_VS (aa_g xu xl ge gu) co.toInt cl.toInt n m h) n m 0 a) (hI : I ≤ n) (hJ : J ≤ m)
    (hp : ∀ z, aa_Mx (fun i j => aa_sc (aa_V (aa_g xu xl ge gu) co.toInt cl.toInt n m h i j 0)) I J z → post (aa_i z)) : wpX_greatestStart post (nI n, nI m, ge, gu, co, cl, xu, xl, a, b, r, d) (nI I) (nI J) := by
  have h1 := xa_g6 (b := b) (r := r) (d := d) H hT hI hJ hp (I + 1) 0 (-1000000) (by omega) (aa_MI_0 _ _ _ _)
  rw [aa_c6] at h1
  exact ⟨I + 1 + 1, h1⟩
end
/-- the marks: closed below index p -/
def aa_RI (g : Nat → Nat → Int) (o l : Int) (n m p : Nat) (r : Nat → Int32) : Prop :=
  (¬ r (aa_s 0 0 0) = 0) ∧
  (∀ i j t, i ≤ n → j ≤ m → t < 3 → ¬ r (aa_s i j t) = 0 → (i = 0 ∧ j = 0 ∧ t = 0) ∨ ∃ i' j' t', i' ≤ n ∧ j' ≤ m ∧ t' < 3 ∧ (¬ r (aa_s i' j' t') = 0) ∧ aa_tg g o l n m 0 i' j' t' t ∧ aa_ni i' t = i ∧ aa_nj j' t = j) ∧
  (∀ i j t s, i ≤ n → j ≤ m → t < 3 → s < 3 → aa_s i j t < p → ¬ r (aa_s i j t) = 0 → aa_tg g o l n m 0 i j t s → ¬ r (aa_s (aa_ni i s) (aa_nj j s) s) = 0)
theorem aa_b1 : vp_nar .boolean 1 = 1 := by rfl
theorem aa_b0 : vp_nar .boolean 0 = 0 := by rfl
theorem aa_upm {r : Nat → Int32} {q k : Nat} (h : ¬ r k = 0) : ¬ upd r q 1 k = 0 := by
  by_cases e : k = q
  · subst e
    rw [pk_us]
    exact xa_1
  · rw [pk_un e]
    exact h
theorem aa_RI_mark {g : Nat → Nat → Int} {o l : Int} {n m : Nat} {r : Nat → Int32} {i j t s : Nat} (hR : aa_RI g o l n m (aa_s i j t) r) (hn : n ≤ 10) (hm : m ≤ 10) (hi : i ≤ n) (hj : j ≤ m) (ht : t < 3) (hs : s < 3) (hr : ¬ r (aa_s i j t) = 0) (htg : aa_tg g o l n m 0 i j t s) :
    aa_RI g o l n m (aa_s i j t) (upd r (aa_s (aa_ni i s) (aa_nj j s) s) 1) := by
  obtain ⟨h1, h2, h3⟩ := hR
  have hin := aa_has_in htg.1 hi hj
  refine ⟨aa_upm h1, ?_, ?_⟩
  · intro i' j' t' hi' hj' ht' hm'
    by_cases e : aa_s i' j' t' = aa_s (aa_ni i s) (aa_nj j s) s
    · obtain ⟨e1, e2, e3⟩ := aa_s_inj (by omega) ht' (by omega) hs e
      subst e3
      exact Or.inr ⟨i, j, t, hi, hj, ht, aa_upm hr, htg, e1.symm, e2.symm⟩
    · rw [pk_un e] at hm'
      rcases h2 i' j' t' hi' hj' ht' hm' with q | ⟨i2, j2, t2, q1, q2, q3, q4, q5⟩
      · exact Or.inl q
      · exact Or.inr ⟨i2, j2, t2, q1, q2, q3, aa_upm q4, q5⟩
  · intro i' j' t' s' hi' hj' ht' hs' hlt hm' htg'
    have hnx := aa_s_next i j s
    have hne : aa_s i' j' t' ≠ aa_s (aa_ni i s) (aa_nj j s) s := by
      have : aa_s i j t < aa_s i (j + 1) 0 := by unfold aa_s; omega
      omega
    rw [pk_un hne] at hm'
    exact aa_upm (h3 i' j' t' s' hi' hj' ht' hs' hlt hm' htg')
section
variable {n m : Nat} {ge gu co cl : Int32} {xu xl a b r d : Nat → Int32}
theorem xa_m18 {post : SX → Prop} {i j t : Nat} (H : aa_Ok (aa_g xu xl ge gu) co.toInt cl.toInt n m) (hT : aa_Tab (aa_VS (aa_g xu xl ge gu) co.toInt cl.toInt n m 0) n m 0 a) (hi : i ≤ n) (hj : j ≤ m) (ht : t < 3)
    (hp : ∀ r', aa_RI (aa_g xu xl ge gu) co.toInt cl.toInt n m (aa_s i j t + 1) r' → post (nI n, nI m, ge, gu, co, cl, xu, xl, a, b, r', d)) :
    ∀ (e s : Nat) (r : Nat → Int32), s + e = 3 → aa_RI (aa_g xu xl ge gu) co.toInt cl.toInt n m (aa_s i j t) r → (¬ r (aa_s i j t) = 0) → (∀ s', s' < s → aa_tg (aa_g xu xl ge gu) co.toInt cl.toInt n m 0 i j t s' → ¬ r (aa_s (aa_ni i s') (aa_nj j s') s') = 0) →
    wX_markMovesFrom_18 post (nI i) (nI j) (nI t) (nI n) (nI m) ge gu co cl (e + 1) (nI s) xu xl a b r d := by
  have hn := H.2.2.2.2.2.1
  have hm := H.2.2.2.2.2.2
  intro e
  induction e with
  | zero =>
    intro s r hs hR hr hd
    refine pk_le 3 s (fun _ => hp r ⟨hR.1, hR.2.1, ?_⟩) (fun q => by omega)
    intro i' j' t' s' hi' hj' ht' hs' hlt hm' htg'
    by_cases e : aa_s i' j' t' = aa_s i j t
    · obtain ⟨rfl, rfl, rfl⟩ := aa_s_inj (by omega) ht' (by omega) ht e
      exact hd s' (by omega) htg'
    · exact hR.2.2 i' j' t' s' hi' hj' ht' hs' (by omega) hm' htg'
  | succ e ih =>
    intro s r hs hR hr hd
    refine pk_le 3 s (fun q => by omega) (fun _ => ?_)
    refine xa_bm H hT hi hj ht (by omega) (fun h1 => br_f xa_1 ?_) (fun h0 => br_t rfl (nm_r (nI_1 s) (ih (s + 1) r (by omega) hR hr ?_)))
    · have hin := aa_has_in h1.1 hi hj
      have hlt : aa_s (aa_ni i s) (aa_nj j s) s < 363 := aa_s_lt (by omega) (by omega) (by omega)
      refine xa_sa (by omega) ⟨pk_in _ 363 hlt, ?_⟩
      rw [nI_clamp (by omega), aa_b1]
      refine nm_e (nm_r (nI_1 s) (ih (s + 1) _ (by omega) (aa_RI_mark hR hn hm hi hj ht (by omega) hr h1) (aa_upm hr) ?_))
      intro s' hs' htg'
      by_cases e : s' = s
      · subst e
        rw [pk_us]
        exact xa_1
      · exact aa_upm (hd s' (by omega) htg')
    · intro s' hs' htg'
      by_cases e : s' = s
      · subst e
        exact absurd htg' h0
      · exact hd s' (by omega) htg'
theorem xa_mm {post : SX → Prop} {i j t : Nat} (H : aa_Ok (aa_g xu xl ge gu) co.toInt cl.toInt n m) (hT : aa_Tab (aa_VS (aa_g xu xl ge gu) co.toInt cl.toInt n m 0) n m 0 a) (hi : i ≤ n) (hj : j ≤ m) (ht : t < 3) (hR : aa_RI (aa_g xu xl ge gu) co.toInt cl.toInt n m (aa_s i j t) r)
    (hp : ∀ r', aa_RI (aa_g xu xl ge gu) co.toInt cl.toInt n m (aa_s i j t + 1) r' → post (nI n, nI m, ge, gu, co, cl, xu, xl, a, b, r', d)) : wpX_markMovesFrom post (nI n, nI m, ge, gu, co, cl, xu, xl, a, b, r, d) (nI i) (nI j) (nI t) := by
  have hn := H.2.2.2.2.2.1
  have hm := H.2.2.2.2.2.2
  have hlt : aa_s i j t < 363 := aa_s_lt (by omega) (by omega) ht
  unfold wpX_markMovesFrom
  dsimp only
  refine xa_state ⟨pk_in _ 363 hlt, ?_⟩
  rw [nI_clamp (by omega)]
  refine ⟨fun q => hp r ⟨hR.1, hR.2.1, ?_⟩, fun q => ⟨4, xa_m18 H hT hi hj ht hp 3 0 r (by omega) hR q (fun s' hs' => absurd hs' (Nat.not_lt_zero _))⟩⟩
  intro i' j' t' s' hi' hj' ht' hs' hlt' hm' htg'
  by_cases e : aa_s i' j' t' = aa_s i j t
  · rw [e] at hm'
    exact absurd q hm'
  · exact hR.2.2 i' j' t' s' hi' hj' ht' hs' (by omega) hm' htg'
theorem xa_r56 {post : SX → Prop} {J36 J46 : Int32 → Int32 → Int32 → Int32 → Int32 → Int32 → Int32 → (Nat → Int32) → (Nat → Int32) → (Nat → Int32) → (Nat → Int32) → (Nat → Int32) → (Nat → Int32) → Prop} {i j : Nat} (H : aa_Ok (aa_g xu xl ge gu) co.toInt cl.toInt n m) (hT : aa_Tab (aa_VS (aa_g xu xl ge gu) co.toInt cl.toInt n m 0) n m 0 a) (hi : i ≤ n) (hj : j ≤ m)
    (hp : ∀ r', aa_RI (aa_g xu xl ge gu) co.toInt cl.toInt n m (aa_s i (j + 1) 0) r' → J46 (nI (j + 1)) (nI n) (nI m) ge gu co cl xu xl a b r' d) :
    ∀ (e t : Nat) (r : Nat → Int32), t + e = 3 → aa_RI (aa_g xu xl ge gu) co.toInt cl.toInt n m (aa_s i j t) r → wX_fillReached_56 post J36 J46 (nI i) (nI j) (e + 1) (nI t) (nI n) (nI m) ge gu co cl xu xl a b r d := by
  intro e
  induction e with
  | zero =>
    intro t r ht hR
    refine pk_le 3 t (fun _ => nm_r (nI_1 j) (hp r ?_)) (fun q => by omega)
    have e : aa_s i (j + 1) 0 = aa_s i j t := by unfold aa_s; omega
    rw [e]
    exact hR
  | succ e ih =>
    intro t r ht hR
    refine pk_le 3 t (fun q => by omega) (fun _ => ?_)
    exact xa_mm H hT hi hj (by omega) hR (fun r' hR' => nm_r (nI_1 t) (ih (t + 1) r' (by omega) hR'))
theorem xa_r46 {post : SX → Prop} {J36 : Int32 → Int32 → Int32 → Int32 → Int32 → Int32 → Int32 → (Nat → Int32) → (Nat → Int32) → (Nat → Int32) → (Nat → Int32) → (Nat → Int32) → (Nat → Int32) → Prop} {i : Nat} (H : aa_Ok (aa_g xu xl ge gu) co.toInt cl.toInt n m) (hT : aa_Tab (aa_VS (aa_g xu xl ge gu) co.toInt cl.toInt n m 0) n m 0 a) (hi : i ≤ n)
    (hp : ∀ r', aa_RI (aa_g xu xl ge gu) co.toInt cl.toInt n m (aa_s (i + 1) 0 0) r' → J36 (nI (i + 1)) (nI n) (nI m) ge gu co cl xu xl a b r' d) :
    ∀ (e j : Nat) (r : Nat → Int32), j + e = m + 1 → aa_RI (aa_g xu xl ge gu) co.toInt cl.toInt n m (aa_s i j 0) r → wX_fillReached_46 post J36 (nI i) (e + 1) (nI j) (nI n) (nI m) ge gu co cl xu xl a b r d := by
  have hm := H.2.2.2.2.2.2
  intro e
  induction e with
  | zero =>
    intro j r hj hR
    refine pk_lt m j (fun _ => nm_r (nI_1 i) (hp r ⟨hR.1, hR.2.1, ?_⟩)) (fun q => by omega)
    intro i' j' t' s' hi' hj' ht' hs' hlt' hm' htg'
    refine hR.2.2 i' j' t' s' hi' hj' ht' hs' ?_ hm' htg'
    unfold aa_s at hlt' ⊢
    omega
  | succ e ih =>
    intro j r hj hR
    refine pk_lt m j (fun q => by omega) (fun _ => ⟨4, ?_⟩)
    exact xa_r56 H hT hi (by omega) (fun r' hR' => ih (j + 1) r' (by omega) hR') 3 0 r (by omega) hR
theorem xa_r36 {post : SX → Prop} (H : aa_Ok (aa_g xu xl ge gu) co.toInt cl.toInt n m) (hT : aa_Tab (aa_VS (aa_g xu xl ge gu) co.toInt cl.toInt n m 0) n m 0 a)
    (hp : ∀ r', aa_RI (aa_g xu xl ge gu) co.toInt cl.toInt n m (aa_s (n + 1) 0 0) r' → post (nI n, nI m, ge, gu, co, cl, xu, xl, a, b, r', d)) :
    ∀ (e i : Nat) (r : Nat → Int32), i + e = n + 1 → aa_RI (aa_g xu xl ge gu) co.toInt cl.toInt n m (aa_s i 0 0) r → wX_fillReached_36 post (e + 1) (nI i) (nI n) (nI m) ge gu co cl xu xl a b r d := by
  have hn := H.2.2.2.2.2.1
  intro e
  induction e with
  | zero =>
    intro i r hi hR
    have e : i = n + 1 := by omega
    subst e
    exact pk_lt n (n + 1) (fun _ => hp r hR) (fun q => by omega)
  | succ e ih =>
    intro i r hi hR
    refine pk_lt n i (fun q => by omega) (fun _ => ⟨m + 1 + 1, ?_⟩)
    exact xa_r46 H hT (by omega) (fun r' hR' => ih (i + 1) r' (by omega) hR') (m + 1) 0 r (by omega) hR
theorem xa_fr {post : SX → Prop} (H : aa_Ok (aa_g xu xl ge gu) co.toInt cl.toInt n m) (hT : aa_Tab (aa_VS (aa_g xu xl ge gu) co.toInt cl.toInt n m 0) n m 0 a)
    (hp : ∀ r', aa_RI (aa_g xu xl ge gu) co.toInt cl.toInt n m (aa_s (n + 1) 0 0) r' → post (nI n, nI m, ge, gu, co, cl, xu, xl, a, b, r', d)) : wpX_fillReached post (nI n, nI m, ge, gu, co, cl, xu, xl, a, b, r, d) := by
  have hn := H.2.2.2.2.2.1
  have hm := H.2.2.2.2.2.2
  refine loop_0 (fun k c r' => wX_fillReached_2 post (nI n) (nI m) ge gu co cl k (nI c) xu xl a b r' d) (fun c r' => ∀ k, k < c → r' k = 0) 363 r (fun _ q => absurd q (Nat.not_lt_zero _)) ?_ ?_
  · intro k r' hI
    refine pk_le 363 363 (fun _ => ?_) (fun q => by omega)
    refine xa_state (i := 0) (j := 0) (t := 0) ⟨pk_in (aa_s 0 0 0) 363 (by decide), ?_⟩
    rw [nI_clamp (by decide), aa_b1]
    refine nm_e ⟨n + 1 + 1, ?_⟩
    refine xa_r36 H hT hp (n + 1) 0 _ (by omega) ⟨?_, ?_, ?_⟩
    · rw [pk_us]
      exact xa_1
    · intro i j t hi hj ht hr
      by_cases e : aa_s i j t = aa_s 0 0 0
      · exact Or.inl (aa_s_inj (by omega) ht (by omega) (by decide) e)
      · rw [pk_un e] at hr
        exact absurd (hI _ (aa_s_lt (by omega) (by omega) ht)) hr
    · intro i j t s hi hj ht hs hlt
      exact absurd hlt (Nat.not_lt_zero _)
  · intro k c r' hc hI hn'
    refine pk_le 363 c (fun q => by omega) (fun _ => ⟨pk_in c 363 hc, ?_⟩)
    rw [nI_clamp (by omega), aa_b0]
    refine nm_e (nm_r (nI_1 c) (hn' _ ?_))
    intro k' hk'
    by_cases e : k' = c
    · subst e
      exact pk_us
    · rw [pk_un e]
      exact hI k' (by omega)
theorem xa_p38 {post : Int32 → SX → Prop} {i j : Nat} (H : aa_Ok (aa_g xu xl ge gu) co.toInt cl.toInt n m) (hT : aa_Tab (aa_VS (aa_g xu xl ge gu) co.toInt cl.toInt n m 0) n m 0 a) (hi : i ≤ n) (hj : j ≤ m)
    (h1 : (∃ t, t < 3 ∧ (¬ r (aa_s i j t) = 0) ∧ aa_tg (aa_g xu xl ge gu) co.toInt cl.toInt n m 0 i j t 0) → post 1 (nI n, nI m, ge, gu, co, cl, xu, xl, a, b, r, d)) (h0 : ¬ (∃ t, t < 3 ∧ (¬ r (aa_s i j t) = 0) ∧ aa_tg (aa_g xu xl ge gu) co.toInt cl.toInt n m 0 i j t 0) → post 0 (nI n, nI m, ge, gu, co, cl, xu, xl, a, b, r, d)) :
    ∀ (e t : Nat), t + e = 3 → (∀ t', t' < t → ¬ ((¬ r (aa_s i j t') = 0) ∧ aa_tg (aa_g xu xl ge gu) co.toInt cl.toInt n m 0 i j t' 0)) → wX_paired_38 post (nI i) (nI j) (nI n) (nI m) ge gu co cl xu xl a b r d (e + 1) (nI t) := by
  have hn := H.2.2.2.2.2.1
  have hm := H.2.2.2.2.2.2
  intro e
  induction e with
  | zero =>
    intro t ht hd
    refine pk_le 3 t (fun _ => h0 ?_) (fun q => by omega)
    rintro ⟨t', ht', q⟩
    exact hd t' (by omega) q
  | succ e ih =>
    intro t ht hd
    have hlt : aa_s i j t < 363 := aa_s_lt (by omega) (by omega) (by omega)
    have hnext : ¬ ((¬ r (aa_s i j t) = 0) ∧ aa_tg (aa_g xu xl ge gu) co.toInt cl.toInt n m 0 i j t 0) → wX_paired_38 post (nI i) (nI j) (nI n) (nI m) ge gu co cl xu xl a b r d (e + 1) (nI (t + 1)) := by
      intro q
      refine ih (t + 1) (by omega) (fun t' ht' => ?_)
      by_cases e : t' = t
      · subst e
        exact q
      · exact hd t' (by omega)
    refine pk_le 3 t (fun q => by omega) (fun _ => ?_)
    refine xa_state ⟨pk_in _ 363 hlt, ?_⟩
    rw [nI_clamp (by omega)]
    refine ⟨fun q => nm_r (nI_1 t) (hnext (fun z => z.1 q)), fun q => ?_⟩
    exact xa_bm (s := 0) H hT hi hj (by omega) (by decide) (fun g1 => br_f xa_1 (h1 ⟨t, by omega, q, g1⟩)) (fun g0 => br_t rfl (nm_r (nI_1 t) (hnext (fun z => g0 z.2))))
end
end
section
/-! 11: the reference's rest, sort, walk and greatest starts -/
theorem aa_mx {x y : aa_P} (hx : aa_Bd 30 x) (hy : aa_Bd 20 y) {e : Int} (h1 : 0 ≤ e) (h2 : e ≤ 1000) : (aa_sc y - e ≤ aa_sc x → aa_sc (aa_jn x (aa_sh (-e) y)) = aa_sc x) ∧ (¬ aa_sc y - e ≤ aa_sc x → aa_sc (aa_jn x (aa_sh (-e) y)) = aa_sc y - e) := by
  have hs := aa_sc_in hx
  rcases aa_off hy h1 h2 with ⟨q, q1, q2⟩ | ⟨q, q1, q2⟩
  · rw [q]
    refine ⟨fun z => ?_, fun z => ?_⟩
    · cases x with
      | none => exact absurd (show aa_sc y - e ≤ -100000 from z) (by omega)
      | some p =>
        have z' : aa_sc y - e ≤ p.1 := z
        by_cases e1 : aa_sc y - e = p.1
        · rw [aa_jn_eq e1]
          rfl
        · rw [aa_jn_lo (by omega)]
    · rw [aa_jn_hi (by omega)]
      rfl
  · rw [q, aa_jn_n]
    refine ⟨fun z => rfl, fun z => ?_⟩
    omega
theorem aa_val0 {cl : Int32} (z : Int) (k : Nat) : aa_i z - nI k * cl = aa_i (z - (0 + (k : Int) * cl.toInt)) := by
  rw [show z - (0 + (k : Int) * cl.toInt) = z - (k : Int) * cl.toInt by omega, aa_i_sub, aa_i_mul, aa_i_of, aa_i_n]
section
variable {g : Nat → Nat → Int} {n m h : Nat} {ge gu co cl : Int32} {yt yn a b : Nat → Int32}
theorem ya_r86 {post : Int32 → Prop} {i j : Nat} (H : aa_Ok g co.toInt cl.toInt n m) (h1 : yn 1 = nI m) (hT : aa_TY g co.toInt cl.toInt n m h 0 a b) (hi : i ≤ n) (hj : j ≤ m) {F : aa_P} (hp : post (aa_i (aa_sc F))) :
    ∀ (e k : Nat) (x : aa_P), j + k + e = m + 1 → aa_Bd 30 x →
    aa_jn x (if j + k ≤ m then aa_sh (-(0 + (k : Int) * cl.toInt)) (aa_V g co.toInt cl.toInt n m h i (j + k) 2) else none) = F →
    wY_rest_86 post (nI i) (nI j) (nI 2) ge gu co cl yt yn a b (e + 1) (aa_i (aa_sc x)) (nI k) := by
  have hn := H.2.2.2.2.2.1
  have hm := H.2.2.2.2.2.2
  intro e
  induction e with
  | zero =>
    intro k x he hx hF
    rw [if_neg (by omega), aa_jn_n] at hF
    subst hF
    exact pk_eq 2 2 (fun _ => pk_lt m (j + k) (fun _ => hp) (fun z => by omega) h1 (nI_add j k)) (fun z => by omega)
  | succ e ih =>
    intro k x he hx hF
    have hlt : aa_s i (j + k) 2 < 363 := aa_s_lt (by omega) (by omega) (by decide)
    have hT' := hT i (j + k) 2 hi (by omega) (by decide) (Nat.zero_le _)
    have hQ := aa_Q_bd (h := h) H hi (show j + k ≤ m by omega) 2
    have hkl := aa_kl (show k ≤ 10 by omega) H.2.2.2.1 H.2.2.2.2.1
    rw [if_pos (by omega), aa_Lk, ← aa_jn_assoc] at hF
    refine pk_eq 2 2 (fun _ => pk_lt m (j + k) (fun z => by omega) (fun _ => ?_) h1 (nI_add j k)) (fun z => by omega)
    rw [aa_ixL i j k]
    refine ⟨pk_in _ 363 hlt, ?_⟩
    rw [nI_clamp (by omega), hT'.1, aa_val0]
    refine nm_e ?_
    have hs := aa_sc_in hx
    have hsQ := aa_sc_in (aa_Bd_mono hQ (show 20 ≤ 30 by decide))
    have hmx := aa_mx hx hQ (e := 0 + (k : Int) * cl.toInt) (by omega) (by omega)
    have hih := ih (k + 1) _ (by omega) (aa_Bd_jn hx (aa_Bd_off hQ (e := 0 + (k : Int) * cl.toInt) (by omega) (by omega))) hF
    rw [aa_i_le (by omega) (by omega) (by omega) (by omega)]
    refine ⟨fun z => nm_r (nI_1 k) ?_, fun z => nm_r (nI_1 k) ?_⟩
    · rw [hmx.1 z] at hih
      exact hih
    · rw [hmx.2 z] at hih
      exact hih
theorem ya_r20 {post : Int32 → Prop} {i j : Nat} (H : aa_Ok g co.toInt cl.toInt n m) (h0 : yn 0 = nI n) (hT : aa_TY g co.toInt cl.toInt n m h 0 a b) (hi : i ≤ n) (hj : j ≤ m) {F : aa_P} (hp : post (aa_i (aa_sc F))) :
    ∀ (e k : Nat) (x : aa_P), i + k + e = n + 1 → aa_Bd 30 x →
    aa_jn x (if i + k ≤ n then aa_sh (-(0 + (k : Int) * cl.toInt)) (aa_V g co.toInt cl.toInt n m h (i + k) j 1) else none) = F →
    wY_rest_20 post (nI i) (nI j) (nI 1) ge gu co cl yt yn a b (e + 1) (aa_i (aa_sc x)) (nI k) := by
  have hn := H.2.2.2.2.2.1
  have hm := H.2.2.2.2.2.2
  intro e
  induction e with
  | zero =>
    intro k x he hx hF
    rw [if_neg (by omega), aa_jn_n] at hF
    subst hF
    exact pk_eq 1 1 (fun _ => pk_lt n (i + k) (fun _ => ⟨1, pk_eq 1 2 (fun z => by omega) (fun _ => hp)⟩) (fun z => by omega) h0 (nI_add i k)) (fun z => by omega)
  | succ e ih =>
    intro k x he hx hF
    have hlt : aa_s (i + k) j 1 < 363 := aa_s_lt (by omega) (by omega) (by decide)
    have hT' := hT (i + k) j 1 (by omega) hj (by decide) (Nat.zero_le _)
    have hQ := aa_Q_bd (h := h) H (show i + k ≤ n by omega) hj 1
    have hkl := aa_kl (show k ≤ 10 by omega) H.2.2.2.1 H.2.2.2.2.1
    rw [if_pos (by omega), aa_Uk, ← aa_jn_assoc] at hF
    refine pk_eq 1 1 (fun _ => pk_lt n (i + k) (fun z => by omega) (fun _ => ?_) h0 (nI_add i k)) (fun z => by omega)
    rw [aa_ixU i j k]
    refine ⟨pk_in _ 363 hlt, ?_⟩
    rw [nI_clamp (by omega), hT'.1, aa_val0]
    refine nm_e ?_
    have hs := aa_sc_in hx
    have hsQ := aa_sc_in (aa_Bd_mono hQ (show 20 ≤ 30 by decide))
    have hmx := aa_mx hx hQ (e := 0 + (k : Int) * cl.toInt) (by omega) (by omega)
    have hih := ih (k + 1) _ (by omega) (aa_Bd_jn hx (aa_Bd_off hQ (e := 0 + (k : Int) * cl.toInt) (by omega) (by omega))) hF
    rw [aa_i_le (by omega) (by omega) (by omega) (by omega)]
    refine ⟨fun z => nm_r (nI_1 k) ?_, fun z => nm_r (nI_1 k) ?_⟩
    · rw [hmx.1 z] at hih
      exact hih
    · rw [hmx.2 z] at hih
      exact hih
theorem ya_rest {post : Int32 → Prop} {i j t : Nat} (H : aa_Ok g co.toInt cl.toInt n m) (h0 : yn 0 = nI n) (h1 : yn 1 = nI m) (hT : aa_TY g co.toInt cl.toInt n m h 0 a b) (hi : i ≤ n) (hj : j ≤ m) (ht : t < 3) (hp : post (aa_i (aa_sc (aa_V g co.toInt cl.toInt n m h i j t)))) : wpY_rest post (ge, gu, co, cl, yt, yn, a, b) (nI i) (nI j) (nI t) := by
  have hn := H.2.2.2.2.2.1
  have hm := H.2.2.2.2.2.2
  have hlt : aa_s i j t < 363 := aa_s_lt (by omega) (by omega) ht
  have hT' := hT i j t hi hj ht (Nat.zero_le _)
  have hQ := aa_Bd_mono (aa_Q_bd (h := h) H hi hj t) (show 20 ≤ 30 by decide)
  unfold wpY_rest
  dsimp only
  rw [aa_s_nI]
  refine ⟨pk_in _ 363 hlt, ?_⟩
  rw [nI_clamp (by omega), hT'.1]
  refine nm_e ?_
  match t, ht with
  | 0, _ =>
    rw [aa_V0] at hp
    exact ⟨1, pk_eq 0 1 (fun z => by omega) (fun _ => ⟨1, pk_eq 0 2 (fun z => by omega) (fun _ => hp)⟩)⟩
  | 1, _ =>
    refine ⟨n + 1 - (i + 1) + 1, ya_r20 H h0 hT hi hj hp (n + 1 - (i + 1)) 1 _ (by omega) hQ ?_⟩
    rw [← aa_U1, show -(0 : Int) - cl.toInt = -cl.toInt by omega]
    exact (aa_V1 _ _ _ _ _ _ _ _).symm
  | 2, _ =>
    refine ⟨1, pk_eq 2 1 (fun z => by omega) (fun _ => ⟨m + 1 - (j + 1) + 1, ya_r86 H h1 hT hi hj hp (m + 1 - (j + 1)) 1 _ (by omega) hQ ?_⟩)⟩
    rw [← aa_L1, show -(0 : Int) - cl.toInt = -cl.toInt by omega]
    exact (aa_V2 _ _ _ _ _ _ _ _).symm
theorem ya_sort {post : Int32 → Prop} {i j t : Nat} (H : aa_Ok g co.toInt cl.toInt n m) (hg : ∀ i j, i < n → j < m → (if yt i = yt (10 + j) then ge else gu) = aa_i (g i j)) (h0 : yn 0 = nI n) (h1 : yn 1 = nI m) (hT : aa_TY g co.toInt cl.toInt n m 0 0 a b) (hi : i ≤ n) (hj : j ≤ m) (ht : t < 3)
    (he : i = n ∧ j = m → post (-1)) (hp : ¬ (i = n ∧ j = m) → post (nI (aa_fm g co.toInt cl.toInt n m i j t))) : wpY_sort post (ge, gu, co, cl, yt, yn, a, b) (nI i) (nI j) (nI t) := by
  have hn := H.2.2.2.2.2.1
  have hm := H.2.2.2.2.2.2
  have hcl := H.2.2.2.1
  have hcl' := H.2.2.2.2.1
  have hco := H.2.1
  have hco' := H.2.2.1
  have bV := aa_V_in (h := 0) H hi hj t
  have K30 : ¬ (i = n ∧ j = m) → wY_sort_30 post (nI i) (nI j) (nI t) (nI n) (nI m) ge gu co cl yt yn a b := by
    intro hne
    have hp := hp hne
    unfold aa_fm at hp
    have K93 : ¬ aa_tg g co.toInt cl.toInt n m 0 i j t 0 → ∀ z0 : Int32, cl + z0 = aa_i (-(aa_cs g co.toInt cl.toInt i j t 1)) → wY_sort_93 post (nI i) (nI j) (nI n) (aa_i (aa_sc (aa_V g co.toInt cl.toInt n m 0 i j t))) z0 cl ge gu co cl yt yn a b := by
      intro h0' z0 hz
      rw [if_neg h0'] at hp
      refine nm_r hz (pk_le n i (fun q => ?_) (fun q => ?_))
      · rw [if_neg (fun z => by have := z.1.1; omega)] at hp
        exact hp
      · rw [nI_1]
        have bW := aa_V_in (h := 0) H (show i + 1 ≤ n by omega) hj 1
        have hh : aa_has n m i j 1 := ⟨Or.inr q, Or.inl rfl⟩
        have bc := aa_cs_in (t := t) H hh
        refine ya_rest (t := 1) H h0 h1 hT (by omega) hj (by decide) ?_
        rw [← aa_i_sub, aa_i_eq (by omega) (by omega) (by omega) (by omega)]
        refine ⟨fun z => ?_, fun z => ?_⟩
        · have hc : aa_tg g co.toInt cl.toInt n m 0 i j t 1 := ⟨hh, by show _ + aa_sc (aa_V g co.toInt cl.toInt n m 0 (i + 1) j 1) = _; omega⟩
          rw [if_pos hc] at hp
          exact hp
        · have hc : ¬ aa_tg g co.toInt cl.toInt n m 0 i j t 1 := fun y => by
            have y2 : _ + aa_sc (aa_V g co.toInt cl.toInt n m 0 (i + 1) j 1) = _ := y.2
            omega
          rw [if_neg hc] at hp
          exact hp
    have K76 : ¬ aa_tg g co.toInt cl.toInt n m 0 i j t 0 → wY_sort_76 post (nI i) (nI j) (nI t) (nI n) (aa_i (aa_sc (aa_V g co.toInt cl.toInt n m 0 i j t))) ge gu co cl yt yn a b := by
      intro h0'
      refine pk_eq t 1 (fun e => K93 h0' 0 ?_) (fun e => K93 h0' co ?_)
      · rw [aa_cs, if_neg (by decide), if_pos e.symm, Int32.add_zero, Int.neg_neg, aa_i_of]
      · rw [aa_cs, if_neg (by decide), if_neg (fun z => e z.symm), show -(-co.toInt - cl.toInt) = cl.toInt + co.toInt by omega, aa_i_add, aa_i_of, aa_i_of]
    unfold wY_sort_30
    refine ya_rest H h0 h1 hT hi hj ht ?_
    refine pk_le n i (fun q => K76 (fun z => by have := z.1.1; omega)) (fun q1 => pk_le m j (fun q => K76 (fun z => by have := z.1.2; omega)) (fun q2 => ?_))
    rw [nI_1, nI_1]
    have bW := aa_V_in (h := 0) H (show i + 1 ≤ n by omega) (show j + 1 ≤ m by omega) 0
    have bg := H.1 i j q1 q2
    refine ya_rest (t := 0) H h0 h1 hT (by omega) (by omega) (by decide) ?_
    refine ya_gain (by omega) (by omega) (hg i j q1 q2) ?_
    rw [← aa_i_add, aa_i_eq (by omega) (by omega) (by omega) (by omega)]
    refine ⟨fun z => ?_, fun z => K76 (fun y => ?_)⟩
    · have hc : aa_tg g co.toInt cl.toInt n m 0 i j t 0 := ⟨⟨Or.inr q1, Or.inr q2⟩, by show g i j + aa_sc (aa_V g co.toInt cl.toInt n m 0 (i + 1) (j + 1) 0) = _; omega⟩
      rw [if_pos hc] at hp
      exact hp
    · have y2 : g i j + aa_sc (aa_V g co.toInt cl.toInt n m 0 (i + 1) (j + 1) 0) = _ := y.2
      omega
  exact nm_r h0 (nm_r h1 (pk_eq i n (fun e => pk_eq j m (fun e' => he ⟨e, e'⟩) (fun e' => K30 (by omega))) (fun e => K30 (by omega))))
theorem ya_best {post : Int32 → SY → Prop} (H : aa_Ok g co.toInt cl.toInt n m) (hg : ∀ i j, i < n → j < m → (if yt i = yt (10 + j) then ge else gu) = aa_i (g i j)) (h0 : yn 0 = nI n) (h1 : yn 1 = nI m)
    (hp : ∀ a b, aa_TY g co.toInt cl.toInt n m 0 0 a b → post (aa_i (aa_sc (aa_V g co.toInt cl.toInt n m 0 0 0 0))) (ge, gu, co, cl, yt, yn, a, b)) : wpY_best post (ge, gu, co, cl, yt, yn, a, b) := by
  unfold wpY_best
  dsimp only
  rw [h0, h1]
  refine ya_work (h := 0) H hg (by decide) (fun a' b' hT => ?_)
  have e := (hT 0 0 0 (Nat.zero_le _) (Nat.zero_le _) (by decide) (Nat.zero_le _)).1
  rw [← aa_V0] at e
  have e' : a' 0 = aa_i (aa_sc (aa_V g co.toInt cl.toInt n m 0 0 0 0)) := e
  show post (a' 0) (ge, gu, co, cl, yt, yn, a', b')
  rw [e']
  exact hp a' b' hT
theorem ya_w68 {post : Int32 → SY → Prop} {J15 : Int32 → Int32 → Int32 → Int32 → Prop} {w x2 : Int32} {j k s : Nat} (hs : s < 3) (hp : J15 x2 (nI (aa_nj j s)) (nI s) (nI (k + 1))) : wY_walk_68 post J15 w x2 (nI j) (nI k) (nI s) ge gu co cl yt yn a b := by
  refine pk_eq s 1 (fun e => ?_) (fun e => ?_)
  · rw [aa_nj, if_pos e] at hp
    exact nm_r (nI_1 k) hp
  · rw [aa_nj, if_neg e] at hp
    exact nm_r (nI_1 j) (nm_r (nI_1 k) hp)
theorem ya_w15 {post : Int32 → SY → Prop} {w : Int32} (H : aa_Ok g co.toInt cl.toInt n m) (hg : ∀ i j, i < n → j < m → (if yt i = yt (10 + j) then ge else gu) = aa_i (g i j)) (h0 : yn 0 = nI n) (h1 : yn 1 = nI m) (hT : aa_TY g co.toInt cl.toInt n m 0 0 a b)
    {L : Nat} (hL : L ≤ n + m) (hE : aa_wkEnd g co.toInt cl.toInt n m L) (hLI : aa_wkIn g co.toInt cl.toInt n m L) (hA : ∀ k', k' < L → aa_wkIn g co.toInt cl.toInt n m k' ∧ ¬ aa_wkEnd g co.toInt cl.toInt n m k')
    (he : (∀ k', k' < L → ¬ nI k' = w) → (0 ≤ w → post (-1000) (ge, gu, co, cl, yt, yn, a, b)) ∧ (¬ 0 ≤ w → post (nI L) (ge, gu, co, cl, yt, yn, a, b))) (hc : ∀ k, k < L → nI k = w → post (nI (aa_col g co.toInt cl.toInt n m k)) (ge, gu, co, cl, yt, yn, a, b)) :
    ∀ (e k : Nat), k + e = L → (∀ k', k' < k → ¬ nI k' = w) → wY_walk_15 post w ge gu co cl yt yn a b (e + 1) (nI (aa_wk g co.toInt cl.toInt n m k).1) (nI (aa_wk g co.toInt cl.toInt n m k).2.1) (nI (aa_wk g co.toInt cl.toInt n m k).2.2) (nI k) := by
  have hn := H.2.2.2.2.2.1
  have hm := H.2.2.2.2.2.2
  intro e
  induction e with
  | zero =>
    intro k hk hw
    have e : k = L := by omega
    subst e
    refine pk_le 21 k (fun q => by omega) (fun _ => ?_)
    exact ya_sort H hg h0 h1 hT hLI.1 hLI.2.1 hLI.2.2 (fun _ => br_f (by decide) (he hw)) (fun z => absurd hE z)
  | succ e ih =>
    intro k hk hw
    obtain ⟨h2, h3⟩ := hA k (by omega)
    refine pk_le 21 k (fun q => by omega) (fun _ => ?_)
    refine ya_sort H hg h0 h1 hT h2.1 h2.2.1 h2.2.2 (fun z => absurd z h3) (fun _ => ?_)
    have hf : aa_fm g co.toInt cl.toInt n m (aa_wk g co.toInt cl.toInt n m k).1 (aa_wk g co.toInt cl.toInt n m k).2.1 (aa_wk g co.toInt cl.toInt n m k).2.2 < 3 := aa_fm_lt _ _ _
    refine br_t (nI_pos' (by omega)) (br_c (fun q => hc k (by omega) q) (fun q => ?_))
    have hih := ih (k + 1) (by omega) (fun k' hk' => by
      by_cases e : k' = k
      · subst e
        exact q
      · exact hw k' (by omega))
    have hih' : wY_walk_15 post w ge gu co cl yt yn a b (e + 1) (nI (aa_ni (aa_wk g co.toInt cl.toInt n m k).1 (aa_col g co.toInt cl.toInt n m k))) (nI (aa_nj (aa_wk g co.toInt cl.toInt n m k).2.1 (aa_col g co.toInt cl.toInt n m k))) (nI (aa_col g co.toInt cl.toInt n m k)) (nI (k + 1)) := hih
    refine pk_eq (aa_col g co.toInt cl.toInt n m k) 2 (fun e => ?_) (fun e => ?_) rfl rfl (by unfold aa_col; omega)
    · rw [aa_ni, if_pos e] at hih'
      exact ya_w68 hf hih'
    · rw [aa_ni, if_neg e] at hih'
      exact nm_r (nI_1 _) (ya_w68 hf hih')
theorem ya_walk {post : Int32 → SY → Prop} {w : Int32} (H : aa_Ok g co.toInt cl.toInt n m) (hg : ∀ i j, i < n → j < m → (if yt i = yt (10 + j) then ge else gu) = aa_i (g i j)) (h0 : yn 0 = nI n) (h1 : yn 1 = nI m)
    {L : Nat} (hL : L ≤ n + m) (hE : aa_wkEnd g co.toInt cl.toInt n m L) (hLI : aa_wkIn g co.toInt cl.toInt n m L) (hA : ∀ k', k' < L → aa_wkIn g co.toInt cl.toInt n m k' ∧ ¬ aa_wkEnd g co.toInt cl.toInt n m k')
    (he : ∀ a b, (∀ k', k' < L → ¬ nI k' = w) → (0 ≤ w → post (-1000) (ge, gu, co, cl, yt, yn, a, b)) ∧ (¬ 0 ≤ w → post (nI L) (ge, gu, co, cl, yt, yn, a, b))) (hc : ∀ a b, ∀ k, k < L → nI k = w → post (nI (aa_col g co.toInt cl.toInt n m k)) (ge, gu, co, cl, yt, yn, a, b)) : wpY_walk post (ge, gu, co, cl, yt, yn, a, b) w := by
  unfold wpY_walk
  dsimp only
  refine ya_best H hg h0 h1 (fun a' b' hT => ?_)
  exact ⟨L + 1, ya_w15 H hg h0 h1 hT hL hE hLI hA (he a' b') (hc a' b') L 0 (by omega) (fun _ q => absurd q (Nat.not_lt_zero _))⟩
end
end
section
/-! 12: the reference's greatest starts, paired, type and rules -/
section
variable {g : Nat → Nat → Int} {n m h : Nat} {ge gu co cl : Int32} {yt yn a b : Nat → Int32}
theorem aa_ix0 (i j : Nat) : ((nI i * 11) + nI j) * 3 = nI (aa_s i j 0) := by
  have e := aa_s_nI i j 0
  rw [nI_0, Int32.add_zero] at e
  exact e
theorem aa_ixj (j : Nat) : nI j * 3 = nI (aa_s 0 j 0) := by
  have e := pk_mul j 3
  rw [show j * 3 = aa_s 0 j 0 by unfold aa_s; omega] at e
  exact e
theorem aa_ixi (i : Nat) : nI i * 33 = nI (aa_s i 0 0) := by
  have e := pk_mul i 33
  rw [show i * 33 = aa_s i 0 0 by unfold aa_s; omega] at e
  exact e
theorem ya_l33 {post : Int32 → SY → Prop} {J21 : Int32 → Int32 → Prop} {i : Nat} {z0 : Int} (H : aa_Ok g co.toInt cl.toInt n m) (h1 : yn 1 = nI m) (hT : aa_TY g co.toInt cl.toInt n m h 0 a b) (hi : i ≤ n) (b0 : -1000000 ≤ z0) (b0' : z0 ≤ 360)
    (hp : ∀ z, aa_MI (fun i j => aa_sc (aa_V g co.toInt cl.toInt n m h i j 0)) n m z0 (i + 1) 0 z → J21 (aa_i z) (nI (i + 1))) :
    ∀ (e j : Nat) (z : Int), j + e = m + 1 → aa_MI (fun i j => aa_sc (aa_V g co.toInt cl.toInt n m h i j 0)) n m z0 i j z → wY_local_33 post J21 (nI i) ge gu co cl yt yn a b (e + 1) (aa_i z) (nI j) := by
  have hn := H.2.2.2.2.2.1
  have hm := H.2.2.2.2.2.2
  intro e
  induction e with
  | zero =>
    intro j z hj hM
    exact pk_lt m j (fun _ => nm_r (nI_1 i) (hp z (aa_MI_r hM (by omega)))) (fun q => by omega) h1
  | succ e ih =>
    intro j z hj hM
    have hlt : aa_s i j 0 < 363 := aa_s_lt (by omega) (by omega) (by decide)
    have bv := aa_V_in (h := h) H (show i ≤ n by omega) (show j ≤ m by omega) 0
    have bz := aa_MI_in hM (fun i' j' hi' hj' => aa_V_in (h := h) H (by omega) (by omega) 0) b0 b0'
    have hs := aa_MI_s hM hi (by omega)
    have hT' := (hT i j 0 (by omega) (by omega) (by decide) (Nat.zero_le _)).1
    rw [← aa_V0] at hT'
    refine pk_lt m j (fun q => by omega) (fun _ => ?_) h1
    rw [aa_ix0]
    refine ⟨pk_in _ 363 hlt, ?_⟩
    rw [nI_clamp (by omega), hT', aa_i_le (by omega) (by omega) (by omega) (by omega)]
    exact ⟨fun q => nm_r (nI_1 j) (ih (j + 1) _ (by omega) (hs.1 q)), fun q => ⟨pk_in _ 363 hlt, nm_e (nm_r (nI_1 j) (ih (j + 1) _ (by omega) (hs.2 q)))⟩⟩
theorem ya_l21 {post : Int32 → SY → Prop} {z0 : Int} (H : aa_Ok g co.toInt cl.toInt n m) (h0 : yn 0 = nI n) (h1 : yn 1 = nI m) (hT : aa_TY g co.toInt cl.toInt n m h 0 a b) (b0 : -1000000 ≤ z0) (b0' : z0 ≤ 360) (hz : z0 ≤ aa_sc (aa_V g co.toInt cl.toInt n m h 0 0 0))
    (hp : ∀ z, aa_Mx (fun i j => aa_sc (aa_V g co.toInt cl.toInt n m h i j 0)) n m z → post (aa_i z) (ge, gu, co, cl, yt, yn, a, b)) :
    ∀ (e i : Nat) (z : Int), i + e = n + 1 → aa_MI (fun i j => aa_sc (aa_V g co.toInt cl.toInt n m h i j 0)) n m z0 i 0 z → wY_local_21 post ge gu co cl yt yn a b (e + 1) (aa_i z) (nI i) := by
  have hn := H.2.2.2.2.2.1
  have hm := H.2.2.2.2.2.2
  intro e
  induction e with
  | zero =>
    intro i z hi hM
    exact pk_lt n i (fun _ => hp z (aa_MI_e hM (by omega) hz)) (fun q => by omega) h0
  | succ e ih =>
    intro i z hi hM
    refine pk_lt n i (fun q => by omega) (fun _ => ⟨m + 1 + 1, ?_⟩) h0
    exact ya_l33 H h1 hT (by omega) b0 b0' (fun z' hM' => ih (i + 1) z' (by omega) hM') (m + 1) 0 z (by omega) hM
theorem aa_V_ge0 (H : aa_Ok g co.toInt cl.toInt n m) : 0 ≤ aa_sc (aa_V g co.toInt cl.toInt n m 1 0 0 0) := by
  have h1 := (aa_top (h := 1) H (Nat.zero_le n) (Nat.zero_le m) 0).2.1
  exact h1 (0, 1) (if_pos (Or.inr (Or.inl rfl)))
theorem ya_local {post : Int32 → SY → Prop} (H : aa_Ok g co.toInt cl.toInt n m) (hg : ∀ i j, i < n → j < m → (if yt i = yt (10 + j) then ge else gu) = aa_i (g i j)) (h0 : yn 0 = nI n) (h1 : yn 1 = nI m)
    (hp : ∀ a b z, aa_Mx (fun i j => aa_sc (aa_V g co.toInt cl.toInt n m 1 i j 0)) n m z → post (aa_i z) (ge, gu, co, cl, yt, yn, a, b)) : wpY_local post (ge, gu, co, cl, yt, yn, a, b) := by
  unfold wpY_local
  dsimp only
  rw [h0, h1]
  refine ya_work (h := 1) H hg (by decide) (fun a' b' hT => ⟨n + 1 + 1, ?_⟩)
  have h2 := ya_l21 (post := post) H h0 h1 hT (z0 := 0) (by omega) (by omega) (aa_V_ge0 H) (hp a' b') (n + 1) 0 0 (by omega) (aa_MI_0 _ _ _ _)
  rw [aa_c0] at h2
  exact h2
theorem ya_f26 {post : Int32 → SY → Prop} (H : aa_Ok g co.toInt cl.toInt n m) (h1 : yn 1 = nI m) (hT : aa_TY g co.toInt cl.toInt n m h 0 a b)
    (hp : ∀ z, aa_Mx (fun i j => aa_sc (aa_V g co.toInt cl.toInt n m h i j 0)) 0 m z → post (aa_i z) (ge, gu, co, cl, yt, yn, a, b)) :
    ∀ (e j : Nat) (z : Int), j + e = m + 1 → aa_MI (fun i j => aa_sc (aa_V g co.toInt cl.toInt n m h i j 0)) 0 m (aa_sc (aa_V g co.toInt cl.toInt n m h 0 0 0)) 0 j z → wY_fitted_26 post ge gu co cl yt yn a b (e + 1) (aa_i z) (nI j) := by
  have hn := H.2.2.2.2.2.1
  have hm := H.2.2.2.2.2.2
  have b0 := aa_V_in (h := h) H (Nat.zero_le n) (Nat.zero_le m) 0
  intro e
  induction e with
  | zero =>
    intro j z hj hM
    exact pk_lt m j (fun _ => hp z (aa_MI_e (aa_MI_r hM (by omega)) (by omega) (Int.le_refl _))) (fun q => by omega) h1
  | succ e ih =>
    intro j z hj hM
    have hlt : aa_s 0 j 0 < 363 := aa_s_lt (by omega) (by omega) (by decide)
    have bv := aa_V_in (h := h) H (Nat.zero_le n) (show j ≤ m by omega) 0
    have bz := aa_MI_in hM (fun i' j' hi' hj' => aa_V_in (h := h) H (by omega) (by omega) 0) (by omega) (by omega)
    have hs := aa_MI_s hM (Nat.le_refl 0) (by omega)
    have hT' := (hT 0 j 0 (by omega) (by omega) (by decide) (Nat.zero_le _)).1
    rw [← aa_V0] at hT'
    refine pk_lt m j (fun q => by omega) (fun _ => ?_) h1
    rw [aa_ixj]
    refine ⟨pk_in _ 363 hlt, ?_⟩
    rw [nI_clamp (by omega), hT', aa_i_le (by omega) (by omega) (by omega) (by omega)]
    exact ⟨fun q => nm_r (nI_1 j) (ih (j + 1) _ (by omega) (hs.1 q)), fun q => ⟨pk_in _ 363 hlt, nm_e (nm_r (nI_1 j) (ih (j + 1) _ (by omega) (hs.2 q)))⟩⟩
theorem ya_o26 {post : Int32 → SY → Prop} (H : aa_Ok g co.toInt cl.toInt n m) (h0 : yn 0 = nI n) (hT : aa_TY g co.toInt cl.toInt n m h 0 a b)
    (hp : ∀ z, aa_Mx (fun i j => aa_sc (aa_V g co.toInt cl.toInt n m h i j 0)) n 0 z → post (aa_i z) (ge, gu, co, cl, yt, yn, a, b)) :
    ∀ (e i : Nat) (z : Int), i + e = n + 1 → aa_MI (fun i j => aa_sc (aa_V g co.toInt cl.toInt n m h i j 0)) n 0 (aa_sc (aa_V g co.toInt cl.toInt n m h 0 0 0)) i 0 z → wY_overlap_26 post ge gu co cl yt yn a b (e + 1) (aa_i z) (nI i) := by
  have hn := H.2.2.2.2.2.1
  have hm := H.2.2.2.2.2.2
  have b0 := aa_V_in (h := h) H (Nat.zero_le n) (Nat.zero_le m) 0
  intro e
  induction e with
  | zero =>
    intro i z hi hM
    exact pk_lt n i (fun _ => hp z (aa_MI_e hM (by omega) (Int.le_refl _))) (fun q => by omega) h0
  | succ e ih =>
    intro i z hi hM
    have hlt : aa_s i 0 0 < 363 := aa_s_lt (by omega) (by omega) (by decide)
    have bv := aa_V_in (h := h) H (show i ≤ n by omega) (Nat.zero_le m) 0
    have bz := aa_MI_in hM (fun i' j' hi' hj' => aa_V_in (h := h) H (by omega) (by omega) 0) (by omega) (by omega)
    have hs := aa_MI_s hM (show i ≤ n by omega) (Nat.le_refl 0)
    have hT' := (hT i 0 0 (by omega) (by omega) (by decide) (Nat.zero_le _)).1
    rw [← aa_V0] at hT'
    refine pk_lt n i (fun q => by omega) (fun _ => ?_) h0
    rw [aa_ixi]
    refine ⟨pk_in _ 363 hlt, ?_⟩
    rw [nI_clamp (by omega), hT', aa_i_le (by omega) (by omega) (by omega) (by omega)]
    exact ⟨fun q => nm_r (nI_1 i) (ih (i + 1) _ (by omega) (aa_MI_r (hs.1 q) (by omega))), fun q => ⟨pk_in _ 363 hlt, nm_e (nm_r (nI_1 i) (ih (i + 1) _ (by omega) (aa_MI_r (hs.2 q) (by omega))))⟩⟩
theorem ya_a0 (hT : aa_TY g co.toInt cl.toInt n m h 0 a b) : a 0 = aa_i (aa_sc (aa_V g co.toInt cl.toInt n m h 0 0 0)) := by
  have e := (hT 0 0 0 (Nat.zero_le _) (Nat.zero_le _) (by decide) (Nat.zero_le _)).1
  rw [← aa_V0] at e
  exact e
theorem ya_fitted {post : Int32 → SY → Prop} (H : aa_Ok g co.toInt cl.toInt n m) (hg : ∀ i j, i < n → j < m → (if yt i = yt (10 + j) then ge else gu) = aa_i (g i j)) (h0 : yn 0 = nI n) (h1 : yn 1 = nI m)
    (hp : ∀ a b z, aa_Mx (fun i j => aa_sc (aa_V g co.toInt cl.toInt n m 2 i j 0)) 0 m z → post (aa_i z) (ge, gu, co, cl, yt, yn, a, b)) : wpY_fitted post (ge, gu, co, cl, yt, yn, a, b) := by
  unfold wpY_fitted
  dsimp only
  rw [h0, h1]
  refine ya_work (h := 2) H hg (by decide) (fun a' b' hT => nm_r (ya_a0 hT) ⟨m + 1 + 1, ?_⟩)
  exact ya_f26 H h1 hT (hp a' b') (m + 1) 0 _ (by omega) (aa_MI_0 _ _ _ _)
theorem ya_overlap {post : Int32 → SY → Prop} (H : aa_Ok g co.toInt cl.toInt n m) (hg : ∀ i j, i < n → j < m → (if yt i = yt (10 + j) then ge else gu) = aa_i (g i j)) (h0 : yn 0 = nI n) (h1 : yn 1 = nI m)
    (hp : ∀ a b z, aa_Mx (fun i j => aa_sc (aa_V g co.toInt cl.toInt n m 2 i j 0)) n 0 z → post (aa_i z) (ge, gu, co, cl, yt, yn, a, b)) : wpY_overlap post (ge, gu, co, cl, yt, yn, a, b) := by
  unfold wpY_overlap
  dsimp only
  rw [h0, h1]
  refine ya_work (h := 2) H hg (by decide) (fun a' b' hT => nm_r (ya_a0 hT) ⟨n + 1 + 1, ?_⟩)
  exact ya_o26 H h0 hT (hp a' b') (n + 1) 0 _ (by omega) (aa_MI_0 _ _ _ _)
theorem ya_paired {post : Int32 → SY → Prop} {p q : Nat} (H : aa_Ok g co.toInt cl.toInt n m) (hg : ∀ i j, i < n → j < m → (if yt i = yt (10 + j) then ge else gu) = aa_i (g i j)) (h0 : yn 0 = nI n) (h1 : yn 1 = nI m) (hp : p < n) (hq : q < m)
    (k1 : aa_sc (aa_V g co.toInt cl.toInt p q 0 0 0 0) + (g p q + aa_sc (aa_V g co.toInt cl.toInt n m 0 (p + 1) (q + 1) 0)) = aa_sc (aa_V g co.toInt cl.toInt n m 0 0 0 0) → ∀ a b, post 1 (ge, gu, co, cl, yt, yn, a, b))
    (k0 : ¬ aa_sc (aa_V g co.toInt cl.toInt p q 0 0 0 0) + (g p q + aa_sc (aa_V g co.toInt cl.toInt n m 0 (p + 1) (q + 1) 0)) = aa_sc (aa_V g co.toInt cl.toInt n m 0 0 0 0) → ∀ a b, post 0 (ge, gu, co, cl, yt, yn, a, b)) : wpY_paired post (ge, gu, co, cl, yt, yn, a, b) (nI p) (nI q) := by
  have hn := H.2.2.2.2.2.1
  have hm := H.2.2.2.2.2.2
  have H' := aa_Ok_box H hp hq
  refine br_f (nI_pos (by omega)) (pk_le n p (fun z => by omega) (fun _ => br_f (nI_pos (by omega)) (pk_lt q m (fun _ => ?_) (fun z => by omega) rfl h1)) h0 rfl)
  refine ya_work (h := 0) H' (fun i j hi hj => hg i j (by omega) (by omega)) (by decide) (fun a1 b1 hT1 => nm_r (ya_a0 hT1) ?_)
  refine ya_best H hg h0 h1 (fun a2 b2 hT2 => ?_)
  refine ya_gain (by omega) (by omega) (hg p q hp hq) ?_
  rw [aa_s9]
  have hlt : aa_s (p + 1) (q + 1) 0 < 363 := aa_s_lt (by omega) (by omega) (by decide)
  refine ⟨pk_in _ 363 hlt, ?_⟩
  have hT' := (hT2 (p + 1) (q + 1) 0 (by omega) (by omega) (by decide) (Nat.zero_le _)).1
  rw [← aa_V0] at hT'
  have w1 := aa_V_in (h := 0) H' (Nat.zero_le p) (Nat.zero_le q) 0
  have w2 := aa_V_in (h := 0) H (Nat.zero_le n) (Nat.zero_le m) 0
  have w3 := aa_V_in (h := 0) H (show p + 1 ≤ n by omega) (show q + 1 ≤ m by omega) 0
  have bg := H.1 p q hp hq
  rw [nI_clamp (by omega), hT', ← aa_i_add, ← aa_i_add, aa_i_eq (by omega) (by omega) (by omega) (by omega), Int.add_assoc]
  exact ⟨fun z => k1 z a2 b2, fun z => k0 z a2 b2⟩
theorem ya_type {post : Int32 → SY → Prop} {q N : Nat} {v2 : Int32} (hq : q < 2) (hN : yn q = nI N) (hN10 : N ≤ 10) (c3 : ¬ v2 < 0) (c4 : v2 ≤ 3) (hf : N = 10 → post (-1001) (ge, gu, co, cl, yt, yn, a, b))
    (ho : N < 10 → post (nI (N + 1)) (ge, gu, co, cl, upd yt (q * 10 + N) v2, upd yn q (nI (N + 1)), a, b)) : wpY_type post (ge, gu, co, cl, yt, yn, a, b) (nI q) v2 := by
  have vp : vp_in (nI q) 2 := pk_in q 2 hq
  refine br_f (nI_pos (by omega)) (pk_lt 1 q (fun z => by omega) (fun _ => br_f c3 (br_t c4 ⟨vp, ?_⟩)))
  rw [nI_clamp (by omega), hN]
  have e : (nI q * 10) + nI N = nI (q * 10 + N) := by
    show nI q * nI 10 + nI N = _
    rw [pk_mul, nI_add]
  rw [e]
  refine pk_eq N 10 hf (fun z => ⟨vp, pk_in (q * 10 + N) 20 (by omega), ?_⟩)
  rw [nI_clamp (by omega), nI_1]
  refine nm_e ⟨vp, vp, nm_e ⟨vp, ?_⟩⟩
  rw [pk_us]
  exact ho (by omega)
theorem aa_l9 (x : Int32) : (x < -9 ↔ x.toInt < -9) ∧ (9 < x ↔ 9 < x.toInt) ∧ (x < 0 ↔ x.toInt < 0) ∧ (x ≤ 9 ↔ x.toInt ≤ 9) := by
  rw [Int32.lt_iff_toInt_lt, Int32.lt_iff_toInt_lt, Int32.lt_iff_toInt_lt, Int32.le_iff_toInt_le]
  exact ⟨Iff.rfl, Iff.rfl, Iff.rfl, Iff.rfl⟩
def aa_R4 (p0 p1 p2 p3 : Int32) : Prop := (-9 ≤ p0.toInt ∧ p0.toInt ≤ 9) ∧ (-9 ≤ p1.toInt ∧ p1.toInt ≤ 9) ∧ (0 ≤ p2.toInt ∧ p2.toInt ≤ 9) ∧ (0 ≤ p3.toInt ∧ p3.toInt ≤ 9)
theorem ya_rules {post : Int32 → SY → Prop} {p0 p1 p2 p3 : Int32} (k1 : aa_R4 p0 p1 p2 p3 → post 1 (p0, p1, p2, p3, yt, yn, a, b)) (k0 : ¬ aa_R4 p0 p1 p2 p3 → post 0 (ge, gu, co, cl, yt, yn, a, b)) : wpY_rules post (ge, gu, co, cl, yt, yn, a, b) p0 p1 p2 p3 := by
  obtain ⟨a1, a2, a3, a4⟩ := aa_l9 p0
  obtain ⟨b1, b2, b3, b4⟩ := aa_l9 p1
  obtain ⟨c1, c2, c3, c4⟩ := aa_l9 p2
  obtain ⟨d1, d2, d3, d4⟩ := aa_l9 p3
  unfold aa_R4 at k0 k1
  refine br_c (fun z => k0 ?_) (fun z1 => br_c (fun z => k0 ?_) (fun z2 => br_c (fun z => k0 ?_) (fun z3 => br_c (fun z4 => br_c (fun z => k0 ?_) (fun z5 => br_c (fun z => k0 ?_) (fun z6 => br_c (fun z => k0 ?_) (fun z7 => br_c (fun z8 => k1 ?_) (fun z => k0 ?_))))) (fun z => k0 ?_))))
  · rw [a1] at z; omega
  · rw [a2] at z; omega
  · rw [b1] at z; omega
  · rw [c3] at z; omega
  · rw [c2] at z; omega
  · rw [d3] at z; omega
  · rw [a1] at z1
    rw [a2] at z2
    rw [b1] at z3
    rw [b4] at z4
    rw [c3] at z5
    rw [c2] at z6
    rw [d3] at z7
    rw [d4] at z8
    omega
  · rw [d4] at z; omega
  · rw [b4] at z; omega
end
section
variable {n m : Nat} {ge gu co cl : Int32} {xu xl a b r d : Nat → Int32}
theorem xa_isGain {post : Int32 → Prop} {x : Int32} (k1 : -9 ≤ x.toInt ∧ x.toInt ≤ 9 → post 1) (k0 : ¬ (-9 ≤ x.toInt ∧ x.toInt ≤ 9) → post 0) : wpX_isGain post x := by
  obtain ⟨a1, a2, a3, a4⟩ := aa_l9 x
  unfold wpX_isGain
  rw [a1, a2]
  exact ⟨fun z => k0 (by omega), fun z => ⟨fun y => k0 (by omega), fun y => k1 (by omega)⟩⟩
theorem xa_isCost {post : Int32 → Prop} {x : Int32} (k1 : 0 ≤ x.toInt ∧ x.toInt ≤ 9 → post 1) (k0 : ¬ (0 ≤ x.toInt ∧ x.toInt ≤ 9) → post 0) : wpX_isCost post x := by
  obtain ⟨a1, a2, a3, a4⟩ := aa_l9 x
  unfold wpX_isCost
  rw [a3, a2]
  exact ⟨fun z => k0 (by omega), fun z => ⟨fun y => k0 (by omega), fun y => k1 (by omega)⟩⟩
theorem xa_r19 {post : Int32 → SX → Prop} {p0 p1 p2 p3 z0 : Int32} (hz : z0 = 0 ∨ z0 = 1) (k1 : z0 = 1 → (0 ≤ p2.toInt ∧ p2.toInt ≤ 9) → (0 ≤ p3.toInt ∧ p3.toInt ≤ 9) → post 1 (nI n, nI m, p0, p1, p2, p3, xu, xl, a, b, r, d))
    (k0 : ¬ (z0 = 1 ∧ (0 ≤ p2.toInt ∧ p2.toInt ≤ 9) ∧ (0 ≤ p3.toInt ∧ p3.toInt ≤ 9)) → post 0 (nI n, nI m, ge, gu, co, cl, xu, xl, a, b, r, d)) : wX_rules_19 post p0 p1 p2 p3 z0 (nI n) (nI m) ge gu co cl xu xl a b r d := by
  have k41 : ∀ w : Int32, (w = 1 → (0 ≤ p2.toInt ∧ p2.toInt ≤ 9) ∧ (0 ≤ p3.toInt ∧ p3.toInt ≤ 9)) → (w = 0 → ¬ ((0 ≤ p2.toInt ∧ p2.toInt ≤ 9) ∧ (0 ≤ p3.toInt ∧ p3.toInt ≤ 9))) → (w = 0 ∨ w = 1) → wX_rules_41 post p0 p1 p2 p3 z0 w (nI n) (nI m) ge gu co cl xu xl a b r d := by
    intro w w1 w0 hw
    rcases hz with rfl | rfl
    · exact br_t rfl (k0 (fun z => absurd z.1 (by decide)))
    · rcases hw with rfl | rfl
      · exact br_f xa_1 (br_t rfl (k0 (fun z => w0 rfl z.2)))
      · exact br_f xa_1 (br_f xa_1 (k1 rfl (w1 rfl).1 (w1 rfl).2))
  unfold wX_rules_19
  refine xa_isCost (fun c1 => br_f xa_1 (xa_isCost (fun c2 => br_f xa_1 (k41 1 (fun _ => ⟨c1, c2⟩) (fun z => absurd z (by decide)) (Or.inr rfl))) (fun c2 => br_t rfl (k41 0 (fun z => absurd z (by decide)) (fun _ z => c2 z.2) (Or.inl rfl))))) (fun c1 => br_t rfl (k41 0 (fun z => absurd z (by decide)) (fun _ z => c1 z.1) (Or.inl rfl)))
theorem xa_rules {post : Int32 → SX → Prop} {p0 p1 p2 p3 : Int32} (k1 : aa_R4 p0 p1 p2 p3 → post 1 (nI n, nI m, p0, p1, p2, p3, xu, xl, a, b, r, d)) (k0 : ¬ aa_R4 p0 p1 p2 p3 → post 0 (nI n, nI m, ge, gu, co, cl, xu, xl, a, b, r, d)) : wpX_rules post (nI n, nI m, ge, gu, co, cl, xu, xl, a, b, r, d) p0 p1 p2 p3 := by
  have kb : ¬ ((-9 ≤ p0.toInt ∧ p0.toInt ≤ 9) ∧ (-9 ≤ p1.toInt ∧ p1.toInt ≤ 9)) → wX_rules_19 post p0 p1 p2 p3 0 (nI n) (nI m) ge gu co cl xu xl a b r d := fun q => xa_r19 (Or.inl rfl) (fun z => absurd z (by decide)) (fun _ => k0 (fun z => q ⟨z.1, z.2.1⟩))
  unfold wpX_rules
  dsimp only
  refine xa_isGain (fun c1 => br_f xa_1 (xa_isGain (fun c2 => br_f xa_1 (xa_r19 (Or.inr rfl) (fun _ c3 c4 => k1 ⟨c1, c2, c3, c4⟩) (fun z => k0 (fun y => z ⟨rfl, y.2.2.1, y.2.2.2⟩)))) (fun c2 => br_t rfl (kb (fun z => c2 z.2))))) (fun c1 => br_t rfl (kb (fun z => c1 z.1)))
theorem xa_tU {post : Int32 → SX → Prop} {v2 : Int32} (hn : n ≤ 10) (hf : n = 10 → post (-1001) (nI n, nI m, ge, gu, co, cl, xu, xl, a, b, r, d)) (ho : n < 10 → post (nI (n + 1)) (nI (n + 1), nI m, ge, gu, co, cl, upd xu n v2, xl, a, b, r, d)) : wpX_typeUpper post (nI n, nI m, ge, gu, co, cl, xu, xl, a, b, r, d) v2 := by
  refine pk_lt n 10 (fun z => ⟨pk_in n 10 z, ?_⟩) (fun z => hf (by omega))
  rw [nI_clamp (by omega)]
  exact nm_e (nm_r (nI_1 n) (ho z))
theorem xa_tL {post : Int32 → SX → Prop} {v2 : Int32} (hm : m ≤ 10) (hf : m = 10 → post (-1001) (nI n, nI m, ge, gu, co, cl, xu, xl, a, b, r, d)) (ho : m < 10 → post (nI (m + 1)) (nI n, nI (m + 1), ge, gu, co, cl, xu, upd xl m v2, a, b, r, d)) : wpX_typeLower post (nI n, nI m, ge, gu, co, cl, xu, xl, a, b, r, d) v2 := by
  refine pk_lt m 10 (fun z => ⟨pk_in m 10 z, ?_⟩) (fun z => hf (by omega))
  rw [nI_clamp (by omega)]
  exact nm_e (nm_r (nI_1 m) (ho z))
end
end
section
/-! 13: the relation, and what is owed -/
def aa_St (n m : Nat) (ge gu co cl : Int32) (xu xl yt yn : Nat → Int32) : Prop := n ≤ 10 ∧ m ≤ 10 ∧ yn 0 = nI n ∧ yn 1 = nI m ∧ (∀ i, i < n → yt i = xu i) ∧ (∀ j, j < m → yt (10 + j) = xl j) ∧ aa_R4 ge gu co cl
/-- letters, counts and rules alike; the working tables are free -/
def i_Rel (_ : Nat) (u : SX) (v : SY) : Prop := ∃ (n m : Nat) (ge gu co cl : Int32) (xu xl a b r d yt yn a2 b2 : Nat → Int32), u = (nI n, nI m, ge, gu, co, cl, xu, xl, a, b, r, d) ∧ v = (ge, gu, co, cl, yt, yn, a2, b2) ∧ aa_St n m ge gu co cl xu xl yt yn
theorem i_up {k : Nat} {u : SX} {v : SY} (h : i_Rel k u v) : i_Rel (k + 5) u v := h
theorem aa_St_ok {n m : Nat} {ge gu co cl : Int32} {xu xl yt yn : Nat → Int32} (S : aa_St n m ge gu co cl xu xl yt yn) : aa_Ok (aa_g xu xl ge gu) co.toInt cl.toInt n m := by
  obtain ⟨h1, h2, h3, h4, h5, h6, h7, h8, h9, h10⟩ := S
  refine ⟨fun i j _ _ => ?_, h9.1, h9.2, h10.1, h10.2, h1, h2⟩
  unfold aa_g
  split
  · exact h7
  · exact h8
theorem aa_St_hg {n m : Nat} {ge gu co cl : Int32} {xu xl yt yn : Nat → Int32} (S : aa_St n m ge gu co cl xu xl yt yn) : ∀ i j, i < n → j < m → (if yt i = yt (10 + j) then ge else gu) = aa_i (aa_g xu xl ge gu i j) := by
  intro i j hi hj
  rw [aa_g, aa_i_of, S.2.2.2.2.1 i hi, S.2.2.2.2.2.1 j hj]
theorem i_vc0 : wpX_init (fun u => wpY_init (fun v => i_Rel 0 u v)) :=
  ⟨0, 0, 2, -1, 2, 1, fun _ => 0, fun _ => 0, fun _ => 0, fun _ => 0, fun _ => 0, fun _ => 0, fun _ => 0, fun _ => 0, fun _ => 0, fun _ => 0, rfl, rfl, by omega, by omega, rfl, rfl, fun _ h => absurd h (Nat.not_lt_zero _), fun _ h => absurd h (Nat.not_lt_zero _), by decide, by decide, by decide, by decide⟩
theorem aa_l3 (x : Int32) : x < 4 ↔ x ≤ 3 := by
  rw [Int32.lt_iff_toInt_lt, Int32.le_iff_toInt_le]
  show x.toInt < 4 ↔ x.toInt ≤ 3
  omega
theorem i_vc_type {k : Nat} {u : SX} {v : SY} (I : i_Rel k u v) (hk : k + 5 ≤ 2560) (v1 : Int32) (v2 : Int32) : wpX_type (fun r u' => wpY_type (fun r' v' => r' = r ∧ i_Rel (k + 5) u' v') v v1 v2) u v1 v2 := by
  have R : i_Rel (k + 5) u v := I
  obtain ⟨n, m, ge, gu, co, cl, xu, xl, a, b, r, d, yt, yn, a2, b2, rfl, rfl, S⟩ := I
  have S' := S
  obtain ⟨h1, h2, h3, h4, h5, h6, h7⟩ := S
  refine br_c (fun c1 => br_t c1 ⟨rfl, R⟩) (fun c1 => br_c (fun c2 => br_f c1 (br_t c2 ⟨rfl, R⟩)) (fun c2 => br_c (fun c3 => br_f c1 (br_f c2 (br_t c3 ⟨rfl, R⟩))) (fun c3 => br_c (fun c4 => ?_) (fun c4 => br_f c1 (br_f c2 (br_f c3 (br_f (fun z => c4 ((aa_l3 v2).mpr z)) ⟨rfl, R⟩)))))))
  have c4' := (aa_l3 v2).mp c4
  obtain ⟨q, hq, rfl⟩ := nI_of2 (n := 1) (M := 1) (by decide) c1 (Int32.not_lt.mp c2)
  refine pk_eq q 0 (fun e => ?_) (fun e => ?_)
  · subst e
    refine xa_tU h1 (fun z => ?_) (fun z => ?_)
    · refine ya_type (q := 0) (N := n) (by omega) h3 h1 c3 c4' (fun _ => ⟨rfl, R⟩) (fun y => by omega)
    · refine ya_type (q := 0) (N := n) (by omega) h3 h1 c3 c4' (fun y => by omega) (fun _ => ⟨rfl, n + 1, m, ge, gu, co, cl, upd xu n v2, xl, a, b, r, d, upd yt (0 * 10 + n) v2, upd yn 0 (nI (n + 1)), a2, b2, rfl, rfl, by omega, h2, pk_us, ?_, ?_, ?_, h7⟩)
      · rw [pk_un (by decide)]
        exact h4
      · intro i hi
        by_cases e : i = n
        · subst e
          rw [pk_us, show 0 * 10 + i = i by omega, pk_us]
        · rw [pk_un e, pk_un (by omega)]
          exact h5 i (by omega)
      · intro j hj
        rw [pk_un (by omega)]
        exact h6 j hj
  · have e : q = 1 := by omega
    subst e
    refine xa_tL h2 (fun z => ?_) (fun z => ?_)
    · refine ya_type (q := 1) (N := m) (by omega) h4 h2 c3 c4' (fun _ => ⟨rfl, R⟩) (fun y => by omega)
    · refine ya_type (q := 1) (N := m) (by omega) h4 h2 c3 c4' (fun y => by omega) (fun _ => ⟨rfl, n, m + 1, ge, gu, co, cl, xu, upd xl m v2, a, b, r, d, upd yt (1 * 10 + m) v2, upd yn 1 (nI (m + 1)), a2, b2, rfl, rfl, h1, by omega, ?_, pk_us, ?_, ?_, h7⟩)
      · rw [pk_un (by decide)]
        exact h3
      · intro i hi
        rw [pk_un (by omega)]
        exact h5 i hi
      · intro j hj
        by_cases e : j = m
        · subst e
          rw [pk_us, pk_us]
        · rw [pk_un e, pk_un (by omega)]
          exact h6 j (by omega)
theorem i_vc_wipe {k : Nat} {u : SX} {v : SY} (I : i_Rel k u v) (hk : k + 5 ≤ 2560) (v1 : Int32) : wpX_wipe (fun r u' => wpY_wipe (fun r' v' => r' = r ∧ i_Rel (k + 5) u' v') v v1) u v1 := by
  have R : i_Rel (k + 5) u v := I
  obtain ⟨n, m, ge, gu, co, cl, xu, xl, a, b, r, d, yt, yn, a2, b2, rfl, rfl, S⟩ := I
  obtain ⟨h1, h2, h3, h4, h5, h6, h7⟩ := S
  refine br_c (fun c => ?_) (fun c => br_c (fun c' => ?_) (fun c' => ?_))
  · subst c
    refine br_f (by decide) (br_t (by decide) ⟨pk_in 0 2 (by decide), nm_e ⟨pk_in 0 2 (by decide), nm_e ⟨h3, 0, m, ge, gu, co, cl, xu, xl, a, b, r, d, yt, upd yn 0 0, a2, b2, rfl, rfl, by omega, h2, rfl, ?_, fun _ h => absurd h (Nat.not_lt_zero _), h6, h7⟩⟩⟩)
    rw [pk_un (by decide)]
    exact h4
  · subst c'
    refine br_f (by decide) (br_t (by decide) ⟨pk_in 1 2 (by decide), nm_e ⟨pk_in 1 2 (by decide), nm_e ⟨h4, n, 0, ge, gu, co, cl, xu, xl, a, b, r, d, yt, upd yn 1 0, a2, b2, rfl, rfl, h1, by omega, ?_, rfl, h5, fun _ h => absurd h (Nat.not_lt_zero _), h7⟩⟩⟩)
    rw [pk_un (by decide)]
    exact h3
  · rcases pk_ix v1 (n := 2) (by decide) with z | z | ⟨q, hq, rfl⟩
    · exact br_t z ⟨rfl, R⟩
    · have z1 : ¬ v1 < 0 := fun y => by
        rw [Int32.lt_iff_toInt_lt] at y
        rw [Int32.le_iff_toInt_le] at z
        have z' : (2 : Int) ≤ v1.toInt := z
        have y' : v1.toInt < (0 : Int) := y
        omega
      have z2 : ¬ v1 ≤ 1 := fun y => by
        rw [Int32.le_iff_toInt_le] at y z
        have z' : (2 : Int) ≤ v1.toInt := z
        have y' : v1.toInt ≤ (1 : Int) := y
        omega
      exact br_f z1 (br_f z2 ⟨rfl, R⟩)
    · match q, hq with
      | 0, _ => exact absurd rfl c
      | 1, _ => exact absurd rfl c'
theorem i_vc_rules {k : Nat} {u : SX} {v : SY} (I : i_Rel k u v) (hk : k + 5 ≤ 2560) (v1 : Int32) (v2 : Int32) (v3 : Int32) (v4 : Int32) : wpX_rules (fun r u' => wpY_rules (fun r' v' => r' = r ∧ i_Rel (k + 5) u' v') v v1 v2 v3 v4) u v1 v2 v3 v4 := by
  have R : i_Rel (k + 5) u v := I
  obtain ⟨n, m, ge, gu, co, cl, xu, xl, a, b, r, d, yt, yn, a2, b2, rfl, rfl, S⟩ := I
  obtain ⟨h1, h2, h3, h4, h5, h6, h7⟩ := S
  exact xa_rules (fun z => ya_rules (fun _ => ⟨rfl, n, m, v1, v2, v3, v4, xu, xl, a, b, r, d, yt, yn, a2, b2, rfl, rfl, h1, h2, h3, h4, h5, h6, z⟩) (fun y => absurd z y)) (fun z => ya_rules (fun y => absurd y z) (fun _ => ⟨rfl, R⟩))
theorem i_vc_best {k : Nat} {u : SX} {v : SY} (I : i_Rel k u v) (hk : k + 5 ≤ 2560) : wpX_best (fun r u' => wpY_best (fun r' v' => r' = r ∧ i_Rel (k + 5) u' v') v) u := by
  obtain ⟨n, m, ge, gu, co, cl, xu, xl, a, b, r, d, yt, yn, a2, b2, rfl, rfl, S⟩ := I
  have H := aa_St_ok S
  have hg := aa_St_hg S
  unfold wpX_best
  dsimp only
  refine xa_fs (h := 0) (Or.inl ⟨rfl, rfl, rfl⟩) H (fun a' hT => ?_)
  dsimp only
  refine xa_state (i := 0) (j := 0) (t := 0) ⟨pk_in (aa_s 0 0 0) 363 (by decide), ?_⟩
  rw [nI_clamp (by decide), hT 0 0 0 (Nat.zero_le _) (Nat.zero_le _) (by decide) (Nat.zero_le _)]
  exact ya_best H hg S.2.2.1 S.2.2.2.1 (fun a3 b3 _ => ⟨rfl, n, m, ge, gu, co, cl, xu, xl, a', b, r, d, yt, yn, a3, b3, rfl, rfl, S⟩)
theorem i_vc_ways {k : Nat} {u : SX} {v : SY} (I : i_Rel k u v) (hk : k + 5 ≤ 2560) : wpX_ways (fun r u' => wpY_ways (fun r' v' => r' = r ∧ i_Rel (k + 5) u' v') v) u := by
  obtain ⟨n, m, ge, gu, co, cl, xu, xl, a, b, r, d, yt, yn, a2, b2, rfl, rfl, S⟩ := I
  have H := aa_St_ok S
  have hg := aa_St_hg S
  unfold wpX_ways
  dsimp only
  refine xa_fs (h := 0) (Or.inl ⟨rfl, rfl, rfl⟩) H (fun a' hT => ?_)
  dsimp only
  refine xa_fc H hT (fun b' hC => ?_)
  dsimp only
  refine xa_state (i := 0) (j := 0) (t := 0) ⟨pk_in (aa_s 0 0 0) 363 (by decide), ?_⟩
  rw [nI_clamp (by decide), hC 0 0 0 (Nat.zero_le _) (Nat.zero_le _) (by decide) (Nat.zero_le _)]
  unfold wpY_ways
  dsimp only
  rw [S.2.2.1, S.2.2.2.1]
  refine ya_work (h := 0) H hg (by decide) (fun a3 b3 hY => ⟨?_, n, m, ge, gu, co, cl, xu, xl, a', b', r, d, yt, yn, a3, b3, rfl, rfl, S⟩)
  have e := (hY 0 0 0 (Nat.zero_le _) (Nat.zero_le _) (by decide) (Nat.zero_le _)).2
  rw [← aa_V0] at e
  exact e
theorem i_vc_column {k : Nat} {u : SX} {v : SY} (I : i_Rel k u v) (hk : k + 5 ≤ 2560) (v1 : Int32) : wpX_column (fun r u' => wpY_column (fun r' v' => r' = r ∧ i_Rel (k + 5) u' v') v v1) u v1 := by
  obtain ⟨n, m, ge, gu, co, cl, xu, xl, a, b, r, d, yt, yn, a2, b2, rfl, rfl, S⟩ := I
  have H := aa_St_ok S
  have hg := aa_St_hg S
  have hn := S.1
  have hm := S.2.1
  obtain ⟨L, hL, hE, hLI, hA⟩ := aa_wk_L H
  unfold wpX_column
  dsimp only
  refine xa_fs (h := 0) (Or.inl ⟨rfl, rfl, rfl⟩) H (fun a' hT => ?_)
  dsimp only
  refine xa_tf H hT hL hE hA (fun d' hd => ?_)
  dsimp only
  have R : ∀ a3 b3, i_Rel (k + 5) (nI n, nI m, ge, gu, co, cl, xu, xl, a', b, r, d') (ge, gu, co, cl, yt, yn, a3, b3) := fun a3 b3 => ⟨n, m, ge, gu, co, cl, xu, xl, a', b, r, d', yt, yn, a3, b3, rfl, rfl, S⟩
  by_cases c : v1 < 0
  · exact br_t c (br_f (Int32.not_le.mpr c) ⟨rfl, R _ _⟩)
  · obtain ⟨q, hq, rfl⟩ := nI_of c
    refine br_f c (pk_lt q L (fun z => ⟨pk_in q 20 (by omega), ?_⟩) (fun z => ?_))
    · rw [nI_clamp hq, hd q z]
      refine br_t (nI_pos' hq) (ya_walk H hg S.2.2.1 S.2.2.2.1 hL hE hLI hA (fun a3 b3 y => absurd rfl (y q z)) (fun a3 b3 k' hk' e => ?_))
      have e' : k' = q := (nI_eq (by omega) hq).mp e
      subst e'
      exact ⟨rfl, R a3 b3⟩
    · refine br_t (nI_pos' hq) (ya_walk H hg S.2.2.1 S.2.2.2.1 hL hE hLI hA (fun a3 b3 y => br_t (nI_pos' hq) ⟨rfl, R a3 b3⟩) (fun a3 b3 k' hk' e => ?_))
      have e' : k' = q := (nI_eq (by omega) hq).mp e
      omega
theorem i_vc_columns {k : Nat} {u : SX} {v : SY} (I : i_Rel k u v) (hk : k + 5 ≤ 2560) : wpX_columns (fun r u' => wpY_columns (fun r' v' => r' = r ∧ i_Rel (k + 5) u' v') v) u := by
  obtain ⟨n, m, ge, gu, co, cl, xu, xl, a, b, r, d, yt, yn, a2, b2, rfl, rfl, S⟩ := I
  have H := aa_St_ok S
  have hg := aa_St_hg S
  have hn := S.1
  have hm := S.2.1
  obtain ⟨L, hL, hE, hLI, hA⟩ := aa_wk_L H
  unfold wpX_columns
  dsimp only
  refine xa_fs (h := 0) (Or.inl ⟨rfl, rfl, rfl⟩) H (fun a' hT => ?_)
  dsimp only
  refine xa_tf H hT hL hE hA (fun d' hd => ?_)
  dsimp only
  unfold wpY_columns
  dsimp only
  refine ya_walk H hg S.2.2.1 S.2.2.2.1 hL hE hLI hA (fun a3 b3 y => br_f (by decide) ⟨rfl, n, m, ge, gu, co, cl, xu, xl, a', b, r, d', yt, yn, a3, b3, rfl, rfl, S⟩) (fun a3 b3 k' hk' e => ?_)
  have h1 : ¬ nI k' < 0 := nI_pos (by omega)
  rw [e] at h1
  exact absurd (by decide) h1
theorem i_vc_local {k : Nat} {u : SX} {v : SY} (I : i_Rel k u v) (hk : k + 5 ≤ 2560) : wpX_local (fun r u' => wpY_local (fun r' v' => r' = r ∧ i_Rel (k + 5) u' v') v) u := by
  obtain ⟨n, m, ge, gu, co, cl, xu, xl, a, b, r, d, yt, yn, a2, b2, rfl, rfl, S⟩ := I
  have H := aa_St_ok S
  have hg := aa_St_hg S
  unfold wpX_local
  dsimp only
  refine xa_fs (h := 1) (Or.inr (Or.inl ⟨rfl, rfl, rfl⟩)) H (fun a' hT => ?_)
  dsimp only
  refine xa_gs H hT (Nat.le_refl n) (Nat.le_refl m) (fun z hz => ?_)
  exact ya_local H hg S.2.2.1 S.2.2.2.1 (fun a3 b3 z' hz' => ⟨congrArg aa_i (aa_Mx_un hz' hz), n, m, ge, gu, co, cl, xu, xl, a', b, r, d, yt, yn, a3, b3, rfl, rfl, S⟩)
theorem i_vc_fitted {k : Nat} {u : SX} {v : SY} (I : i_Rel k u v) (hk : k + 5 ≤ 2560) : wpX_fitted (fun r u' => wpY_fitted (fun r' v' => r' = r ∧ i_Rel (k + 5) u' v') v) u := by
  obtain ⟨n, m, ge, gu, co, cl, xu, xl, a, b, r, d, yt, yn, a2, b2, rfl, rfl, S⟩ := I
  have H := aa_St_ok S
  have hg := aa_St_hg S
  unfold wpX_fitted
  dsimp only
  refine xa_fs (h := 2) (Or.inr (Or.inr ⟨rfl, rfl, rfl⟩)) H (fun a' hT => ?_)
  dsimp only
  refine xa_gs (I := 0) H hT (Nat.zero_le n) (Nat.le_refl m) (fun z hz => ?_)
  exact ya_fitted H hg S.2.2.1 S.2.2.2.1 (fun a3 b3 z' hz' => ⟨congrArg aa_i (aa_Mx_un hz' hz), n, m, ge, gu, co, cl, xu, xl, a', b, r, d, yt, yn, a3, b3, rfl, rfl, S⟩)
theorem i_vc_overlap {k : Nat} {u : SX} {v : SY} (I : i_Rel k u v) (hk : k + 5 ≤ 2560) : wpX_overlap (fun r u' => wpY_overlap (fun r' v' => r' = r ∧ i_Rel (k + 5) u' v') v) u := by
  obtain ⟨n, m, ge, gu, co, cl, xu, xl, a, b, r, d, yt, yn, a2, b2, rfl, rfl, S⟩ := I
  have H := aa_St_ok S
  have hg := aa_St_hg S
  unfold wpX_overlap
  dsimp only
  refine xa_fs (h := 2) (Or.inr (Or.inr ⟨rfl, rfl, rfl⟩)) H (fun a' hT => ?_)
  dsimp only
  refine xa_gs (J := 0) H hT (Nat.le_refl n) (Nat.zero_le m) (fun z hz => ?_)
  exact ya_overlap H hg S.2.2.1 S.2.2.2.1 (fun a3 b3 z' hz' => ⟨congrArg aa_i (aa_Mx_un hz' hz), n, m, ge, gu, co, cl, xu, xl, a', b, r, d, yt, yn, a3, b3, rfl, rfl, S⟩)
theorem i_vc_paired {k : Nat} {u : SX} {v : SY} (I : i_Rel k u v) (hk : k + 5 ≤ 2560) (v1 : Int32) (v2 : Int32) : wpX_paired (fun r u' => wpY_paired (fun r' v' => r' = r ∧ i_Rel (k + 5) u' v') v v1 v2) u v1 v2 := by
  have R : i_Rel (k + 5) u v := I
  obtain ⟨n, m, ge, gu, co, cl, xu, xl, a, b, r, d, yt, yn, a2, b2, rfl, rfl, S⟩ := I
  have H := aa_St_ok S
  have hg := aa_St_hg S
  have hn := S.1
  have hm := S.2.1
  have h3 := S.2.2.1
  have h4 := S.2.2.2.1
  refine br_c (fun c1 => br_t c1 ⟨rfl, R⟩) (fun c1 => br_c (fun c2 => br_f c1 (br_t (by rw [h3]; exact c2) ⟨rfl, R⟩)) (fun c2 => br_c (fun c3 => br_f c1 (br_f (by rw [h3]; exact c2) (br_t c3 ⟨rfl, R⟩))) (fun c3 => br_c (fun c4 => ?_) (fun c4 => br_f c1 (br_f (by rw [h3]; exact c2) (br_f c3 (br_f (by rw [h4]; exact c4) ⟨rfl, R⟩)))))))
  obtain ⟨p, hp, rfl⟩ := nI_of c1
  obtain ⟨q, hq, rfl⟩ := nI_of c3
  rw [nI_leI (by omega) hp] at c2
  rw [nI_ltI hq (by omega)] at c4
  refine xa_fs (h := 0) (Or.inl ⟨rfl, rfl, rfl⟩) H (fun a' hT => ?_)
  dsimp only
  refine xa_fr H hT (fun r' hR => ⟨4, ?_⟩)
  have P := aa_pair H (show p < n by omega) c4 (fun i j t => ¬ r' (aa_s i j t) = 0) hR.1 (fun i j t s hi hj ht hs hr htg => hR.2.2 i j t s hi hj ht hs (by unfold aa_s; omega) hr htg) hR.2.1
  have R' : ∀ a3 b3, i_Rel (k + 5) (nI n, nI m, ge, gu, co, cl, xu, xl, a', b, r', d) (ge, gu, co, cl, yt, yn, a3, b3) := fun a3 b3 => ⟨n, m, ge, gu, co, cl, xu, xl, a', b, r', d, yt, yn, a3, b3, rfl, rfl, S⟩
  refine xa_p38 H hT (by omega) (by omega) (fun z => ?_) (fun z => ?_) 3 0 (by omega) (fun _ y => absurd y (Nat.not_lt_zero _))
  · exact ya_paired H hg h3 h4 (by omega) c4 (fun _ a3 b3 => ⟨rfl, R' a3 b3⟩) (fun y => absurd (P.mp z) y)
  · exact ya_paired H hg h3 h4 (by omega) c4 (fun y => absurd (P.mpr y) z) (fun _ a3 b3 => ⟨rfl, R' a3 b3⟩)
end
