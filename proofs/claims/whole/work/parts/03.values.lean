/-! 03: the values: aa_V the component's (a gap column by column), aa_Q the reference's (a gap taken whole) -/
section
def aa_E (n m h i j : Nat) : aa_P := if (i = n ∧ j = m) ∨ h = 1 ∨ (h = 2 ∧ i = n) then some (0, 1) else none
def aa_V (g : Nat → Nat → Int) (o l : Int) (n m h i j t : Nat) : aa_P :=
  aa_jn (aa_jn (aa_jn (aa_E n m h i j)
    (if hh : i < n ∧ j < m then aa_sh (g i j) (aa_V g o l n m h (i + 1) (j + 1) 0) else none))
    (if hh : i < n then aa_sh (if t = 1 then -l else -o - l) (aa_V g o l n m h (i + 1) j 1) else none))
    (if hh : j < m then aa_sh (if t = 2 then -l else -o - l) (aa_V g o l n m h i (j + 1) 2) else none)
termination_by (n - i) + (m - j)
decreasing_by
  all_goals omega
variable (g : Nat → Nat → Int) (o l : Int) (n m h : Nat)
def aa_D (i j : Nat) : aa_P := if i < n ∧ j < m then aa_sh (g i j) (aa_V g o l n m h (i + 1) (j + 1) 0) else none
def aa_U (c : Int) (i j : Nat) : aa_P := if i < n then aa_sh c (aa_V g o l n m h (i + 1) j 1) else none
def aa_L (c : Int) (i j : Nat) : aa_P := if j < m then aa_sh c (aa_V g o l n m h i (j + 1) 2) else none
theorem aa_V_eq (i j t : Nat) : aa_V g o l n m h i j t = aa_jn (aa_jn (aa_jn (aa_E n m h i j) (aa_D g o l n m h i j)) (aa_U g o l n m h (if t = 1 then -l else -o - l) i j)) (aa_L g o l n m h (if t = 2 then -l else -o - l) i j) := by
  conv => lhs; unfold aa_V
  simp only [dite_eq_ite, aa_D, aa_U, aa_L]
def aa_Q (i j t : Nat) : aa_P := aa_jn (aa_jn (aa_jn (aa_E n m h i j) (aa_D g o l n m h i j)) (if t = 1 then none else aa_U g o l n m h (-o - l) i j)) (if t = 2 then none else aa_L g o l n m h (-o - l) i j)
theorem aa_V0 (i j : Nat) : aa_V g o l n m h i j 0 = aa_Q g o l n m h i j 0 := by
  rw [aa_V_eq]
  rfl
theorem aa_V1 (i j : Nat) : aa_V g o l n m h i j 1 = aa_jn (aa_Q g o l n m h i j 1) (aa_U g o l n m h (-l) i j) := by
  rw [aa_V_eq]
  show aa_jn (aa_jn (aa_jn (aa_E n m h i j) (aa_D g o l n m h i j)) (aa_U g o l n m h (-l) i j)) (aa_L g o l n m h (-o - l) i j) = aa_jn (aa_jn (aa_jn (aa_jn (aa_E n m h i j) (aa_D g o l n m h i j)) none) (aa_L g o l n m h (-o - l) i j)) (aa_U g o l n m h (-l) i j)
  rw [aa_jn_n, aa_jn_swap]
theorem aa_V2 (i j : Nat) : aa_V g o l n m h i j 2 = aa_jn (aa_Q g o l n m h i j 2) (aa_L g o l n m h (-l) i j) := by
  rw [aa_V_eq]
  show aa_jn (aa_jn (aa_jn (aa_E n m h i j) (aa_D g o l n m h i j)) (aa_U g o l n m h (-o - l) i j)) (aa_L g o l n m h (-l) i j) = aa_jn (aa_jn (aa_jn (aa_jn (aa_E n m h i j) (aa_D g o l n m h i j)) (aa_U g o l n m h (-o - l) i j)) none) (aa_L g o l n m h (-l) i j)
  rw [aa_jn_n]
def aa_Ok : Prop := (∀ i j, i < n → j < m → -9 ≤ g i j ∧ g i j ≤ 9) ∧ 0 ≤ o ∧ o ≤ 9 ∧ 0 ≤ l ∧ l ≤ 9 ∧ n ≤ 10 ∧ m ≤ 10
end
section
variable {g : Nat → Nat → Int} {o l : Int} {n m h : Nat}
theorem aa_E_bd (k i j : Nat) : aa_Bd k (aa_E n m h i j) := by
  unfold aa_E
  split
  · refine aa_Bd_s ?_ ?_
    · show -18 * (k : Int) ≤ 0
      omega
    · show 0 ≤ 18 * (k : Int)
      omega
  · exact aa_Bd_n _
theorem aa_D_bd (H : aa_Ok g o l n m) {i j : Nat} (ih : i < n → j < m → aa_Bd ((n - (i + 1)) + (m - (j + 1))) (aa_V g o l n m h (i + 1) (j + 1) 0)) : aa_Bd ((n - i) + (m - j)) (aa_D g o l n m h i j) := by
  unfold aa_D
  split
  · rename_i q
    have hg := H.1 i j q.1 q.2
    exact aa_Bd_mono (aa_Bd_sh (ih q.1 q.2) (by omega) (by omega)) (by omega)
  · exact aa_Bd_n _
theorem aa_U_bd {c : Int} (h1 : -18 ≤ c) (h2 : c ≤ 18) {i j : Nat} (ih : i < n → aa_Bd ((n - (i + 1)) + (m - j)) (aa_V g o l n m h (i + 1) j 1)) : aa_Bd ((n - i) + (m - j)) (aa_U g o l n m h c i j) := by
  unfold aa_U
  split
  · rename_i q
    exact aa_Bd_mono (aa_Bd_sh (ih q) h1 h2) (by omega)
  · exact aa_Bd_n _
theorem aa_L_bd {c : Int} (h1 : -18 ≤ c) (h2 : c ≤ 18) {i j : Nat} (ih : j < m → aa_Bd ((n - i) + (m - (j + 1))) (aa_V g o l n m h i (j + 1) 2)) : aa_Bd ((n - i) + (m - j)) (aa_L g o l n m h c i j) := by
  unfold aa_L
  split
  · rename_i q
    exact aa_Bd_mono (aa_Bd_sh (ih q) h1 h2) (by omega)
  · exact aa_Bd_n _
theorem aa_sh_so {c : Int} {x : aa_P} (hx : ∃ p, x = some p) : ∃ p, aa_sh c x = some p := by
  obtain ⟨p, rfl⟩ := hx
  exact ⟨_, rfl⟩
theorem aa_V_ok (H : aa_Ok g o l n m) : ∀ (k i j t : Nat), i ≤ n → j ≤ m → (n - i) + (m - j) ≤ k → (∃ p, aa_V g o l n m h i j t = some p) ∧ aa_Bd ((n - i) + (m - j)) (aa_V g o l n m h i j t) := by
  intro k
  have hcl := H.2.2.2.1
  have hcl' := H.2.2.2.2.1
  have hco := H.2.1
  have hco' := H.2.2.1
  induction k with
  | zero =>
    intro i j t hi hj hk
    have e1 : i = n := by omega
    have e2 : j = m := by omega
    subst e1 e2
    have e3 : aa_V g o l i j h i j t = some (0, 1) := by
      rw [aa_V_eq, aa_E, aa_D, aa_U, aa_L, if_pos (Or.inl ⟨rfl, rfl⟩), if_neg (by omega), if_neg (by omega), if_neg (by omega)]
      rfl
    rw [e3]
    exact ⟨⟨_, rfl⟩, aa_Bd_s (by show _ ≤ (0 : Int); omega) (by show (0 : Int) ≤ _; omega)⟩
  | succ k ih =>
    intro i j t hi hj hk
    have c1 : -18 ≤ (if t = 1 then -l else -o - l) ∧ (if t = 1 then -l else -o - l) ≤ 18 := by split <;> omega
    have c2 : -18 ≤ (if t = 2 then -l else -o - l) ∧ (if t = 2 then -l else -o - l) ≤ 18 := by split <;> omega
    rw [aa_V_eq]
    refine ⟨?_, aa_Bd_jn (aa_Bd_jn (aa_Bd_jn (aa_E_bd _ _ _) (aa_D_bd H fun a b => (ih _ _ _ (by omega) (by omega) (by omega)).2)) (aa_U_bd c1.1 c1.2 fun a => (ih _ _ _ (by omega) (by omega) (by omega)).2)) (aa_L_bd c2.1 c2.2 fun a => (ih _ _ _ (by omega) (by omega) (by omega)).2)⟩
    by_cases q1 : i < n
    · refine aa_so_l _ (aa_so_r _ ?_)
      rw [aa_U, if_pos q1]
      exact aa_sh_so (ih _ _ _ (by omega) (by omega) (by omega)).1
    · by_cases q2 : j < m
      · refine aa_so_r _ ?_
        rw [aa_L, if_pos q2]
        exact aa_sh_so (ih _ _ _ (by omega) (by omega) (by omega)).1
      · refine aa_so_l _ (aa_so_l _ (aa_so_l _ ?_))
        rw [aa_E, if_pos (Or.inl ⟨by omega, by omega⟩)]
        exact ⟨_, rfl⟩
theorem aa_V_so (H : aa_Ok g o l n m) {i j : Nat} (hi : i ≤ n) (hj : j ≤ m) (t : Nat) : ∃ p, aa_V g o l n m h i j t = some p := (aa_V_ok H _ i j t hi hj (Nat.le_refl _)).1
theorem aa_V_bd (H : aa_Ok g o l n m) {i j : Nat} (hi : i ≤ n) (hj : j ≤ m) (t : Nat) : aa_Bd ((n - i) + (m - j)) (aa_V g o l n m h i j t) := (aa_V_ok H _ i j t hi hj (Nat.le_refl _)).2
theorem aa_V_in (H : aa_Ok g o l n m) {i j : Nat} (hi : i ≤ n) (hj : j ≤ m) (t : Nat) : -360 ≤ aa_sc (aa_V g o l n m h i j t) ∧ aa_sc (aa_V g o l n m h i j t) ≤ 360 := by
  obtain ⟨p, e⟩ := aa_V_so (h := h) H hi hj t
  have b := aa_V_bd (h := h) H hi hj t p e
  have h1 := H.2.2.2.2.2.1
  have h2 := H.2.2.2.2.2.2
  rw [e]
  show -360 ≤ p.1 ∧ p.1 ≤ 360
  omega
theorem aa_Q_bd (H : aa_Ok g o l n m) {i j : Nat} (hi : i ≤ n) (hj : j ≤ m) (t : Nat) : aa_Bd 20 (aa_Q g o l n m h i j t) := by
  have hcl := H.2.2.2.1
  have hcl' := H.2.2.2.2.1
  have hco := H.2.1
  have hco' := H.2.2.1
  have h1 := H.2.2.2.2.2.1
  have h2 := H.2.2.2.2.2.2
  have bU : aa_Bd ((n - i) + (m - j)) (aa_U g o l n m h (-o - l) i j) := aa_U_bd (by omega) (by omega) fun a => aa_V_bd H (by omega) (by omega) _
  have bL : aa_Bd ((n - i) + (m - j)) (aa_L g o l n m h (-o - l) i j) := aa_L_bd (by omega) (by omega) fun a => aa_V_bd H (by omega) (by omega) _
  unfold aa_Q
  refine aa_Bd_mono (k := (n - i) + (m - j)) (aa_Bd_jn (aa_Bd_jn (aa_Bd_jn (aa_E_bd _ _ _) (aa_D_bd H fun a b => aa_V_bd H (by omega) (by omega) _)) ?_) ?_) (by omega)
  · split
    · exact aa_Bd_n _
    · exact bU
  · split
    · exact aa_Bd_n _
    · exact bL
end
