/-! 02: pairs of a score and of how often; none: nothing fits -/
abbrev aa_P : Type := Option (Int × Int32)
def aa_j2 (a b : Int × Int32) : Int × Int32 := if a.1 < b.1 then b else if b.1 < a.1 then a else (a.1, a.2 + b.2)
def aa_jn (x y : aa_P) : aa_P :=
  match x, y with
  | none, y => y
  | some a, none => some a
  | some a, some b => some (aa_j2 a b)
def aa_sh (c : Int) (x : aa_P) : aa_P :=
  match x with
  | none => none
  | some a => some (a.1 + c, a.2)
theorem aa_jn_n (x : aa_P) : aa_jn x none = x := by cases x <;> rfl
theorem aa_n_jn (x : aa_P) : aa_jn none x = x := by cases x <;> rfl
theorem aa_j2_comm (a b : Int × Int32) : aa_j2 a b = aa_j2 b a := by
  obtain ⟨a1, a2⟩ := a
  obtain ⟨b1, b2⟩ := b
  unfold aa_j2
  dsimp only
  by_cases h1 : a1 < b1
  · rw [if_pos h1, if_neg (by omega), if_pos h1]
  · by_cases h2 : b1 < a1
    · rw [if_neg h1, if_pos h2, if_pos h2]
    · have e : a1 = b1 := by omega
      subst e
      rw [if_neg h1, if_neg h1, if_neg h1, if_neg h1, Int32.add_comm]
theorem aa_j2_assoc (a b c : Int × Int32) : aa_j2 (aa_j2 a b) c = aa_j2 a (aa_j2 b c) := by
  obtain ⟨a1, a2⟩ := a
  obtain ⟨b1, b2⟩ := b
  obtain ⟨c1, c2⟩ := c
  unfold aa_j2
  grind
theorem aa_jn_comm (x y : aa_P) : aa_jn x y = aa_jn y x := by
  cases x with
  | none => rw [aa_n_jn, aa_jn_n]
  | some a =>
    cases y with
    | none => rfl
    | some b => exact congrArg some (aa_j2_comm a b)
theorem aa_jn_assoc (x y z : aa_P) : aa_jn (aa_jn x y) z = aa_jn x (aa_jn y z) := by
  cases x with
  | none => rw [aa_n_jn, aa_n_jn]
  | some a =>
    cases y with
    | none => rw [aa_jn_n, aa_n_jn]
    | some b =>
      cases z with
      | none => rw [aa_jn_n, aa_jn_n]
      | some c => exact congrArg some (aa_j2_assoc a b c)
theorem aa_jn_swap (x y z : aa_P) : aa_jn (aa_jn x y) z = aa_jn (aa_jn x z) y := by
  rw [aa_jn_assoc, aa_jn_comm y z, ← aa_jn_assoc]
theorem aa_sh_n (c : Int) : aa_sh c none = none := rfl
theorem aa_sh_jn (c : Int) (x y : aa_P) : aa_sh c (aa_jn x y) = aa_jn (aa_sh c x) (aa_sh c y) := by
  cases x with
  | none => rw [aa_n_jn, aa_sh_n, aa_n_jn]
  | some a =>
    cases y with
    | none => rfl
    | some b =>
      obtain ⟨a1, a2⟩ := a
      obtain ⟨b1, b2⟩ := b
      refine congrArg some ?_
      unfold aa_j2
      dsimp only
      grind
theorem aa_sh_sh (c d : Int) (x : aa_P) : aa_sh c (aa_sh d x) = aa_sh (d + c) x := by
  cases x with
  | none => rfl
  | some a => exact congrArg some (by rw [show a.1 + d + c = a.1 + (d + c) by omega])
theorem aa_sh_0 (x : aa_P) : aa_sh 0 x = x := by
  cases x with
  | none => rfl
  | some a => exact congrArg some (by rw [show a.1 + 0 = a.1 by omega])
/-- bounds -/
def aa_Bd (k : Nat) (x : aa_P) : Prop := ∀ p, x = some p → -18 * (k : Int) ≤ p.1 ∧ p.1 ≤ 18 * (k : Int)
theorem aa_Bd_n (k : Nat) : aa_Bd k none := fun _ h => nomatch h
theorem aa_Bd_s {k : Nat} {p : Int × Int32} (h1 : -18 * (k : Int) ≤ p.1) (h2 : p.1 ≤ 18 * (k : Int)) : aa_Bd k (some p) := fun q h => by
  cases h
  exact ⟨h1, h2⟩
theorem aa_Bd_mono {k k' : Nat} {x : aa_P} (h : aa_Bd k x) (hk : k ≤ k') : aa_Bd k' x := fun p e => by
  have := h p e
  omega
theorem aa_j2_or (a b : Int × Int32) : (aa_j2 a b).1 = a.1 ∨ (aa_j2 a b).1 = b.1 := by
  unfold aa_j2
  split
  · exact Or.inr rfl
  · split
    · exact Or.inl rfl
    · exact Or.inl rfl
theorem aa_Bd_jn {k : Nat} {x y : aa_P} (hx : aa_Bd k x) (hy : aa_Bd k y) : aa_Bd k (aa_jn x y) := by
  cases x with
  | none => rw [aa_n_jn]; exact hy
  | some a =>
    cases y with
    | none => exact hx
    | some b =>
      have ha := hx a rfl
      have hb := hy b rfl
      refine aa_Bd_s ?_ ?_
      · rcases aa_j2_or a b with h | h <;> rw [h] <;> omega
      · rcases aa_j2_or a b with h | h <;> rw [h] <;> omega
theorem aa_Bd_sh {k : Nat} {x : aa_P} {c : Int} (hx : aa_Bd k x) (h1 : -18 ≤ c) (h2 : c ≤ 18) : aa_Bd (k + 1) (aa_sh c x) := by
  cases x with
  | none => exact aa_Bd_n _
  | some a =>
    have ha := hx a rfl
    refine aa_Bd_s ?_ ?_
    · show _ ≤ a.1 + c
      omega
    · show a.1 + c ≤ _
      omega
theorem aa_so_l {x : aa_P} (y : aa_P) (h : ∃ p, x = some p) : ∃ p, aa_jn x y = some p := by
  obtain ⟨p, rfl⟩ := h
  cases y with
  | none => exact ⟨p, rfl⟩
  | some b => exact ⟨_, rfl⟩
theorem aa_so_r (x : aa_P) {y : aa_P} (h : ∃ p, y = some p) : ∃ p, aa_jn x y = some p := by
  rw [aa_jn_comm]
  exact aa_so_l x h
/-- score, count -/
def aa_sc (x : aa_P) : Int :=
  match x with
  | none => -100000
  | some p => p.1
def aa_ct (x : aa_P) : Int32 :=
  match x with
  | none => 0
  | some p => p.2
/-- how often at score s -/
def aa_cn (s : Int) (x : aa_P) : Int32 :=
  match x with
  | none => 0
  | some p => if p.1 = s then p.2 else 0
def aa_Le (s : Int) (x : aa_P) : Prop := ∀ p, x = some p → p.1 ≤ s
def aa_At (s : Int) (x : aa_P) : Prop := ∃ p, x = some p ∧ p.1 = s
theorem aa_cn_jn {s : Int} {x y : aa_P} (h : aa_Le s (aa_jn x y)) : aa_cn s (aa_jn x y) = aa_cn s x + aa_cn s y ∧ aa_Le s x ∧ aa_Le s y := by
  cases x with
  | none =>
    rw [aa_n_jn] at h ⊢
    exact ⟨(Int32.zero_add _).symm, (fun _ e => nomatch e), h⟩
  | some a =>
    cases y with
    | none => exact ⟨(Int32.add_zero _).symm, h, (fun _ e => nomatch e)⟩
    | some b =>
      obtain ⟨a1, a2⟩ := a
      obtain ⟨b1, b2⟩ := b
      have h0 := h _ rfl
      have h1 : a1 ≤ s ∧ b1 ≤ s := by
        unfold aa_j2 at h0
        dsimp only at h0
        split at h0
        · dsimp only at h0; omega
        · split at h0
          · dsimp only at h0; omega
          · dsimp only at h0; omega
      refine ⟨?_, fun p e => by cases e; exact h1.1, fun p e => by cases e; exact h1.2⟩
      show (if (aa_j2 (a1, a2) (b1, b2)).1 = s then (aa_j2 (a1, a2) (b1, b2)).2 else 0) = (if a1 = s then a2 else 0) + (if b1 = s then b2 else 0)
      unfold aa_j2
      dsimp only
      by_cases q1 : a1 < b1
      · rw [if_pos q1, if_neg (show ¬ a1 = s by omega), Int32.zero_add]
      · by_cases q2 : b1 < a1
        · rw [if_neg q1, if_pos q2, if_neg (show ¬ b1 = s by omega), Int32.add_zero]
        · have e : a1 = b1 := by omega
          subst e
          rw [if_neg q1, if_neg q1]
          by_cases q3 : a1 = s
          · rw [if_pos q3, if_pos q3, if_pos q3]
          · rw [if_neg q3, if_neg q3, if_neg q3, Int32.add_zero]
theorem aa_At_jn {s : Int} {x y : aa_P} (h : aa_At s (aa_jn x y)) : aa_At s x ∨ aa_At s y := by
  cases x with
  | none =>
    rw [aa_n_jn] at h
    exact Or.inr h
  | some a =>
    cases y with
    | none => exact Or.inl h
    | some b =>
      obtain ⟨p, e, hp⟩ := h
      cases e
      rcases aa_j2_or a b with q | q
      · exact Or.inl ⟨a, rfl, by rw [← hp, q]⟩
      · exact Or.inr ⟨b, rfl, by rw [← hp, q]⟩
theorem aa_cn_sh {s c : Int} {x : aa_P} : aa_cn s (aa_sh c x) = if aa_sc x + c = s then aa_ct x else 0 := by
  cases x with
  | none =>
    show (0 : Int32) = if _ then 0 else 0
    split <;> rfl
  | some a => rfl
