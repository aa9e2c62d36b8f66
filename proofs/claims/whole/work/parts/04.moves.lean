/-! 04: the moves; tight ones; the counts -/
section
abbrev aa_ni (i s : Nat) : Nat := if s = 2 then i else i + 1
abbrev aa_nj (j s : Nat) : Nat := if s = 1 then j else j + 1
abbrev aa_has (n m i j s : Nat) : Prop := (s = 2 ∨ i < n) ∧ (s = 1 ∨ j < m)
variable (g : Nat → Nat → Int) (o l : Int) (n m h : Nat)
def aa_cs (i j t s : Nat) : Int := if s = 0 then g i j else if s = t then -l else -o - l
def aa_cd (i j t s : Nat) : aa_P := if aa_has n m i j s then aa_sh (aa_cs g o l i j t s) (aa_V g o l n m h (aa_ni i s) (aa_nj j s) s) else none
abbrev aa_tg (i j t s : Nat) : Prop := aa_has n m i j s ∧ aa_cs g o l i j t s + aa_sc (aa_V g o l n m h (aa_ni i s) (aa_nj j s) s) = aa_sc (aa_V g o l n m h i j t)
theorem aa_cd0 (i j t : Nat) : aa_cd g o l n m h i j t 0 = aa_D g o l n m h i j := by
  unfold aa_cd aa_D aa_cs
  simp [aa_has, aa_ni, aa_nj]
theorem aa_cd1 (i j t : Nat) : aa_cd g o l n m h i j t 1 = aa_U g o l n m h (if t = 1 then -l else -o - l) i j := by
  unfold aa_cd aa_U aa_cs
  by_cases q : t = 1
  · subst q; simp [aa_has, aa_ni, aa_nj]
  · have q' : ¬ 1 = t := fun e => q e.symm
    simp [q, q', aa_has, aa_ni, aa_nj]
theorem aa_cd2 (i j t : Nat) : aa_cd g o l n m h i j t 2 = aa_L g o l n m h (if t = 2 then -l else -o - l) i j := by
  unfold aa_cd aa_L aa_cs
  by_cases q : t = 2
  · subst q; simp [aa_has, aa_ni, aa_nj]
  · have q' : ¬ 2 = t := fun e => q e.symm
    simp [q, q', aa_has, aa_ni, aa_nj]
theorem aa_V_cd (i j t : Nat) : aa_V g o l n m h i j t = aa_jn (aa_jn (aa_jn (aa_E n m h i j) (aa_cd g o l n m h i j t 0)) (aa_cd g o l n m h i j t 1)) (aa_cd g o l n m h i j t 2) := by
  rw [aa_cd0, aa_cd1, aa_cd2]
  exact aa_V_eq g o l n m h i j t
end
section
variable {g : Nat → Nat → Int} {o l : Int} {n m h : Nat}
theorem aa_top (H : aa_Ok g o l n m) {i j : Nat} (hi : i ≤ n) (hj : j ≤ m) (t : Nat) :
    (aa_ct (aa_V g o l n m h i j t) = aa_cn (aa_sc (aa_V g o l n m h i j t)) (aa_E n m h i j) + aa_cn (aa_sc (aa_V g o l n m h i j t)) (aa_cd g o l n m h i j t 0) + aa_cn (aa_sc (aa_V g o l n m h i j t)) (aa_cd g o l n m h i j t 1) + aa_cn (aa_sc (aa_V g o l n m h i j t)) (aa_cd g o l n m h i j t 2))
    ∧ aa_Le (aa_sc (aa_V g o l n m h i j t)) (aa_E n m h i j)
    ∧ (∀ s, s < 3 → aa_Le (aa_sc (aa_V g o l n m h i j t)) (aa_cd g o l n m h i j t s))
    ∧ (aa_At (aa_sc (aa_V g o l n m h i j t)) (aa_E n m h i j) ∨ ∃ s, s < 3 ∧ aa_At (aa_sc (aa_V g o l n m h i j t)) (aa_cd g o l n m h i j t s)) := by
  obtain ⟨p, e⟩ := aa_V_so (h := h) H hi hj t
  have e1 : aa_sc (aa_V g o l n m h i j t) = p.1 := by rw [e]; rfl
  have e2 : aa_ct (aa_V g o l n m h i j t) = p.2 := by rw [e]; rfl
  have e3 := aa_V_cd g o l n m h i j t
  rw [e1, e2]
  rw [e] at e3
  have hLe : aa_Le p.1 (some p) := fun q eq => by cases eq; exact Int.le_refl _
  have hAt : aa_At p.1 (some p) := ⟨p, rfl, rfl⟩
  have hcn : aa_cn p.1 (some p) = p.2 := if_pos rfl
  rw [e3] at hLe hAt hcn
  obtain ⟨a1, a2, a3⟩ := aa_cn_jn hLe
  obtain ⟨b1, b2, b3⟩ := aa_cn_jn a2
  obtain ⟨c1, c2, c3⟩ := aa_cn_jn b2
  refine ⟨?_, c2, ?_, ?_⟩
  · rw [← hcn, a1, b1, c1]
  · intro s hs
    match s, hs with
    | 0, _ => exact c3
    | 1, _ => exact b3
    | 2, _ => exact a3
  · rcases aa_At_jn hAt with q | q
    · rcases aa_At_jn q with q | q
      · rcases aa_At_jn q with q | q
        · exact Or.inl q
        · exact Or.inr ⟨0, by decide, q⟩
      · exact Or.inr ⟨1, by decide, q⟩
    · exact Or.inr ⟨2, by decide, q⟩
theorem aa_has_in {i j s : Nat} (hs : aa_has n m i j s) (hi : i ≤ n) (hj : j ≤ m) : aa_ni i s ≤ n ∧ aa_nj j s ≤ m := by
  obtain ⟨h1, h2⟩ := hs
  refine ⟨?_, ?_⟩
  · unfold aa_ni
    split <;> omega
  · unfold aa_nj
    split <;> omega
theorem aa_nij {i j s : Nat} : i ≤ aa_ni i s ∧ j ≤ aa_nj j s ∧ i + j < aa_ni i s + aa_nj j s := by
  unfold aa_ni aa_nj
  by_cases h1 : s = 2
  · subst h1
    rw [if_pos rfl, if_neg (by decide)]
    omega
  · rw [if_neg h1]
    split <;> omega
theorem aa_cd_le (H : aa_Ok g o l n m) {i j : Nat} (hi : i ≤ n) (hj : j ≤ m) (t : Nat) {s : Nat} (hs : s < 3) (hh : aa_has n m i j s) : aa_cs g o l i j t s + aa_sc (aa_V g o l n m h (aa_ni i s) (aa_nj j s) s) ≤ aa_sc (aa_V g o l n m h i j t) := by
  have h1 := (aa_top (h := h) H hi hj t).2.2.1 s hs
  have hin := aa_has_in hh hi hj
  obtain ⟨q, e⟩ := aa_V_so (h := h) H hin.1 hin.2 s
  rw [aa_cd, if_pos hh, e] at h1
  have h2 := h1 _ rfl
  rw [e]
  show _ + q.1 ≤ _
  have h3 : q.1 + aa_cs g o l i j t s ≤ aa_sc (aa_V g o l n m h i j t) := h2
  omega
theorem aa_tg_ex (H : aa_Ok g o l n m) {i j : Nat} (hi : i ≤ n) (hj : j ≤ m) (t : Nat) (hE : aa_E n m h i j = none) : ∃ s, s < 3 ∧ aa_tg g o l n m h i j t s := by
  rcases (aa_top (h := h) H hi hj t).2.2.2 with q | ⟨s, hs, p, e, hp⟩
  · rw [hE] at q
    obtain ⟨p, e, _⟩ := q
    exact nomatch e
  · refine ⟨s, hs, ?_⟩
    by_cases hh : aa_has n m i j s
    · refine ⟨hh, ?_⟩
      rw [aa_cd, if_pos hh] at e
      have hin := aa_has_in hh hi hj
      obtain ⟨q, e'⟩ := aa_V_so (h := h) H hin.1 hin.2 s
      rw [e'] at e
      rw [e', ← hp]
      cases e
      show _ + q.1 = q.1 + _
      omega
    · rw [aa_cd, if_neg hh] at e
      exact nomatch e
theorem aa_cn_cd (i j t s : Nat) : aa_cn (aa_sc (aa_V g o l n m h i j t)) (aa_cd g o l n m h i j t s) = if aa_tg g o l n m h i j t s then aa_ct (aa_V g o l n m h (aa_ni i s) (aa_nj j s) s) else 0 := by
  by_cases hh : aa_has n m i j s
  · rw [aa_cd, if_pos hh, aa_cn_sh]
    by_cases e : aa_sc (aa_V g o l n m h (aa_ni i s) (aa_nj j s) s) + aa_cs g o l i j t s = aa_sc (aa_V g o l n m h i j t)
    · rw [if_pos e, if_pos ⟨hh, by omega⟩]
    · rw [if_neg e, if_neg (fun q => e (by have := q.2; omega))]
  · rw [aa_cd, if_neg hh, if_neg (fun q => hh q.1)]
    rfl
theorem aa_ct_eq (H : aa_Ok g o l n m) {i j : Nat} (hi : i ≤ n) (hj : j ≤ m) (t : Nat) (hE : aa_E n m h i j = none) :
    aa_ct (aa_V g o l n m h i j t) = (0 + (if aa_tg g o l n m h i j t 0 then aa_ct (aa_V g o l n m h (aa_ni i 0) (aa_nj j 0) 0) else 0)) + (if aa_tg g o l n m h i j t 1 then aa_ct (aa_V g o l n m h (aa_ni i 1) (aa_nj j 1) 1) else 0) + (if aa_tg g o l n m h i j t 2 then aa_ct (aa_V g o l n m h (aa_ni i 2) (aa_nj j 2) 2) else 0) := by
  rw [(aa_top (h := h) H hi hj t).1, hE, aa_cn_cd, aa_cn_cd, aa_cn_cd]
  rfl
theorem aa_V_end (t : Nat) : aa_V g o l n m 0 n m t = some (0, 1) := by
  rw [aa_V_eq, aa_E, aa_D, aa_U, aa_L, if_pos (Or.inl ⟨rfl, rfl⟩), if_neg (by omega), if_neg (by omega), if_neg (by omega)]
  rfl
theorem aa_E_no {i j : Nat} (hn : ¬ (i = n ∧ j = m)) : aa_E n m 0 i j = none := by
  unfold aa_E
  rw [if_neg]
  omega
end
