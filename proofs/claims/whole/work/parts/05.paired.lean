/-! 05: paired and the walk, in the picture -/
section
variable {g : Nat → Nat → Int} {o l : Int} {n m : Nat}
theorem aa_Ok_box (H : aa_Ok g o l n m) {a b : Nat} (ha : a < n) (hb : b < m) : aa_Ok g o l a b := by
  obtain ⟨h1, h2, h3, h4, h5, h6, h7⟩ := H
  exact ⟨fun i j hi hj => h1 i j (by omega) (by omega), h2, h3, h4, h5, by omega, by omega⟩
theorem aa_has_box {a b i j s : Nat} (ha : a < n) (hb : b < m) (hh : aa_has a b i j s) : aa_has n m i j s :=
  ⟨hh.1.imp id (fun q => Nat.lt_trans q ha), hh.2.imp id (fun q => Nat.lt_trans q hb)⟩
theorem aa_sup (H : aa_Ok g o l n m) {a b : Nat} (ha : a < n) (hb : b < m) : ∀ (k i j t : Nat), i ≤ a → j ≤ b → (a - i) + (b - j) ≤ k →
    aa_sc (aa_V g o l a b 0 i j t) + (g a b + aa_sc (aa_V g o l n m 0 (a + 1) (b + 1) 0)) ≤ aa_sc (aa_V g o l n m 0 i j t) := by
  have H' := aa_Ok_box H ha hb
  have hend : ∀ t, aa_sc (aa_V g o l a b 0 a b t) + (g a b + aa_sc (aa_V g o l n m 0 (a + 1) (b + 1) 0)) ≤ aa_sc (aa_V g o l n m 0 a b t) := by
    intro t
    have q : g a b + aa_sc (aa_V g o l n m 0 (a + 1) (b + 1) 0) ≤ aa_sc (aa_V g o l n m 0 a b t) := aa_cd_le (s := 0) H (Nat.le_of_lt ha) (Nat.le_of_lt hb) t (by decide) ⟨Or.inr ha, Or.inr hb⟩
    rw [aa_V_end]
    show (0 : Int) + _ ≤ _
    omega
  intro k
  induction k with
  | zero =>
    intro i j t hi hj hk
    have e1 : i = a := by omega
    have e2 : j = b := by omega
    subst e1 e2
    exact hend t
  | succ k ih =>
    intro i j t hi hj hk
    by_cases e : i = a ∧ j = b
    · obtain ⟨rfl, rfl⟩ := e
      exact hend t
    · obtain ⟨s, hs, hh, ht⟩ := aa_tg_ex H' hi hj t (aa_E_no e)
      have hin := aa_has_in hh hi hj
      have hgt := aa_nij (i := i) (j := j) (s := s)
      have h1 := ih (aa_ni i s) (aa_nj j s) s hin.1 hin.2 (by omega)
      have h2 := aa_cd_le (h := 0) H (by omega) (by omega) t hs (aa_has_box ha hb hh)
      omega
theorem aa_pr1 (H : aa_Ok g o l n m) {a b : Nat} (ha : a < n) (hb : b < m) (R : Nat → Nat → Nat → Prop)
    (hc : ∀ i j t s, i ≤ n → j ≤ m → t < 3 → s < 3 → R i j t → aa_tg g o l n m 0 i j t s → R (aa_ni i s) (aa_nj j s) s) :
    ∀ (k i j t : Nat), i ≤ a → j ≤ b → t < 3 → (a - i) + (b - j) ≤ k → R i j t →
    aa_sc (aa_V g o l a b 0 i j t) + (g a b + aa_sc (aa_V g o l n m 0 (a + 1) (b + 1) 0)) = aa_sc (aa_V g o l n m 0 i j t) →
    ∃ t', t' < 3 ∧ R a b t' ∧ aa_tg g o l n m 0 a b t' 0 := by
  have H' := aa_Ok_box H ha hb
  have hend : ∀ t, t < 3 → R a b t → aa_sc (aa_V g o l a b 0 a b t) + (g a b + aa_sc (aa_V g o l n m 0 (a + 1) (b + 1) 0)) = aa_sc (aa_V g o l n m 0 a b t) → ∃ t', t' < 3 ∧ R a b t' ∧ aa_tg g o l n m 0 a b t' 0 := by
    intro t ht hR hT
    rw [aa_V_end] at hT
    have hT' : (0 : Int) + (g a b + aa_sc (aa_V g o l n m 0 (a + 1) (b + 1) 0)) = aa_sc (aa_V g o l n m 0 a b t) := hT
    refine ⟨t, ht, hR, ⟨Or.inr ha, Or.inr hb⟩, ?_⟩
    show g a b + aa_sc (aa_V g o l n m 0 (a + 1) (b + 1) 0) = _
    omega
  intro k
  induction k with
  | zero =>
    intro i j t hi hj ht hk hR hT
    have e1 : i = a := by omega
    have e2 : j = b := by omega
    subst e1 e2
    exact hend t ht hR hT
  | succ k ih =>
    intro i j t hi hj ht hk hR hT
    by_cases e : i = a ∧ j = b
    · obtain ⟨rfl, rfl⟩ := e
      exact hend t ht hR hT
    · obtain ⟨s, hs, hh, hts⟩ := aa_tg_ex H' hi hj t (aa_E_no e)
      have hin := aa_has_in hh hi hj
      have hgt := aa_nij (i := i) (j := j) (s := s)
      have h1 := aa_sup H ha hb k (aa_ni i s) (aa_nj j s) s hin.1 hin.2 (by omega)
      have h2 := aa_cd_le (h := 0) H (by omega) (by omega) t hs (aa_has_box ha hb hh)
      have hR' := hc i j t s (by omega) (by omega) ht hs hR ⟨aa_has_box ha hb hh, by omega⟩
      exact ih (aa_ni i s) (aa_nj j s) s hin.1 hin.2 hs (by omega) hR' (by omega)
theorem aa_pr2 (H : aa_Ok g o l n m) {a b : Nat} (ha : a < n) (hb : b < m) (R : Nat → Nat → Nat → Prop)
    (hp : ∀ i j t, i ≤ n → j ≤ m → t < 3 → R i j t → (i = 0 ∧ j = 0 ∧ t = 0) ∨ ∃ i' j' t', i' ≤ n ∧ j' ≤ m ∧ t' < 3 ∧ R i' j' t' ∧ aa_tg g o l n m 0 i' j' t' t ∧ aa_ni i' t = i ∧ aa_nj j' t = j) :
    ∀ (k i j t : Nat), i ≤ a → j ≤ b → t < 3 → i + j ≤ k → R i j t →
    aa_sc (aa_V g o l a b 0 i j t) + (g a b + aa_sc (aa_V g o l n m 0 (a + 1) (b + 1) 0)) = aa_sc (aa_V g o l n m 0 i j t) →
    aa_sc (aa_V g o l a b 0 0 0 0) + (g a b + aa_sc (aa_V g o l n m 0 (a + 1) (b + 1) 0)) = aa_sc (aa_V g o l n m 0 0 0 0) := by
  have H' := aa_Ok_box H ha hb
  intro k
  induction k with
  | zero =>
    intro i j t hi hj ht hk hR hT
    rcases hp i j t (by omega) (by omega) ht hR with ⟨rfl, rfl, rfl⟩ | ⟨i', j', t', hi', hj', ht', hR', htg, e1, e2⟩
    · exact hT
    · have hgt := aa_nij (i := i') (j := j') (s := t)
      omega
  | succ k ih =>
    intro i j t hi hj ht hk hR hT
    rcases hp i j t (by omega) (by omega) ht hR with ⟨rfl, rfl, rfl⟩ | ⟨i', j', t', hi', hj', ht', hR', htg, e1, e2⟩
    · exact hT
    · have hgt := aa_nij (i := i') (j := j') (s := t)
      have hb1 : aa_has a b i' j' t := by
        refine ⟨?_, ?_⟩
        · by_cases q : t = 2
          · exact Or.inl q
          · rw [aa_ni, if_neg q] at e1
            exact Or.inr (by omega)
        · by_cases q : t = 1
          · exact Or.inl q
          · rw [aa_nj, if_neg q] at e2
            exact Or.inr (by omega)
      have h1 := aa_cd_le (h := 0) H' (show i' ≤ a by omega) (show j' ≤ b by omega) t' ht hb1
      have h2 := aa_sup H ha hb _ i' j' t' (by omega) (by omega) (Nat.le_refl _)
      have h3 := htg.2
      rw [e1, e2] at h1 h3
      exact ih i' j' t' (by omega) (by omega) ht' (by omega) hR' (by omega)
theorem aa_pair (H : aa_Ok g o l n m) {a b : Nat} (ha : a < n) (hb : b < m) (R : Nat → Nat → Nat → Prop) (h0 : R 0 0 0)
    (hc : ∀ i j t s, i ≤ n → j ≤ m → t < 3 → s < 3 → R i j t → aa_tg g o l n m 0 i j t s → R (aa_ni i s) (aa_nj j s) s)
    (hp : ∀ i j t, i ≤ n → j ≤ m → t < 3 → R i j t → (i = 0 ∧ j = 0 ∧ t = 0) ∨ ∃ i' j' t', i' ≤ n ∧ j' ≤ m ∧ t' < 3 ∧ R i' j' t' ∧ aa_tg g o l n m 0 i' j' t' t ∧ aa_ni i' t = i ∧ aa_nj j' t = j) :
    (∃ t, t < 3 ∧ R a b t ∧ aa_tg g o l n m 0 a b t 0) ↔ aa_sc (aa_V g o l a b 0 0 0 0) + (g a b + aa_sc (aa_V g o l n m 0 (a + 1) (b + 1) 0)) = aa_sc (aa_V g o l n m 0 0 0 0) := by
  constructor
  · rintro ⟨t, ht, hR, htg⟩
    refine aa_pr2 H ha hb R hp _ a b t (Nat.le_refl _) (Nat.le_refl _) ht (Nat.le_refl _) hR ?_
    rw [aa_V_end]
    show (0 : Int) + _ = _
    have q : g a b + aa_sc (aa_V g o l n m 0 (a + 1) (b + 1) 0) = aa_sc (aa_V g o l n m 0 a b t) := htg.2
    omega
  · intro hT
    exact aa_pr1 H ha hb R hc _ 0 0 0 (by omega) (by omega) (by decide) (Nat.le_refl _) h0 hT
end
section
variable (g : Nat → Nat → Int) (o l : Int) (n m : Nat)
def aa_fm (i j t : Nat) : Nat := if aa_tg g o l n m 0 i j t 0 then 0 else if aa_tg g o l n m 0 i j t 1 then 1 else 2
def aa_wk : Nat → Nat × Nat × Nat
  | 0 => (0, 0, 0)
  | k + 1 => (aa_ni (aa_wk k).1 (aa_fm g o l n m (aa_wk k).1 (aa_wk k).2.1 (aa_wk k).2.2), aa_nj (aa_wk k).2.1 (aa_fm g o l n m (aa_wk k).1 (aa_wk k).2.1 (aa_wk k).2.2), aa_fm g o l n m (aa_wk k).1 (aa_wk k).2.1 (aa_wk k).2.2)
end
section
variable {g : Nat → Nat → Int} {o l : Int} {n m : Nat}
theorem aa_fm_lt (i j t : Nat) : aa_fm g o l n m i j t < 3 := by
  unfold aa_fm
  split
  · decide
  · split <;> decide
theorem aa_fm_tg (H : aa_Ok g o l n m) {i j : Nat} (hi : i ≤ n) (hj : j ≤ m) (t : Nat) (hn : ¬ (i = n ∧ j = m)) : aa_tg g o l n m 0 i j t (aa_fm g o l n m i j t) := by
  obtain ⟨s, hs, ht⟩ := aa_tg_ex (h := 0) H hi hj t (aa_E_no hn)
  unfold aa_fm
  by_cases q0 : aa_tg g o l n m 0 i j t 0
  · rw [if_pos q0]; exact q0
  · rw [if_neg q0]
    by_cases q1 : aa_tg g o l n m 0 i j t 1
    · rw [if_pos q1]; exact q1
    · rw [if_neg q1]
      match s, hs, ht with
      | 0, _, ht => exact absurd ht q0
      | 1, _, ht => exact absurd ht q1
      | 2, _, ht => exact ht
def aa_wkIn (g : Nat → Nat → Int) (o l : Int) (n m k : Nat) : Prop := (aa_wk g o l n m k).1 ≤ n ∧ (aa_wk g o l n m k).2.1 ≤ m ∧ (aa_wk g o l n m k).2.2 < 3
def aa_wkEnd (g : Nat → Nat → Int) (o l : Int) (n m k : Nat) : Prop := (aa_wk g o l n m k).1 = n ∧ (aa_wk g o l n m k).2.1 = m
theorem aa_wk_go (H : aa_Ok g o l n m) : ∀ (d k : Nat), aa_wkIn g o l n m k → n + m - ((aa_wk g o l n m k).1 + (aa_wk g o l n m k).2.1) ≤ d → k ≤ (aa_wk g o l n m k).1 + (aa_wk g o l n m k).2.1 →
    (∀ k', k' < k → aa_wkIn g o l n m k' ∧ ¬ aa_wkEnd g o l n m k') → ∃ L, L ≤ n + m ∧ aa_wkEnd g o l n m L ∧ aa_wkIn g o l n m L ∧ ∀ k', k' < L → aa_wkIn g o l n m k' ∧ ¬ aa_wkEnd g o l n m k' := by
  intro d
  induction d with
  | zero =>
    intro k hin hd hk hall
    obtain ⟨h1, h2, h3⟩ := hin
    exact ⟨k, by omega, ⟨by omega, by omega⟩, ⟨h1, h2, h3⟩, hall⟩
  | succ d ih =>
    intro k hin hd hk hall
    by_cases he : aa_wkEnd g o l n m k
    · obtain ⟨h1, h2, h3⟩ := hin
      exact ⟨k, by omega, he, ⟨h1, h2, h3⟩, hall⟩
    · have htg := aa_fm_tg H hin.1 hin.2.1 (aa_wk g o l n m k).2.2 he
      have hI := aa_has_in htg.1 hin.1 hin.2.1
      have hgt := aa_nij (i := (aa_wk g o l n m k).1) (j := (aa_wk g o l n m k).2.1) (s := aa_fm g o l n m (aa_wk g o l n m k).1 (aa_wk g o l n m k).2.1 (aa_wk g o l n m k).2.2)
      have h1 : aa_wkIn g o l n m (k + 1) := ⟨hI.1, hI.2, aa_fm_lt _ _ _⟩
      refine ih (k + 1) h1 ?_ ?_ ?_
      · show n + m - (aa_ni _ _ + aa_nj _ _) ≤ d
        omega
      · show k + 1 ≤ aa_ni _ _ + aa_nj _ _
        omega
      · intro k' hk'
        by_cases e : k' = k
        · subst e
          exact ⟨hin, he⟩
        · exact hall k' (by omega)
theorem aa_wk_L (H : aa_Ok g o l n m) : ∃ L, L ≤ n + m ∧ aa_wkEnd g o l n m L ∧ aa_wkIn g o l n m L ∧ ∀ k', k' < L → aa_wkIn g o l n m k' ∧ ¬ aa_wkEnd g o l n m k' :=
  aa_wk_go H _ 0 ⟨Nat.zero_le _, Nat.zero_le _, (show 0 < 3 by decide)⟩ (Nat.le_refl _) (Nat.zero_le _) (fun k' h => absurd h (Nat.not_lt_zero _))
end
