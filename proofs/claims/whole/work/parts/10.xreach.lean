/-! 10: greatest starts, and the component's reached -/
def aa_Mx (v : Nat → Nat → Int) (I J : Nat) (z : Int) : Prop := (∀ i j, i ≤ I → j ≤ J → v i j ≤ z) ∧ ∃ i j, i ≤ I ∧ j ≤ J ∧ v i j = z
theorem aa_Mx_un {v : Nat → Nat → Int} {I J : Nat} {z z' : Int} (h : aa_Mx v I J z) (h' : aa_Mx v I J z') : z = z' := by
  obtain ⟨h1, i, j, hi, hj, e⟩ := h
  obtain ⟨h1', i', j', hi', hj', e'⟩ := h'
  have a1 := h1 i' j' hi' hj'
  have a2 := h1' i j hi hj
  omega
def aa_MI (v : Nat → Nat → Int) (I J : Nat) (z0 : Int) (i j : Nat) (z : Int) : Prop := (∀ i' j', j' ≤ J → (i' < i ∨ (i' = i ∧ j' < j)) → v i' j' ≤ z) ∧ (z = z0 ∨ ∃ i' j', i' ≤ I ∧ j' ≤ J ∧ v i' j' = z) ∧ z0 ≤ z
theorem aa_MI_0 (v : Nat → Nat → Int) (I J : Nat) (z0 : Int) : aa_MI v I J z0 0 0 z0 := ⟨fun i' j' _ h => by omega, Or.inl rfl, Int.le_refl _⟩
theorem aa_MI_s {v : Nat → Nat → Int} {I J : Nat} {z0 z : Int} {i j : Nat} (h : aa_MI v I J z0 i j z) (hi : i ≤ I) (hj : j ≤ J) : (v i j ≤ z → aa_MI v I J z0 i (j + 1) z) ∧ (¬ v i j ≤ z → aa_MI v I J z0 i (j + 1) (v i j)) := by
  obtain ⟨h1, h2, h3⟩ := h
  refine ⟨fun q => ⟨fun i' j' hj' e => ?_, h2, h3⟩, fun q => ⟨fun i' j' hj' e => ?_, Or.inr ⟨i, j, hi, hj, rfl⟩, by omega⟩⟩
  · by_cases e1 : i' = i ∧ j' = j
    · obtain ⟨rfl, rfl⟩ := e1
      exact q
    · exact h1 i' j' hj' (by omega)
  · by_cases e1 : i' = i ∧ j' = j
    · obtain ⟨rfl, rfl⟩ := e1
      exact Int.le_refl _
    · have := h1 i' j' hj' (by omega)
      omega
theorem aa_MI_r {v : Nat → Nat → Int} {I J : Nat} {z0 z : Int} {i j : Nat} (h : aa_MI v I J z0 i j z) (hj : J < j) : aa_MI v I J z0 (i + 1) 0 z := by
  obtain ⟨h1, h2, h3⟩ := h
  exact ⟨fun i' j' hj' e => h1 i' j' hj' (by omega), h2, h3⟩
theorem aa_MI_e {v : Nat → Nat → Int} {I J : Nat} {z0 z : Int} {i : Nat} (h : aa_MI v I J z0 i 0 z) (hi : I < i) (h0 : z0 ≤ v 0 0) : aa_Mx v I J z := by
  obtain ⟨h1, h2, h3⟩ := h
  have h4 := h1 0 0 (by omega) (by omega)
  refine ⟨fun i' j' hi' hj' => h1 i' j' hj' (by omega), ?_⟩
  rcases h2 with e | e
  · exact ⟨0, 0, by omega, by omega, by omega⟩
  · exact e
theorem aa_MI_in {v : Nat → Nat → Int} {I J : Nat} {z0 z : Int} {i j : Nat} (h : aa_MI v I J z0 i j z) (hv : ∀ i j, i ≤ I → j ≤ J → -360 ≤ v i j ∧ v i j ≤ 360) (h0 : -1000000 ≤ z0) (h0' : z0 ≤ 360) : -1000000 ≤ z ∧ z ≤ 360 := by
  obtain ⟨h1, h2, h3⟩ := h
  rcases h2 with e | ⟨i', j', hi', hj', e⟩
  · omega
  · have := hv i' j' hi' hj'
    omega
section
variable {n m h : Nat} {ge gu co cl : Int32} {xu xl a b r d : Nat → Int32}
theorem xa_g15 {post : Int32 → Prop} {J6 : Int32 → Int32 → Prop} {I J i : Nat} (H : aa_Ok (aa_g xu xl ge gu) co.toInt cl.toInt n m) (hT : aa_Tab (aa_VS (aa_g xu xl ge gu) co.toInt cl.toInt n m h) n m 0 a) (hI : I ≤ n) (hJ : J ≤ m) (hi : i ≤ I)
    (hp : ∀ z, aa_MI (fun i j => aa_sc (aa_V (aa_g xu xl ge gu) co.toInt cl.toInt n m h i j 0)) I J (-1000000) (i + 1) 0 z → J6 (aa_i z) (nI (i + 1))) :
    ∀ (e j : Nat) (z : Int), j + e = J + 1 → aa_MI (fun i j => aa_sc (aa_V (aa_g xu xl ge gu) co.toInt cl.toInt n m h i j 0)) I J (-1000000) i j z → wX_greatestStart_15 post J6 (nI I) (nI J) (nI i) (nI n) (nI m) ge gu co cl xu xl a b r d (e + 1) (aa_i z) (nI j) := by
  have hn := H.2.2.2.2.2.1
  have hm := H.2.2.2.2.2.2
  intro e
  induction e with
  | zero =>
    intro j z hj hM
    exact pk_lt J j (fun _ => nm_r (nI_1 i) (hp z (aa_MI_r hM (by omega)))) (fun q => by omega)
  | succ e ih =>
    intro j z hj hM
    have hlt : aa_s i j 0 < 363 := aa_s_lt (by omega) (by omega) (by decide)
    have bv := aa_V_in (h := h) H (show i ≤ n by omega) (show j ≤ m by omega) 0
    have bz := aa_MI_in hM (fun i' j' hi' hj' => aa_V_in (h := h) H (by omega) (by omega) 0) (by omega) (by omega)
    have hs := aa_MI_s hM hi (by omega)
    refine pk_lt J j (fun q => by omega) (fun _ => ?_)
    refine xa_state (t := 0) ⟨pk_in _ 363 hlt, ?_⟩
    rw [nI_clamp (by omega), hT i j 0 (by omega) (by omega) (by decide) (Nat.zero_le _)]
    refine nm_e ?_
    show (aa_i (aa_sc (aa_V (aa_g xu xl ge gu) co.toInt cl.toInt n m h i j 0)) ≤ aa_i z → _) ∧ (¬ aa_i (aa_sc (aa_V (aa_g xu xl ge gu) co.toInt cl.toInt n m h i j 0)) ≤ aa_i z → _)
    rw [aa_i_le (by omega) (by omega) (by omega) (by omega)]
    exact ⟨fun q => nm_r (nI_1 j) (ih (j + 1) _ (by omega) (hs.1 q)), fun q => nm_r (nI_1 j) (ih (j + 1) _ (by omega) (hs.2 q))⟩
theorem xa_g6 {post : Int32 → Prop} {I J : Nat} (H : aa_Ok (aa_g xu xl ge gu) co.toInt cl.toInt n m) (hT : aa_Tab (aa_VS (aa_g xu xl ge gu) co.toInt cl.toInt n m h) n m 0 a) (hI : I ≤ n) (hJ : J ≤ m)
    (hp : ∀ z, aa_Mx (fun i j => aa_sc (aa_V (aa_g xu xl ge gu) co.toInt cl.toInt n m h i j 0)) I J z → post (aa_i z)) :
    ∀ (e i : Nat) (z : Int), i + e = I + 1 → aa_MI (fun i j => aa_sc (aa_V (aa_g xu xl ge gu) co.toInt cl.toInt n m h i j 0)) I J (-1000000) i 0 z → wX_greatestStart_6 post (nI I) (nI J) (nI n) (nI m) ge gu co cl xu xl a b r d (e + 1) (aa_i z) (nI i) := by
  have hn := H.2.2.2.2.2.1
  have hm := H.2.2.2.2.2.2
  have b0 := aa_V_in (h := h) H (Nat.zero_le n) (Nat.zero_le m) 0
  intro e
  induction e with
  | zero =>
    intro i z hi hM
    exact pk_lt I i (fun _ => hp z (aa_MI_e hM (by omega) (by show (-1000000 : Int) ≤ aa_sc _; omega))) (fun q => by omega)
  | succ e ih =>
    intro i z hi hM
    refine pk_lt I i (fun q => by omega) (fun _ => ⟨J + 1 + 1, ?_⟩)
    exact xa_g15 H hT hI hJ (by omega) (fun z' hM' => ih (i + 1) z' (by omega) hM') (J + 1) 0 z (by omega) hM
theorem xa_gs {post : Int32 → Prop} {I J : Nat} (H : aa_Ok (aa_g xu xl ge gu) co.toInt cl.toInt n m) (hT : aa_Tab (aa_VS (aa_g xu xl ge gu) co.toInt cl.toInt n m h) n m 0 a) (hI : I ≤ n) (hJ : J ≤ m)
    (hp : ∀ z, aa_Mx (fun i j => aa_sc (aa_V (aa_g xu xl ge gu) co.toInt cl.toInt n m h i j 0)) I J z → post (aa_i z)) : wpX_greatestStart post (nI n, nI m, ge, gu, co, cl, xu, xl, a, b, r, d) (nI I) (nI J) := by
  have h1 := xa_g6 (b := b) (r := r) (d := d) H hT hI hJ hp (I + 1) 0 (-1000000) (by omega) (aa_MI_0 _ _ _ _)
  rw [aa_c6] at h1
  exact ⟨I + 1 + 1, h1⟩
end
/-- the marks: closed below index p -/
def aa_RI (g : Nat → Nat → Int) (o l : Int) (n m p : Nat) (r : Nat → Int32) : Prop :=
  (¬ r (aa_s 0 0 0) = 0) ∧
  (∀ i j t, i ≤ n → j ≤ m → t < 3 → ¬ r (aa_s i j t) = 0 → (i = 0 ∧ j = 0 ∧ t = 0) ∨ ∃ i' j' t', i' ≤ n ∧ j' ≤ m ∧ t' < 3 ∧ (¬ r (aa_s i' j' t') = 0) ∧ aa_tg g o l n m 0 i' j' t' t ∧ aa_ni i' t = i ∧ aa_nj j' t = j) ∧
  (∀ i j t s, i ≤ n → j ≤ m → t < 3 → s < 3 → aa_s i j t < p → ¬ r (aa_s i j t) = 0 → aa_tg g o l n m 0 i j t s → ¬ r (aa_s (aa_ni i s) (aa_nj j s) s) = 0)
theorem aa_b1 : vp_nar .boolean 1 = 1 := by rfl
theorem aa_b0 : vp_nar .boolean 0 = 0 := by rfl
theorem aa_upm {r : Nat → Int32} {q k : Nat} (h : ¬ r k = 0) : ¬ upd r q 1 k = 0 := by
  by_cases e : k = q
  · subst e
    rw [pk_us]
    exact xa_1
  · rw [pk_un e]
    exact h
theorem aa_RI_mark {g : Nat → Nat → Int} {o l : Int} {n m : Nat} {r : Nat → Int32} {i j t s : Nat} (hR : aa_RI g o l n m (aa_s i j t) r) (hn : n ≤ 10) (hm : m ≤ 10) (hi : i ≤ n) (hj : j ≤ m) (ht : t < 3) (hs : s < 3) (hr : ¬ r (aa_s i j t) = 0) (htg : aa_tg g o l n m 0 i j t s) :
    aa_RI g o l n m (aa_s i j t) (upd r (aa_s (aa_ni i s) (aa_nj j s) s) 1) := by
  obtain ⟨h1, h2, h3⟩ := hR
  have hin := aa_has_in htg.1 hi hj
  refine ⟨aa_upm h1, ?_, ?_⟩
  · intro i' j' t' hi' hj' ht' hm'
    by_cases e : aa_s i' j' t' = aa_s (aa_ni i s) (aa_nj j s) s
    · obtain ⟨e1, e2, e3⟩ := aa_s_inj (by omega) ht' (by omega) hs e
      subst e3
      exact Or.inr ⟨i, j, t, hi, hj, ht, aa_upm hr, htg, e1.symm, e2.symm⟩
    · rw [pk_un e] at hm'
      rcases h2 i' j' t' hi' hj' ht' hm' with q | ⟨i2, j2, t2, q1, q2, q3, q4, q5⟩
      · exact Or.inl q
      · exact Or.inr ⟨i2, j2, t2, q1, q2, q3, aa_upm q4, q5⟩
  · intro i' j' t' s' hi' hj' ht' hs' hlt hm' htg'
    have hnx := aa_s_next i j s
    have hne : aa_s i' j' t' ≠ aa_s (aa_ni i s) (aa_nj j s) s := by
      have : aa_s i j t < aa_s i (j + 1) 0 := by unfold aa_s; omega
      omega
    rw [pk_un hne] at hm'
    exact aa_upm (h3 i' j' t' s' hi' hj' ht' hs' hlt hm' htg')
section
variable {n m : Nat} {ge gu co cl : Int32} {xu xl a b r d : Nat → Int32}
theorem xa_m18 {post : SX → Prop} {i j t : Nat} (H : aa_Ok (aa_g xu xl ge gu) co.toInt cl.toInt n m) (hT : aa_Tab (aa_VS (aa_g xu xl ge gu) co.toInt cl.toInt n m 0) n m 0 a) (hi : i ≤ n) (hj : j ≤ m) (ht : t < 3)
    (hp : ∀ r', aa_RI (aa_g xu xl ge gu) co.toInt cl.toInt n m (aa_s i j t + 1) r' → post (nI n, nI m, ge, gu, co, cl, xu, xl, a, b, r', d)) :
    ∀ (e s : Nat) (r : Nat → Int32), s + e = 3 → aa_RI (aa_g xu xl ge gu) co.toInt cl.toInt n m (aa_s i j t) r → (¬ r (aa_s i j t) = 0) → (∀ s', s' < s → aa_tg (aa_g xu xl ge gu) co.toInt cl.toInt n m 0 i j t s' → ¬ r (aa_s (aa_ni i s') (aa_nj j s') s') = 0) →
    wX_markMovesFrom_18 post (nI i) (nI j) (nI t) (nI n) (nI m) ge gu co cl (e + 1) (nI s) xu xl a b r d := by
  have hn := H.2.2.2.2.2.1
  have hm := H.2.2.2.2.2.2
  intro e
  induction e with
  | zero =>
    intro s r hs hR hr hd
    refine pk_le 3 s (fun _ => hp r ⟨hR.1, hR.2.1, ?_⟩) (fun q => by omega)
    intro i' j' t' s' hi' hj' ht' hs' hlt hm' htg'
    by_cases e : aa_s i' j' t' = aa_s i j t
    · obtain ⟨rfl, rfl, rfl⟩ := aa_s_inj (by omega) ht' (by omega) ht e
      exact hd s' (by omega) htg'
    · exact hR.2.2 i' j' t' s' hi' hj' ht' hs' (by omega) hm' htg'
  | succ e ih =>
    intro s r hs hR hr hd
    refine pk_le 3 s (fun q => by omega) (fun _ => ?_)
    refine xa_bm H hT hi hj ht (by omega) (fun h1 => br_f xa_1 ?_) (fun h0 => br_t rfl (nm_r (nI_1 s) (ih (s + 1) r (by omega) hR hr ?_)))
    · have hin := aa_has_in h1.1 hi hj
      have hlt : aa_s (aa_ni i s) (aa_nj j s) s < 363 := aa_s_lt (by omega) (by omega) (by omega)
      refine xa_sa (by omega) ⟨pk_in _ 363 hlt, ?_⟩
      rw [nI_clamp (by omega), aa_b1]
      refine nm_e (nm_r (nI_1 s) (ih (s + 1) _ (by omega) (aa_RI_mark hR hn hm hi hj ht (by omega) hr h1) (aa_upm hr) ?_))
      intro s' hs' htg'
      by_cases e : s' = s
      · subst e
        rw [pk_us]
        exact xa_1
      · exact aa_upm (hd s' (by omega) htg')
    · intro s' hs' htg'
      by_cases e : s' = s
      · subst e
        exact absurd htg' h0
      · exact hd s' (by omega) htg'
theorem xa_mm {post : SX → Prop} {i j t : Nat} (H : aa_Ok (aa_g xu xl ge gu) co.toInt cl.toInt n m) (hT : aa_Tab (aa_VS (aa_g xu xl ge gu) co.toInt cl.toInt n m 0) n m 0 a) (hi : i ≤ n) (hj : j ≤ m) (ht : t < 3) (hR : aa_RI (aa_g xu xl ge gu) co.toInt cl.toInt n m (aa_s i j t) r)
    (hp : ∀ r', aa_RI (aa_g xu xl ge gu) co.toInt cl.toInt n m (aa_s i j t + 1) r' → post (nI n, nI m, ge, gu, co, cl, xu, xl, a, b, r', d)) : wpX_markMovesFrom post (nI n, nI m, ge, gu, co, cl, xu, xl, a, b, r, d) (nI i) (nI j) (nI t) := by
  have hn := H.2.2.2.2.2.1
  have hm := H.2.2.2.2.2.2
  have hlt : aa_s i j t < 363 := aa_s_lt (by omega) (by omega) ht
  unfold wpX_markMovesFrom
  dsimp only
  refine xa_state ⟨pk_in _ 363 hlt, ?_⟩
  rw [nI_clamp (by omega)]
  refine ⟨fun q => hp r ⟨hR.1, hR.2.1, ?_⟩, fun q => ⟨4, xa_m18 H hT hi hj ht hp 3 0 r (by omega) hR q (fun s' hs' => absurd hs' (Nat.not_lt_zero _))⟩⟩
  intro i' j' t' s' hi' hj' ht' hs' hlt' hm' htg'
  by_cases e : aa_s i' j' t' = aa_s i j t
  · rw [e] at hm'
    exact absurd q hm'
  · exact hR.2.2 i' j' t' s' hi' hj' ht' hs' (by omega) hm' htg'
theorem xa_r56 {post : SX → Prop} {J36 J46 : Int32 → Int32 → Int32 → Int32 → Int32 → Int32 → Int32 → (Nat → Int32) → (Nat → Int32) → (Nat → Int32) → (Nat → Int32) → (Nat → Int32) → (Nat → Int32) → Prop} {i j : Nat} (H : aa_Ok (aa_g xu xl ge gu) co.toInt cl.toInt n m) (hT : aa_Tab (aa_VS (aa_g xu xl ge gu) co.toInt cl.toInt n m 0) n m 0 a) (hi : i ≤ n) (hj : j ≤ m)
    (hp : ∀ r', aa_RI (aa_g xu xl ge gu) co.toInt cl.toInt n m (aa_s i (j + 1) 0) r' → J46 (nI (j + 1)) (nI n) (nI m) ge gu co cl xu xl a b r' d) :
    ∀ (e t : Nat) (r : Nat → Int32), t + e = 3 → aa_RI (aa_g xu xl ge gu) co.toInt cl.toInt n m (aa_s i j t) r → wX_fillReached_56 post J36 J46 (nI i) (nI j) (e + 1) (nI t) (nI n) (nI m) ge gu co cl xu xl a b r d := by
  intro e
  induction e with
  | zero =>
    intro t r ht hR
    refine pk_le 3 t (fun _ => nm_r (nI_1 j) (hp r ?_)) (fun q => by omega)
    have e : aa_s i (j + 1) 0 = aa_s i j t := by unfold aa_s; omega
    rw [e]
    exact hR
  | succ e ih =>
    intro t r ht hR
    refine pk_le 3 t (fun q => by omega) (fun _ => ?_)
    exact xa_mm H hT hi hj (by omega) hR (fun r' hR' => nm_r (nI_1 t) (ih (t + 1) r' (by omega) hR'))
theorem xa_r46 {post : SX → Prop} {J36 : Int32 → Int32 → Int32 → Int32 → Int32 → Int32 → Int32 → (Nat → Int32) → (Nat → Int32) → (Nat → Int32) → (Nat → Int32) → (Nat → Int32) → (Nat → Int32) → Prop} {i : Nat} (H : aa_Ok (aa_g xu xl ge gu) co.toInt cl.toInt n m) (hT : aa_Tab (aa_VS (aa_g xu xl ge gu) co.toInt cl.toInt n m 0) n m 0 a) (hi : i ≤ n)
    (hp : ∀ r', aa_RI (aa_g xu xl ge gu) co.toInt cl.toInt n m (aa_s (i + 1) 0 0) r' → J36 (nI (i + 1)) (nI n) (nI m) ge gu co cl xu xl a b r' d) :
    ∀ (e j : Nat) (r : Nat → Int32), j + e = m + 1 → aa_RI (aa_g xu xl ge gu) co.toInt cl.toInt n m (aa_s i j 0) r → wX_fillReached_46 post J36 (nI i) (e + 1) (nI j) (nI n) (nI m) ge gu co cl xu xl a b r d := by
  have hm := H.2.2.2.2.2.2
  intro e
  induction e with
  | zero =>
    intro j r hj hR
    refine pk_lt m j (fun _ => nm_r (nI_1 i) (hp r ⟨hR.1, hR.2.1, ?_⟩)) (fun q => by omega)
    intro i' j' t' s' hi' hj' ht' hs' hlt' hm' htg'
    refine hR.2.2 i' j' t' s' hi' hj' ht' hs' ?_ hm' htg'
    unfold aa_s at hlt' ⊢
    omega
  | succ e ih =>
    intro j r hj hR
    refine pk_lt m j (fun q => by omega) (fun _ => ⟨4, ?_⟩)
    exact xa_r56 H hT hi (by omega) (fun r' hR' => ih (j + 1) r' (by omega) hR') 3 0 r (by omega) hR
theorem xa_r36 {post : SX → Prop} (H : aa_Ok (aa_g xu xl ge gu) co.toInt cl.toInt n m) (hT : aa_Tab (aa_VS (aa_g xu xl ge gu) co.toInt cl.toInt n m 0) n m 0 a)
    (hp : ∀ r', aa_RI (aa_g xu xl ge gu) co.toInt cl.toInt n m (aa_s (n + 1) 0 0) r' → post (nI n, nI m, ge, gu, co, cl, xu, xl, a, b, r', d)) :
    ∀ (e i : Nat) (r : Nat → Int32), i + e = n + 1 → aa_RI (aa_g xu xl ge gu) co.toInt cl.toInt n m (aa_s i 0 0) r → wX_fillReached_36 post (e + 1) (nI i) (nI n) (nI m) ge gu co cl xu xl a b r d := by
  have hn := H.2.2.2.2.2.1
  intro e
  induction e with
  | zero =>
    intro i r hi hR
    have e : i = n + 1 := by omega
    subst e
    exact pk_lt n (n + 1) (fun _ => hp r hR) (fun q => by omega)
  | succ e ih =>
    intro i r hi hR
    refine pk_lt n i (fun q => by omega) (fun _ => ⟨m + 1 + 1, ?_⟩)
    exact xa_r46 H hT (by omega) (fun r' hR' => ih (i + 1) r' (by omega) hR') (m + 1) 0 r (by omega) hR
theorem xa_fr {post : SX → Prop} (H : aa_Ok (aa_g xu xl ge gu) co.toInt cl.toInt n m) (hT : aa_Tab (aa_VS (aa_g xu xl ge gu) co.toInt cl.toInt n m 0) n m 0 a)
    (hp : ∀ r', aa_RI (aa_g xu xl ge gu) co.toInt cl.toInt n m (aa_s (n + 1) 0 0) r' → post (nI n, nI m, ge, gu, co, cl, xu, xl, a, b, r', d)) : wpX_fillReached post (nI n, nI m, ge, gu, co, cl, xu, xl, a, b, r, d) := by
  have hn := H.2.2.2.2.2.1
  have hm := H.2.2.2.2.2.2
  refine loop_0 (fun k c r' => wX_fillReached_2 post (nI n) (nI m) ge gu co cl k (nI c) xu xl a b r' d) (fun c r' => ∀ k, k < c → r' k = 0) 363 r (fun _ q => absurd q (Nat.not_lt_zero _)) ?_ ?_
  · intro k r' hI
    refine pk_le 363 363 (fun _ => ?_) (fun q => by omega)
    refine xa_state (i := 0) (j := 0) (t := 0) ⟨pk_in (aa_s 0 0 0) 363 (by decide), ?_⟩
    rw [nI_clamp (by decide), aa_b1]
    refine nm_e ⟨n + 1 + 1, ?_⟩
    refine xa_r36 H hT hp (n + 1) 0 _ (by omega) ⟨?_, ?_, ?_⟩
    · rw [pk_us]
      exact xa_1
    · intro i j t hi hj ht hr
      by_cases e : aa_s i j t = aa_s 0 0 0
      · exact Or.inl (aa_s_inj (by omega) ht (by omega) (by decide) e)
      · rw [pk_un e] at hr
        exact absurd (hI _ (aa_s_lt (by omega) (by omega) ht)) hr
    · intro i j t s hi hj ht hs hlt
      exact absurd hlt (Nat.not_lt_zero _)
  · intro k c r' hc hI hn'
    refine pk_le 363 c (fun q => by omega) (fun _ => ⟨pk_in c 363 hc, ?_⟩)
    rw [nI_clamp (by omega), aa_b0]
    refine nm_e (nm_r (nI_1 c) (hn' _ ?_))
    intro k' hk'
    by_cases e : k' = c
    · subst e
      exact pk_us
    · rw [pk_un e]
      exact hI k' (by omega)
theorem xa_p38 {post : Int32 → SX → Prop} {i j : Nat} (H : aa_Ok (aa_g xu xl ge gu) co.toInt cl.toInt n m) (hT : aa_Tab (aa_VS (aa_g xu xl ge gu) co.toInt cl.toInt n m 0) n m 0 a) (hi : i ≤ n) (hj : j ≤ m)
    (h1 : (∃ t, t < 3 ∧ (¬ r (aa_s i j t) = 0) ∧ aa_tg (aa_g xu xl ge gu) co.toInt cl.toInt n m 0 i j t 0) → post 1 (nI n, nI m, ge, gu, co, cl, xu, xl, a, b, r, d)) (h0 : ¬ (∃ t, t < 3 ∧ (¬ r (aa_s i j t) = 0) ∧ aa_tg (aa_g xu xl ge gu) co.toInt cl.toInt n m 0 i j t 0) → post 0 (nI n, nI m, ge, gu, co, cl, xu, xl, a, b, r, d)) :
    ∀ (e t : Nat), t + e = 3 → (∀ t', t' < t → ¬ ((¬ r (aa_s i j t') = 0) ∧ aa_tg (aa_g xu xl ge gu) co.toInt cl.toInt n m 0 i j t' 0)) → wX_paired_38 post (nI i) (nI j) (nI n) (nI m) ge gu co cl xu xl a b r d (e + 1) (nI t) := by
  have hn := H.2.2.2.2.2.1
  have hm := H.2.2.2.2.2.2
  intro e
  induction e with
  | zero =>
    intro t ht hd
    refine pk_le 3 t (fun _ => h0 ?_) (fun q => by omega)
    rintro ⟨t', ht', q⟩
    exact hd t' (by omega) q
  | succ e ih =>
    intro t ht hd
    have hlt : aa_s i j t < 363 := aa_s_lt (by omega) (by omega) (by omega)
    have hnext : ¬ ((¬ r (aa_s i j t) = 0) ∧ aa_tg (aa_g xu xl ge gu) co.toInt cl.toInt n m 0 i j t 0) → wX_paired_38 post (nI i) (nI j) (nI n) (nI m) ge gu co cl xu xl a b r d (e + 1) (nI (t + 1)) := by
      intro q
      refine ih (t + 1) (by omega) (fun t' ht' => ?_)
      by_cases e : t' = t
      · subst e
        exact q
      · exact hd t' (by omega)
    refine pk_le 3 t (fun q => by omega) (fun _ => ?_)
    refine xa_state ⟨pk_in _ 363 hlt, ?_⟩
    rw [nI_clamp (by omega)]
    refine ⟨fun q => nm_r (nI_1 t) (hnext (fun z => z.1 q)), fun q => ?_⟩
    exact xa_bm (s := 0) H hT hi hj (by omega) (by decide) (fun g1 => br_f xa_1 (h1 ⟨t, by omega, q, g1⟩)) (fun g0 => br_t rfl (nm_r (nI_1 t) (hnext (fun z => g0 z.2))))
end
