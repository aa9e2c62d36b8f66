/-! 13: the relation, and what is owed -/
def aa_St (n m : Nat) (ge gu co cl : Int32) (xu xl yt yn : Nat → Int32) : Prop := n ≤ 10 ∧ m ≤ 10 ∧ yn 0 = nI n ∧ yn 1 = nI m ∧ (∀ i, i < n → yt i = xu i) ∧ (∀ j, j < m → yt (10 + j) = xl j) ∧ aa_R4 ge gu co cl
/-- letters, counts and rules alike; the working tables are free -/
def i_Rel (_ : Nat) (u : SX) (v : SY) : Prop := ∃ (n m : Nat) (ge gu co cl : Int32) (xu xl a b r d yt yn a2 b2 : Nat → Int32), u = (nI n, nI m, ge, gu, co, cl, xu, xl, a, b, r, d) ∧ v = (ge, gu, co, cl, yt, yn, a2, b2) ∧ aa_St n m ge gu co cl xu xl yt yn
theorem i_up {k : Nat} {u : SX} {v : SY} (h : i_Rel k u v) : i_Rel (k + 5) u v := h
theorem aa_St_ok {n m : Nat} {ge gu co cl : Int32} {xu xl yt yn : Nat → Int32} (S : aa_St n m ge gu co cl xu xl yt yn) : aa_Ok (aa_g xu xl ge gu) co.toInt cl.toInt n m := by
  obtain ⟨h1, h2, h3, h4, h5, h6, h7, h8, h9, h10⟩ := S
  refine ⟨fun i j _ _ => ?_, h9.1, h9.2, h10.1, h10.2, h1, h2⟩
  unfold aa_g
  split
  · exact h7
  · exact h8
theorem aa_St_hg {n m : Nat} {ge gu co cl : Int32} {xu xl yt yn : Nat → Int32} (S : aa_St n m ge gu co cl xu xl yt yn) : ∀ i j, i < n → j < m → (if yt i = yt (10 + j) then ge else gu) = aa_i (aa_g xu xl ge gu i j) := by
  intro i j hi hj
  rw [aa_g, aa_i_of, S.2.2.2.2.1 i hi, S.2.2.2.2.2.1 j hj]
theorem i_vc0 : wpX_init (fun u => wpY_init (fun v => i_Rel 0 u v)) :=
  ⟨0, 0, 2, -1, 2, 1, fun _ => 0, fun _ => 0, fun _ => 0, fun _ => 0, fun _ => 0, fun _ => 0, fun _ => 0, fun _ => 0, fun _ => 0, fun _ => 0, rfl, rfl, by omega, by omega, rfl, rfl, fun _ h => absurd h (Nat.not_lt_zero _), fun _ h => absurd h (Nat.not_lt_zero _), by decide, by decide, by decide, by decide⟩
theorem aa_l3 (x : Int32) : x < 4 ↔ x ≤ 3 := by
  rw [Int32.lt_iff_toInt_lt, Int32.le_iff_toInt_le]
  show x.toInt < 4 ↔ x.toInt ≤ 3
  omega
theorem i_vc_type {k : Nat} {u : SX} {v : SY} (I : i_Rel k u v) (hk : k + 5 ≤ 2560) (v1 : Int32) (v2 : Int32) : wpX_type (fun r u' => wpY_type (fun r' v' => r' = r ∧ i_Rel (k + 5) u' v') v v1 v2) u v1 v2 := by
  have R : i_Rel (k + 5) u v := I
  obtain ⟨n, m, ge, gu, co, cl, xu, xl, a, b, r, d, yt, yn, a2, b2, rfl, rfl, S⟩ := I
  have S' := S
  obtain ⟨h1, h2, h3, h4, h5, h6, h7⟩ := S
  refine br_c (fun c1 => br_t c1 ⟨rfl, R⟩) (fun c1 => br_c (fun c2 => br_f c1 (br_t c2 ⟨rfl, R⟩)) (fun c2 => br_c (fun c3 => br_f c1 (br_f c2 (br_t c3 ⟨rfl, R⟩))) (fun c3 => br_c (fun c4 => ?_) (fun c4 => br_f c1 (br_f c2 (br_f c3 (br_f (fun z => c4 ((aa_l3 v2).mpr z)) ⟨rfl, R⟩)))))))
  have c4' := (aa_l3 v2).mp c4
  obtain ⟨q, hq, rfl⟩ := nI_of2 (n := 1) (M := 1) (by decide) c1 (Int32.not_lt.mp c2)
  refine pk_eq q 0 (fun e => ?_) (fun e => ?_)
  · subst e
    refine xa_tU h1 (fun z => ?_) (fun z => ?_)
    · refine ya_type (q := 0) (N := n) (by omega) h3 h1 c3 c4' (fun _ => ⟨rfl, R⟩) (fun y => by omega)
    · refine ya_type (q := 0) (N := n) (by omega) h3 h1 c3 c4' (fun y => by omega) (fun _ => ⟨rfl, n + 1, m, ge, gu, co, cl, upd xu n v2, xl, a, b, r, d, upd yt (0 * 10 + n) v2, upd yn 0 (nI (n + 1)), a2, b2, rfl, rfl, by omega, h2, pk_us, ?_, ?_, ?_, h7⟩)
      · rw [pk_un (by decide)]
        exact h4
      · intro i hi
        by_cases e : i = n
        · subst e
          rw [pk_us, show 0 * 10 + i = i by omega, pk_us]
        · rw [pk_un e, pk_un (by omega)]
          exact h5 i (by omega)
      · intro j hj
        rw [pk_un (by omega)]
        exact h6 j hj
  · have e : q = 1 := by omega
    subst e
    refine xa_tL h2 (fun z => ?_) (fun z => ?_)
    · refine ya_type (q := 1) (N := m) (by omega) h4 h2 c3 c4' (fun _ => ⟨rfl, R⟩) (fun y => by omega)
    · refine ya_type (q := 1) (N := m) (by omega) h4 h2 c3 c4' (fun y => by omega) (fun _ => ⟨rfl, n, m + 1, ge, gu, co, cl, xu, upd xl m v2, a, b, r, d, upd yt (1 * 10 + m) v2, upd yn 1 (nI (m + 1)), a2, b2, rfl, rfl, h1, by omega, ?_, pk_us, ?_, ?_, h7⟩)
      · rw [pk_un (by decide)]
        exact h3
      · intro i hi
        rw [pk_un (by omega)]
        exact h5 i hi
      · intro j hj
        by_cases e : j = m
        · subst e
          rw [pk_us, pk_us]
        · rw [pk_un e, pk_un (by omega)]
          exact h6 j (by omega)
theorem i_vc_wipe {k : Nat} {u : SX} {v : SY} (I : i_Rel k u v) (hk : k + 5 ≤ 2560) (v1 : Int32) : wpX_wipe (fun r u' => wpY_wipe (fun r' v' => r' = r ∧ i_Rel (k + 5) u' v') v v1) u v1 := by
  have R : i_Rel (k + 5) u v := I
  obtain ⟨n, m, ge, gu, co, cl, xu, xl, a, b, r, d, yt, yn, a2, b2, rfl, rfl, S⟩ := I
  obtain ⟨h1, h2, h3, h4, h5, h6, h7⟩ := S
  refine br_c (fun c => ?_) (fun c => br_c (fun c' => ?_) (fun c' => ?_))
  · subst c
    refine br_f (by decide) (br_t (by decide) ⟨pk_in 0 2 (by decide), nm_e ⟨pk_in 0 2 (by decide), nm_e ⟨h3, 0, m, ge, gu, co, cl, xu, xl, a, b, r, d, yt, upd yn 0 0, a2, b2, rfl, rfl, by omega, h2, rfl, ?_, fun _ h => absurd h (Nat.not_lt_zero _), h6, h7⟩⟩⟩)
    rw [pk_un (by decide)]
    exact h4
  · subst c'
    refine br_f (by decide) (br_t (by decide) ⟨pk_in 1 2 (by decide), nm_e ⟨pk_in 1 2 (by decide), nm_e ⟨h4, n, 0, ge, gu, co, cl, xu, xl, a, b, r, d, yt, upd yn 1 0, a2, b2, rfl, rfl, h1, by omega, ?_, rfl, h5, fun _ h => absurd h (Nat.not_lt_zero _), h7⟩⟩⟩)
    rw [pk_un (by decide)]
    exact h3
  · rcases pk_ix v1 (n := 2) (by decide) with z | z | ⟨q, hq, rfl⟩
    · exact br_t z ⟨rfl, R⟩
    · have z1 : ¬ v1 < 0 := fun y => by
        rw [Int32.lt_iff_toInt_lt] at y
        rw [Int32.le_iff_toInt_le] at z
        have z' : (2 : Int) ≤ v1.toInt := z
        have y' : v1.toInt < (0 : Int) := y
        omega
      have z2 : ¬ v1 ≤ 1 := fun y => by
        rw [Int32.le_iff_toInt_le] at y z
        have z' : (2 : Int) ≤ v1.toInt := z
        have y' : v1.toInt ≤ (1 : Int) := y
        omega
      exact br_f z1 (br_f z2 ⟨rfl, R⟩)
    · match q, hq with
      | 0, _ => exact absurd rfl c
      | 1, _ => exact absurd rfl c'
theorem i_vc_rules {k : Nat} {u : SX} {v : SY} (I : i_Rel k u v) (hk : k + 5 ≤ 2560) (v1 : Int32) (v2 : Int32) (v3 : Int32) (v4 : Int32) : wpX_rules (fun r u' => wpY_rules (fun r' v' => r' = r ∧ i_Rel (k + 5) u' v') v v1 v2 v3 v4) u v1 v2 v3 v4 := by
  have R : i_Rel (k + 5) u v := I
  obtain ⟨n, m, ge, gu, co, cl, xu, xl, a, b, r, d, yt, yn, a2, b2, rfl, rfl, S⟩ := I
  obtain ⟨h1, h2, h3, h4, h5, h6, h7⟩ := S
  exact xa_rules (fun z => ya_rules (fun _ => ⟨rfl, n, m, v1, v2, v3, v4, xu, xl, a, b, r, d, yt, yn, a2, b2, rfl, rfl, h1, h2, h3, h4, h5, h6, z⟩) (fun y => absurd z y)) (fun z => ya_rules (fun y => absurd y z) (fun _ => ⟨rfl, R⟩))
theorem i_vc_best {k : Nat} {u : SX} {v : SY} (I : i_Rel k u v) (hk : k + 5 ≤ 2560) : wpX_best (fun r u' => wpY_best (fun r' v' => r' = r ∧ i_Rel (k + 5) u' v') v) u := by
  obtain ⟨n, m, ge, gu, co, cl, xu, xl, a, b, r, d, yt, yn, a2, b2, rfl, rfl, S⟩ := I
  have H := aa_St_ok S
  have hg := aa_St_hg S
  unfold wpX_best
  dsimp only
  refine xa_fs (h := 0) (Or.inl ⟨rfl, rfl, rfl⟩) H (fun a' hT => ?_)
  dsimp only
  refine xa_state (i := 0) (j := 0) (t := 0) ⟨pk_in (aa_s 0 0 0) 363 (by decide), ?_⟩
  rw [nI_clamp (by decide), hT 0 0 0 (Nat.zero_le _) (Nat.zero_le _) (by decide) (Nat.zero_le _)]
  exact ya_best H hg S.2.2.1 S.2.2.2.1 (fun a3 b3 _ => ⟨rfl, n, m, ge, gu, co, cl, xu, xl, a', b, r, d, yt, yn, a3, b3, rfl, rfl, S⟩)
theorem i_vc_ways {k : Nat} {u : SX} {v : SY} (I : i_Rel k u v) (hk : k + 5 ≤ 2560) : wpX_ways (fun r u' => wpY_ways (fun r' v' => r' = r ∧ i_Rel (k + 5) u' v') v) u := by
  obtain ⟨n, m, ge, gu, co, cl, xu, xl, a, b, r, d, yt, yn, a2, b2, rfl, rfl, S⟩ := I
  have H := aa_St_ok S
  have hg := aa_St_hg S
  unfold wpX_ways
  dsimp only
  refine xa_fs (h := 0) (Or.inl ⟨rfl, rfl, rfl⟩) H (fun a' hT => ?_)
  dsimp only
  refine xa_fc H hT (fun b' hC => ?_)
  dsimp only
  refine xa_state (i := 0) (j := 0) (t := 0) ⟨pk_in (aa_s 0 0 0) 363 (by decide), ?_⟩
  rw [nI_clamp (by decide), hC 0 0 0 (Nat.zero_le _) (Nat.zero_le _) (by decide) (Nat.zero_le _)]
  unfold wpY_ways
  dsimp only
  rw [S.2.2.1, S.2.2.2.1]
  refine ya_work (h := 0) H hg (by decide) (fun a3 b3 hY => ⟨?_, n, m, ge, gu, co, cl, xu, xl, a', b', r, d, yt, yn, a3, b3, rfl, rfl, S⟩)
  have e := (hY 0 0 0 (Nat.zero_le _) (Nat.zero_le _) (by decide) (Nat.zero_le _)).2
  rw [← aa_V0] at e
  exact e
theorem i_vc_column {k : Nat} {u : SX} {v : SY} (I : i_Rel k u v) (hk : k + 5 ≤ 2560) (v1 : Int32) : wpX_column (fun r u' => wpY_column (fun r' v' => r' = r ∧ i_Rel (k + 5) u' v') v v1) u v1 := by
  obtain ⟨n, m, ge, gu, co, cl, xu, xl, a, b, r, d, yt, yn, a2, b2, rfl, rfl, S⟩ := I
  have H := aa_St_ok S
  have hg := aa_St_hg S
  have hn := S.1
  have hm := S.2.1
  obtain ⟨L, hL, hE, hLI, hA⟩ := aa_wk_L H
  unfold wpX_column
  dsimp only
  refine xa_fs (h := 0) (Or.inl ⟨rfl, rfl, rfl⟩) H (fun a' hT => ?_)
  dsimp only
  refine xa_tf H hT hL hE hA (fun d' hd => ?_)
  dsimp only
  have R : ∀ a3 b3, i_Rel (k + 5) (nI n, nI m, ge, gu, co, cl, xu, xl, a', b, r, d') (ge, gu, co, cl, yt, yn, a3, b3) := fun a3 b3 => ⟨n, m, ge, gu, co, cl, xu, xl, a', b, r, d', yt, yn, a3, b3, rfl, rfl, S⟩
  by_cases c : v1 < 0
  · exact br_t c (br_f (Int32.not_le.mpr c) ⟨rfl, R _ _⟩)
  · obtain ⟨q, hq, rfl⟩ := nI_of c
    refine br_f c (pk_lt q L (fun z => ⟨pk_in q 20 (by omega), ?_⟩) (fun z => ?_))
    · rw [nI_clamp hq, hd q z]
      refine br_t (nI_pos' hq) (ya_walk H hg S.2.2.1 S.2.2.2.1 hL hE hLI hA (fun a3 b3 y => absurd rfl (y q z)) (fun a3 b3 k' hk' e => ?_))
      have e' : k' = q := (nI_eq (by omega) hq).mp e
      subst e'
      exact ⟨rfl, R a3 b3⟩
    · refine br_t (nI_pos' hq) (ya_walk H hg S.2.2.1 S.2.2.2.1 hL hE hLI hA (fun a3 b3 y => br_t (nI_pos' hq) ⟨rfl, R a3 b3⟩) (fun a3 b3 k' hk' e => ?_))
      have e' : k' = q := (nI_eq (by omega) hq).mp e
      omega
theorem i_vc_columns {k : Nat} {u : SX} {v : SY} (I : i_Rel k u v) (hk : k + 5 ≤ 2560) : wpX_columns (fun r u' => wpY_columns (fun r' v' => r' = r ∧ i_Rel (k + 5) u' v') v) u := by
  obtain ⟨n, m, ge, gu, co, cl, xu, xl, a, b, r, d, yt, yn, a2, b2, rfl, rfl, S⟩ := I
  have H := aa_St_ok S
  have hg := aa_St_hg S
  have hn := S.1
  have hm := S.2.1
  obtain ⟨L, hL, hE, hLI, hA⟩ := aa_wk_L H
  unfold wpX_columns
  dsimp only
  refine xa_fs (h := 0) (Or.inl ⟨rfl, rfl, rfl⟩) H (fun a' hT => ?_)
  dsimp only
  refine xa_tf H hT hL hE hA (fun d' hd => ?_)
  dsimp only
  unfold wpY_columns
  dsimp only
  refine ya_walk H hg S.2.2.1 S.2.2.2.1 hL hE hLI hA (fun a3 b3 y => br_f (by decide) ⟨rfl, n, m, ge, gu, co, cl, xu, xl, a', b, r, d', yt, yn, a3, b3, rfl, rfl, S⟩) (fun a3 b3 k' hk' e => ?_)
  have h1 : ¬ nI k' < 0 := nI_pos (by omega)
  rw [e] at h1
  exact absurd (by decide) h1
theorem i_vc_local {k : Nat} {u : SX} {v : SY} (I : i_Rel k u v) (hk : k + 5 ≤ 2560) : wpX_local (fun r u' => wpY_local (fun r' v' => r' = r ∧ i_Rel (k + 5) u' v') v) u := by
  obtain ⟨n, m, ge, gu, co, cl, xu, xl, a, b, r, d, yt, yn, a2, b2, rfl, rfl, S⟩ := I
  have H := aa_St_ok S
  have hg := aa_St_hg S
  unfold wpX_local
  dsimp only
  refine xa_fs (h := 1) (Or.inr (Or.inl ⟨rfl, rfl, rfl⟩)) H (fun a' hT => ?_)
  dsimp only
  refine xa_gs H hT (Nat.le_refl n) (Nat.le_refl m) (fun z hz => ?_)
  exact ya_local H hg S.2.2.1 S.2.2.2.1 (fun a3 b3 z' hz' => ⟨congrArg aa_i (aa_Mx_un hz' hz), n, m, ge, gu, co, cl, xu, xl, a', b, r, d, yt, yn, a3, b3, rfl, rfl, S⟩)
theorem i_vc_fitted {k : Nat} {u : SX} {v : SY} (I : i_Rel k u v) (hk : k + 5 ≤ 2560) : wpX_fitted (fun r u' => wpY_fitted (fun r' v' => r' = r ∧ i_Rel (k + 5) u' v') v) u := by
  obtain ⟨n, m, ge, gu, co, cl, xu, xl, a, b, r, d, yt, yn, a2, b2, rfl, rfl, S⟩ := I
  have H := aa_St_ok S
  have hg := aa_St_hg S
  unfold wpX_fitted
  dsimp only
  refine xa_fs (h := 2) (Or.inr (Or.inr ⟨rfl, rfl, rfl⟩)) H (fun a' hT => ?_)
  dsimp only
  refine xa_gs (I := 0) H hT (Nat.zero_le n) (Nat.le_refl m) (fun z hz => ?_)
  exact ya_fitted H hg S.2.2.1 S.2.2.2.1 (fun a3 b3 z' hz' => ⟨congrArg aa_i (aa_Mx_un hz' hz), n, m, ge, gu, co, cl, xu, xl, a', b, r, d, yt, yn, a3, b3, rfl, rfl, S⟩)
theorem i_vc_overlap {k : Nat} {u : SX} {v : SY} (I : i_Rel k u v) (hk : k + 5 ≤ 2560) : wpX_overlap (fun r u' => wpY_overlap (fun r' v' => r' = r ∧ i_Rel (k + 5) u' v') v) u := by
  obtain ⟨n, m, ge, gu, co, cl, xu, xl, a, b, r, d, yt, yn, a2, b2, rfl, rfl, S⟩ := I
  have H := aa_St_ok S
  have hg := aa_St_hg S
  unfold wpX_overlap
  dsimp only
  refine xa_fs (h := 2) (Or.inr (Or.inr ⟨rfl, rfl, rfl⟩)) H (fun a' hT => ?_)
  dsimp only
  refine xa_gs (J := 0) H hT (Nat.le_refl n) (Nat.zero_le m) (fun z hz => ?_)
  exact ya_overlap H hg S.2.2.1 S.2.2.2.1 (fun a3 b3 z' hz' => ⟨congrArg aa_i (aa_Mx_un hz' hz), n, m, ge, gu, co, cl, xu, xl, a', b, r, d, yt, yn, a3, b3, rfl, rfl, S⟩)
theorem i_vc_paired {k : Nat} {u : SX} {v : SY} (I : i_Rel k u v) (hk : k + 5 ≤ 2560) (v1 : Int32) (v2 : Int32) : wpX_paired (fun r u' => wpY_paired (fun r' v' => r' = r ∧ i_Rel (k + 5) u' v') v v1 v2) u v1 v2 := by
  have R : i_Rel (k + 5) u v := I
  obtain ⟨n, m, ge, gu, co, cl, xu, xl, a, b, r, d, yt, yn, a2, b2, rfl, rfl, S⟩ := I
  have H := aa_St_ok S
  have hg := aa_St_hg S
  have hn := S.1
  have hm := S.2.1
  have h3 := S.2.2.1
  have h4 := S.2.2.2.1
  refine br_c (fun c1 => br_t c1 ⟨rfl, R⟩) (fun c1 => br_c (fun c2 => br_f c1 (br_t (by rw [h3]; exact c2) ⟨rfl, R⟩)) (fun c2 => br_c (fun c3 => br_f c1 (br_f (by rw [h3]; exact c2) (br_t c3 ⟨rfl, R⟩))) (fun c3 => br_c (fun c4 => ?_) (fun c4 => br_f c1 (br_f (by rw [h3]; exact c2) (br_f c3 (br_f (by rw [h4]; exact c4) ⟨rfl, R⟩)))))))
  obtain ⟨p, hp, rfl⟩ := nI_of c1
  obtain ⟨q, hq, rfl⟩ := nI_of c3
  rw [nI_leI (by omega) hp] at c2
  rw [nI_ltI hq (by omega)] at c4
  refine xa_fs (h := 0) (Or.inl ⟨rfl, rfl, rfl⟩) H (fun a' hT => ?_)
  dsimp only
  refine xa_fr H hT (fun r' hR => ⟨4, ?_⟩)
  have P := aa_pair H (show p < n by omega) c4 (fun i j t => ¬ r' (aa_s i j t) = 0) hR.1 (fun i j t s hi hj ht hs hr htg => hR.2.2 i j t s hi hj ht hs (by unfold aa_s; omega) hr htg) hR.2.1
  have R' : ∀ a3 b3, i_Rel (k + 5) (nI n, nI m, ge, gu, co, cl, xu, xl, a', b, r', d) (ge, gu, co, cl, yt, yn, a3, b3) := fun a3 b3 => ⟨n, m, ge, gu, co, cl, xu, xl, a', b, r', d, yt, yn, a3, b3, rfl, rfl, S⟩
  refine xa_p38 H hT (by omega) (by omega) (fun z => ?_) (fun z => ?_) 3 0 (by omega) (fun _ y => absurd y (Nat.not_lt_zero _))
  · exact ya_paired H hg h3 h4 (by omega) c4 (fun _ a3 b3 => ⟨rfl, R' a3 b3⟩) (fun y => absurd (P.mp z) y)
  · exact ya_paired H hg h3 h4 (by omega) c4 (fun y => absurd (P.mpr y) z) (fun _ a3 b3 => ⟨rfl, R' a3 b3⟩)
