/-! 12: the reference's greatest starts, paired, type and rules -/
section
variable {g : Nat → Nat → Int} {n m h : Nat} {ge gu co cl : Int32} {yt yn a b : Nat → Int32}
theorem aa_ix0 (i j : Nat) : ((nI i * 11) + nI j) * 3 = nI (aa_s i j 0) := by
  have e := aa_s_nI i j 0
  rw [nI_0, Int32.add_zero] at e
  exact e
theorem aa_ixj (j : Nat) : nI j * 3 = nI (aa_s 0 j 0) := by
  have e := pk_mul j 3
  rw [show j * 3 = aa_s 0 j 0 by unfold aa_s; omega] at e
  exact e
theorem aa_ixi (i : Nat) : nI i * 33 = nI (aa_s i 0 0) := by
  have e := pk_mul i 33
  rw [show i * 33 = aa_s i 0 0 by unfold aa_s; omega] at e
  exact e
theorem ya_l33 {post : Int32 → SY → Prop} {J21 : Int32 → Int32 → Prop} {i : Nat} {z0 : Int} (H : aa_Ok g co.toInt cl.toInt n m) (h1 : yn 1 = nI m) (hT : aa_TY g co.toInt cl.toInt n m h 0 a b) (hi : i ≤ n) (b0 : -1000000 ≤ z0) (b0' : z0 ≤ 360)
    (hp : ∀ z, aa_MI (fun i j => aa_sc (aa_V g co.toInt cl.toInt n m h i j 0)) n m z0 (i + 1) 0 z → J21 (aa_i z) (nI (i + 1))) :
    ∀ (e j : Nat) (z : Int), j + e = m + 1 → aa_MI (fun i j => aa_sc (aa_V g co.toInt cl.toInt n m h i j 0)) n m z0 i j z → wY_local_33 post J21 (nI i) ge gu co cl yt yn a b (e + 1) (aa_i z) (nI j) := by
  have hn := H.2.2.2.2.2.1
  have hm := H.2.2.2.2.2.2
  intro e
  induction e with
  | zero =>
    intro j z hj hM
    exact pk_lt m j (fun _ => nm_r (nI_1 i) (hp z (aa_MI_r hM (by omega)))) (fun q => by omega) h1
  | succ e ih =>
    intro j z hj hM
    have hlt : aa_s i j 0 < 363 := aa_s_lt (by omega) (by omega) (by decide)
    have bv := aa_V_in (h := h) H (show i ≤ n by omega) (show j ≤ m by omega) 0
    have bz := aa_MI_in hM (fun i' j' hi' hj' => aa_V_in (h := h) H (by omega) (by omega) 0) b0 b0'
    have hs := aa_MI_s hM hi (by omega)
    have hT' := (hT i j 0 (by omega) (by omega) (by decide) (Nat.zero_le _)).1
    rw [← aa_V0] at hT'
    refine pk_lt m j (fun q => by omega) (fun _ => ?_) h1
    rw [aa_ix0]
    refine ⟨pk_in _ 363 hlt, ?_⟩
    rw [nI_clamp (by omega), hT', aa_i_le (by omega) (by omega) (by omega) (by omega)]
    exact ⟨fun q => nm_r (nI_1 j) (ih (j + 1) _ (by omega) (hs.1 q)), fun q => ⟨pk_in _ 363 hlt, nm_e (nm_r (nI_1 j) (ih (j + 1) _ (by omega) (hs.2 q)))⟩⟩
theorem ya_l21 {post : Int32 → SY → Prop} {z0 : Int} (H : aa_Ok g co.toInt cl.toInt n m) (h0 : yn 0 = nI n) (h1 : yn 1 = nI m) (hT : aa_TY g co.toInt cl.toInt n m h 0 a b) (b0 : -1000000 ≤ z0) (b0' : z0 ≤ 360) (hz : z0 ≤ aa_sc (aa_V g co.toInt cl.toInt n m h 0 0 0))
    (hp : ∀ z, aa_Mx (fun i j => aa_sc (aa_V g co.toInt cl.toInt n m h i j 0)) n m z → post (aa_i z) (ge, gu, co, cl, yt, yn, a, b)) :
    ∀ (e i : Nat) (z : Int), i + e = n + 1 → aa_MI (fun i j => aa_sc (aa_V g co.toInt cl.toInt n m h i j 0)) n m z0 i 0 z → wY_local_21 post ge gu co cl yt yn a b (e + 1) (aa_i z) (nI i) := by
  have hn := H.2.2.2.2.2.1
  have hm := H.2.2.2.2.2.2
  intro e
  induction e with
  | zero =>
    intro i z hi hM
    exact pk_lt n i (fun _ => hp z (aa_MI_e hM (by omega) hz)) (fun q => by omega) h0
  | succ e ih =>
    intro i z hi hM
    refine pk_lt n i (fun q => by omega) (fun _ => ⟨m + 1 + 1, ?_⟩) h0
    exact ya_l33 H h1 hT (by omega) b0 b0' (fun z' hM' => ih (i + 1) z' (by omega) hM') (m + 1) 0 z (by omega) hM
theorem aa_V_ge0 (H : aa_Ok g co.toInt cl.toInt n m) : 0 ≤ aa_sc (aa_V g co.toInt cl.toInt n m 1 0 0 0) := by
  have h1 := (aa_top (h := 1) H (Nat.zero_le n) (Nat.zero_le m) 0).2.1
  exact h1 (0, 1) (if_pos (Or.inr (Or.inl rfl)))
theorem ya_local {post : Int32 → SY → Prop} (H : aa_Ok g co.toInt cl.toInt n m) (hg : ∀ i j, i < n → j < m → (if yt i = yt (10 + j) then ge else gu) = aa_i (g i j)) (h0 : yn 0 = nI n) (h1 : yn 1 = nI m)
    (hp : ∀ a b z, aa_Mx (fun i j => aa_sc (aa_V g co.toInt cl.toInt n m 1 i j 0)) n m z → post (aa_i z) (ge, gu, co, cl, yt, yn, a, b)) : wpY_local post (ge, gu, co, cl, yt, yn, a, b) := by
  unfold wpY_local
  dsimp only
  rw [h0, h1]
  refine ya_work (h := 1) H hg (by decide) (fun a' b' hT => ⟨n + 1 + 1, ?_⟩)
  have h2 := ya_l21 (post := post) H h0 h1 hT (z0 := 0) (by omega) (by omega) (aa_V_ge0 H) (hp a' b') (n + 1) 0 0 (by omega) (aa_MI_0 _ _ _ _)
  rw [aa_c0] at h2
  exact h2
theorem ya_f26 {post : Int32 → SY → Prop} (H : aa_Ok g co.toInt cl.toInt n m) (h1 : yn 1 = nI m) (hT : aa_TY g co.toInt cl.toInt n m h 0 a b)
    (hp : ∀ z, aa_Mx (fun i j => aa_sc (aa_V g co.toInt cl.toInt n m h i j 0)) 0 m z → post (aa_i z) (ge, gu, co, cl, yt, yn, a, b)) :
    ∀ (e j : Nat) (z : Int), j + e = m + 1 → aa_MI (fun i j => aa_sc (aa_V g co.toInt cl.toInt n m h i j 0)) 0 m (aa_sc (aa_V g co.toInt cl.toInt n m h 0 0 0)) 0 j z → wY_fitted_26 post ge gu co cl yt yn a b (e + 1) (aa_i z) (nI j) := by
  have hn := H.2.2.2.2.2.1
  have hm := H.2.2.2.2.2.2
  have b0 := aa_V_in (h := h) H (Nat.zero_le n) (Nat.zero_le m) 0
  intro e
  induction e with
  | zero =>
    intro j z hj hM
    exact pk_lt m j (fun _ => hp z (aa_MI_e (aa_MI_r hM (by omega)) (by omega) (Int.le_refl _))) (fun q => by omega) h1
  | succ e ih =>
    intro j z hj hM
    have hlt : aa_s 0 j 0 < 363 := aa_s_lt (by omega) (by omega) (by decide)
    have bv := aa_V_in (h := h) H (Nat.zero_le n) (show j ≤ m by omega) 0
    have bz := aa_MI_in hM (fun i' j' hi' hj' => aa_V_in (h := h) H (by omega) (by omega) 0) (by omega) (by omega)
    have hs := aa_MI_s hM (Nat.le_refl 0) (by omega)
    have hT' := (hT 0 j 0 (by omega) (by omega) (by decide) (Nat.zero_le _)).1
    rw [← aa_V0] at hT'
    refine pk_lt m j (fun q => by omega) (fun _ => ?_) h1
    rw [aa_ixj]
    refine ⟨pk_in _ 363 hlt, ?_⟩
    rw [nI_clamp (by omega), hT', aa_i_le (by omega) (by omega) (by omega) (by omega)]
    exact ⟨fun q => nm_r (nI_1 j) (ih (j + 1) _ (by omega) (hs.1 q)), fun q => ⟨pk_in _ 363 hlt, nm_e (nm_r (nI_1 j) (ih (j + 1) _ (by omega) (hs.2 q)))⟩⟩
theorem ya_o26 {post : Int32 → SY → Prop} (H : aa_Ok g co.toInt cl.toInt n m) (h0 : yn 0 = nI n) (hT : aa_TY g co.toInt cl.toInt n m h 0 a b)
    (hp : ∀ z, aa_Mx (fun i j => aa_sc (aa_V g co.toInt cl.toInt n m h i j 0)) n 0 z → post (aa_i z) (ge, gu, co, cl, yt, yn, a, b)) :
    ∀ (e i : Nat) (z : Int), i + e = n + 1 → aa_MI (fun i j => aa_sc (aa_V g co.toInt cl.toInt n m h i j 0)) n 0 (aa_sc (aa_V g co.toInt cl.toInt n m h 0 0 0)) i 0 z → wY_overlap_26 post ge gu co cl yt yn a b (e + 1) (aa_i z) (nI i) := by
  have hn := H.2.2.2.2.2.1
  have hm := H.2.2.2.2.2.2
  have b0 := aa_V_in (h := h) H (Nat.zero_le n) (Nat.zero_le m) 0
  intro e
  induction e with
  | zero =>
    intro i z hi hM
    exact pk_lt n i (fun _ => hp z (aa_MI_e hM (by omega) (Int.le_refl _))) (fun q => by omega) h0
  | succ e ih =>
    intro i z hi hM
    have hlt : aa_s i 0 0 < 363 := aa_s_lt (by omega) (by omega) (by decide)
    have bv := aa_V_in (h := h) H (show i ≤ n by omega) (Nat.zero_le m) 0
    have bz := aa_MI_in hM (fun i' j' hi' hj' => aa_V_in (h := h) H (by omega) (by omega) 0) (by omega) (by omega)
    have hs := aa_MI_s hM (show i ≤ n by omega) (Nat.le_refl 0)
    have hT' := (hT i 0 0 (by omega) (by omega) (by decide) (Nat.zero_le _)).1
    rw [← aa_V0] at hT'
    refine pk_lt n i (fun q => by omega) (fun _ => ?_) h0
    rw [aa_ixi]
    refine ⟨pk_in _ 363 hlt, ?_⟩
    rw [nI_clamp (by omega), hT', aa_i_le (by omega) (by omega) (by omega) (by omega)]
    exact ⟨fun q => nm_r (nI_1 i) (ih (i + 1) _ (by omega) (aa_MI_r (hs.1 q) (by omega))), fun q => ⟨pk_in _ 363 hlt, nm_e (nm_r (nI_1 i) (ih (i + 1) _ (by omega) (aa_MI_r (hs.2 q) (by omega))))⟩⟩
theorem ya_a0 (hT : aa_TY g co.toInt cl.toInt n m h 0 a b) : a 0 = aa_i (aa_sc (aa_V g co.toInt cl.toInt n m h 0 0 0)) := by
  have e := (hT 0 0 0 (Nat.zero_le _) (Nat.zero_le _) (by decide) (Nat.zero_le _)).1
  rw [← aa_V0] at e
  exact e
theorem ya_fitted {post : Int32 → SY → Prop} (H : aa_Ok g co.toInt cl.toInt n m) (hg : ∀ i j, i < n → j < m → (if yt i = yt (10 + j) then ge else gu) = aa_i (g i j)) (h0 : yn 0 = nI n) (h1 : yn 1 = nI m)
    (hp : ∀ a b z, aa_Mx (fun i j => aa_sc (aa_V g co.toInt cl.toInt n m 2 i j 0)) 0 m z → post (aa_i z) (ge, gu, co, cl, yt, yn, a, b)) : wpY_fitted post (ge, gu, co, cl, yt, yn, a, b) := by
  unfold wpY_fitted
  dsimp only
  rw [h0, h1]
  refine ya_work (h := 2) H hg (by decide) (fun a' b' hT => nm_r (ya_a0 hT) ⟨m + 1 + 1, ?_⟩)
  exact ya_f26 H h1 hT (hp a' b') (m + 1) 0 _ (by omega) (aa_MI_0 _ _ _ _)
theorem ya_overlap {post : Int32 → SY → Prop} (H : aa_Ok g co.toInt cl.toInt n m) (hg : ∀ i j, i < n → j < m → (if yt i = yt (10 + j) then ge else gu) = aa_i (g i j)) (h0 : yn 0 = nI n) (h1 : yn 1 = nI m)
    (hp : ∀ a b z, aa_Mx (fun i j => aa_sc (aa_V g co.toInt cl.toInt n m 2 i j 0)) n 0 z → post (aa_i z) (ge, gu, co, cl, yt, yn, a, b)) : wpY_overlap post (ge, gu, co, cl, yt, yn, a, b) := by
  unfold wpY_overlap
  dsimp only
  rw [h0, h1]
  refine ya_work (h := 2) H hg (by decide) (fun a' b' hT => nm_r (ya_a0 hT) ⟨n + 1 + 1, ?_⟩)
  exact ya_o26 H h0 hT (hp a' b') (n + 1) 0 _ (by omega) (aa_MI_0 _ _ _ _)
theorem ya_paired {post : Int32 → SY → Prop} {p q : Nat} (H : aa_Ok g co.toInt cl.toInt n m) (hg : ∀ i j, i < n → j < m → (if yt i = yt (10 + j) then ge else gu) = aa_i (g i j)) (h0 : yn 0 = nI n) (h1 : yn 1 = nI m) (hp : p < n) (hq : q < m)
    (k1 : aa_sc (aa_V g co.toInt cl.toInt p q 0 0 0 0) + (g p q + aa_sc (aa_V g co.toInt cl.toInt n m 0 (p + 1) (q + 1) 0)) = aa_sc (aa_V g co.toInt cl.toInt n m 0 0 0 0) → ∀ a b, post 1 (ge, gu, co, cl, yt, yn, a, b))
    (k0 : ¬ aa_sc (aa_V g co.toInt cl.toInt p q 0 0 0 0) + (g p q + aa_sc (aa_V g co.toInt cl.toInt n m 0 (p + 1) (q + 1) 0)) = aa_sc (aa_V g co.toInt cl.toInt n m 0 0 0 0) → ∀ a b, post 0 (ge, gu, co, cl, yt, yn, a, b)) : wpY_paired post (ge, gu, co, cl, yt, yn, a, b) (nI p) (nI q) := by
  have hn := H.2.2.2.2.2.1
  have hm := H.2.2.2.2.2.2
  have H' := aa_Ok_box H hp hq
  refine br_f (nI_pos (by omega)) (pk_le n p (fun z => by omega) (fun _ => br_f (nI_pos (by omega)) (pk_lt q m (fun _ => ?_) (fun z => by omega) rfl h1)) h0 rfl)
  refine ya_work (h := 0) H' (fun i j hi hj => hg i j (by omega) (by omega)) (by decide) (fun a1 b1 hT1 => nm_r (ya_a0 hT1) ?_)
  refine ya_best H hg h0 h1 (fun a2 b2 hT2 => ?_)
  refine ya_gain (by omega) (by omega) (hg p q hp hq) ?_
  rw [aa_s9]
  have hlt : aa_s (p + 1) (q + 1) 0 < 363 := aa_s_lt (by omega) (by omega) (by decide)
  refine ⟨pk_in _ 363 hlt, ?_⟩
  have hT' := (hT2 (p + 1) (q + 1) 0 (by omega) (by omega) (by decide) (Nat.zero_le _)).1
  rw [← aa_V0] at hT'
  have w1 := aa_V_in (h := 0) H' (Nat.zero_le p) (Nat.zero_le q) 0
  have w2 := aa_V_in (h := 0) H (Nat.zero_le n) (Nat.zero_le m) 0
  have w3 := aa_V_in (h := 0) H (show p + 1 ≤ n by omega) (show q + 1 ≤ m by omega) 0
  have bg := H.1 p q hp hq
  rw [nI_clamp (by omega), hT', ← aa_i_add, ← aa_i_add, aa_i_eq (by omega) (by omega) (by omega) (by omega), Int.add_assoc]
  exact ⟨fun z => k1 z a2 b2, fun z => k0 z a2 b2⟩
theorem ya_type {post : Int32 → SY → Prop} {q N : Nat} {v2 : Int32} (hq : q < 2) (hN : yn q = nI N) (hN10 : N ≤ 10) (c3 : ¬ v2 < 0) (c4 : v2 ≤ 3) (hf : N = 10 → post (-1001) (ge, gu, co, cl, yt, yn, a, b))
    (ho : N < 10 → post (nI (N + 1)) (ge, gu, co, cl, upd yt (q * 10 + N) v2, upd yn q (nI (N + 1)), a, b)) : wpY_type post (ge, gu, co, cl, yt, yn, a, b) (nI q) v2 := by
  have vp : vp_in (nI q) 2 := pk_in q 2 hq
  refine br_f (nI_pos (by omega)) (pk_lt 1 q (fun z => by omega) (fun _ => br_f c3 (br_t c4 ⟨vp, ?_⟩)))
  rw [nI_clamp (by omega), hN]
  have e : (nI q * 10) + nI N = nI (q * 10 + N) := by
    show nI q * nI 10 + nI N = _
    rw [pk_mul, nI_add]
  rw [e]
  refine pk_eq N 10 hf (fun z => ⟨vp, pk_in (q * 10 + N) 20 (by omega), ?_⟩)
  rw [nI_clamp (by omega), nI_1]
  refine nm_e ⟨vp, vp, nm_e ⟨vp, ?_⟩⟩
  rw [pk_us]
  exact ho (by omega)
theorem aa_l9 (x : Int32) : (x < -9 ↔ x.toInt < -9) ∧ (9 < x ↔ 9 < x.toInt) ∧ (x < 0 ↔ x.toInt < 0) ∧ (x ≤ 9 ↔ x.toInt ≤ 9) := by
  rw [Int32.lt_iff_toInt_lt, Int32.lt_iff_toInt_lt, Int32.lt_iff_toInt_lt, Int32.le_iff_toInt_le]
  exact ⟨Iff.rfl, Iff.rfl, Iff.rfl, Iff.rfl⟩
def aa_R4 (p0 p1 p2 p3 : Int32) : Prop := (-9 ≤ p0.toInt ∧ p0.toInt ≤ 9) ∧ (-9 ≤ p1.toInt ∧ p1.toInt ≤ 9) ∧ (0 ≤ p2.toInt ∧ p2.toInt ≤ 9) ∧ (0 ≤ p3.toInt ∧ p3.toInt ≤ 9)
theorem ya_rules {post : Int32 → SY → Prop} {p0 p1 p2 p3 : Int32} (k1 : aa_R4 p0 p1 p2 p3 → post 1 (p0, p1, p2, p3, yt, yn, a, b)) (k0 : ¬ aa_R4 p0 p1 p2 p3 → post 0 (ge, gu, co, cl, yt, yn, a, b)) : wpY_rules post (ge, gu, co, cl, yt, yn, a, b) p0 p1 p2 p3 := by
  obtain ⟨a1, a2, a3, a4⟩ := aa_l9 p0
  obtain ⟨b1, b2, b3, b4⟩ := aa_l9 p1
  obtain ⟨c1, c2, c3, c4⟩ := aa_l9 p2
  obtain ⟨d1, d2, d3, d4⟩ := aa_l9 p3
  unfold aa_R4 at k0 k1
  refine br_c (fun z => k0 ?_) (fun z1 => br_c (fun z => k0 ?_) (fun z2 => br_c (fun z => k0 ?_) (fun z3 => br_c (fun z4 => br_c (fun z => k0 ?_) (fun z5 => br_c (fun z => k0 ?_) (fun z6 => br_c (fun z => k0 ?_) (fun z7 => br_c (fun z8 => k1 ?_) (fun z => k0 ?_))))) (fun z => k0 ?_))))
  · rw [a1] at z; omega
  · rw [a2] at z; omega
  · rw [b1] at z; omega
  · rw [c3] at z; omega
  · rw [c2] at z; omega
  · rw [d3] at z; omega
  · rw [a1] at z1
    rw [a2] at z2
    rw [b1] at z3
    rw [b4] at z4
    rw [c3] at z5
    rw [c2] at z6
    rw [d3] at z7
    rw [d4] at z8
    omega
  · rw [d4] at z; omega
  · rw [b4] at z; omega
end
section
variable {n m : Nat} {ge gu co cl : Int32} {xu xl a b r d : Nat → Int32}
theorem xa_isGain {post : Int32 → Prop} {x : Int32} (k1 : -9 ≤ x.toInt ∧ x.toInt ≤ 9 → post 1) (k0 : ¬ (-9 ≤ x.toInt ∧ x.toInt ≤ 9) → post 0) : wpX_isGain post x := by
  obtain ⟨a1, a2, a3, a4⟩ := aa_l9 x
  unfold wpX_isGain
  rw [a1, a2]
  exact ⟨fun z => k0 (by omega), fun z => ⟨fun y => k0 (by omega), fun y => k1 (by omega)⟩⟩
theorem xa_isCost {post : Int32 → Prop} {x : Int32} (k1 : 0 ≤ x.toInt ∧ x.toInt ≤ 9 → post 1) (k0 : ¬ (0 ≤ x.toInt ∧ x.toInt ≤ 9) → post 0) : wpX_isCost post x := by
  obtain ⟨a1, a2, a3, a4⟩ := aa_l9 x
  unfold wpX_isCost
  rw [a3, a2]
  exact ⟨fun z => k0 (by omega), fun z => ⟨fun y => k0 (by omega), fun y => k1 (by omega)⟩⟩
theorem xa_r19 {post : Int32 → SX → Prop} {p0 p1 p2 p3 z0 : Int32} (hz : z0 = 0 ∨ z0 = 1) (k1 : z0 = 1 → (0 ≤ p2.toInt ∧ p2.toInt ≤ 9) → (0 ≤ p3.toInt ∧ p3.toInt ≤ 9) → post 1 (nI n, nI m, p0, p1, p2, p3, xu, xl, a, b, r, d))
    (k0 : ¬ (z0 = 1 ∧ (0 ≤ p2.toInt ∧ p2.toInt ≤ 9) ∧ (0 ≤ p3.toInt ∧ p3.toInt ≤ 9)) → post 0 (nI n, nI m, ge, gu, co, cl, xu, xl, a, b, r, d)) : wX_rules_19 post p0 p1 p2 p3 z0 (nI n) (nI m) ge gu co cl xu xl a b r d := by
  have k41 : ∀ w : Int32, (w = 1 → (0 ≤ p2.toInt ∧ p2.toInt ≤ 9) ∧ (0 ≤ p3.toInt ∧ p3.toInt ≤ 9)) → (w = 0 → ¬ ((0 ≤ p2.toInt ∧ p2.toInt ≤ 9) ∧ (0 ≤ p3.toInt ∧ p3.toInt ≤ 9))) → (w = 0 ∨ w = 1) → wX_rules_41 post p0 p1 p2 p3 z0 w (nI n) (nI m) ge gu co cl xu xl a b r d := by
    intro w w1 w0 hw
    rcases hz with rfl | rfl
    · exact br_t rfl (k0 (fun z => absurd z.1 (by decide)))
    · rcases hw with rfl | rfl
      · exact br_f xa_1 (br_t rfl (k0 (fun z => w0 rfl z.2)))
      · exact br_f xa_1 (br_f xa_1 (k1 rfl (w1 rfl).1 (w1 rfl).2))
  unfold wX_rules_19
  refine xa_isCost (fun c1 => br_f xa_1 (xa_isCost (fun c2 => br_f xa_1 (k41 1 (fun _ => ⟨c1, c2⟩) (fun z => absurd z (by decide)) (Or.inr rfl))) (fun c2 => br_t rfl (k41 0 (fun z => absurd z (by decide)) (fun _ z => c2 z.2) (Or.inl rfl))))) (fun c1 => br_t rfl (k41 0 (fun z => absurd z (by decide)) (fun _ z => c1 z.1) (Or.inl rfl)))
theorem xa_rules {post : Int32 → SX → Prop} {p0 p1 p2 p3 : Int32} (k1 : aa_R4 p0 p1 p2 p3 → post 1 (nI n, nI m, p0, p1, p2, p3, xu, xl, a, b, r, d)) (k0 : ¬ aa_R4 p0 p1 p2 p3 → post 0 (nI n, nI m, ge, gu, co, cl, xu, xl, a, b, r, d)) : wpX_rules post (nI n, nI m, ge, gu, co, cl, xu, xl, a, b, r, d) p0 p1 p2 p3 := by
  have kb : ¬ ((-9 ≤ p0.toInt ∧ p0.toInt ≤ 9) ∧ (-9 ≤ p1.toInt ∧ p1.toInt ≤ 9)) → wX_rules_19 post p0 p1 p2 p3 0 (nI n) (nI m) ge gu co cl xu xl a b r d := fun q => xa_r19 (Or.inl rfl) (fun z => absurd z (by decide)) (fun _ => k0 (fun z => q ⟨z.1, z.2.1⟩))
  unfold wpX_rules
  dsimp only
  refine xa_isGain (fun c1 => br_f xa_1 (xa_isGain (fun c2 => br_f xa_1 (xa_r19 (Or.inr rfl) (fun _ c3 c4 => k1 ⟨c1, c2, c3, c4⟩) (fun z => k0 (fun y => z ⟨rfl, y.2.2.1, y.2.2.2⟩)))) (fun c2 => br_t rfl (kb (fun z => c2 z.2))))) (fun c1 => br_t rfl (kb (fun z => c1 z.1)))
theorem xa_tU {post : Int32 → SX → Prop} {v2 : Int32} (hn : n ≤ 10) (hf : n = 10 → post (-1001) (nI n, nI m, ge, gu, co, cl, xu, xl, a, b, r, d)) (ho : n < 10 → post (nI (n + 1)) (nI (n + 1), nI m, ge, gu, co, cl, upd xu n v2, xl, a, b, r, d)) : wpX_typeUpper post (nI n, nI m, ge, gu, co, cl, xu, xl, a, b, r, d) v2 := by
  refine pk_lt n 10 (fun z => ⟨pk_in n 10 z, ?_⟩) (fun z => hf (by omega))
  rw [nI_clamp (by omega)]
  exact nm_e (nm_r (nI_1 n) (ho z))
theorem xa_tL {post : Int32 → SX → Prop} {v2 : Int32} (hm : m ≤ 10) (hf : m = 10 → post (-1001) (nI n, nI m, ge, gu, co, cl, xu, xl, a, b, r, d)) (ho : m < 10 → post (nI (m + 1)) (nI n, nI (m + 1), ge, gu, co, cl, xu, upd xl m v2, a, b, r, d)) : wpX_typeLower post (nI n, nI m, ge, gu, co, cl, xu, xl, a, b, r, d) v2 := by
  refine pk_lt m 10 (fun z => ⟨pk_in m 10 z, ?_⟩) (fun z => hf (by omega))
  rw [nI_clamp (by omega)]
  exact nm_e (nm_r (nI_1 m) (ho z))
end
