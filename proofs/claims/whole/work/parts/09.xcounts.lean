/-! 09: the component's fillCounts and traceFirst -/
section
variable {n m : Nat} {ge gu co cl : Int32} {xu xl a b r d : Nat → Int32}
theorem xa_c24 {post : Int32 → Prop} {i j t s k : Nat} (H : aa_Ok (aa_g xu xl ge gu) co.toInt cl.toInt n m) (hT : aa_Tab (aa_VS (aa_g xu xl ge gu) co.toInt cl.toInt n m 0) n m 0 a) (hi : i ≤ n) (hj : j ≤ m) (ht : t < 3) (hs : s < 3)
    (hC : aa_Tab (aa_VC (aa_g xu xl ge gu) co.toInt cl.toInt n m 0) n m (aa_s i (j + 1) 0) b) (x : Int32)
    (hk : wX_countFrom_24 post (nI i) (nI j) (nI t) (nI n) (nI m) ge gu co cl xu xl a b r d k (x + (if aa_tg (aa_g xu xl ge gu) co.toInt cl.toInt n m 0 i j t s then aa_ct (aa_V (aa_g xu xl ge gu) co.toInt cl.toInt n m 0 (aa_ni i s) (aa_nj j s) s) else 0)) (nI (s + 1))) :
    wX_countFrom_24 post (nI i) (nI j) (nI t) (nI n) (nI m) ge gu co cl xu xl a b r d (k + 1) x (nI s) := by
  have hn := H.2.2.2.2.2.1
  have hm := H.2.2.2.2.2.2
  refine pk_le 3 s (fun q => by omega) (fun _ => ?_)
  refine xa_bm H hT hi hj ht hs (fun h1 => br_f xa_1 ?_) (fun h0 => br_t rfl ?_)
  · have hin := aa_has_in h1.1 hi hj
    have hlt : aa_s (aa_ni i s) (aa_nj j s) s < 363 := aa_s_lt (by omega) (by omega) hs
    refine xa_sa hs ⟨pk_in _ 363 hlt, ?_⟩
    rw [nI_clamp (by omega), hC _ _ _ hin.1 hin.2 hs (aa_s_next i j s)]
    rw [if_pos h1] at hk
    exact nm_e (nm_r (nI_1 s) hk)
  · rw [if_neg h0, Int32.add_zero] at hk
    exact nm_r (nI_1 s) hk
theorem xa_cf {post : Int32 → Prop} {i j t : Nat} (H : aa_Ok (aa_g xu xl ge gu) co.toInt cl.toInt n m) (hT : aa_Tab (aa_VS (aa_g xu xl ge gu) co.toInt cl.toInt n m 0) n m 0 a) (hi : i ≤ n) (hj : j ≤ m) (ht : t < 3)
    (hC : aa_Tab (aa_VC (aa_g xu xl ge gu) co.toInt cl.toInt n m 0) n m (aa_s i (j + 1) 0) b) (hp : post (aa_VC (aa_g xu xl ge gu) co.toInt cl.toInt n m 0 i j t)) : wpX_countFrom post (nI n, nI m, ge, gu, co, cl, xu, xl, a, b, r, d) (nI i) (nI j) (nI t) := by
  have hn := H.2.2.2.2.2.1
  have hm := H.2.2.2.2.2.2
  have hne : ¬ (i = n ∧ j = m) → ∃ n24, wX_countFrom_24 post (nI i) (nI j) (nI t) (nI n) (nI m) ge gu co cl xu xl a b r d n24 0 0 := by
    intro e
    refine ⟨4, xa_c24 (s := 0) H hT hi hj ht (by decide) hC 0 (xa_c24 (s := 1) H hT hi hj ht (by decide) hC _ (xa_c24 (s := 2) H hT hi hj ht (by decide) hC _ ?_))⟩
    refine pk_le 3 3 (fun _ => ?_) (fun q => by omega)
    rw [aa_VC, aa_ct_eq H hi hj t (aa_E_no e)] at hp
    exact hp
  refine pk_eq i n (fun e => pk_eq j m (fun e' => ?_) (fun e' => hne (by omega))) (fun e => hne (by omega))
  subst e e'
  rw [aa_VC, aa_V_end] at hp
  exact hp
theorem xa_c20 {post : SX → Prop} {J5 J14 : Int32 → (Nat → Int32) → (Nat → Int32) → (Nat → Int32) → (Nat → Int32) → (Nat → Int32) → (Nat → Int32) → Prop} {i j : Nat} (H : aa_Ok (aa_g xu xl ge gu) co.toInt cl.toInt n m) (hT : aa_Tab (aa_VS (aa_g xu xl ge gu) co.toInt cl.toInt n m 0) n m 0 a) (hi : i ≤ n) (hj : j ≤ m)
    (hC : aa_Tab (aa_VC (aa_g xu xl ge gu) co.toInt cl.toInt n m 0) n m (aa_s i (j + 1) 0) b)
    (hp : ∀ b', aa_Tab (aa_VC (aa_g xu xl ge gu) co.toInt cl.toInt n m 0) n m (aa_s i j 0) b' → J14 (nI j + (-1)) xu xl a b' r d) : ∃ n20, wX_fillCounts_20 post J5 J14 (nI i) (nI j) (nI n) (nI m) ge gu co cl n20 0 xu xl a b r d := by
  have hn := H.2.2.2.2.2.1
  have hm := H.2.2.2.2.2.2
  refine loop_0 (fun k t b' => wX_fillCounts_20 post J5 J14 (nI i) (nI j) (nI n) (nI m) ge gu co cl k (nI t) xu xl a b' r d)
    (fun t b' => aa_Tab (aa_VC (aa_g xu xl ge gu) co.toInt cl.toInt n m 0) n m (aa_s i (j + 1) 0) b' ∧ ∀ t', t' < t → b' (aa_s i j t') = aa_VC (aa_g xu xl ge gu) co.toInt cl.toInt n m 0 i j t') 3 b ⟨hC, fun _ q => absurd q (Nat.not_lt_zero _)⟩ ?_ ?_
  · intro k b' hI
    refine pk_le 3 3 (fun _ => nm_e (hp b' ?_)) (fun q => by omega)
    intro i' j' t' hi' hj' ht' hK
    by_cases q : aa_s i (j + 1) 0 ≤ aa_s i' j' t'
    · exact hI.1 i' j' t' hi' hj' ht' q
    · have e : i' = i ∧ j' = j := by
        unfold aa_s at hK q
        omega
      obtain ⟨rfl, rfl⟩ := e
      exact hI.2 t' ht'
  · intro k t b' ht hI hc
    have hlt : aa_s i j t < 363 := aa_s_lt (by omega) (by omega) ht
    have hnew : aa_Tab (aa_VC (aa_g xu xl ge gu) co.toInt cl.toInt n m 0) n m (aa_s i (j + 1) 0) (upd b' (aa_s i j t) (aa_VC (aa_g xu xl ge gu) co.toInt cl.toInt n m 0 i j t)) ∧ ∀ t', t' < t + 1 → (upd b' (aa_s i j t) (aa_VC (aa_g xu xl ge gu) co.toInt cl.toInt n m 0 i j t)) (aa_s i j t') = aa_VC (aa_g xu xl ge gu) co.toInt cl.toInt n m 0 i j t' := by
      refine ⟨fun i' j' t' hi' hj' ht' hK => ?_, fun t' ht' => ?_⟩
      · rw [pk_un (by unfold aa_s at hK ⊢; omega)]
        exact hI.1 i' j' t' hi' hj' ht' hK
      · by_cases q : t' = t
        · subst q
          exact pk_us
        · rw [pk_un (by unfold aa_s; omega)]
          exact hI.2 t' (by omega)
    refine pk_le 3 t (fun q => by omega) (fun _ => ?_)
    refine xa_state ?_
    refine xa_cf H hT hi hj ht hI.1 ⟨pk_in _ 363 hlt, ?_⟩
    rw [nI_clamp (by omega)]
    exact nm_e (nm_r (nI_1 t) (hc _ hnew))
theorem xa_c14 {post : SX → Prop} {J5 : Int32 → (Nat → Int32) → (Nat → Int32) → (Nat → Int32) → (Nat → Int32) → (Nat → Int32) → (Nat → Int32) → Prop} {i : Nat} (H : aa_Ok (aa_g xu xl ge gu) co.toInt cl.toInt n m) (hT : aa_Tab (aa_VS (aa_g xu xl ge gu) co.toInt cl.toInt n m 0) n m 0 a) (hi : i ≤ n)
    (hJ : ∀ b', aa_Tab (aa_VC (aa_g xu xl ge gu) co.toInt cl.toInt n m 0) n m (aa_s i 0 0) b' → J5 (nI i + (-1)) xu xl a b' r d) :
    ∀ (c : Nat) (b : Nat → Int32), c ≤ m + 1 → aa_Tab (aa_VC (aa_g xu xl ge gu) co.toInt cl.toInt n m 0) n m (aa_s i c 0) b → wX_fillCounts_14 post J5 (nI i) (nI n) (nI m) ge gu co cl (c + 1) (nI c + (-1)) xu xl a b r d := by
  have hm := H.2.2.2.2.2.2
  intro c
  induction c with
  | zero =>
    intro b hc hC
    exact br_t xa_neg1 (nm_e (hJ b hC))
  | succ c ih =>
    intro b hc hC
    rw [pk_m1]
    refine br_f (nI_pos (by omega)) ?_
    exact xa_c20 H hT hi (by omega) hC (fun b' h' => ih b' (by omega) h')
theorem xa_c5 {post : SX → Prop} (H : aa_Ok (aa_g xu xl ge gu) co.toInt cl.toInt n m) (hT : aa_Tab (aa_VS (aa_g xu xl ge gu) co.toInt cl.toInt n m 0) n m 0 a)
    (hp : ∀ b', aa_Tab (aa_VC (aa_g xu xl ge gu) co.toInt cl.toInt n m 0) n m 0 b' → post (nI n, nI m, ge, gu, co, cl, xu, xl, a, b', r, d)) :
    ∀ (c : Nat) (b : Nat → Int32), c ≤ n + 1 → aa_Tab (aa_VC (aa_g xu xl ge gu) co.toInt cl.toInt n m 0) n m (aa_s c 0 0) b → wX_fillCounts_5 post (nI n) (nI m) ge gu co cl (c + 1) (nI c + (-1)) xu xl a b r d := by
  have hn := H.2.2.2.2.2.1
  have hm := H.2.2.2.2.2.2
  intro c
  induction c with
  | zero =>
    intro b hc hC
    exact br_t xa_neg1 (hp b hC)
  | succ c ih =>
    intro b hc hC
    rw [pk_m1]
    refine br_f (nI_pos (by omega)) ⟨m + 1 + 1, ?_⟩
    have h1 := xa_c14 (post := post) (J5 := wX_fillCounts_5 post (nI n) (nI m) ge gu co cl (c + 1)) (r := r) (d := d) H hT (show c ≤ n by omega) (fun b' h' => ih b' (by omega) h') (m + 1) b (Nat.le_refl _) ?_
    · rw [pk_m1] at h1
      exact h1
    · intro i' j' t' hi' hj' ht' hK
      refine hC i' j' t' hi' hj' ht' ?_
      unfold aa_s at hK ⊢
      omega
theorem xa_fc {post : SX → Prop} (H : aa_Ok (aa_g xu xl ge gu) co.toInt cl.toInt n m) (hT : aa_Tab (aa_VS (aa_g xu xl ge gu) co.toInt cl.toInt n m 0) n m 0 a)
    (hp : ∀ b', aa_Tab (aa_VC (aa_g xu xl ge gu) co.toInt cl.toInt n m 0) n m 0 b' → post (nI n, nI m, ge, gu, co, cl, xu, xl, a, b', r, d)) : wpX_fillCounts post (nI n, nI m, ge, gu, co, cl, xu, xl, a, b, r, d) := by
  refine ⟨n + 1 + 1, ?_⟩
  have h1 := xa_c5 (r := r) (d := d) H hT hp (n + 1) b (Nat.le_refl _) ?_
  · rw [pk_m1] at h1
    exact h1
  · intro i' j' t' hi' hj' ht' hK
    have hm := H.2.2.2.2.2.2
    unfold aa_s at hK
    omega
theorem xa_fbm {post : Int32 → Prop} {i j t : Nat} (H : aa_Ok (aa_g xu xl ge gu) co.toInt cl.toInt n m) (hT : aa_Tab (aa_VS (aa_g xu xl ge gu) co.toInt cl.toInt n m 0) n m 0 a) (hi : i ≤ n) (hj : j ≤ m) (ht : t < 3)
    (hp : post (nI (aa_fm (aa_g xu xl ge gu) co.toInt cl.toInt n m i j t))) : wpX_firstBestMove post (nI n, nI m, ge, gu, co, cl, xu, xl, a, b, r, d) (nI i) (nI j) (nI t) := by
  unfold aa_fm at hp
  refine ⟨3, pk_le 2 0 (fun q => by omega) (fun _ => xa_bm (s := 0) H hT hi hj ht (by decide) (fun h1 => br_f xa_1 ?_) (fun h0 => br_t rfl (nm_r (nI_1 0) (pk_le 2 1 (fun q => by omega) (fun _ => xa_bm (s := 1) H hT hi hj ht (by decide) (fun h1 => br_f xa_1 ?_) (fun h0' => br_t rfl (nm_r (nI_1 1) (pk_le 2 2 (fun _ => ?_) (fun q => by omega)))))))))⟩
  · rw [if_pos h1] at hp
    exact hp
  · rw [if_neg h0, if_pos h1] at hp
    exact hp
  · rw [if_neg h0, if_neg h0'] at hp
    exact hp
/-- the column k of the walk -/
def aa_col (g : Nat → Nat → Int) (o l : Int) (n m k : Nat) : Nat := aa_fm g o l n m (aa_wk g o l n m k).1 (aa_wk g o l n m k).2.1 (aa_wk g o l n m k).2.2
theorem xa_t32 {post : Int32 → SX → Prop} {J9 : Int32 → Int32 → Int32 → Int32 → (Nat → Int32) → (Nat → Int32) → (Nat → Int32) → (Nat → Int32) → (Nat → Int32) → (Nat → Int32) → Prop} {i j t k : Nat} (H : aa_Ok (aa_g xu xl ge gu) co.toInt cl.toInt n m) (hT : aa_Tab (aa_VS (aa_g xu xl ge gu) co.toInt cl.toInt n m 0) n m 0 a) (hi : i ≤ n) (hj : j ≤ m) (ht : t < 3) (hk : k < 20)
    (hp : J9 (nI (aa_ni i (aa_fm (aa_g xu xl ge gu) co.toInt cl.toInt n m i j t))) (nI (aa_nj j (aa_fm (aa_g xu xl ge gu) co.toInt cl.toInt n m i j t))) (nI (aa_fm (aa_g xu xl ge gu) co.toInt cl.toInt n m i j t)) (nI (k + 1)) xu xl a b r (upd d k (nI (aa_fm (aa_g xu xl ge gu) co.toInt cl.toInt n m i j t)))) :
    wX_traceFirst_32 post J9 (nI i) (nI j) (nI t) (nI k) (nI n) (nI m) ge gu co cl xu xl a b r d := by
  unfold wX_traceFirst_32
  refine xa_fbm H hT hi hj ht ?_
  have hf : aa_fm (aa_g xu xl ge gu) co.toInt cl.toInt n m i j t < 3 := aa_fm_lt i j t
  generalize aa_fm (aa_g xu xl ge gu) co.toInt cl.toInt n m i j t = s at hp hf
  refine ⟨pk_in k 20 hk, ?_⟩
  rw [nI_clamp (by omega)]
  refine nm_e (nm_r (nI_1 k) ?_)
  refine pk_eq s 2 (fun e => ?_) (fun e => ?_)
  · rw [aa_ni, aa_nj, if_pos e, if_neg (by omega)] at hp
    refine nm_r (Int32.add_zero (nI i)) (pk_eq s 1 (fun e' => by omega) (fun e' => nm_r (nI_1 j) hp))
  · rw [aa_ni, if_neg e] at hp
    refine nm_r (nI_1 i) (pk_eq s 1 (fun e' => ?_) (fun e' => ?_))
    · rw [aa_nj, if_pos e'] at hp
      exact nm_r (Int32.add_zero (nI j)) hp
    · rw [aa_nj, if_neg e'] at hp
      exact nm_r (nI_1 j) hp
theorem xa_t9 {post : Int32 → SX → Prop} (H : aa_Ok (aa_g xu xl ge gu) co.toInt cl.toInt n m) (hT : aa_Tab (aa_VS (aa_g xu xl ge gu) co.toInt cl.toInt n m 0) n m 0 a) {L : Nat} (hL : L ≤ n + m) (hE : aa_wkEnd (aa_g xu xl ge gu) co.toInt cl.toInt n m L) (hA : ∀ k', k' < L → aa_wkIn (aa_g xu xl ge gu) co.toInt cl.toInt n m k' ∧ ¬ aa_wkEnd (aa_g xu xl ge gu) co.toInt cl.toInt n m k')
    (hp : ∀ d', (∀ k', k' < L → d' k' = nI (aa_col (aa_g xu xl ge gu) co.toInt cl.toInt n m k')) → post (nI L) (nI n, nI m, ge, gu, co, cl, xu, xl, a, b, r, d')) :
    ∀ (e k : Nat) (d : Nat → Int32), k + e = L → (∀ k', k' < k → d k' = nI (aa_col (aa_g xu xl ge gu) co.toInt cl.toInt n m k')) →
    wX_traceFirst_9 post (nI n) (nI m) ge gu co cl (e + 1) (nI (aa_wk (aa_g xu xl ge gu) co.toInt cl.toInt n m k).1) (nI (aa_wk (aa_g xu xl ge gu) co.toInt cl.toInt n m k).2.1) (nI (aa_wk (aa_g xu xl ge gu) co.toInt cl.toInt n m k).2.2) (nI k) xu xl a b r d := by
  have hn := H.2.2.2.2.2.1
  have hm := H.2.2.2.2.2.2
  intro e
  induction e with
  | zero =>
    intro k d hk hd
    have e : k = L := by omega
    subst e
    rw [hE.1, hE.2]
    exact pk_le 20 k (fun _ => hp d hd) (fun _ => pk_lt n n (fun q => by omega) (fun _ => pk_le m m (fun _ => hp d hd) (fun q => by omega)))
  | succ e ih =>
    intro k d hk hd
    obtain ⟨⟨h1, h2, h3⟩, h4⟩ := hA k (by omega)
    have h32 : wX_traceFirst_32 post (wX_traceFirst_9 post (nI n) (nI m) ge gu co cl (e + 1)) (nI (aa_wk (aa_g xu xl ge gu) co.toInt cl.toInt n m k).1) (nI (aa_wk (aa_g xu xl ge gu) co.toInt cl.toInt n m k).2.1) (nI (aa_wk (aa_g xu xl ge gu) co.toInt cl.toInt n m k).2.2) (nI k) (nI n) (nI m) ge gu co cl xu xl a b r d := by
      refine xa_t32 H hT h1 h2 h3 (by omega) (ih (k + 1) _ (by omega) ?_)
      intro k' hk'
      by_cases q : k' = k
      · subst q
        exact pk_us
      · rw [pk_un q]
        exact hd k' (by omega)
    refine pk_le 20 k (fun q => by omega) (fun _ => pk_lt (aa_wk (aa_g xu xl ge gu) co.toInt cl.toInt n m k).1 n (fun _ => h32) (fun q1 => pk_le m (aa_wk (aa_g xu xl ge gu) co.toInt cl.toInt n m k).2.1 (fun q2 => absurd ⟨by omega, by omega⟩ h4) (fun _ => h32)))
theorem xa_tf {post : Int32 → SX → Prop} (H : aa_Ok (aa_g xu xl ge gu) co.toInt cl.toInt n m) (hT : aa_Tab (aa_VS (aa_g xu xl ge gu) co.toInt cl.toInt n m 0) n m 0 a) {L : Nat} (hL : L ≤ n + m) (hE : aa_wkEnd (aa_g xu xl ge gu) co.toInt cl.toInt n m L) (hA : ∀ k', k' < L → aa_wkIn (aa_g xu xl ge gu) co.toInt cl.toInt n m k' ∧ ¬ aa_wkEnd (aa_g xu xl ge gu) co.toInt cl.toInt n m k')
    (hp : ∀ d', (∀ k', k' < L → d' k' = nI (aa_col (aa_g xu xl ge gu) co.toInt cl.toInt n m k')) → post (nI L) (nI n, nI m, ge, gu, co, cl, xu, xl, a, b, r, d')) : wpX_traceFirst post (nI n, nI m, ge, gu, co, cl, xu, xl, a, b, r, d) :=
  ⟨L + 1, xa_t9 H hT hL hE hA hp L 0 d (by omega) (fun _ q => absurd q (Nat.not_lt_zero _))⟩
end
