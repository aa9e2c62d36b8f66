/-! 07: the component's fillScores -/
def aa_sd (x : aa_P) : Int :=
  match x with
  | none => -1000000
  | some p => p.1
theorem aa_sd_in {x : aa_P} (hx : aa_Bd 20 x) : -1000000 ≤ aa_sd x ∧ aa_sd x ≤ 360 := by
  cases x with
  | none =>
    show (-1000000 : Int) ≤ -1000000 ∧ (-1000000 : Int) ≤ 360
    omega
  | some p =>
    have := hx p rfl
    show -1000000 ≤ p.1 ∧ p.1 ≤ 360
    omega
theorem aa_sd_jn (x : aa_P) (p : Int × Int32) (hp : -1000000 < p.1) : aa_sd (aa_jn x (some p)) = if p.1 ≤ aa_sd x then aa_sd x else p.1 := by
  cases x with
  | none =>
    rw [aa_n_jn, if_neg]
    · rfl
    · show ¬ p.1 ≤ -1000000
      omega
  | some q =>
    show (aa_j2 q p).1 = if p.1 ≤ q.1 then q.1 else p.1
    unfold aa_j2
    by_cases h1 : q.1 < p.1
    · rw [if_pos h1, if_neg (by omega)]
    · by_cases h2 : p.1 < q.1
      · rw [if_neg h1, if_pos h2, if_pos (by omega)]
      · rw [if_neg h1, if_neg h2, if_pos (by omega)]
theorem aa_c6 : aa_i (-1000000) = -1000000 := by decide
theorem aa_c0 : aa_i 0 = 0 := by decide
theorem aa_cd_bd {g : Nat → Nat → Int} {o l : Int} {n m h : Nat} (H : aa_Ok g o l n m) {i j : Nat} (hi : i ≤ n) (hj : j ≤ m) (t : Nat) {s : Nat} (hs : s < 3) : aa_Bd 20 (aa_cd g o l n m h i j t s) := by
  have hcl := H.2.2.2.1
  have hcl' := H.2.2.2.2.1
  have hco := H.2.1
  have hco' := H.2.2.1
  have h1 := H.2.2.2.2.2.1
  have h2 := H.2.2.2.2.2.2
  refine aa_Bd_mono (k := (n - i) + (m - j)) ?_ (by omega)
  match s, hs with
  | 0, _ => rw [aa_cd0]; exact aa_D_bd H fun a b => aa_V_bd H (by omega) (by omega) _
  | 1, _ => rw [aa_cd1]; exact aa_U_bd (by split <;> omega) (by split <;> omega) fun a => aa_V_bd H (by omega) (by omega) _
  | 2, _ => rw [aa_cd2]; exact aa_L_bd (by split <;> omega) (by split <;> omega) fun a => aa_V_bd H (by omega) (by omega) _
theorem aa_cs_in {g : Nat → Nat → Int} {o l : Int} {n m : Nat} (H : aa_Ok g o l n m) {i j t s : Nat} (hh : aa_has n m i j s) : -18 ≤ aa_cs g o l i j t s ∧ aa_cs g o l i j t s ≤ 18 := by
  obtain ⟨q1, q2, q3, q4, q5, q6, q7⟩ := H
  unfold aa_cs
  split
  · rename_i e
    have z1 := hh.1
    have z2 := hh.2
    have := q1 i j (by omega) (by omega)
    omega
  · split <;> omega
section
variable {n m h : Nat} {ge gu co cl : Int32} {xu xl a b r d : Nat → Int32}
theorem xa_f24 {post : SX → Prop} {J3 : Int32 → (Nat → Int32) → (Nat → Int32) → (Nat → Int32) → (Nat → Int32) → (Nat → Int32) → (Nat → Int32) → Prop} {x3 : Int32} {i j t s k : Nat} (H : aa_Ok (aa_g xu xl ge gu) co.toInt cl.toInt n m) (hi : i ≤ n) (hj : j ≤ m) (ht : t < 3) (hs : s < 3)
    (hT : aa_Tab (aa_VS (aa_g xu xl ge gu) co.toInt cl.toInt n m h) n m (aa_s i (j + 1) 0) a) (x : aa_P) (hx : aa_Bd 20 x)
    (hk : wX_fillScoresAt_24 post J3 (nI i) (nI j) x3 (nI t) (nI n) (nI m) ge gu co cl xu xl a b r d k (aa_i (aa_sd (aa_jn x (aa_cd (aa_g xu xl ge gu) co.toInt cl.toInt n m h i j t s)))) (nI (s + 1))) :
    wX_fillScoresAt_24 post J3 (nI i) (nI j) x3 (nI t) (nI n) (nI m) ge gu co cl xu xl a b r d (k + 1) (aa_i (aa_sd x)) (nI s) := by
  have hn := H.2.2.2.2.2.1
  have hm := H.2.2.2.2.2.2
  refine pk_le 3 s (fun q => by omega) (fun _ => ?_)
  refine xa_has hn hm hi hj hs (fun hh => br_f xa_1 ?_) (fun hh => br_t rfl ?_)
  · have hin := aa_has_in hh hi hj
    refine xa_st (v := aa_sc (aa_V (aa_g xu xl ge gu) co.toInt cl.toInt n m h (aa_ni i s) (aa_nj j s) s)) hn hm hi hj ht hs hh (hT _ _ _ hin.1 hin.2 hs (aa_s_next i j s)) ?_
    have b2 := aa_V_in (h := h) H hin.1 hin.2 s
    have b3 := aa_cs_in (t := t) H hh
    have b4 := aa_sd_in hx
    obtain ⟨p, e⟩ := aa_V_so (h := h) H hin.1 hin.2 s
    rw [e] at b2
    have b2' : -360 ≤ p.1 ∧ p.1 ≤ 360 := b2
    rw [aa_cd, if_pos hh, e] at hk
    have hk' : wX_fillScoresAt_24 post J3 (nI i) (nI j) x3 (nI t) (nI n) (nI m) ge gu co cl xu xl a b r d k (aa_i (aa_sd (aa_jn x (some (p.1 + aa_cs (aa_g xu xl ge gu) co.toInt cl.toInt i j t s, p.2))))) (nI (s + 1)) := hk
    rw [aa_sd_jn x _ (by show -1000000 < p.1 + _; omega)] at hk'
    dsimp only at hk'
    rw [e]
    show (aa_i (aa_cs (aa_g xu xl ge gu) co.toInt cl.toInt i j t s + p.1) ≤ aa_i (aa_sd x) → _) ∧ (¬ aa_i (aa_cs (aa_g xu xl ge gu) co.toInt cl.toInt i j t s + p.1) ≤ aa_i (aa_sd x) → _)
    rw [aa_i_le (by omega) (by omega) (by omega) (by omega)]
    rw [Int.add_comm p.1] at hk'
    refine ⟨fun q => ?_, fun q => ?_⟩
    · rw [if_pos q] at hk'
      intro y ey
      rw [ey, nI_1]
      exact hk'
    · rw [if_neg q] at hk'
      intro y ey
      rw [ey, nI_1]
      exact hk'
  · rw [aa_cd, if_neg hh, aa_jn_n] at hk
    intro y ey
    rw [ey, nI_1]
    exact hk
theorem xa_f24a {post : SX → Prop} {J3 : Int32 → (Nat → Int32) → (Nat → Int32) → (Nat → Int32) → (Nat → Int32) → (Nat → Int32) → (Nat → Int32) → Prop} {x3 x5 : Int32} {i j t : Nat} (H : aa_Ok (aa_g xu xl ge gu) co.toInt cl.toInt n m) (hi : i ≤ n) (hj : j ≤ m) (ht : t < 3)
    (hT : aa_Tab (aa_VS (aa_g xu xl ge gu) co.toInt cl.toInt n m h) n m (aa_s i (j + 1) 0) a) (h5 : x5 = aa_i (aa_sd (aa_E n m h i j)))
    (hp : J3 (nI (t + 1)) xu xl (upd a (aa_s i j t) (aa_VS (aa_g xu xl ge gu) co.toInt cl.toInt n m h i j t)) b r d) :
    ∃ n24, wX_fillScoresAt_24 post J3 (nI i) (nI j) x3 (nI t) (nI n) (nI m) ge gu co cl xu xl a b r d n24 x5 0 := by
  have hn := H.2.2.2.2.2.1
  have hm := H.2.2.2.2.2.2
  have hlt : aa_s i j t < 363 := aa_s_lt (by omega) (by omega) ht
  subst h5
  have b0 : aa_Bd 20 (aa_E n m h i j) := aa_E_bd _ _ _
  have b1 := aa_Bd_jn b0 (aa_cd_bd (h := h) H hi hj t (s := 0) (by decide))
  have b2 := aa_Bd_jn b1 (aa_cd_bd (h := h) H hi hj t (s := 1) (by decide))
  refine ⟨4, xa_f24 (s := 0) H hi hj ht (by decide) hT _ b0 (xa_f24 (s := 1) H hi hj ht (by decide) hT _ b1 (xa_f24 (s := 2) H hi hj ht (by decide) hT _ b2 ?_))⟩
  rw [← aa_V_cd]
  refine pk_le 3 3 (fun _ => xa_state ⟨pk_in _ 363 hlt, fun a' ea' y ey => ?_⟩) (fun q => by omega)
  rw [ea', ey, nI_clamp (by omega), nI_1]
  obtain ⟨p, e⟩ := aa_V_so (h := h) H hi hj t
  have e2 : aa_VS (aa_g xu xl ge gu) co.toInt cl.toInt n m h i j t = aa_i (aa_sd (aa_V (aa_g xu xl ge gu) co.toInt cl.toInt n m h i j t)) := by
    unfold aa_VS
    rw [e]
    rfl
  rw [e2] at hp
  exact hp
theorem xa_fsa {post : SX → Prop} {x3 : Int32} {i j : Nat} (H : aa_Ok (aa_g xu xl ge gu) co.toInt cl.toInt n m) (hi : i ≤ n) (hj : j ≤ m)
    (hT : aa_Tab (aa_VS (aa_g xu xl ge gu) co.toInt cl.toInt n m h) n m (aa_s i (j + 1) 0) a) (hE : (x3 = 0 ∧ aa_E n m h i j = none) ∨ (x3 = 1 ∧ aa_E n m h i j = some (0, 1)))
    (hp : ∀ a', aa_Tab (aa_VS (aa_g xu xl ge gu) co.toInt cl.toInt n m h) n m (aa_s i j 0) a' → post (nI n, nI m, ge, gu, co, cl, xu, xl, a', b, r, d)) : wpX_fillScoresAt post (nI n, nI m, ge, gu, co, cl, xu, xl, a, b, r, d) (nI i) (nI j) x3 := by
  have hm := H.2.2.2.2.2.2
  refine loop_0 (fun k t a' => wX_fillScoresAt_3 post (nI i) (nI j) x3 (nI n) (nI m) ge gu co cl k (nI t) xu xl a' b r d)
    (fun t a' => aa_Tab (aa_VS (aa_g xu xl ge gu) co.toInt cl.toInt n m h) n m (aa_s i (j + 1) 0) a' ∧ ∀ t', t' < t → a' (aa_s i j t') = aa_VS (aa_g xu xl ge gu) co.toInt cl.toInt n m h i j t') 3 a ⟨hT, fun _ q => absurd q (Nat.not_lt_zero _)⟩ ?_ ?_
  · intro k a' hI
    refine pk_le 3 3 (fun _ => hp a' ?_) (fun q => by omega)
    intro i' j' t' hi' hj' ht' hK
    by_cases q : aa_s i (j + 1) 0 ≤ aa_s i' j' t'
    · exact hI.1 i' j' t' hi' hj' ht' q
    · have e : i' = i ∧ j' = j := by
        unfold aa_s at hK q
        omega
      obtain ⟨rfl, rfl⟩ := e
      exact hI.2 t' ht'
  · intro k t a' ht hI hc
    have hnew : aa_Tab (aa_VS (aa_g xu xl ge gu) co.toInt cl.toInt n m h) n m (aa_s i (j + 1) 0) (upd a' (aa_s i j t) (aa_VS (aa_g xu xl ge gu) co.toInt cl.toInt n m h i j t)) ∧ ∀ t', t' < t + 1 → (upd a' (aa_s i j t) (aa_VS (aa_g xu xl ge gu) co.toInt cl.toInt n m h i j t)) (aa_s i j t') = aa_VS (aa_g xu xl ge gu) co.toInt cl.toInt n m h i j t' := by
      refine ⟨fun i' j' t' hi' hj' ht' hK => ?_, fun t' ht' => ?_⟩
      · rw [pk_un (by unfold aa_s at hK ⊢; omega)]
        exact hI.1 i' j' t' hi' hj' ht' hK
      · by_cases q : t' = t
        · subst q
          exact pk_us
        · rw [pk_un (by unfold aa_s; omega)]
          exact hI.2 t' (by omega)
    refine pk_le 3 t (fun q => by omega) (fun _ => ?_)
    rcases hE with ⟨rfl, e⟩ | ⟨rfl, e⟩
    · exact br_t rfl (xa_f24a H hi hj ht hI.1 (by rw [e]; exact aa_c6.symm) (hc _ hnew))
    · exact br_f xa_1 (xa_f24a H hi hj ht hI.1 (by rw [e]; exact aa_c0.symm) (hc _ hnew))
/-- the modes -/
def aa_Mo (x1 x2 : Int32) (h : Nat) : Prop := (x1 = 0 ∧ x2 = 0 ∧ h = 0) ∨ (x1 = 1 ∧ x2 = 1 ∧ h = 1) ∨ (x1 = 0 ∧ x2 = 1 ∧ h = 2)
theorem xa_78 {post : SX → Prop} {J5 J15 : Int32 → Int32 → Int32 → Int32 → Int32 → Int32 → Int32 → (Nat → Int32) → (Nat → Int32) → (Nat → Int32) → (Nat → Int32) → (Nat → Int32) → (Nat → Int32) → Prop} {x1 x2 x3 : Int32} {i j : Nat} (H : aa_Ok (aa_g xu xl ge gu) co.toInt cl.toInt n m) (hi : i ≤ n) (hj : j ≤ m)
    (hT : aa_Tab (aa_VS (aa_g xu xl ge gu) co.toInt cl.toInt n m h) n m (aa_s i (j + 1) 0) a) (hE : (x3 = 0 ∧ aa_E n m h i j = none) ∨ (x3 = 1 ∧ aa_E n m h i j = some (0, 1)))
    (hp : ∀ a', aa_Tab (aa_VS (aa_g xu xl ge gu) co.toInt cl.toInt n m h) n m (aa_s i j 0) a' → J15 (nI j + (-1)) (nI n) (nI m) ge gu co cl xu xl a' b r d) : wX_fillScores_78 post J5 J15 x1 x2 (nI i) (nI j) x3 (nI j) (nI i) (nI n) (nI m) ge gu co cl xu xl a b r d := by
  unfold wX_fillScores_78
  exact xa_fsa H hi hj hT hE (fun a' h' => nm_e (hp a' h'))
theorem xa_body {post : SX → Prop} {J5 J15 : Int32 → Int32 → Int32 → Int32 → Int32 → Int32 → Int32 → (Nat → Int32) → (Nat → Int32) → (Nat → Int32) → (Nat → Int32) → (Nat → Int32) → (Nat → Int32) → Prop} {x1 x2 : Int32} {i j : Nat} (M : aa_Mo x1 x2 h) (H : aa_Ok (aa_g xu xl ge gu) co.toInt cl.toInt n m) (hi : i ≤ n) (hj : j ≤ m)
    (hT : aa_Tab (aa_VS (aa_g xu xl ge gu) co.toInt cl.toInt n m h) n m (aa_s i (j + 1) 0) a)
    (hp : ∀ a', aa_Tab (aa_VS (aa_g xu xl ge gu) co.toInt cl.toInt n m h) n m (aa_s i j 0) a' → J15 (nI j + (-1)) (nI n) (nI m) ge gu co cl xu xl a' b r d) :
    (x1 = 0 → ((nI i = nI n → wX_fillScores_32 post J5 J15 x1 x2 (nI i) (nI j) (nI n) (nI m) ge gu co cl xu xl a b r d) ∧ (¬ nI i = nI n → wX_fillScores_37 post J5 J15 x1 x2 (nI i) (nI j) 0 (nI n) (nI m) ge gu co cl xu xl a b r d))) ∧ (¬ x1 = 0 → wX_fillScores_32 post J5 J15 x1 x2 (nI i) (nI j) (nI n) (nI m) ge gu co cl xu xl a b r d) := by
  have hn := H.2.2.2.2.2.1
  have hm := H.2.2.2.2.2.2
  have K1 : aa_E n m h i j = some (0, 1) → wX_fillScores_78 post J5 J15 x1 x2 (nI i) (nI j) 1 (nI j) (nI i) (nI n) (nI m) ge gu co cl xu xl a b r d := fun e => xa_78 H hi hj hT (Or.inr ⟨rfl, e⟩) hp
  have K0 : aa_E n m h i j = none → wX_fillScores_78 post J5 J15 x1 x2 (nI i) (nI j) 0 (nI j) (nI i) (nI n) (nI m) ge gu co cl xu xl a b r d := fun e => xa_78 H hi hj hT (Or.inl ⟨rfl, e⟩) hp
  rcases M with ⟨rfl, rfl, rfl⟩ | ⟨rfl, rfl, rfl⟩ | ⟨rfl, rfl, rfl⟩
  · have k0 : ¬ (i = n ∧ j = m) → aa_E n m 0 i j = none := aa_E_no
    have k1 : (i = n ∧ j = m) → aa_E n m 0 i j = some (0, 1) := fun e => if_pos (Or.inl e)
    exact br_t rfl (pk_eq i n
      (fun e => br_t rfl (pk_eq j m (fun e' => br_f xa_1 (br_f xa_1 (K1 (k1 ⟨e, e'⟩)))) (fun e' => br_f xa_1 (br_t rfl (K0 (k0 (fun z => e' z.2)))))))
      (fun e => br_t rfl (pk_eq j m (fun e' => br_t rfl (K0 (k0 (fun z => e z.1)))) (fun e' => br_t rfl (K0 (k0 (fun z => e z.1)))))))
  · have k1 : aa_E n m 1 i j = some (0, 1) := if_pos (Or.inr (Or.inl rfl))
    exact br_f xa_1 (br_f xa_1 (br_f xa_1 (br_f xa_1 (K1 k1))))
  · have k0 : ¬ i = n → aa_E n m 2 i j = none := fun e => if_neg (by omega)
    have k1 : i = n → aa_E n m 2 i j = some (0, 1) := fun e => if_pos (Or.inr (Or.inr ⟨rfl, e⟩))
    exact br_t rfl (pk_eq i n (fun e => br_f xa_1 (br_f xa_1 (br_f xa_1 (K1 (k1 e))))) (fun e => br_f xa_1 (br_t rfl (K0 (k0 e)))))
theorem xa_neg1 : nI 0 + (-1) < 0 := by decide
theorem xa_15 {post : SX → Prop} {J5 : Int32 → Int32 → Int32 → Int32 → Int32 → Int32 → Int32 → (Nat → Int32) → (Nat → Int32) → (Nat → Int32) → (Nat → Int32) → (Nat → Int32) → (Nat → Int32) → Prop} {x1 x2 : Int32} {i : Nat} (M : aa_Mo x1 x2 h) (H : aa_Ok (aa_g xu xl ge gu) co.toInt cl.toInt n m) (hi : i ≤ n)
    (hJ : ∀ a', aa_Tab (aa_VS (aa_g xu xl ge gu) co.toInt cl.toInt n m h) n m (aa_s i 0 0) a' → J5 (nI i + (-1)) (nI n) (nI m) ge gu co cl xu xl a' b r d) :
    ∀ (c : Nat) (a : Nat → Int32), c ≤ m + 1 → aa_Tab (aa_VS (aa_g xu xl ge gu) co.toInt cl.toInt n m h) n m (aa_s i c 0) a → wX_fillScores_15 post J5 x1 x2 (nI i) (c + 1) (nI c + (-1)) (nI n) (nI m) ge gu co cl xu xl a b r d := by
  have hm := H.2.2.2.2.2.2
  intro c
  induction c with
  | zero =>
    intro a hc hT
    exact br_t xa_neg1 (nm_e (hJ a hT))
  | succ c ih =>
    intro a hc hT
    rw [pk_m1]
    refine br_f (nI_pos (by omega)) ?_
    exact xa_body M H hi (by omega) hT (fun a' h' => ih a' (by omega) h')
theorem xa_5 {post : SX → Prop} {x1 x2 : Int32} (M : aa_Mo x1 x2 h) (H : aa_Ok (aa_g xu xl ge gu) co.toInt cl.toInt n m)
    (hp : ∀ a', aa_Tab (aa_VS (aa_g xu xl ge gu) co.toInt cl.toInt n m h) n m 0 a' → post (nI n, nI m, ge, gu, co, cl, xu, xl, a', b, r, d)) :
    ∀ (c : Nat) (a : Nat → Int32), c ≤ n + 1 → aa_Tab (aa_VS (aa_g xu xl ge gu) co.toInt cl.toInt n m h) n m (aa_s c 0 0) a → wX_fillScores_5 post x1 x2 (c + 1) (nI c + (-1)) (nI n) (nI m) ge gu co cl xu xl a b r d := by
  have hn := H.2.2.2.2.2.1
  have hm := H.2.2.2.2.2.2
  intro c
  induction c with
  | zero =>
    intro a hc hT
    exact br_t xa_neg1 (hp a hT)
  | succ c ih =>
    intro a hc hT
    rw [pk_m1]
    refine br_f (nI_pos (by omega)) ⟨m + 1 + 1, ?_⟩
    have h1 := xa_15 (post := post) (J5 := wX_fillScores_5 post x1 x2 (c + 1)) (b := b) (r := r) (d := d) M H (show c ≤ n by omega) (fun a' h' => ih a' (by omega) h') (m + 1) a (Nat.le_refl _) ?_
    · rw [pk_m1] at h1
      exact h1
    · intro i' j' t' hi' hj' ht' hK
      refine hT i' j' t' hi' hj' ht' ?_
      unfold aa_s at hK ⊢
      omega
theorem xa_fs {post : SX → Prop} {x1 x2 : Int32} (M : aa_Mo x1 x2 h) (H : aa_Ok (aa_g xu xl ge gu) co.toInt cl.toInt n m)
    (hp : ∀ a', aa_Tab (aa_VS (aa_g xu xl ge gu) co.toInt cl.toInt n m h) n m 0 a' → post (nI n, nI m, ge, gu, co, cl, xu, xl, a', b, r, d)) : wpX_fillScores post (nI n, nI m, ge, gu, co, cl, xu, xl, a, b, r, d) x1 x2 := by
  refine ⟨n + 1 + 1, ?_⟩
  have h1 := xa_5 (b := b) (r := r) (d := d) M H hp (n + 1) a (Nat.le_refl _) ?_
  · rw [pk_m1] at h1
    exact h1
  · intro i' j' t' hi' hj' ht' hK
    have hm := H.2.2.2.2.2.2
    unfold aa_s at hK
    omega
end
