/-! 08: the reference's offer, fill and work -/
section
variable (g : Nat → Nat → Int) (o l : Int) (n m h : Nat)
theorem aa_sh_k (c : Int) (k : Nat) : -l + -(c + (k : Int) * l) = -(c + ((k + 1 : Nat) : Int) * l) := by
  rw [show ((k + 1 : Nat) : Int) = (k : Int) + 1 from rfl, Int.add_mul, Int.one_mul]
  omega
theorem aa_sh_1 (c : Int) : -(c + ((1 : Nat) : Int) * l) = -c - l := by
  rw [show ((1 : Nat) : Int) = 1 from rfl, Int.one_mul]
  omega
theorem aa_L1 (c : Int) (i j : Nat) : aa_L g o l n m h (-c - l) i j = if j + 1 ≤ m then aa_sh (-(c + ((1 : Nat) : Int) * l)) (aa_V g o l n m h i (j + 1) 2) else none := by
  rw [aa_sh_1]
  unfold aa_L
  by_cases q : j < m
  · rw [if_pos q, if_pos (by omega)]
  · rw [if_neg q, if_neg (by omega)]
theorem aa_U1 (c : Int) (i j : Nat) : aa_U g o l n m h (-c - l) i j = if i + 1 ≤ n then aa_sh (-(c + ((1 : Nat) : Int) * l)) (aa_V g o l n m h (i + 1) j 1) else none := by
  rw [aa_sh_1]
  unfold aa_U
  by_cases q : i < n
  · rw [if_pos q, if_pos (by omega)]
  · rw [if_neg q, if_neg (by omega)]
theorem aa_Lk (c : Int) (i j k : Nat) : aa_sh (-(c + (k : Int) * l)) (aa_V g o l n m h i (j + k) 2) = aa_jn (aa_sh (-(c + (k : Int) * l)) (aa_Q g o l n m h i (j + k) 2)) (if j + (k + 1) ≤ m then aa_sh (-(c + ((k + 1 : Nat) : Int) * l)) (aa_V g o l n m h i (j + (k + 1)) 2) else none) := by
  rw [aa_V2, aa_sh_jn]
  congr 1
  unfold aa_L
  by_cases q : j + k < m
  · rw [if_pos q, if_pos (by omega), aa_sh_sh, aa_sh_k]
    rfl
  · rw [if_neg q, if_neg (by omega)]
    rfl
theorem aa_Uk (c : Int) (i j k : Nat) : aa_sh (-(c + (k : Int) * l)) (aa_V g o l n m h (i + k) j 1) = aa_jn (aa_sh (-(c + (k : Int) * l)) (aa_Q g o l n m h (i + k) j 1)) (if i + (k + 1) ≤ n then aa_sh (-(c + ((k + 1 : Nat) : Int) * l)) (aa_V g o l n m h (i + (k + 1)) j 1) else none) := by
  rw [aa_V1, aa_sh_jn]
  congr 1
  unfold aa_U
  by_cases q : i + k < n
  · rw [if_pos q, if_pos (by omega), aa_sh_sh, aa_sh_k]
    rfl
  · rw [if_neg q, if_neg (by omega)]
    rfl
/-- the reference's tables from index K on -/
def aa_TY (K : Nat) (a b : Nat → Int32) : Prop := ∀ i j t, i ≤ n → j ≤ m → t < 3 → K ≤ aa_s i j t → a (aa_s i j t) = aa_i (aa_sc (aa_Q g o l n m h i j t)) ∧ b (aa_s i j t) = aa_ct (aa_Q g o l n m h i j t)
def aa_YI (q : Nat) (x : aa_P) (a b : Nat → Int32) : Prop := a q = aa_i (aa_sc x) ∧ b q = aa_ct x ∧ aa_TY g o l n m h (q + 1) a b
end
theorem aa_jn_hi {x : aa_P} {v : Int} {c : Int32} (hx : aa_sc x < v) : aa_jn x (some (v, c)) = some (v, c) := by
  cases x with
  | none => rfl
  | some p => exact congrArg some (if_pos hx)
theorem aa_jn_lo {p : Int × Int32} {v : Int} {c : Int32} (hx : v < p.1) : aa_jn (some p) (some (v, c)) = some p :=
  congrArg some ((if_neg (show ¬ p.1 < v by omega)).trans (if_pos hx))
theorem aa_jn_eq {p : Int × Int32} {v : Int} {c : Int32} (hx : v = p.1) : aa_jn (some p) (some (v, c)) = some (p.1, p.2 + c) :=
  congrArg some ((if_neg (show ¬ p.1 < v by omega)).trans (if_neg (show ¬ v < p.1 by omega)))
theorem aa_sc_in {x : aa_P} (hx : aa_Bd 30 x) : (x = none ∧ aa_sc x = -100000) ∨ (-540 ≤ aa_sc x ∧ aa_sc x ≤ 540) := by
  cases x with
  | none => exact Or.inl ⟨rfl, rfl⟩
  | some p =>
    have := hx p rfl
    refine Or.inr ?_
    show -540 ≤ p.1 ∧ p.1 ≤ 540
    omega
theorem aa_Bd_off {x : aa_P} (hx : aa_Bd 20 x) {e : Int} (h1 : -100 ≤ e) (h2 : e ≤ 100) : aa_Bd 30 (aa_sh (-e) x) := by
  cases x with
  | none => exact aa_Bd_n _
  | some p =>
    have := hx p rfl
    refine aa_Bd_s ?_ ?_
    · show _ ≤ p.1 + -e
      omega
    · show p.1 + -e ≤ _
      omega
theorem aa_off {x : aa_P} (hx : aa_Bd 20 x) {e : Int} (h1 : 0 ≤ e) (h2 : e ≤ 1000) : (aa_sh (-e) x = some (aa_sc x - e, aa_ct x) ∧ -2000 ≤ aa_sc x - e ∧ aa_sc x - e ≤ 2000) ∨ (aa_sh (-e) x = none ∧ -200000 ≤ aa_sc x - e ∧ aa_sc x - e ≤ -100000) := by
  cases x with
  | none =>
    refine Or.inr ⟨rfl, ?_⟩
    show -200000 ≤ (-100000 : Int) - e ∧ (-100000 : Int) - e ≤ -100000
    omega
  | some p =>
    have := hx p rfl
    refine Or.inl ⟨rfl, ?_⟩
    show -2000 ≤ p.1 - e ∧ p.1 - e ≤ 2000
    omega
theorem aa_c5 : aa_i (-50000) = -50000 := by decide
theorem aa_c1e5 : aa_i (-100000) = -100000 := by decide
section
variable {g : Nat → Nat → Int} {n m h : Nat} {ge gu co cl : Int32} {yt yn a b : Nat → Int32} {o l : Int}
theorem aa_TY_upd {K q : Nat} {z w : Int32} (hq : q < K) (hT : aa_TY g o l n m h K a b) : aa_TY g o l n m h K (upd a q z) (upd b q w) := fun i j t hi hj ht hK => by
  rw [pk_un (by omega), pk_un (by omega)]
  exact hT i j t hi hj ht hK
theorem aa_TY_updb {K q : Nat} {w : Int32} (hq : q < K) (hT : aa_TY g o l n m h K a b) : aa_TY g o l n m h K a (upd b q w) := fun i j t hi hj ht hK => by
  rw [pk_un (f := b) (by omega)]
  exact hT i j t hi hj ht hK
theorem ya_24 {post : SY → Prop} {q : Nat} (hq : q < 363) {v w : Int} {c : Int32} (hv : -200000 ≤ v) (hv' : v ≤ 2000) (hw : -200000 ≤ w) (hw' : w ≤ 2000) (ha : a q = aa_i w)
    (h1 : v = w → -50000 < v → post (ge, gu, co, cl, yt, yn, a, (upd b q (b q + c)))) (h0 : (v ≠ w ∨ v ≤ -50000) → post (ge, gu, co, cl, yt, yn, a, b)) : wY_offer_24 post (nI q) (aa_i v) c ge gu co cl yt yn a b := by
  have vp : vp_in (nI q) 363 := pk_in q 363 hq
  refine ⟨vp, ?_⟩
  rw [nI_clamp (by omega), ha, aa_i_eq (by omega) (by omega) (by omega) (by omega), ← aa_c5, aa_i_le (by omega) (by omega) (by omega) (by omega)]
  refine ⟨fun e => ⟨fun e2 => h0 (Or.inr e2), fun e2 => ⟨vp, vp, nm_e (h1 e (by omega))⟩⟩, fun e => h0 (Or.inl e)⟩
theorem ya_offer {post : SY → Prop} {q : Nat} (hq : q < 363) {x y : aa_P} {v : Int} {c : Int32} (hI : aa_YI g o l n m h q x a b) (hx : aa_Bd 30 x)
    (hy : (y = some (v, c) ∧ -2000 ≤ v ∧ v ≤ 2000) ∨ (y = none ∧ -200000 ≤ v ∧ v ≤ -100000))
    (hp : ∀ a' b', aa_YI g o l n m h q (aa_jn x y) a' b' → post (ge, gu, co, cl, yt, yn, a', b')) : wpY_offer post (ge, gu, co, cl, yt, yn, a, b) (nI q) (aa_i v) c := by
  have vp : vp_in (nI q) 363 := pk_in q 363 hq
  obtain ⟨i1, i2, i3⟩ := hI
  have hs := aa_sc_in hx
  refine ⟨vp, ?_⟩
  rw [nI_clamp (by omega), i1, aa_i_le (by omega) (by omega) (by omega) (by omega)]
  refine ⟨fun hle => ?_, fun hgt => ⟨vp, fun a' ea => ⟨vp, fun b' eb => ?_⟩⟩⟩
  · refine ya_24 hq (w := aa_sc x) (by omega) (by omega) (by omega) (by omega) i1 (fun e e5 => ?_) (fun e => ?_)
    · rcases hy with ⟨rfl, y1, y2⟩ | ⟨rfl, y1, y2⟩
      · cases x with
        | none => exact absurd (show v = -100000 from e) (by omega)
        | some p =>
          refine hp _ _ ⟨?_, ?_, aa_TY_updb (by omega) i3⟩
          · rw [aa_jn_eq e, i1]
            rfl
          · rw [aa_jn_eq e, pk_us, i2]
            rfl
      · omega
    · refine hp _ _ ?_
      rcases hy with ⟨rfl, y1, y2⟩ | ⟨rfl, y1, y2⟩
      · cases x with
        | none => exact absurd (show v ≤ -100000 from hle) (by omega)
        | some p =>
          have hle' : v ≤ p.1 := hle
          have e' : v ≠ p.1 ∨ v ≤ -50000 := e
          rw [aa_jn_lo (by omega)]
          exact ⟨i1, i2, i3⟩
      · rw [aa_jn_n]
        exact ⟨i1, i2, i3⟩
  · subst ea eb
    rcases hy with ⟨rfl, y1, y2⟩ | ⟨rfl, y1, y2⟩
    · refine ya_24 hq (w := v) (by omega) (by omega) (by omega) (by omega) pk_us (fun e e5 => ?_) (fun e => by omega)
      refine hp _ _ ⟨?_, ?_, aa_TY_updb (by omega) (aa_TY_upd (by omega) i3)⟩
      · rw [aa_jn_hi (by omega)]
        exact pk_us
      · rw [aa_jn_hi (by omega), pk_us, pk_us, Int32.zero_add]
        rfl
    · omega
theorem ya_gain {post : Int32 → Prop} {i j : Nat} (hi : i < 10) (hj : j < 10) (hg : (if yt i = yt (10 + j) then ge else gu) = aa_i (g i j)) (hp : post (aa_i (g i j))) : wpY_gain post (ge, gu, co, cl, yt, yn, a, b) (nI i) (nI j) := by
  have e10 : (10 : Int32) + nI j = nI (10 + j) := nI_add 10 j
  refine ⟨pk_in i 20 (by omega), pk_in (10 + j) 20 (by omega) e10, br_c (fun q => ?_) (fun q => ?_)⟩
  · rw [e10, nI_clamp (by omega), nI_clamp (by omega)] at q
    rw [if_pos q] at hg
    rw [hg]
    exact hp
  · rw [e10, nI_clamp (by omega), nI_clamp (by omega)] at q
    rw [if_neg q] at hg
    rw [hg]
    exact hp
theorem aa_val (z : Int) (k : Nat) : aa_i z - co - nI k * cl = aa_i (z - (co.toInt + (k : Int) * cl.toInt)) := by
  rw [show z - (co.toInt + (k : Int) * cl.toInt) = z - co.toInt - (k : Int) * cl.toInt by omega, aa_i_sub, aa_i_sub, aa_i_mul, aa_i_of, aa_i_of, aa_i_n]
theorem aa_kl {k : Nat} {l : Int} (hk : k ≤ 10) (h0 : 0 ≤ l) (h9 : l ≤ 9) : 0 ≤ (k : Int) * l ∧ (k : Int) * l ≤ 90 := by
  refine ⟨Int.mul_nonneg (by omega) h0, ?_⟩
  have h1 : (k : Int) * l ≤ (k : Int) * 9 := Int.mul_le_mul_of_nonneg_left h9 (by omega)
  omega
theorem aa_ixL (i j k : Nat) : ((((nI i * 11) + nI j) + nI k) * 3) + 2 = nI (aa_s i (j + k) 2) := by
  rw [Int32.add_assoc (nI i * 11), nI_add]
  exact aa_s_nI i (j + k) 2
theorem aa_ixU (i j k : Nat) : ((((nI i + nI k) * 11) + nI j) * 3) + 1 = nI (aa_s (i + k) j 1) := by
  rw [nI_add]
  exact aa_s_nI (i + k) j 1
theorem ya_198 {post : SY → Prop} {i j t : Nat} (H : aa_Ok g co.toInt cl.toInt n m) (hi : i ≤ n) (hj : j ≤ m) (ht : t < 3) (ht2 : t ≠ 2) {F : aa_P}
    (hp : ∀ a' b', aa_YI g co.toInt cl.toInt n m h (aa_s i j t) F a' b' → post (ge, gu, co, cl, yt, yn, a', b')) :
    ∀ (e k : Nat) (x : aa_P) (a b : Nat → Int32), j + k + e = m + 1 → 1 ≤ k → aa_Bd 30 x → aa_YI g co.toInt cl.toInt n m h (aa_s i j t) x a b →
    aa_jn x (if j + k ≤ m then aa_sh (-(co.toInt + (k : Int) * cl.toInt)) (aa_V g co.toInt cl.toInt n m h i (j + k) 2) else none) = F →
    wY_fill_198 post (nI i) (nI j) (nI t) (nI m) (nI (aa_s i j t)) (e + 1) (nI k) ge gu co cl yt yn a b := by
  have hn := H.2.2.2.2.2.1
  have hm := H.2.2.2.2.2.2
  have hq : aa_s i j t < 363 := aa_s_lt (by omega) (by omega) ht
  intro e
  induction e with
  | zero =>
    intro k x a b he hk hx hI hF
    rw [if_neg (by omega), aa_jn_n] at hF
    subst hF
    exact pk_eq t 2 (fun z => by omega) (fun _ => pk_lt m (j + k) (fun _ => hp _ _ hI) (fun z => by omega) rfl (nI_add j k))
  | succ e ih =>
    intro k x a b he hk hx hI hF
    have hlt : aa_s i (j + k) 2 < 363 := aa_s_lt (by omega) (by omega) (by decide)
    have hge : aa_s i j t + 1 ≤ aa_s i (j + k) 2 := by unfold aa_s; omega
    have hT := hI.2.2 i (j + k) 2 hi (by omega) (by decide) hge
    have hQ := aa_Q_bd (h := h) H hi (show j + k ≤ m by omega) 2
    have hkl := aa_kl (show k ≤ 10 by omega) H.2.2.2.1 H.2.2.2.2.1
    have ho := H.2.1
    have ho' := H.2.2.1
    rw [if_pos (by omega), aa_Lk, ← aa_jn_assoc] at hF
    refine pk_eq t 2 (fun z => by omega) (fun _ => pk_lt m (j + k) (fun z => by omega) (fun _ => nm_r (aa_ixL i j k) ⟨pk_in _ 363 hlt, pk_in _ 363 hlt, ?_⟩) rfl (nI_add j k))
    rw [nI_clamp (by omega), hT.1, hT.2, aa_val]
    have hoff := aa_off hQ (e := co.toInt + (k : Int) * cl.toInt) (by omega) (by omega)
    refine ya_offer hq hI hx hoff (fun a' b' hI' => nm_r (nI_1 k) ?_)
    exact ih (k + 1) _ a' b' (by omega) (by omega) (aa_Bd_jn hx (aa_Bd_off hQ (by omega) (by omega))) hI' hF
theorem ya_127 {post : SY → Prop} {i j t : Nat} (H : aa_Ok g co.toInt cl.toInt n m) (hi : i ≤ n) (hj : j ≤ m) (ht : t < 3) (ht1 : t ≠ 1) {F : aa_P}
    (hp : ∀ a b, aa_YI g co.toInt cl.toInt n m h (aa_s i j t) F a b → ∃ n198, wY_fill_198 post (nI i) (nI j) (nI t) (nI m) (nI (aa_s i j t)) n198 1 ge gu co cl yt yn a b) :
    ∀ (e k : Nat) (x : aa_P) (a b : Nat → Int32), i + k + e = n + 1 → 1 ≤ k → aa_Bd 30 x → aa_YI g co.toInt cl.toInt n m h (aa_s i j t) x a b →
    aa_jn x (if i + k ≤ n then aa_sh (-(co.toInt + (k : Int) * cl.toInt)) (aa_V g co.toInt cl.toInt n m h (i + k) j 1) else none) = F →
    wY_fill_127 post (nI i) (nI j) (nI t) (nI n) (nI m) (nI (aa_s i j t)) (e + 1) (nI k) ge gu co cl yt yn a b := by
  have hn := H.2.2.2.2.2.1
  have hm := H.2.2.2.2.2.2
  have hq : aa_s i j t < 363 := aa_s_lt (by omega) (by omega) ht
  intro e
  induction e with
  | zero =>
    intro k x a b he hk hx hI hF
    rw [if_neg (by omega), aa_jn_n] at hF
    subst hF
    exact pk_eq t 1 (fun z => by omega) (fun _ => pk_lt n (i + k) (fun _ => hp _ _ hI) (fun z => by omega) rfl (nI_add i k))
  | succ e ih =>
    intro k x a b he hk hx hI hF
    have hlt : aa_s (i + k) j 1 < 363 := aa_s_lt (by omega) (by omega) (by decide)
    have hge : aa_s i j t + 1 ≤ aa_s (i + k) j 1 := by unfold aa_s; omega
    have hT := hI.2.2 (i + k) j 1 (by omega) hj (by decide) hge
    have hQ := aa_Q_bd (h := h) H (show i + k ≤ n by omega) hj 1
    have hkl := aa_kl (show k ≤ 10 by omega) H.2.2.2.1 H.2.2.2.2.1
    have ho := H.2.1
    have ho' := H.2.2.1
    rw [if_pos (by omega), aa_Uk, ← aa_jn_assoc] at hF
    refine pk_eq t 1 (fun z => by omega) (fun _ => pk_lt n (i + k) (fun z => by omega) (fun _ => nm_r (aa_ixU i j k) ⟨pk_in _ 363 hlt, pk_in _ 363 hlt, ?_⟩) rfl (nI_add i k))
    rw [nI_clamp (by omega), hT.1, hT.2, aa_val]
    have hoff := aa_off hQ (e := co.toInt + (k : Int) * cl.toInt) (by omega) (by omega)
    refine ya_offer hq hI hx hoff (fun a' b' hI' => nm_r (nI_1 k) ?_)
    exact ih (k + 1) _ a' b' (by omega) (by omega) (aa_Bd_jn hx (aa_Bd_off hQ (by omega) (by omega))) hI' hF
theorem aa_s9 (i j : Nat) : ((((nI i + 1) * 11) + nI j) + 1) * 3 = nI (aa_s (i + 1) (j + 1) 0) := by
  rw [nI_1 i, Int32.add_assoc, nI_1 j]
  have e := aa_s_nI (i + 1) (j + 1) 0
  rw [nI_0, Int32.add_zero] at e
  exact e
theorem ya_67 {post : SY → Prop} {i j t : Nat} (H : aa_Ok g co.toInt cl.toInt n m) (hg : ∀ i j, i < n → j < m → (if yt i = yt (10 + j) then ge else gu) = aa_i (g i j)) (hi : i ≤ n) (hj : j ≤ m) (ht : t < 3)
    (hI : aa_YI g co.toInt cl.toInt n m h (aa_s i j t) (aa_E n m h i j) a b)
    (hp : ∀ a' b', aa_YI g co.toInt cl.toInt n m h (aa_s i j t) (aa_Q g co.toInt cl.toInt n m h i j t) a' b' → post (ge, gu, co, cl, yt, yn, a', b')) :
    wY_fill_67 post (nI i) (nI j) (nI t) (nI n) (nI m) (nI (aa_s i j t)) ge gu co cl yt yn a b := by
  have hn := H.2.2.2.2.2.1
  have hm := H.2.2.2.2.2.2
  have hcl := H.2.2.2.1
  have hcl' := H.2.2.2.2.1
  have hco := H.2.1
  have hco' := H.2.2.1
  have hq : aa_s i j t < 363 := aa_s_lt (by omega) (by omega) ht
  have bE : aa_Bd 30 (aa_E n m h i j) := aa_E_bd _ _ _
  have bD : aa_Bd 30 (aa_D g co.toInt cl.toInt n m h i j) := aa_Bd_mono (aa_D_bd H fun a b => aa_V_bd H (by omega) (by omega) _) (by omega)
  have bU : aa_Bd 30 (aa_U g co.toInt cl.toInt n m h (-co.toInt - cl.toInt) i j) := aa_Bd_mono (aa_U_bd (by omega) (by omega) fun a => aa_V_bd H (by omega) (by omega) _) (by omega)
  -- the second loop
  have s2 : ∀ a b, aa_YI g co.toInt cl.toInt n m h (aa_s i j t) (aa_jn (aa_jn (aa_E n m h i j) (aa_D g co.toInt cl.toInt n m h i j)) (if t = 1 then none else aa_U g co.toInt cl.toInt n m h (-co.toInt - cl.toInt) i j)) a b → ∃ n198, wY_fill_198 post (nI i) (nI j) (nI t) (nI m) (nI (aa_s i j t)) n198 1 ge gu co cl yt yn a b := by
    intro a b hI'
    by_cases t2 : t = 2
    · refine ⟨1, pk_eq t 2 (fun _ => hp _ _ ?_) (fun z => absurd t2 z)⟩
      have e : aa_Q g co.toInt cl.toInt n m h i j t = aa_jn (aa_jn (aa_E n m h i j) (aa_D g co.toInt cl.toInt n m h i j)) (if t = 1 then none else aa_U g co.toInt cl.toInt n m h (-co.toInt - cl.toInt) i j) := by
        unfold aa_Q
        rw [if_pos t2, aa_jn_n]
      rw [e]
      exact hI'
    · refine ⟨m + 1 - (j + 1) + 1, ya_198 H hi hj ht t2 hp (m + 1 - (j + 1)) 1 _ a b (by omega) (by omega) ?_ hI' ?_⟩
      · refine aa_Bd_jn (aa_Bd_jn bE bD) ?_
        split
        · exact aa_Bd_n _
        · exact bU
      · unfold aa_Q
        rw [if_neg t2, aa_L1]
  -- the first loop
  have s1 : ∀ a b, aa_YI g co.toInt cl.toInt n m h (aa_s i j t) (aa_jn (aa_E n m h i j) (aa_D g co.toInt cl.toInt n m h i j)) a b → ∃ n127, wY_fill_127 post (nI i) (nI j) (nI t) (nI n) (nI m) (nI (aa_s i j t)) n127 1 ge gu co cl yt yn a b := by
    intro a b hI'
    by_cases t1 : t = 1
    · refine ⟨1, pk_eq t 1 (fun _ => s2 _ _ ?_) (fun z => absurd t1 z)⟩
      rw [if_pos t1, aa_jn_n]
      exact hI'
    · refine ⟨n + 1 - (i + 1) + 1, ya_127 H hi hj ht t1 s2 (n + 1 - (i + 1)) 1 _ a b (by omega) (by omega) (aa_Bd_jn bE bD) hI' ?_⟩
      rw [if_neg t1, aa_U1]
  have hDn : ¬ (i < n ∧ j < m) → ∃ n127, wY_fill_127 post (nI i) (nI j) (nI t) (nI n) (nI m) (nI (aa_s i j t)) n127 1 ge gu co cl yt yn a b := fun z => by
    refine s1 _ _ ?_
    rw [aa_D, if_neg z, aa_jn_n]
    exact hI
  refine pk_le n i (fun z => hDn (by omega)) (fun z1 => pk_le m j (fun z => hDn (by omega)) (fun z2 => ?_))
  have hlt : aa_s (i + 1) (j + 1) 0 < 363 := aa_s_lt (by omega) (by omega) (by decide)
  have hT := hI.2.2 (i + 1) (j + 1) 0 (by omega) (by omega) (by decide) (by unfold aa_s; omega)
  refine nm_r (aa_s9 i j) ⟨pk_in _ 363 hlt, ?_⟩
  refine ya_gain (by omega) (by omega) (hg i j z1 z2) ?_
  refine nm_e ⟨pk_in _ 363 hlt, ?_⟩
  rw [nI_clamp (by omega), hT.1, hT.2, ← aa_i_add]
  obtain ⟨p, e⟩ := aa_V_so (h := h) H (show i + 1 ≤ n by omega) (show j + 1 ≤ m by omega) 0
  have bp := aa_V_bd (h := h) H (show i + 1 ≤ n by omega) (show j + 1 ≤ m by omega) 0 p e
  have bg := H.1 i j z1 z2
  rw [← aa_V0, e]
  have eD : aa_D g co.toInt cl.toInt n m h i j = some (p.1 + g i j, p.2) := by
    unfold aa_D
    rw [if_pos ⟨z1, z2⟩, e]
    rfl
  refine ya_offer (y := aa_D g co.toInt cl.toInt n m h i j) hq hI bE (Or.inl ⟨eD, ?_⟩) (fun a' b' hI' => s1 a' b' hI')
  show -2000 ≤ p.1 + g i j ∧ p.1 + g i j ≤ 2000
  omega
theorem ya_fill {post : SY → Prop} {i j t : Nat} (H : aa_Ok g co.toInt cl.toInt n m) (hg : ∀ i j, i < n → j < m → (if yt i = yt (10 + j) then ge else gu) = aa_i (g i j)) (hi : i ≤ n) (hj : j ≤ m) (ht : t < 3) (hh : h < 3)
    (hT : aa_TY g co.toInt cl.toInt n m h (aa_s i j t + 1) a b)
    (hp : ∀ a' b', aa_TY g co.toInt cl.toInt n m h (aa_s i j t) a' b' → post (ge, gu, co, cl, yt, yn, a', b')) :
    wpY_fill post (ge, gu, co, cl, yt, yn, a, b) (nI i) (nI j) (nI t) (nI n) (nI m) (nI h) := by
  have hn := H.2.2.2.2.2.1
  have hm := H.2.2.2.2.2.2
  have hq : aa_s i j t < 363 := aa_s_lt (by omega) (by omega) ht
  have hp' : ∀ a' b', aa_YI g co.toInt cl.toInt n m h (aa_s i j t) (aa_Q g co.toInt cl.toInt n m h i j t) a' b' → post (ge, gu, co, cl, yt, yn, a', b') := by
    intro a' b' hI
    refine hp a' b' (fun i' j' t' hi' hj' ht' hK => ?_)
    by_cases e : aa_s i j t + 1 ≤ aa_s i' j' t'
    · exact hI.2.2 i' j' t' hi' hj' ht' e
    · obtain ⟨rfl, rfl, rfl⟩ := aa_s_inj (show j' ≤ 10 by omega) ht' (show j ≤ 10 by omega) ht (show aa_s i' j' t' = aa_s i j t by omega)
      exact ⟨hI.1, hI.2.1⟩
  refine nm_r (aa_s_nI i j t) ⟨pk_in _ 363 hq, fun a1 ea => ⟨pk_in _ 363 hq, fun b1 eb => ?_⟩⟩
  rw [nI_clamp (by omega)] at ea eb
  have hI0 : aa_YI g co.toInt cl.toInt n m h (aa_s i j t) none a1 b1 := by
    subst ea eb
    refine ⟨?_, pk_us, aa_TY_upd (by omega) hT⟩
    rw [pk_us]
    exact aa_c1e5.symm
  have K0 : aa_E n m h i j = none → wY_fill_67 post (nI i) (nI j) (nI t) (nI n) (nI m) (nI (aa_s i j t)) ge gu co cl yt yn a1 b1 := fun e => ya_67 H hg hi hj ht (by rw [e]; exact hI0) hp'
  have K1 : aa_E n m h i j = some (0, 1) → wY_fill_59 post (nI i) (nI j) (nI t) (nI n) (nI m) (nI (aa_s i j t)) ge gu co cl yt yn a1 b1 := fun e => by
    unfold wY_fill_59
    rw [← aa_c0]
    refine ya_offer (y := some (0, 1)) hq hI0 (aa_Bd_n _) (Or.inl ⟨rfl, by omega, by omega⟩) (fun a' b' hI' => ya_67 H hg hi hj ht ?_ hp')
    rw [e]
    exact hI'
  have k1 : ((i = n ∧ j = m) ∨ h = 1 ∨ (h = 2 ∧ i = n)) → aa_E n m h i j = some (0, 1) := fun z => if_pos z
  have k0 : ¬ ((i = n ∧ j = m) ∨ h = 1 ∨ (h = 2 ∧ i = n)) → aa_E n m h i j = none := fun z => if_neg z
  have K41 : ¬ (i = n ∧ j = m) → wY_fill_41 post (nI i) (nI j) (nI t) (nI n) (nI m) (nI h) (nI (aa_s i j t)) ge gu co cl yt yn a1 b1 := fun z =>
    pk_eq h 1 (fun e => K1 (k1 (by omega))) (fun e => pk_eq h 2 (fun e2 => pk_eq i n (fun e3 => K1 (k1 (by omega))) (fun e3 => K0 (k0 (by omega)))) (fun e2 => K0 (k0 (by omega))))
  exact pk_eq i n (fun e => pk_eq j m (fun e' => K1 (k1 (by omega))) (fun e' => K41 (by omega))) (fun e => K41 (by omega))
theorem ya_17 {post : SY → Prop} {J3 : Int32 → Int32 → Int32 → Int32 → Int32 → (Nat → Int32) → (Nat → Int32) → (Nat → Int32) → (Nat → Int32) → Prop} {i : Nat} (H : aa_Ok g co.toInt cl.toInt n m) (hg : ∀ i j, i < n → j < m → (if yt i = yt (10 + j) then ge else gu) = aa_i (g i j)) (hi : i ≤ n) (hh : h < 3)
    (hJ : ∀ a b, aa_TY g co.toInt cl.toInt n m h (i * 33) a b → J3 (nI i + (-1)) ge gu co cl yt yn a b) :
    ∀ (c : Nat) (a b : Nat → Int32), c ≤ (m + 1) * 3 → aa_TY g co.toInt cl.toInt n m h (i * 33 + c) a b → wY_work_17 post J3 (nI n) (nI m) (nI h) (nI i) (c + 1) (nI c + (-1)) ge gu co cl yt yn a b := by
  have hm := H.2.2.2.2.2.2
  intro c
  induction c with
  | zero =>
    intro a b hc hT
    exact br_t xa_neg1 (nm_e (hJ a b hT))
  | succ c ih =>
    intro a b hc hT
    rw [pk_m1]
    have e1 : nI c / 3 = nI (c / 3) := pk_div (d := 3) (by omega) (by decide) (by decide)
    have e2 : nI c - nI c / 3 * 3 = nI (c % 3) := pk_rem (d := 3) (by omega) (by decide) (by decide)
    have e3 : aa_s i (c / 3) (c % 3) = i * 33 + c := by unfold aa_s; omega
    refine br_f (nI_pos (by omega)) ⟨by decide, by decide, ?_⟩
    rw [e2, e1]
    refine ya_fill H hg hi (by omega) (by omega) hh (by rw [e3]; exact hT) (fun a' b' hT' => nm_e (ih a' b' (by omega) ?_))
    rw [e3] at hT'
    exact hT'
theorem ya_3 {post : SY → Prop} (H : aa_Ok g co.toInt cl.toInt n m) (hg : ∀ i j, i < n → j < m → (if yt i = yt (10 + j) then ge else gu) = aa_i (g i j)) (hh : h < 3)
    (hp : ∀ a b, aa_TY g co.toInt cl.toInt n m h 0 a b → post (ge, gu, co, cl, yt, yn, a, b)) :
    ∀ (c : Nat) (a b : Nat → Int32), c ≤ n + 1 → aa_TY g co.toInt cl.toInt n m h (c * 33) a b → wY_work_3 post (nI n) (nI m) (nI h) (c + 1) (nI c + (-1)) ge gu co cl yt yn a b := by
  have hn := H.2.2.2.2.2.1
  have hm := H.2.2.2.2.2.2
  intro c
  induction c with
  | zero =>
    intro a b hc hT
    refine br_t xa_neg1 (hp a b ?_)
    rw [Nat.zero_mul] at hT
    exact hT
  | succ c ih =>
    intro a b hc hT
    rw [pk_m1]
    have e1 : ((nI m + 1) * 3) - 1 = nI ((m + 1) * 3) + (-1) := by
      rw [Int32.sub_eq_add_neg, nI_1 m]
      exact congrArg (· + (-1)) (pk_mul (m + 1) 3)
    refine br_f (nI_pos (by omega)) (nm_r e1 ⟨(m + 1) * 3 + 1, ?_⟩)
    refine ya_17 H hg (by omega) hh (fun a' b' hT' => ih a' b' (by omega) hT') ((m + 1) * 3) a b (Nat.le_refl _) ?_
    intro i' j' t' hi' hj' ht' hK
    refine hT i' j' t' hi' hj' ht' ?_
    unfold aa_s at hK ⊢
    omega
theorem ya_work {post : SY → Prop} (H : aa_Ok g co.toInt cl.toInt n m) (hg : ∀ i j, i < n → j < m → (if yt i = yt (10 + j) then ge else gu) = aa_i (g i j)) (hh : h < 3)
    (hp : ∀ a b, aa_TY g co.toInt cl.toInt n m h 0 a b → post (ge, gu, co, cl, yt, yn, a, b)) : wpY_work post (ge, gu, co, cl, yt, yn, a, b) (nI n) (nI m) (nI h) := by
  refine ⟨n + 1 + 1, ?_⟩
  have h1 := ya_3 H hg hh hp (n + 1) a b (Nat.le_refl _) ?_
  · rw [pk_m1] at h1
    exact h1
  · intro i' j' t' hi' hj' ht' hK
    have hm := H.2.2.2.2.2.2
    unfold aa_s at hK
    omega
end
