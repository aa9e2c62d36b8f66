/-! 11: the reference's rest, sort, walk and greatest starts -/
theorem aa_mx {x y : aa_P} (hx : aa_Bd 30 x) (hy : aa_Bd 20 y) {e : Int} (h1 : 0 ≤ e) (h2 : e ≤ 1000) : (aa_sc y - e ≤ aa_sc x → aa_sc (aa_jn x (aa_sh (-e) y)) = aa_sc x) ∧ (¬ aa_sc y - e ≤ aa_sc x → aa_sc (aa_jn x (aa_sh (-e) y)) = aa_sc y - e) := by
  have hs := aa_sc_in hx
  rcases aa_off hy h1 h2 with ⟨q, q1, q2⟩ | ⟨q, q1, q2⟩
  · rw [q]
    refine ⟨fun z => ?_, fun z => ?_⟩
    · cases x with
      | none => exact absurd (show aa_sc y - e ≤ -100000 from z) (by omega)
      | some p =>
        have z' : aa_sc y - e ≤ p.1 := z
        by_cases e1 : aa_sc y - e = p.1
        · rw [aa_jn_eq e1]
          rfl
        · rw [aa_jn_lo (by omega)]
    · rw [aa_jn_hi (by omega)]
      rfl
  · rw [q, aa_jn_n]
    refine ⟨fun z => rfl, fun z => ?_⟩
    omega
theorem aa_val0 {cl : Int32} (z : Int) (k : Nat) : aa_i z - nI k * cl = aa_i (z - (0 + (k : Int) * cl.toInt)) := by
  rw [show z - (0 + (k : Int) * cl.toInt) = z - (k : Int) * cl.toInt by omega, aa_i_sub, aa_i_mul, aa_i_of, aa_i_n]
section
variable {g : Nat → Nat → Int} {n m h : Nat} {ge gu co cl : Int32} {yt yn a b : Nat → Int32}
theorem ya_r86 {post : Int32 → Prop} {i j : Nat} (H : aa_Ok g co.toInt cl.toInt n m) (h1 : yn 1 = nI m) (hT : aa_TY g co.toInt cl.toInt n m h 0 a b) (hi : i ≤ n) (hj : j ≤ m) {F : aa_P} (hp : post (aa_i (aa_sc F))) :
    ∀ (e k : Nat) (x : aa_P), j + k + e = m + 1 → aa_Bd 30 x →
    aa_jn x (if j + k ≤ m then aa_sh (-(0 + (k : Int) * cl.toInt)) (aa_V g co.toInt cl.toInt n m h i (j + k) 2) else none) = F →
    wY_rest_86 post (nI i) (nI j) (nI 2) ge gu co cl yt yn a b (e + 1) (aa_i (aa_sc x)) (nI k) := by
  have hn := H.2.2.2.2.2.1
  have hm := H.2.2.2.2.2.2
  intro e
  induction e with
  | zero =>
    intro k x he hx hF
    rw [if_neg (by omega), aa_jn_n] at hF
    subst hF
    exact pk_eq 2 2 (fun _ => pk_lt m (j + k) (fun _ => hp) (fun z => by omega) h1 (nI_add j k)) (fun z => by omega)
  | succ e ih =>
    intro k x he hx hF
    have hlt : aa_s i (j + k) 2 < 363 := aa_s_lt (by omega) (by omega) (by decide)
    have hT' := hT i (j + k) 2 hi (by omega) (by decide) (Nat.zero_le _)
    have hQ := aa_Q_bd (h := h) H hi (show j + k ≤ m by omega) 2
    have hkl := aa_kl (show k ≤ 10 by omega) H.2.2.2.1 H.2.2.2.2.1
    rw [if_pos (by omega), aa_Lk, ← aa_jn_assoc] at hF
    refine pk_eq 2 2 (fun _ => pk_lt m (j + k) (fun z => by omega) (fun _ => ?_) h1 (nI_add j k)) (fun z => by omega)
    rw [aa_ixL i j k]
    refine ⟨pk_in _ 363 hlt, ?_⟩
    rw [nI_clamp (by omega), hT'.1, aa_val0]
    refine nm_e ?_
    have hs := aa_sc_in hx
    have hsQ := aa_sc_in (aa_Bd_mono hQ (show 20 ≤ 30 by decide))
    have hmx := aa_mx hx hQ (e := 0 + (k : Int) * cl.toInt) (by omega) (by omega)
    have hih := ih (k + 1) _ (by omega) (aa_Bd_jn hx (aa_Bd_off hQ (e := 0 + (k : Int) * cl.toInt) (by omega) (by omega))) hF
    rw [aa_i_le (by omega) (by omega) (by omega) (by omega)]
    refine ⟨fun z => nm_r (nI_1 k) ?_, fun z => nm_r (nI_1 k) ?_⟩
    · rw [hmx.1 z] at hih
      exact hih
    · rw [hmx.2 z] at hih
      exact hih
theorem ya_r20 {post : Int32 → Prop} {i j : Nat} (H : aa_Ok g co.toInt cl.toInt n m) (h0 : yn 0 = nI n) (hT : aa_TY g co.toInt cl.toInt n m h 0 a b) (hi : i ≤ n) (hj : j ≤ m) {F : aa_P} (hp : post (aa_i (aa_sc F))) :
    ∀ (e k : Nat) (x : aa_P), i + k + e = n + 1 → aa_Bd 30 x →
    aa_jn x (if i + k ≤ n then aa_sh (-(0 + (k : Int) * cl.toInt)) (aa_V g co.toInt cl.toInt n m h (i + k) j 1) else none) = F →
    wY_rest_20 post (nI i) (nI j) (nI 1) ge gu co cl yt yn a b (e + 1) (aa_i (aa_sc x)) (nI k) := by
  have hn := H.2.2.2.2.2.1
  have hm := H.2.2.2.2.2.2
  intro e
  induction e with
  | zero =>
    intro k x he hx hF
    rw [if_neg (by omega), aa_jn_n] at hF
    subst hF
    exact pk_eq 1 1 (fun _ => pk_lt n (i + k) (fun _ => ⟨1, pk_eq 1 2 (fun z => by omega) (fun _ => hp)⟩) (fun z => by omega) h0 (nI_add i k)) (fun z => by omega)
  | succ e ih =>
    intro k x he hx hF
    have hlt : aa_s (i + k) j 1 < 363 := aa_s_lt (by omega) (by omega) (by decide)
    have hT' := hT (i + k) j 1 (by omega) hj (by decide) (Nat.zero_le _)
    have hQ := aa_Q_bd (h := h) H (show i + k ≤ n by omega) hj 1
    have hkl := aa_kl (show k ≤ 10 by omega) H.2.2.2.1 H.2.2.2.2.1
    rw [if_pos (by omega), aa_Uk, ← aa_jn_assoc] at hF
    refine pk_eq 1 1 (fun _ => pk_lt n (i + k) (fun z => by omega) (fun _ => ?_) h0 (nI_add i k)) (fun z => by omega)
    rw [aa_ixU i j k]
    refine ⟨pk_in _ 363 hlt, ?_⟩
    rw [nI_clamp (by omega), hT'.1, aa_val0]
    refine nm_e ?_
    have hs := aa_sc_in hx
    have hsQ := aa_sc_in (aa_Bd_mono hQ (show 20 ≤ 30 by decide))
    have hmx := aa_mx hx hQ (e := 0 + (k : Int) * cl.toInt) (by omega) (by omega)
    have hih := ih (k + 1) _ (by omega) (aa_Bd_jn hx (aa_Bd_off hQ (e := 0 + (k : Int) * cl.toInt) (by omega) (by omega))) hF
    rw [aa_i_le (by omega) (by omega) (by omega) (by omega)]
    refine ⟨fun z => nm_r (nI_1 k) ?_, fun z => nm_r (nI_1 k) ?_⟩
    · rw [hmx.1 z] at hih
      exact hih
    · rw [hmx.2 z] at hih
      exact hih
theorem ya_rest {post : Int32 → Prop} {i j t : Nat} (H : aa_Ok g co.toInt cl.toInt n m) (h0 : yn 0 = nI n) (h1 : yn 1 = nI m) (hT : aa_TY g co.toInt cl.toInt n m h 0 a b) (hi : i ≤ n) (hj : j ≤ m) (ht : t < 3) (hp : post (aa_i (aa_sc (aa_V g co.toInt cl.toInt n m h i j t)))) : wpY_rest post (ge, gu, co, cl, yt, yn, a, b) (nI i) (nI j) (nI t) := by
  have hn := H.2.2.2.2.2.1
  have hm := H.2.2.2.2.2.2
  have hlt : aa_s i j t < 363 := aa_s_lt (by omega) (by omega) ht
  have hT' := hT i j t hi hj ht (Nat.zero_le _)
  have hQ := aa_Bd_mono (aa_Q_bd (h := h) H hi hj t) (show 20 ≤ 30 by decide)
  unfold wpY_rest
  dsimp only
  rw [aa_s_nI]
  refine ⟨pk_in _ 363 hlt, ?_⟩
  rw [nI_clamp (by omega), hT'.1]
  refine nm_e ?_
  match t, ht with
  | 0, _ =>
    rw [aa_V0] at hp
    exact ⟨1, pk_eq 0 1 (fun z => by omega) (fun _ => ⟨1, pk_eq 0 2 (fun z => by omega) (fun _ => hp)⟩)⟩
  | 1, _ =>
    refine ⟨n + 1 - (i + 1) + 1, ya_r20 H h0 hT hi hj hp (n + 1 - (i + 1)) 1 _ (by omega) hQ ?_⟩
    rw [← aa_U1, show -(0 : Int) - cl.toInt = -cl.toInt by omega]
    exact (aa_V1 _ _ _ _ _ _ _ _).symm
  | 2, _ =>
    refine ⟨1, pk_eq 2 1 (fun z => by omega) (fun _ => ⟨m + 1 - (j + 1) + 1, ya_r86 H h1 hT hi hj hp (m + 1 - (j + 1)) 1 _ (by omega) hQ ?_⟩)⟩
    rw [← aa_L1, show -(0 : Int) - cl.toInt = -cl.toInt by omega]
    exact (aa_V2 _ _ _ _ _ _ _ _).symm
theorem ya_sort {post : Int32 → Prop} {i j t : Nat} (H : aa_Ok g co.toInt cl.toInt n m) (hg : ∀ i j, i < n → j < m → (if yt i = yt (10 + j) then ge else gu) = aa_i (g i j)) (h0 : yn 0 = nI n) (h1 : yn 1 = nI m) (hT : aa_TY g co.toInt cl.toInt n m 0 0 a b) (hi : i ≤ n) (hj : j ≤ m) (ht : t < 3)
    (he : i = n ∧ j = m → post (-1)) (hp : ¬ (i = n ∧ j = m) → post (nI (aa_fm g co.toInt cl.toInt n m i j t))) : wpY_sort post (ge, gu, co, cl, yt, yn, a, b) (nI i) (nI j) (nI t) := by
  have hn := H.2.2.2.2.2.1
  have hm := H.2.2.2.2.2.2
  have hcl := H.2.2.2.1
  have hcl' := H.2.2.2.2.1
  have hco := H.2.1
  have hco' := H.2.2.1
  have bV := aa_V_in (h := 0) H hi hj t
  have K30 : ¬ (i = n ∧ j = m) → wY_sort_30 post (nI i) (nI j) (nI t) (nI n) (nI m) ge gu co cl yt yn a b := by
    intro hne
    have hp := hp hne
    unfold aa_fm at hp
    have K93 : ¬ aa_tg g co.toInt cl.toInt n m 0 i j t 0 → ∀ z0 : Int32, cl + z0 = aa_i (-(aa_cs g co.toInt cl.toInt i j t 1)) → wY_sort_93 post (nI i) (nI j) (nI n) (aa_i (aa_sc (aa_V g co.toInt cl.toInt n m 0 i j t))) z0 cl ge gu co cl yt yn a b := by
      intro h0' z0 hz
      rw [if_neg h0'] at hp
      refine nm_r hz (pk_le n i (fun q => ?_) (fun q => ?_))
      · rw [if_neg (fun z => by have := z.1.1; omega)] at hp
        exact hp
      · rw [nI_1]
        have bW := aa_V_in (h := 0) H (show i + 1 ≤ n by omega) hj 1
        have hh : aa_has n m i j 1 := ⟨Or.inr q, Or.inl rfl⟩
        have bc := aa_cs_in (t := t) H hh
        refine ya_rest (t := 1) H h0 h1 hT (by omega) hj (by decide) ?_
        rw [← aa_i_sub, aa_i_eq (by omega) (by omega) (by omega) (by omega)]
        refine ⟨fun z => ?_, fun z => ?_⟩
        · have hc : aa_tg g co.toInt cl.toInt n m 0 i j t 1 := ⟨hh, by show _ + aa_sc (aa_V g co.toInt cl.toInt n m 0 (i + 1) j 1) = _; omega⟩
          rw [if_pos hc] at hp
          exact hp
        · have hc : ¬ aa_tg g co.toInt cl.toInt n m 0 i j t 1 := fun y => by
            have y2 : _ + aa_sc (aa_V g co.toInt cl.toInt n m 0 (i + 1) j 1) = _ := y.2
            omega
          rw [if_neg hc] at hp
          exact hp
    have K76 : ¬ aa_tg g co.toInt cl.toInt n m 0 i j t 0 → wY_sort_76 post (nI i) (nI j) (nI t) (nI n) (aa_i (aa_sc (aa_V g co.toInt cl.toInt n m 0 i j t))) ge gu co cl yt yn a b := by
      intro h0'
      refine pk_eq t 1 (fun e => K93 h0' 0 ?_) (fun e => K93 h0' co ?_)
      · rw [aa_cs, if_neg (by decide), if_pos e.symm, Int32.add_zero, Int.neg_neg, aa_i_of]
      · rw [aa_cs, if_neg (by decide), if_neg (fun z => e z.symm), show -(-co.toInt - cl.toInt) = cl.toInt + co.toInt by omega, aa_i_add, aa_i_of, aa_i_of]
    unfold wY_sort_30
    refine ya_rest H h0 h1 hT hi hj ht ?_
    refine pk_le n i (fun q => K76 (fun z => by have := z.1.1; omega)) (fun q1 => pk_le m j (fun q => K76 (fun z => by have := z.1.2; omega)) (fun q2 => ?_))
    rw [nI_1, nI_1]
    have bW := aa_V_in (h := 0) H (show i + 1 ≤ n by omega) (show j + 1 ≤ m by omega) 0
    have bg := H.1 i j q1 q2
    refine ya_rest (t := 0) H h0 h1 hT (by omega) (by omega) (by decide) ?_
    refine ya_gain (by omega) (by omega) (hg i j q1 q2) ?_
    rw [← aa_i_add, aa_i_eq (by omega) (by omega) (by omega) (by omega)]
    refine ⟨fun z => ?_, fun z => K76 (fun y => ?_)⟩
    · have hc : aa_tg g co.toInt cl.toInt n m 0 i j t 0 := ⟨⟨Or.inr q1, Or.inr q2⟩, by show g i j + aa_sc (aa_V g co.toInt cl.toInt n m 0 (i + 1) (j + 1) 0) = _; omega⟩
      rw [if_pos hc] at hp
      exact hp
    · have y2 : g i j + aa_sc (aa_V g co.toInt cl.toInt n m 0 (i + 1) (j + 1) 0) = _ := y.2
      omega
  exact nm_r h0 (nm_r h1 (pk_eq i n (fun e => pk_eq j m (fun e' => he ⟨e, e'⟩) (fun e' => K30 (by omega))) (fun e => K30 (by omega))))
theorem ya_best {post : Int32 → SY → Prop} (H : aa_Ok g co.toInt cl.toInt n m) (hg : ∀ i j, i < n → j < m → (if yt i = yt (10 + j) then ge else gu) = aa_i (g i j)) (h0 : yn 0 = nI n) (h1 : yn 1 = nI m)
    (hp : ∀ a b, aa_TY g co.toInt cl.toInt n m 0 0 a b → post (aa_i (aa_sc (aa_V g co.toInt cl.toInt n m 0 0 0 0))) (ge, gu, co, cl, yt, yn, a, b)) : wpY_best post (ge, gu, co, cl, yt, yn, a, b) := by
  unfold wpY_best
  dsimp only
  rw [h0, h1]
  refine ya_work (h := 0) H hg (by decide) (fun a' b' hT => ?_)
  have e := (hT 0 0 0 (Nat.zero_le _) (Nat.zero_le _) (by decide) (Nat.zero_le _)).1
  rw [← aa_V0] at e
  have e' : a' 0 = aa_i (aa_sc (aa_V g co.toInt cl.toInt n m 0 0 0 0)) := e
  show post (a' 0) (ge, gu, co, cl, yt, yn, a', b')
  rw [e']
  exact hp a' b' hT
theorem ya_w68 {post : Int32 → SY → Prop} {J15 : Int32 → Int32 → Int32 → Int32 → Prop} {w x2 : Int32} {j k s : Nat} (hs : s < 3) (hp : J15 x2 (nI (aa_nj j s)) (nI s) (nI (k + 1))) : wY_walk_68 post J15 w x2 (nI j) (nI k) (nI s) ge gu co cl yt yn a b := by
  refine pk_eq s 1 (fun e => ?_) (fun e => ?_)
  · rw [aa_nj, if_pos e] at hp
    exact nm_r (nI_1 k) hp
  · rw [aa_nj, if_neg e] at hp
    exact nm_r (nI_1 j) (nm_r (nI_1 k) hp)
theorem ya_w15 {post : Int32 → SY → Prop} {w : Int32} (H : aa_Ok g co.toInt cl.toInt n m) (hg : ∀ i j, i < n → j < m → (if yt i = yt (10 + j) then ge else gu) = aa_i (g i j)) (h0 : yn 0 = nI n) (h1 : yn 1 = nI m) (hT : aa_TY g co.toInt cl.toInt n m 0 0 a b)
    {L : Nat} (hL : L ≤ n + m) (hE : aa_wkEnd g co.toInt cl.toInt n m L) (hLI : aa_wkIn g co.toInt cl.toInt n m L) (hA : ∀ k', k' < L → aa_wkIn g co.toInt cl.toInt n m k' ∧ ¬ aa_wkEnd g co.toInt cl.toInt n m k')
    (he : (∀ k', k' < L → ¬ nI k' = w) → (0 ≤ w → post (-1000) (ge, gu, co, cl, yt, yn, a, b)) ∧ (¬ 0 ≤ w → post (nI L) (ge, gu, co, cl, yt, yn, a, b))) (hc : ∀ k, k < L → nI k = w → post (nI (aa_col g co.toInt cl.toInt n m k)) (ge, gu, co, cl, yt, yn, a, b)) :
    ∀ (e k : Nat), k + e = L → (∀ k', k' < k → ¬ nI k' = w) → wY_walk_15 post w ge gu co cl yt yn a b (e + 1) (nI (aa_wk g co.toInt cl.toInt n m k).1) (nI (aa_wk g co.toInt cl.toInt n m k).2.1) (nI (aa_wk g co.toInt cl.toInt n m k).2.2) (nI k) := by
  have hn := H.2.2.2.2.2.1
  have hm := H.2.2.2.2.2.2
  intro e
  induction e with
  | zero =>
    intro k hk hw
    have e : k = L := by omega
    subst e
    refine pk_le 21 k (fun q => by omega) (fun _ => ?_)
    exact ya_sort H hg h0 h1 hT hLI.1 hLI.2.1 hLI.2.2 (fun _ => br_f (by decide) (he hw)) (fun z => absurd hE z)
  | succ e ih =>
    intro k hk hw
    obtain ⟨h2, h3⟩ := hA k (by omega)
    refine pk_le 21 k (fun q => by omega) (fun _ => ?_)
    refine ya_sort H hg h0 h1 hT h2.1 h2.2.1 h2.2.2 (fun z => absurd z h3) (fun _ => ?_)
    have hf : aa_fm g co.toInt cl.toInt n m (aa_wk g co.toInt cl.toInt n m k).1 (aa_wk g co.toInt cl.toInt n m k).2.1 (aa_wk g co.toInt cl.toInt n m k).2.2 < 3 := aa_fm_lt _ _ _
    refine br_t (nI_pos' (by omega)) (br_c (fun q => hc k (by omega) q) (fun q => ?_))
    have hih := ih (k + 1) (by omega) (fun k' hk' => by
      by_cases e : k' = k
      · subst e
        exact q
      · exact hw k' (by omega))
    have hih' : wY_walk_15 post w ge gu co cl yt yn a b (e + 1) (nI (aa_ni (aa_wk g co.toInt cl.toInt n m k).1 (aa_col g co.toInt cl.toInt n m k))) (nI (aa_nj (aa_wk g co.toInt cl.toInt n m k).2.1 (aa_col g co.toInt cl.toInt n m k))) (nI (aa_col g co.toInt cl.toInt n m k)) (nI (k + 1)) := hih
    refine pk_eq (aa_col g co.toInt cl.toInt n m k) 2 (fun e => ?_) (fun e => ?_) rfl rfl (by unfold aa_col; omega)
    · rw [aa_ni, if_pos e] at hih'
      exact ya_w68 hf hih'
    · rw [aa_ni, if_neg e] at hih'
      exact nm_r (nI_1 _) (ya_w68 hf hih')
theorem ya_walk {post : Int32 → SY → Prop} {w : Int32} (H : aa_Ok g co.toInt cl.toInt n m) (hg : ∀ i j, i < n → j < m → (if yt i = yt (10 + j) then ge else gu) = aa_i (g i j)) (h0 : yn 0 = nI n) (h1 : yn 1 = nI m)
    {L : Nat} (hL : L ≤ n + m) (hE : aa_wkEnd g co.toInt cl.toInt n m L) (hLI : aa_wkIn g co.toInt cl.toInt n m L) (hA : ∀ k', k' < L → aa_wkIn g co.toInt cl.toInt n m k' ∧ ¬ aa_wkEnd g co.toInt cl.toInt n m k')
    (he : ∀ a b, (∀ k', k' < L → ¬ nI k' = w) → (0 ≤ w → post (-1000) (ge, gu, co, cl, yt, yn, a, b)) ∧ (¬ 0 ≤ w → post (nI L) (ge, gu, co, cl, yt, yn, a, b))) (hc : ∀ a b, ∀ k, k < L → nI k = w → post (nI (aa_col g co.toInt cl.toInt n m k)) (ge, gu, co, cl, yt, yn, a, b)) : wpY_walk post (ge, gu, co, cl, yt, yn, a, b) w := by
  unfold wpY_walk
  dsimp only
  refine ya_best H hg h0 h1 (fun a' b' hT => ?_)
  exact ⟨L + 1, ya_w15 H hg h0 h1 hT hL hE hLI hA (he a' b') (hc a' b') L 0 (by omega) (fun _ q => absurd q (Nat.not_lt_zero _))⟩
end
