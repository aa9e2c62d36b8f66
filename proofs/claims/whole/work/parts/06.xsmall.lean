/-! 06: the component's small methods -/
def aa_g (xu xl : Nat → Int32) (ge gu : Int32) (i j : Nat) : Int := (if xu i = xl j then ge else gu).toInt
/-- the table holds f at all states from index K on -/
def aa_Tab (f : Nat → Nat → Nat → Int32) (n m K : Nat) (a : Nat → Int32) : Prop := ∀ i j t, i ≤ n → j ≤ m → t < 3 → K ≤ aa_s i j t → a (aa_s i j t) = f i j t
def aa_VS (g : Nat → Nat → Int) (o l : Int) (n m h i j t : Nat) : Int32 := aa_i (aa_sc (aa_V g o l n m h i j t))
def aa_VC (g : Nat → Nat → Int) (o l : Int) (n m h i j t : Nat) : Int32 := aa_ct (aa_V g o l n m h i j t)
theorem aa_s_next (i j s : Nat) : aa_s i (j + 1) 0 ≤ aa_s (aa_ni i s) (aa_nj j s) s := by
  unfold aa_s aa_ni aa_nj
  by_cases h1 : s = 2
  · subst h1
    rw [if_pos rfl, if_neg (by decide)]
    omega
  · rw [if_neg h1]
    split <;> omega
section
variable {n m h : Nat} {ge gu co cl : Int32} {xu xl a b r d : Nat → Int32}
theorem xa_1 : ¬ (1 : Int32) = 0 := by decide
theorem xa_h18_1 {post : Int32 → Prop} {j s : Nat} (hm : m ≤ 10) (hj : j ≤ 10) (hs : s < 3) (h1 : (s = 1 ∨ j < m) → post 1) (h0 : ¬ (s = 1 ∨ j < m) → post 0) : wX_hasLetters_18 post (nI j) (nI s) 1 (nI n) (nI m) ge gu co cl xu xl a b r d :=
  pk_eq s 1 (fun e => br_f xa_1 (br_f xa_1 (h1 (Or.inl e)))) (fun e => pk_le m j (fun q => br_f xa_1 (br_t rfl (h0 (by omega)))) (fun q => br_f xa_1 (br_f xa_1 (h1 (Or.inr q)))))
theorem xa_h18_0 {post : Int32 → Prop} {j s : Nat} (hm : m ≤ 10) (hj : j ≤ 10) (hs : s < 3) (h0 : post 0) : wX_hasLetters_18 post (nI j) (nI s) 0 (nI n) (nI m) ge gu co cl xu xl a b r d :=
  pk_eq s 1 (fun e => br_t rfl h0) (fun e => pk_le m j (fun q => br_t rfl h0) (fun q => br_t rfl h0))
theorem xa_has {post : Int32 → Prop} {i j s : Nat} (hn : n ≤ 10) (hm : m ≤ 10) (hi : i ≤ n) (hj : j ≤ m) (hs : s < 3) (h1 : aa_has n m i j s → post 1) (h0 : ¬ aa_has n m i j s → post 0) : wpX_hasLetters post (nI n, nI m, ge, gu, co, cl, xu, xl, a, b, r, d) (nI i) (nI j) (nI s) :=
  pk_eq s 2 (fun e => xa_h18_1 hm (by omega) hs (fun q => h1 ⟨Or.inl e, q⟩) (fun q => h0 (fun z => q z.2))) (fun e => pk_le n i (fun q => xa_h18_0 hm (by omega) hs (h0 (fun z => by have := z.1; omega))) (fun q => xa_h18_1 hm (by omega) hs (fun z => h1 ⟨Or.inr q, z⟩) (fun z => h0 (fun y => z y.2))))
theorem xa_cs {post : Int32 → Prop} {i j t s : Nat} (hn : n ≤ 10) (hm : m ≤ 10) (hi : i ≤ n) (hj : j ≤ m) (ht : t < 3) (hs : s < 3) (hh : aa_has n m i j s) (hp : post (aa_i (aa_cs (aa_g xu xl ge gu) co.toInt cl.toInt i j t s))) : wpX_columnScore post (nI n, nI m, ge, gu, co, cl, xu, xl, a, b, r, d) (nI i) (nI j) (nI t) (nI s) := by
  have h1 := hh.1
  have h2 := hh.2
  refine pk_eq s 0 (fun e => ⟨pk_in i 10 (by omega), pk_in j 10 (by omega), br_c (fun q => ?_) (fun q => ?_)⟩) (fun e => pk_eq s t (fun q => ?_) (fun q => ?_))
  · rw [nI_clamp (by omega), nI_clamp (by omega)] at q
    rw [aa_cs, if_pos e, aa_g, if_pos q, aa_i_of] at hp
    exact hp
  · rw [nI_clamp (by omega), nI_clamp (by omega)] at q
    rw [aa_cs, if_pos e, aa_g, if_neg q, aa_i_of] at hp
    exact hp
  · rw [aa_cs, if_neg e, if_pos q, aa_i_neg, aa_i_of] at hp
    exact hp
  · rw [aa_cs, if_neg e, if_neg q, aa_i_sub, aa_i_neg, aa_i_of, aa_i_of] at hp
    exact hp
theorem xa_sa {post : Int32 → Prop} {i j s : Nat} (hs : s < 3) (hp : post (nI (aa_s (aa_ni i s) (aa_nj j s) s))) : wpX_stateAfter post (nI i) (nI j) (nI s) := by
  refine pk_eq s 2 (fun e => pk_eq s 1 (fun e' => by omega) (fun e' => ?_)) (fun e => pk_eq s 1 (fun e' => ?_) (fun e' => ?_))
  · show post ((((nI i * 11) + (nI j + 1)) * 3) + nI s)
    rw [nI_1 j, aa_s_nI]
    rw [aa_ni, aa_nj, if_pos e, if_neg e'] at hp
    exact hp
  · show post (((((nI i + 1) * 11) + nI j) * 3) + nI s)
    rw [nI_1 i, aa_s_nI]
    rw [aa_ni, aa_nj, if_neg e, if_pos e'] at hp
    exact hp
  · show post (((((nI i + 1) * 11) + (nI j + 1)) * 3) + nI s)
    rw [nI_1 i, nI_1 j, aa_s_nI]
    rw [aa_ni, aa_nj, if_neg e, if_neg e'] at hp
    exact hp
theorem xa_state {post : Int32 → Prop} {i j t : Nat} (hp : post (nI (aa_s i j t))) : wpX_state post (nI i) (nI j) (nI t) := by
  show post ((((nI i * 11) + nI j) * 3) + nI t)
  rw [aa_s_nI]
  exact hp
theorem xa_st {post : Int32 → Prop} {i j t s : Nat} {v : Int} (hn : n ≤ 10) (hm : m ≤ 10) (hi : i ≤ n) (hj : j ≤ m) (ht : t < 3) (hs : s < 3) (hh : aa_has n m i j s) (hv : a (aa_s (aa_ni i s) (aa_nj j s) s) = aa_i v) (hp : post (aa_i (aa_cs (aa_g xu xl ge gu) co.toInt cl.toInt i j t s + v))) : wpX_scoreThrough post (nI n, nI m, ge, gu, co, cl, xu, xl, a, b, r, d) (nI i) (nI j) (nI t) (nI s) := by
  have hin := aa_has_in hh hi hj
  have hlt : aa_s (aa_ni i s) (aa_nj j s) s < 363 := aa_s_lt (by omega) (by omega) hs
  unfold wpX_scoreThrough
  dsimp only
  refine xa_cs hn hm hi hj ht hs hh ?_
  refine xa_sa hs ?_
  refine ⟨pk_in _ 363 hlt, ?_⟩
  rw [nI_clamp (by omega), hv, ← aa_i_add]
  exact hp
theorem xa_bm {post : Int32 → Prop} {i j t s : Nat} (H : aa_Ok (aa_g xu xl ge gu) co.toInt cl.toInt n m) (hT : aa_Tab (aa_VS (aa_g xu xl ge gu) co.toInt cl.toInt n m h) n m 0 a) (hi : i ≤ n) (hj : j ≤ m) (ht : t < 3) (hs : s < 3)
    (h1 : aa_tg (aa_g xu xl ge gu) co.toInt cl.toInt n m h i j t s → post 1) (h0 : ¬ aa_tg (aa_g xu xl ge gu) co.toInt cl.toInt n m h i j t s → post 0) : wpX_isBestMove post (nI n, nI m, ge, gu, co, cl, xu, xl, a, b, r, d) (nI i) (nI j) (nI t) (nI s) := by
  have hn := H.2.2.2.2.2.1
  have hm := H.2.2.2.2.2.2
  unfold wpX_isBestMove
  dsimp only
  refine xa_has hn hm hi hj hs (fun hh => br_f xa_1 ?_) (fun hh => br_t rfl (h0 (fun q => hh q.1)))
  have hin := aa_has_in hh hi hj
  refine xa_st hn hm hi hj ht hs hh (hT _ _ _ hin.1 hin.2 hs (Nat.zero_le _)) ?_
  refine xa_state ?_
  have hlt : aa_s i j t < 363 := aa_s_lt (by omega) (by omega) ht
  refine ⟨pk_in _ 363 hlt, ?_⟩
  rw [nI_clamp (by omega), hT i j t hi hj ht (Nat.zero_le _), aa_VS]
  have b1 := aa_V_in (h := h) H hi hj t
  have b2 := aa_V_in (h := h) H hin.1 hin.2 s
  have b3 : -18 ≤ aa_cs (aa_g xu xl ge gu) co.toInt cl.toInt i j t s ∧ aa_cs (aa_g xu xl ge gu) co.toInt cl.toInt i j t s ≤ 18 := by
    obtain ⟨q1, q2, q3, q4, q5, q6, q7⟩ := H
    unfold aa_cs
    split
    · rename_i e
      have z1 := hh.1
      have z2 := hh.2
      have := q1 i j (by omega) (by omega)
      omega
    · split <;> omega
  rw [aa_i_eq (by omega) (by omega) (by omega) (by omega)]
  exact ⟨fun q => h1 ⟨hh, q⟩, fun q => h0 (fun z => q z.2)⟩
end
