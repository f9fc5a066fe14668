/-! the reference: evalNode -/
section
variable {mx cnt st tp : Int32} {K X Y Z dt bd rq sr sd vr vd el : Nat → Int32}
theorem zy_ein {post : SY → Prop} {i n : Nat} (hi : i < 16) (hn : n ≤ 36) (hp : post (mx, cnt, st, tp, K, X, Y, Z, dt, bd, rq, sr, sd, vr, vd, zq_fo (zq_fin dt (i * 36)) (i * 36) el n)) : ∀ d e fu : Nat, e + d = n → d < fu → wY_evalNode_43 post (nI n) (nI (i * 36)) mx cnt st tp fu (nI e) K X Y Z dt bd rq sr sd vr vd (zq_fo (zq_fin dt (i * 36)) (i * 36) el e) := by
  intro d
  induction d with
  | zero =>
    intro e fu he hf
    obtain ⟨f, rfl⟩ : ∃ f, fu = f + 1 := ⟨fu - 1, by omega⟩
    have e1 : e = n := by omega
    subst e1
    rw [wY_evalNode_43]
    exact br_t (Int32.le_refl _) hp
  | succ d ih =>
    intro e fu he hf
    obtain ⟨f, rfl⟩ : ∃ f, fu = f + 1 := ⟨fu - 1, by omega⟩
    rw [wY_evalNode_43]
    dsimp only
    rw [nI_add, nI_clamp (by omega)]
    exact br_f (nI_ge (by omega) (by omega)) ⟨vp_in_nI (by omega) (by omega), vp_in_nI (by omega) (by omega), nm_e (nm_r (nI_1 e) (ih (e + 1) f (by omega) (by omega)))⟩
theorem zy_ecp {post : SY → Prop} {i p n : Nat} (hi : i < 16) (hpi : p < 16) (hn : n ≤ 36) (hp : post (mx, cnt, st, tp, K, X, Y, Z, dt, bd, rq, sr, sd, vr, vd, zq_fo (zq_fcp p) (i * 36) el n)) : ∀ d e fu : Nat, e + d = n → d < fu → wY_evalNode_101 post (nI p) (nI n) (nI (i * 36)) mx cnt st tp fu (nI e) K X Y Z dt bd rq sr sd vr vd (zq_fo (zq_fcp p) (i * 36) el e) := by
  intro d
  induction d with
  | zero =>
    intro e fu he hf
    obtain ⟨f, rfl⟩ : ∃ f, fu = f + 1 := ⟨fu - 1, by omega⟩
    have e1 : e = n := by omega
    subst e1
    rw [wY_evalNode_101]
    exact br_t (Int32.le_refl _) hp
  | succ d ih =>
    intro e fu he hf
    obtain ⟨f, rfl⟩ : ∃ f, fu = f + 1 := ⟨fu - 1, by omega⟩
    rw [wY_evalNode_101]
    dsimp only
    rw [zq_m36, nI_add (p * 36) e, nI_add (i * 36) e, nI_clamp (n := p * 36 + e) (by omega), nI_clamp (n := i * 36 + e) (by omega)]
    exact br_f (nI_ge (by omega) (by omega)) ⟨vp_in_nI (by omega) (by omega), vp_in_nI (by omega) (by omega), nm_e (nm_r (nI_1 e) (ih (e + 1) f (by omega) (by omega)))⟩
theorem zy_opi {post : Int32 → Prop} {D x r R C a c : Nat} (h6 : D ≤ 6) (hx : x < 16) (hg : zq_good D r R C) (e : sr x = nI r) (e0 : sd (2 * x) = nI (zq_l0 r R C)) (e1 : sd (2 * x + 1) = nI (zq_l1 r C)) (hp : post (nI (zq_bi R C a c))) : wpY_opIndex post (mx, cnt, st, tp, K, X, Y, Z, dt, bd, rq, sr, sd, vr, vd, el) (nI x) (nI c) (nI a) := by
  have v0 : vp_in (nI (2 * x)) 32 := vp_in_nI (by omega) (by omega)
  have v1 : vp_in (nI (2 * x + 1)) 32 := vp_in_nI (by omega) (by omega)
  have vi : vp_in (nI x) 16 := vp_in_nI (by omega) (by omega)
  unfold zq_good at hg
  unfold wpY_opIndex
  dsimp only
  rw [zq_2m, nI_clamp (n := x) (by omega), nI_clamp (n := 2 * x) (by omega), e, e0]
  unfold zq_l1 at e1
  unfold zq_l0
  unfold zq_bi at hp
  refine ⟨vi, pk_eq r 2 (fun z => ⟨v0, ?_⟩) (fun z => ⟨vi, pk_eq r 1 (fun z1 => ⟨v0, ?_⟩) (fun z1 => ?_)⟩)⟩
  · rw [if_pos z] at e1 ⊢
    have l48 : ∀ a c : Nat, post (nI (a * C + c)) → wY_opIndex_48 post (nI x) (nI a) (nI c) mx cnt st tp K X Y Z dt bd rq sr sd vr vd el := by
      intro a c hh
      unfold wY_opIndex_48
      rw [zq_2m, nI_1, nI_clamp (n := 2 * x + 1) (by omega), e1, pk_mul, nI_add]
      exact ⟨v1, hh⟩
    have l27 : ∀ a : Nat, post (nI (a * C + (if C = 1 then 0 else c))) → wY_opIndex_27 post (nI x) (nI c) (nI a) mx cnt st tp K X Y Z dt bd rq sr sd vr vd el := by
      intro a hh
      unfold wY_opIndex_27
      rw [zq_2m, nI_1, nI_clamp (n := 2 * x + 1) (by omega), e1]
      refine ⟨v1, pk_eq C 1 (fun z2 => ?_) (fun z2 => ?_)⟩
      · rw [if_pos z2] at hh
        exact l48 a 0 hh
      · rw [if_neg z2] at hh
        exact l48 a c hh
    refine pk_eq R 1 (fun z2 => ?_) (fun z2 => ?_)
    · rw [if_pos z2] at hp
      exact l27 0 hp
    · rw [if_neg z2] at hp
      exact l27 a hp
  · rw [if_neg z]
    rw [if_pos (show R = 1 by omega), Nat.zero_mul, Nat.zero_add] at hp
    refine pk_eq C 1 (fun z2 => ?_) (fun z2 => ?_)
    · rw [if_pos z2] at hp
      exact hp
    · rw [if_neg z2] at hp
      exact hp
  · rw [if_pos (show R = 1 by omega), Nat.zero_mul, Nat.zero_add, if_pos (show C = 1 by omega)] at hp
    exact hp
theorem zy_ebc {post : SY → Prop} {D i p q : Nat} {k : Int32} {rk R C : Nat → Nat} (h6 : D ≤ 6) (hi : i < 16) (hp : p < 16) (hq : q < 16)
    (gi : zq_good D (rk i) (R i) (C i)) (gp : zq_good D (rk p) (R p) (C p)) (gq : zq_good D (rk q) (R q) (C q))
    (ai : sr i = nI (rk i) ∧ sd (2 * i) = nI (zq_l0 (rk i) (R i) (C i)) ∧ sd (2 * i + 1) = nI (zq_l1 (rk i) (C i)))
    (ap : sr p = nI (rk p) ∧ sd (2 * p) = nI (zq_l0 (rk p) (R p) (C p)) ∧ sd (2 * p + 1) = nI (zq_l1 (rk p) (C p)))
    (aq : sr q = nI (rk q) ∧ sd (2 * q) = nI (zq_l0 (rk q) (R q) (C q)) ∧ sd (2 * q + 1) = nI (zq_l1 (rk q) (C q)))
    (h : post (mx, cnt, st, tp, K, X, Y, Z, dt, bd, rq, sr, sd, vr, vd, zq_fo (zq_fbc k p q (R p) (C p) (R q) (C q) (C i)) (i * 36) el (R i * C i))) :
    ∀ d e fu : Nat, e + d = R i * C i → d < fu → wY_evalNode_150 post (nI i) k (nI p) (nI q) (nI (R i * C i)) (nI (i * 36)) mx cnt st tp fu (nI e) K X Y Z dt bd rq sr sd vr vd (zq_fo (zq_fbc k p q (R p) (C p) (R q) (C q) (C i)) (i * 36) el e) := by
  have gi' := gi
  have gp' := gp
  have gq' := gq
  unfold zq_good at gi' gp' gq'
  have hRC : R i * C i ≤ 6 * 6 := Nat.mul_le_mul (by omega) (by omega)
  intro d
  induction d with
  | zero =>
    intro e fu he hf
    obtain ⟨f, rfl⟩ : ∃ f, fu = f + 1 := ⟨fu - 1, by omega⟩
    have e1 : e = R i * C i := by omega
    subst e1
    rw [wY_evalNode_150]
    exact br_t (Int32.le_refl _) h
  | succ d ih =>
    intro e fu he hf
    obtain ⟨f, rfl⟩ : ∃ f, fu = f + 1 := ⟨fu - 1, by omega⟩
    have hI := ih (e + 1) f (by omega) (by omega)
    have es : zq_fo (zq_fbc k p q (R p) (C p) (R q) (C q) (C i)) (i * 36) el (e + 1) = upd (zq_fo (zq_fbc k p q (R p) (C p) (R q) (C q) (C i)) (i * 36) el e) (i * 36 + e) (zq_op k ((zq_fo (zq_fbc k p q (R p) (C p) (R q) (C q) (C i)) (i * 36) el e) (p * 36 + zq_bi (R p) (C p) (e / C i) (e % C i))) ((zq_fo (zq_fbc k p q (R p) (C p) (R q) (C q) (C i)) (i * 36) el e) (q * 36 + zq_bi (R q) (C q) (e / C i) (e % C i)))) := rfl
    rw [es] at hI
    generalize zq_fo (zq_fbc k p q (R p) (C p) (R q) (C q) (C i)) (i * 36) el e = w at hI ⊢
    have hdiv : e / C i < 6 := Nat.lt_of_lt_of_le ((Nat.div_lt_iff_lt_mul (by omega)).mpr (by omega)) (show R i ≤ 6 by omega)
    have hmod : e % C i < 6 := Nat.lt_of_lt_of_le (Nat.mod_lt _ (by omega)) (show C i ≤ 6 by omega)
    have hbi : ∀ R C a c : Nat, C ≤ 6 → a < 6 → c < 6 → zq_bi R C a c < 36 := by
      intro R C a c hC ha hc
      unfold zq_bi
      exact zq_ix (by split <;> omega) hC (by split <;> omega)
    have b1 := hbi (R p) (C p) _ _ (by omega) hdiv hmod
    have b2 := hbi (R q) (C q) _ _ (by omega) hdiv hmod
    have m215 : ∀ x8 x9, x8 = nI (e % C i) → x9 = nI (e / C i) → wY_evalNode_215 post (wY_evalNode_150 post (nI i) k (nI p) (nI q) (nI (R i * C i)) (nI (i * 36)) mx cnt st tp f) (nI i) k (nI p) (nI q) (nI (R i * C i)) (nI (i * 36)) (nI e) x8 x9 mx cnt st tp K X Y Z dt bd rq sr sd vr vd w := by
      intro x8 x9 e8 e9
      subst e8 e9
      unfold wY_evalNode_215
      refine zy_opi h6 hp gp ap.1 ap.2.1 ap.2.2 (zy_opi h6 hq gq aq.1 aq.2.1 aq.2.2 ?_)
      rw [zq_m36, zq_m36, nI_add (p * 36), nI_add (q * 36), nI_add (i * 36), nI_clamp (n := p * 36 + _) (by omega), nI_clamp (n := q * 36 + _) (by omega), nI_clamp (n := i * 36 + e) (by omega)]
      refine ⟨vp_in_nI (by omega) (by omega), nm_e ⟨vp_in_nI (by omega) (by omega), nm_e ?_⟩⟩
      unfold zq_op at hI
      refine br_c (fun hk => ⟨vp_in_nI (by omega) (by omega), nm_e (nm_r (nI_1 e) ?_)⟩) (fun hk => ⟨vp_in_nI (by omega) (by omega), nm_e (nm_r (nI_1 e) ?_)⟩)
      · rw [if_pos hk] at hI
        exact hI
      · rw [if_neg hk] at hI
        exact hI
    rw [wY_evalNode_150]
    dsimp only
    rw [nI_clamp (n := i) (by omega), zq_2m, nI_1 (2 * i), nI_clamp (n := 2 * i + 1) (by omega), ai.1, ai.2.2]
    have vi : vp_in (nI i) 16 := vp_in_nI (by omega) (by omega)
    refine br_f (nI_ge (by omega) (by omega)) ⟨vi, pk_eq (rk i) 2 (fun z => ?_) (fun z => ⟨vi, pk_eq (rk i) 0 (fun z1 => ?_) (fun z1 => ?_)⟩)⟩
    · have l1 : zq_l1 (rk i) (C i) = C i := if_pos z
      rw [l1]
      have hC0 : ¬ nI (C i) = 0 := nI_ne0 (by omega) (by omega)
      refine ⟨vp_in_nI (by omega) (by omega), nm_e ⟨hC0, nm_e ⟨hC0, nm_e (m215 _ _ ?_ ?_)⟩⟩⟩
      · exact pk_rem (by omega) (by omega) (by omega)
      · exact pk_div (by omega) (by omega) (by omega)
    · have eR : R i = 1 := by omega
      have eC : C i = 1 := by omega
      rw [eR, eC] at he
      refine m215 _ _ ?_ ?_
      · rw [eC, Nat.mod_one]; rfl
      · rw [eC, Nat.div_one, show e = 0 by omega]; rfl
    · have eR : R i = 1 := by omega
      rw [eR, Nat.one_mul] at he
      refine m215 _ _ ?_ ?_
      · rw [Nat.mod_eq_of_lt (by omega)]
      · rw [Nat.div_eq_of_lt (by omega)]; rfl
theorem zy_emm_i {post : SY → Prop} {J : Int32 → (Nat → Int32) → (Nat → Int32) → (Nat → Int32) → (Nat → Int32) → (Nat → Int32) → (Nat → Int32) → (Nat → Int32) → (Nat → Int32) → (Nat → Int32) → (Nat → Int32) → (Nat → Int32) → (Nat → Int32) → Prop} {i p q e r j m C : Nat} {x5 : Int32} (hi : i < 16) (hp : p < 16) (hq : q < 16) (he : e < 36) (hr : r < 6) (hj : j < 6) (hm : m ≤ 6) (hC : C ≤ 6)
    (hJ : J (nI (e + 1)) K X Y Z dt bd rq sr sd vr vd (upd el (i * 36 + e) (zq_sm (fun t => el (p * 36 + r * m + t) * el (q * 36 + t * C + j)) m))) :
    ∀ d t fu : Nat, t + d = m → d < fu → wY_evalNode_361 post J (nI p) (nI q) x5 (nI (i * 36)) (nI C) (nI m) (nI e) (nI r) (nI j) mx cnt st tp K X Y Z dt bd rq sr sd vr vd el fu (zq_sm (fun t => el (p * 36 + r * m + t) * el (q * 36 + t * C + j)) t) (nI t) := by
  intro d
  induction d with
  | zero =>
    intro t fu ht hf
    obtain ⟨f, rfl⟩ : ∃ f, fu = f + 1 := ⟨fu - 1, by omega⟩
    have e1 : t = m := by omega
    subst e1
    rw [wY_evalNode_361]
    dsimp only
    rw [nI_add (i * 36), nI_clamp (n := i * 36 + e) (by omega)]
    exact br_t (Int32.le_refl _) ⟨vp_in_nI (by omega) (by omega), nm_e (nm_r (nI_1 e) hJ)⟩
  | succ d ih =>
    intro t fu ht hf
    obtain ⟨f, rfl⟩ : ∃ f, fu = f + 1 := ⟨fu - 1, by omega⟩
    have hx := zq_ix hr hm (show t < 6 by omega)
    have hy := zq_ix (show t < 6 by omega) hC hj
    have ep : nI p * 36 + nI r * nI m + nI t = nI (p * 36 + r * m + t) := by rw [zq_m36, pk_mul, nI_add, nI_add]
    have eq : nI q * 36 + nI t * nI C + nI j = nI (q * 36 + t * C + j) := by rw [zq_m36, pk_mul, nI_add, nI_add]
    rw [wY_evalNode_361]
    dsimp only
    rw [ep, eq, nI_clamp (n := p * 36 + r * m + t) (by omega), nI_clamp (n := q * 36 + t * C + j) (by omega)]
    exact br_f (nI_ge (by omega) (by omega)) ⟨vp_in_nI (by omega) (by omega), vp_in_nI (by omega) (by omega), nm_e (nm_r (nI_1 t) (ih (t + 1) f (by omega) (by omega)))⟩
theorem zy_emm {post : SY → Prop} {i p q m R C : Nat} (hi : i < 16) (hp : p < 16) (hq : q < 16) (hm : m ≤ 6) (hR : R ≤ 6) (hC : C ≤ 6) (hC0 : 1 ≤ C)
    (h : post (mx, cnt, st, tp, K, X, Y, Z, dt, bd, rq, sr, sd, vr, vd, zq_fo (zq_fmm p q m C) (i * 36) el (R * C))) :
    ∀ d e fu : Nat, e + d = R * C → d < fu → wY_evalNode_334 post (nI p) (nI q) (nI (R * C)) (nI (i * 36)) (nI C) (nI m) mx cnt st tp fu (nI e) K X Y Z dt bd rq sr sd vr vd (zq_fo (zq_fmm p q m C) (i * 36) el e) := by
  have hRC : R * C ≤ 6 * 6 := Nat.mul_le_mul (by omega) (by omega)
  intro d
  induction d with
  | zero =>
    intro e fu he hf
    obtain ⟨f, rfl⟩ : ∃ f, fu = f + 1 := ⟨fu - 1, by omega⟩
    have e1 : e = R * C := by omega
    subst e1
    rw [wY_evalNode_334]
    exact br_t (Int32.le_refl _) h
  | succ d ih =>
    intro e fu he hf
    obtain ⟨f, rfl⟩ : ∃ f, fu = f + 1 := ⟨fu - 1, by omega⟩
    have hI := ih (e + 1) f (by omega) (by omega)
    have es : zq_fo (zq_fmm p q m C) (i * 36) el (e + 1) = upd (zq_fo (zq_fmm p q m C) (i * 36) el e) (i * 36 + e) (zq_sm (fun t => (zq_fo (zq_fmm p q m C) (i * 36) el e) (p * 36 + e / C * m + t) * (zq_fo (zq_fmm p q m C) (i * 36) el e) (q * 36 + t * C + e % C)) m) := rfl
    rw [es] at hI
    generalize zq_fo (zq_fmm p q m C) (i * 36) el e = w at hI ⊢
    have hdiv : e / C < 6 := Nat.lt_of_lt_of_le ((Nat.div_lt_iff_lt_mul (by omega)).mpr (by omega)) hR
    have hmod : e % C < 6 := Nat.lt_of_lt_of_le (Nat.mod_lt _ (by omega)) hC
    have hn0 : ¬ nI C = 0 := nI_ne0 (by omega) (by omega)
    rw [wY_evalNode_334]
    refine br_f (nI_ge (by omega) (by omega)) ⟨hn0, nm_r (pk_div (by omega) (by omega) (by omega)) ⟨hn0, nm_r (pk_rem (by omega) (by omega) (by omega)) ⟨m + 1, ?_⟩⟩⟩
    exact zy_emm_i hi hp hq (by omega) hdiv hmod hm hC hI m 0 (m + 1) (by omega) (by omega)
theorem zy_etr {post : SY → Prop} {i p R C : Nat} (hi : i < 16) (hp : p < 16) (hR : R ≤ 6) (hC : C ≤ 6) (hC0 : 1 ≤ C)
    (h : post (mx, cnt, st, tp, K, X, Y, Z, dt, bd, rq, sr, sd, vr, vd, zq_fo (zq_ftr p R C) (i * 36) el (R * C))) :
    ∀ d e fu : Nat, e + d = R * C → d < fu → wY_evalNode_466 post (nI p) (nI (R * C)) (nI (i * 36)) (nI C) (nI R) mx cnt st tp fu (nI e) K X Y Z dt bd rq sr sd vr vd (zq_fo (zq_ftr p R C) (i * 36) el e) := by
  have hRC : R * C ≤ 6 * 6 := Nat.mul_le_mul (by omega) (by omega)
  intro d
  induction d with
  | zero =>
    intro e fu he hf
    obtain ⟨f, rfl⟩ : ∃ f, fu = f + 1 := ⟨fu - 1, by omega⟩
    have e1 : e = R * C := by omega
    subst e1
    rw [wY_evalNode_466]
    exact br_t (Int32.le_refl _) h
  | succ d ih =>
    intro e fu he hf
    obtain ⟨f, rfl⟩ : ∃ f, fu = f + 1 := ⟨fu - 1, by omega⟩
    have hI := ih (e + 1) f (by omega) (by omega)
    have es : zq_fo (zq_ftr p R C) (i * 36) el (e + 1) = upd (zq_fo (zq_ftr p R C) (i * 36) el e) (i * 36 + e) ((zq_fo (zq_ftr p R C) (i * 36) el e) (p * 36 + e % C * R + e / C)) := rfl
    rw [es] at hI
    generalize zq_fo (zq_ftr p R C) (i * 36) el e = w at hI ⊢
    have hdiv : e / C < 6 := Nat.lt_of_lt_of_le ((Nat.div_lt_iff_lt_mul (by omega)).mpr (by omega)) hR
    have hmod : e % C < 6 := Nat.lt_of_lt_of_le (Nat.mod_lt _ (by omega)) hC
    have hx := zq_ix hmod hR hdiv
    have hn0 : ¬ nI C = 0 := nI_ne0 (by omega) (by omega)
    have ei : nI p * 36 + (nI e - nI e / nI C * nI C) * nI R + nI e / nI C = nI (p * 36 + e % C * R + e / C) := by
      rw [pk_rem (by omega) (by omega) (by omega), pk_div (by omega) (by omega) (by omega), zq_m36, pk_mul, nI_add, nI_add]
    rw [wY_evalNode_466]
    dsimp only
    rw [ei, nI_add (i * 36), nI_clamp (n := i * 36 + e) (by omega), nI_clamp (n := p * 36 + e % C * R + e / C) (by omega)]
    exact br_f (nI_ge (by omega) (by omega)) ⟨hn0, hn0, vp_in_nI (by omega) (by omega), vp_in_nI (by omega) (by omega), nm_e (nm_r (nI_1 e) hI)⟩
theorem zy_es1 {post : SY → Prop} {i p C : Nat} (hi : i < 16) (hp : p < 16) (hC : C ≤ 6) (e0 : sd (2 * p) = nI C)
    (h : post (mx, cnt, st, tp, K, X, Y, Z, dt, bd, rq, sr, sd, vr, vd, upd el (i * 36) (zq_sm (fun t => el (p * 36 + t)) C))) :
    ∀ d t fu : Nat, t + d = C → d < fu → wY_evalNode_530 post (nI p) (nI (i * 36)) mx cnt st tp K X Y Z dt bd rq sr sd vr vd el fu (zq_sm (fun t => el (p * 36 + t)) t) (nI t) := by
  have w0 : vp_in (nI (2 * p)) 32 := vp_in_nI (by omega) (by omega)
  intro d
  induction d with
  | zero =>
    intro t fu ht hf
    obtain ⟨f, rfl⟩ : ∃ f, fu = f + 1 := ⟨fu - 1, by omega⟩
    have e1 : t = C := by omega
    subst e1
    rw [wY_evalNode_530]
    dsimp only
    rw [zq_2m, nI_clamp (n := 2 * p) (by omega), e0, nI_clamp (n := i * 36) (by omega)]
    exact ⟨w0, br_t (Int32.le_refl _) ⟨vp_in_nI (by omega) (by omega), nm_e h⟩⟩
  | succ d ih =>
    intro t fu ht hf
    obtain ⟨f, rfl⟩ : ∃ f, fu = f + 1 := ⟨fu - 1, by omega⟩
    rw [wY_evalNode_530]
    dsimp only
    rw [zq_2m, nI_clamp (n := 2 * p) (by omega), e0, zq_m36, nI_add (p * 36), nI_clamp (n := p * 36 + t) (by omega)]
    exact ⟨w0, br_f (nI_ge (by omega) (by omega)) ⟨vp_in_nI (by omega) (by omega), nm_e (nm_r (nI_1 t) (ih (t + 1) f (by omega) (by omega)))⟩⟩
theorem zy_es2_i {post : SY → Prop} {J : Int32 → (Nat → Int32) → (Nat → Int32) → (Nat → Int32) → (Nat → Int32) → (Nat → Int32) → (Nat → Int32) → (Nat → Int32) → (Nat → Int32) → (Nat → Int32) → (Nat → Int32) → (Nat → Int32) → (Nat → Int32) → Prop} {i p o m C : Nat} {y x9 : Int32} {G : Nat → Nat} (hi : i < 16) (hp : p < 16) (ho : o < 6) (hm : m ≤ 6) (hC : C ≤ 6)
    (hG : G = if y = 0 then (fun t => p * 36 + t * C + o) else (fun t => p * 36 + o * C + t))
    (hJ : J (nI (o + 1)) K X Y Z dt bd rq sr sd vr vd (upd el (i * 36 + o) (zq_sm (fun t => el (G t)) m))) :
    ∀ d t fu : Nat, t + d = m → d < fu → wY_evalNode_642 post J (nI p) y (nI (i * 36)) (nI C) x9 (nI m) (nI o) mx cnt st tp K X Y Z dt bd rq sr sd vr vd el fu (zq_sm (fun t => el (G t)) t) (nI t) := by
  intro d
  induction d with
  | zero =>
    intro t fu ht hf
    obtain ⟨f, rfl⟩ : ∃ f, fu = f + 1 := ⟨fu - 1, by omega⟩
    have e1 : t = m := by omega
    subst e1
    rw [wY_evalNode_642]
    dsimp only
    rw [nI_add (i * 36), nI_clamp (n := i * 36 + o) (by omega)]
    exact br_t (Int32.le_refl _) ⟨vp_in_nI (by omega) (by omega), nm_e (nm_r (nI_1 o) hJ)⟩
  | succ d ih =>
    intro t fu ht hf
    obtain ⟨f, rfl⟩ : ∃ f, fu = f + 1 := ⟨fu - 1, by omega⟩
    have hI := ih (t + 1) f (by omega) (by omega)
    have es : zq_sm (fun t => el (G t)) (t + 1) = zq_sm (fun t => el (G t)) t + el (G t) := rfl
    rw [es] at hI
    have hx := zq_ix (show t < 6 by omega) hC ho
    have hy := zq_ix ho hC (show t < 6 by omega)
    have ep : nI p * 36 + nI t * nI C + nI o = nI (p * 36 + t * C + o) := by rw [zq_m36, pk_mul, nI_add, nI_add]
    have eq : nI p * 36 + nI o * nI C + nI t = nI (p * 36 + o * C + t) := by rw [zq_m36, pk_mul, nI_add, nI_add]
    rw [wY_evalNode_642]
    dsimp only
    rw [ep, eq, nI_clamp (n := p * 36 + t * C + o) (by omega), nI_clamp (n := p * 36 + o * C + t) (by omega)]
    refine br_f (nI_ge (by omega) (by omega)) (br_c (fun hy0 => ⟨vp_in_nI (by omega) (by omega), nm_e (nm_r (nI_1 t) ?_)⟩) (fun hy0 => ⟨vp_in_nI (by omega) (by omega), nm_e (nm_r (nI_1 t) ?_)⟩))
    · have g : G t = p * 36 + t * C + o := by rw [hG, if_pos hy0]
      rw [g] at hI
      exact hI
    · have g : G t = p * 36 + o * C + t := by rw [hG, if_neg hy0]
      rw [g] at hI
      exact hI
theorem zy_es2 {post : SY → Prop} {i p n m C : Nat} {y : Int32} {F : (Nat → Int32) → Nat → Int32} (hi : i < 16) (hp : p < 16) (hn : n ≤ 6) (hm : m ≤ 6) (hC : C ≤ 6)
    (hF : ∀ v o, F v o = zq_sm (fun t => v ((if y = 0 then (fun t => p * 36 + t * C + o) else (fun t => p * 36 + o * C + t)) t)) m)
    (h : post (mx, cnt, st, tp, K, X, Y, Z, dt, bd, rq, sr, sd, vr, vd, zq_fo F (i * 36) el n)) :
    ∀ d o fu : Nat, o + d = n → d < fu → wY_evalNode_629 post (nI p) y (nI (i * 36)) (nI C) (nI n) (nI m) mx cnt st tp fu (nI o) K X Y Z dt bd rq sr sd vr vd (zq_fo F (i * 36) el o) := by
  intro d
  induction d with
  | zero =>
    intro o fu he hf
    obtain ⟨f, rfl⟩ : ∃ f, fu = f + 1 := ⟨fu - 1, by omega⟩
    have e1 : o = n := by omega
    subst e1
    rw [wY_evalNode_629]
    exact br_t (Int32.le_refl _) h
  | succ d ih =>
    intro o fu he hf
    obtain ⟨f, rfl⟩ : ∃ f, fu = f + 1 := ⟨fu - 1, by omega⟩
    have hI := ih (o + 1) f (by omega) (by omega)
    have es : zq_fo F (i * 36) el (o + 1) = upd (zq_fo F (i * 36) el o) (i * 36 + o) (F (zq_fo F (i * 36) el o) o) := rfl
    rw [es, hF] at hI
    generalize zq_fo F (i * 36) el o = w at hI ⊢
    rw [wY_evalNode_629]
    refine br_f (nI_ge (by omega) (by omega)) ⟨m + 1, ?_⟩
    exact zy_es2_i hi hp (by omega) hm hC rfl hI m 0 (m + 1) (by omega) (by omega)
theorem zy_eval {post : SY → Prop} {D i a0 a1 a2 : Nat} {rk R C : Nat → Nat} (h6 : D ≤ 6) (hi : i < 16) (hn : zq_nd D i rk (K i) (X i) (Y i) (Z i)) (hg : ∀ j, j ≤ i → zq_good D (rk j) (R j) (C j)) (hu : zq_ru (K i) (X i) (Y i) (Z i) a0 a1 a2 rk R C = some (R i, C i)) (hA : zq_ag rk R C (i + 1) sr sd)
    (hp : post (mx, cnt, st, tp, K, X, Y, Z, dt, bd, rq, sr, sd, vr, vd, zq_fo (zq_f (K i) (X i) (Y i) i dt rk R C) (i * 36) el (R i * C i))) : wpY_evalNode post (mx, cnt, st, tp, K, X, Y, Z, dt, bd, rq, sr, sd, vr, vd, el) (nI i) := by
  have gi := hg i (by omega)
  have gi' := gi
  unfold zq_good at gi'
  have hRC : R i * C i ≤ 6 * 6 := Nat.mul_le_mul (by omega) (by omega)
  have ai := hA i (by omega)
  have vi : vp_in (nI i) 16 := vp_in_nI (by omega) (by omega)
  unfold wpY_evalNode
  dsimp only
  rw [nI_clamp (by omega)]
  rcases hn with ⟨ek, h2, h3⟩ | ⟨p, q, hpi, hqi, ex, ey, ek, h4⟩ | ⟨p, q, hpi, hqi, ex, ey, ek, h4, h5, h7⟩ | ⟨p, hpi, ex, ek, h3⟩ | ⟨p, hpi, ex, ek, h3, h4⟩ | ⟨p, s, hpi, ex, ek, h3, h4, h5⟩
  · refine ⟨vi, nm_r ek ⟨vi, nm_e ⟨vi, nm_e (zy_prod hi gi ai.1 ai.2.1 ai.2.2 (nm_r (zq_m36 i) (br_t rfl ⟨R i * C i + 1, ?_⟩)))⟩⟩⟩
    rw [ek, zq_f1] at hp
    exact zy_ein hi (by omega) hp (R i * C i) 0 _ (by omega) (by omega)
  · rw [ex, ey, zq_f2 (by omega) (by omega) ek] at hp
    have W := zy_ebc h6 hi (by omega) (by omega) gi (hg p (by omega)) (hg q (by omega)) ai (hA p (by omega)) (hA q (by omega)) hp (R i * C i) 0 (R i * C i + 1) (by omega) (by omega)
    have m137 : wY_evalNode_137 post (nI i) (K i) (nI p) (nI q) (nI (R i * C i)) (nI (i * 36)) mx cnt st tp K X Y Z dt bd rq sr sd vr vd el := by
      unfold wY_evalNode_137
      rcases ek with ek | ek
      · exact br_t ek ⟨_, W⟩
      · exact br_f (by rw [ek]; decide) (br_t ek ⟨_, W⟩)
    have n1 : ¬ K i = 1 := by rcases ek with ek | ek <;> rw [ek] <;> decide
    have n6 : ¬ K i = 6 := by rcases ek with ek | ek <;> rw [ek] <;> decide
    have n5 : ¬ K i = 5 := by rcases ek with ek | ek <;> rw [ek] <;> decide
    exact ⟨vi, nm_e ⟨vi, nm_r ex ⟨vi, nm_r ey (zy_prod hi gi ai.1 ai.2.1 ai.2.2 (nm_r (zq_m36 i) (br_f n1 (br_f n6 (br_f n5 m137)))))⟩⟩⟩
  · have gp := hg p (by omega)
    have ap := hA p (by omega)
    unfold zq_good at gp
    rw [ek, ex, ey, zq_f4 (by omega) (by omega)] at hp
    refine ⟨vi, nm_r ek ⟨vi, nm_r ex ⟨vi, nm_r ey (zy_prod hi gi ai.1 ai.2.1 ai.2.2 (nm_r (zq_m36 i) (br_f (by decide) (br_f (by decide) (br_f (by decide) ?_)))))⟩⟩⟩
    unfold wY_evalNode_137
    rw [zq_2m, nI_1, nI_clamp (n := 2 * i + 1) (by omega), zq_2m p, nI_1 (2 * p), nI_clamp (n := 2 * p + 1) (by omega), ai.2.2, ap.2.2, h4, h7]
    refine br_f (by decide) (br_f (by decide) (br_t rfl ⟨vp_in_nI (by omega) (by omega), nm_e ⟨vp_in_nI (by omega) (by omega), nm_e ⟨R i * C i + 1, ?_⟩⟩⟩))
    exact zy_emm hi (by omega) (by omega) (by omega) (by omega) (by omega) (by omega) hp (R i * C i) 0 (R i * C i + 1) (by omega) (by omega)
  · have gp := hg p (by omega)
    have ap := hA p (by omega)
    unfold zq_good at gp
    have vp : vp_in (nI p) 16 := vp_in_nI (by omega) (by omega)
    refine ⟨vi, nm_r ek ⟨vi, nm_r ex ⟨vi, nm_e (zy_prod hi gi ai.1 ai.2.1 ai.2.2 (nm_r (zq_m36 i) (br_f (by decide) (br_f (by decide) (br_t rfl ⟨vp, ?_⟩)))))⟩⟩⟩
    rw [nI_clamp (n := p) (by omega), ap.1]
    refine pk_eq (rk p) 2 (fun z => ?_) (fun z => ⟨R i * C i + 1, ?_⟩)
    · rw [ek, ex, zq_f5t (by omega) z] at hp
      rw [ek, ex, zq_ru5 (by omega), if_pos z] at hu
      have u1 : C p = R i := congrArg Prod.fst (Option.some.inj hu)
      have u2 : R p = C i := congrArg Prod.snd (Option.some.inj hu)
      unfold wY_evalNode_137
      rw [zq_2m p, nI_1 (2 * p), nI_clamp (n := 2 * p) (by omega), nI_clamp (n := 2 * p + 1) (by omega), ap.2.1, ap.2.2, z]
      refine br_f (by decide) (br_f (by decide) (br_f (by decide) (br_t rfl ⟨vp_in_nI (by omega) (by omega), nm_e ⟨vp_in_nI (by omega) (by omega), nm_e ⟨R i * C i + 1, ?_⟩⟩⟩)))
      show wY_evalNode_466 post (nI p) (nI (R i * C i)) (nI (i * 36)) (nI (R p)) (nI (C p)) mx cnt st tp (R i * C i + 1) 0 K X Y Z dt bd rq sr sd vr vd el
      rw [u1, u2]
      exact zy_etr hi (by omega) (by omega) (by omega) (by omega) hp (R i * C i) 0 (R i * C i + 1) (by omega) (by omega)
    · rw [ek, ex, zq_f5c (by omega) z] at hp
      exact zy_ecp hi (by omega) (by omega) hp (R i * C i) 0 _ (by omega) (by omega)
  · rw [ek, ex, zq_f6 (by omega)] at hp
    refine ⟨vi, nm_r ek ⟨vi, nm_r ex ⟨vi, nm_e (zy_prod hi gi ai.1 ai.2.1 ai.2.2 (nm_r (zq_m36 i) (br_f (by decide) (br_t rfl ⟨R i * C i + 1, ?_⟩))))⟩⟩⟩
    exact zy_ecp hi (by omega) (by omega) hp (R i * C i) 0 _ (by omega) (by omega)
  · have gp := hg p (by omega)
    have ap := hA p (by omega)
    unfold zq_good at gp
    have vp : vp_in (nI p) 16 := vp_in_nI (by omega) (by omega)
    rw [ek, ex, zq_ru7 (by omega)] at hu
    have u1 : 1 = R i := congrArg Prod.fst (Option.some.inj hu)
    have u2 : (if rk p = 2 ∧ Y i = 0 then C p else R p) = C i := congrArg Prod.snd (Option.some.inj hu)
    rw [← u1, Nat.one_mul] at hp
    refine ⟨vi, nm_r ek ⟨vi, nm_r ex ⟨vi, nm_e (zy_prod hi gi ai.1 ai.2.1 ai.2.2 (nm_r (zq_m36 i) (br_f (by decide) (br_f (by decide) (br_f (by decide) ?_)))))⟩⟩⟩
    unfold wY_evalNode_137
    rw [nI_clamp (n := p) (by omega), zq_2m p, nI_1 (2 * p), nI_clamp (n := 2 * p) (by omega), nI_clamp (n := 2 * p + 1) (by omega), ap.1, ap.2.1, ap.2.2]
    refine br_f (by decide) (br_f (by decide) (br_f (by decide) (br_f (by decide) ⟨vp, pk_eq (rk p) 1 (fun z => ⟨C p + 1, ?_⟩) (fun z => ?_)⟩)))
    · have hz : ¬ (rk p = 2 ∧ Y i = 0) := fun w => by omega
      rw [if_neg hz] at u2
      rw [← u2, show R p = 1 by omega, ek, ex, zq_f7r (by omega) hz] at hp
      have e0 : sd (2 * p) = nI (C p) := by
        rw [ap.2.1]
        unfold zq_l0
        rw [if_neg (by omega)]
      refine zy_es1 hi (by omega) (by omega) e0 ?_ (C p) 0 (C p + 1) (by omega) (by omega)
      have es : zq_fo (zq_fsr p (C p)) (i * 36) el 1 = upd el (i * 36) (zq_sm (fun t => el (p * 36 + t)) (C p)) := by
        show upd el (i * 36 + 0) (zq_sm (fun t => el (p * 36 + 0 * C p + t)) (C p)) = _
        rw [Nat.zero_mul, Nat.add_zero, Nat.add_zero]
      rw [es] at hp
      exact hp
    · have e2 : rk p = 2 := by omega
      have l0 : zq_l0 2 (R p) (C p) = R p := if_pos rfl
      have l1 : zq_l1 2 (C p) = C p := if_pos rfl
      rw [e2, l0, l1]
      refine ⟨vp_in_nI (by omega) (by omega), nm_e ⟨vp_in_nI (by omega) (by omega), nm_e ?_⟩⟩
      refine br_c (fun hy => ?_) (fun hy => ?_)
      · rw [if_pos ⟨e2, hy⟩] at u2
        rw [ek, ex, zq_f7c (by omega) ⟨e2, hy⟩, ← u2] at hp
        unfold wY_evalNode_610
        refine br_t hy ⟨C p + 1, ?_⟩
        refine zy_es2 hi (by omega) (by omega) (by omega) (by omega) (fun v o => ?_) hp (C p) 0 (C p + 1) (by omega) (by omega)
        rw [if_pos hy]
        rfl
      · rw [if_neg (fun w => hy w.2)] at u2
        rw [ek, ex, zq_f7r (by omega) (fun w => hy w.2), ← u2] at hp
        unfold wY_evalNode_610
        refine br_f hy ⟨R p + 1, ?_⟩
        refine zy_es2 hi (by omega) (by omega) (by omega) (by omega) (fun v o => ?_) hp (R p) 0 (R p + 1) (by omega) (by omega)
        rw [if_neg hy]
        rfl
end
