/-! the class: reading methods and shape rules -/
section
variable {mx ins cnt st cp : Int32} {K X Y Z rs dt sz tr bd el : Nat → Int32}
theorem zx_rows {post : Int32 → Prop} {b i : Nat} (h : b + i * 2 < 7560) (hp : post (sz (b + i * 2))) : wpX_rows post (mx, ins, cnt, st, cp, K, X, Y, Z, rs, dt, sz, tr, bd, el) (nI b) (nI i) := by
  have e : nI b + nI i * 2 = nI (b + i * 2) := by rw [zq_m2, nI_add]
  unfold wpX_rows
  dsimp only
  rw [e, nI_clamp (by omega)]
  exact ⟨vp_in_nI h (by omega), hp⟩
theorem zx_cols {post : Int32 → Prop} {b i : Nat} (h : b + i * 2 + 1 < 7560) (hp : post (sz (b + i * 2 + 1))) : wpX_columns post (mx, ins, cnt, st, cp, K, X, Y, Z, rs, dt, sz, tr, bd, el) (nI b) (nI i) := by
  have e : nI b + nI i * 2 + 1 = nI (b + i * 2 + 1) := by rw [zq_m2, nI_add, nI_1]
  unfold wpX_columns
  dsimp only
  rw [e, nI_clamp (by omega)]
  exact ⟨vp_in_nI h (by omega), hp⟩
theorem zx_elc {post : Int32 → Prop} {b i : Nat} (h : b + i * 2 + 1 < 7560) (hp : post (sz (b + i * 2) * sz (b + i * 2 + 1))) : wpX_elementCount post (mx, ins, cnt, st, cp, K, X, Y, Z, rs, dt, sz, tr, bd, el) (nI b) (nI i) := by
  have e : nI b + nI i * 2 = nI (b + i * 2) := by rw [zq_m2, nI_add]
  unfold wpX_elementCount
  dsimp only
  refine nm_r e ?_
  rw [nI_1, nI_clamp (by omega), nI_clamp (by omega)]
  exact ⟨vp_in_nI (by omega) (by omega), vp_in_nI h (by omega), hp⟩
theorem zx_set {post : Int32 → St2 → Prop} {b i : Nat} {r c : Int32} (h : b + i * 2 + 1 < 7560) (hp : post 1 (mx, ins, cnt, st, cp, K, X, Y, Z, rs, dt, upd (upd sz (b + i * 2) r) (b + i * 2 + 1) c, tr, bd, el)) : wpX_setShape post (mx, ins, cnt, st, cp, K, X, Y, Z, rs, dt, sz, tr, bd, el) (nI b) (nI i) r c := by
  have e : nI b + nI i * 2 = nI (b + i * 2) := by rw [zq_m2, nI_add]
  unfold wpX_setShape
  dsimp only
  rw [e, nI_1, nI_clamp (by omega), nI_clamp (by omega)]
  exact ⟨vp_in_nI (by omega) (by omega), nm_e ⟨vp_in_nI h (by omega), nm_e hp⟩⟩
theorem zx_soc {post : Int32 → Prop} {D b a0 a1 a2 : Nat} {x : Int32} (h6 : D ≤ 6) (hb : b + 34 < 7560) (hc : zq_code D x) (e0 : sz (b + 32) = nI a0) (e1 : sz (b + 33) = nI a1) (e2 : sz (b + 34) = nI a2) (hp : post (nI (zq_cv x a0 a1 a2))) : wpX_sizeOfCode post (mx, ins, cnt, st, cp, K, X, Y, Z, rs, dt, sz, tr, bd, el) (nI b) x := by
  unfold wpX_sizeOfCode
  dsimp only
  rcases hc with ⟨d, h1, h2, rfl⟩ | rfl | rfl | rfl
  · rw [zq_cv_d h1 (by omega)] at hp
    exact br_f (nI_nle h1 (by omega)) hp
  · rw [zq_cv_1] at hp
    refine br_t (by decide) ?_
    have e : nI b + 32 - (-1) - 1 = nI (b + 32) := by
      rw [← nI_add b 32]
      show nI b + 32 - (-1) - 1 = nI b + 32
      grind
    rw [e, nI_clamp (by omega), e0]
    exact ⟨vp_in_nI (by omega) (by omega), hp⟩
  · rw [zq_cv_2] at hp
    refine br_t (by decide) ?_
    have e : nI b + 32 - (-2) - 1 = nI (b + 33) := by
      rw [← nI_add b 33]
      show nI b + 32 - (-2) - 1 = nI b + 33
      grind
    rw [e, nI_clamp (by omega), e1]
    exact ⟨vp_in_nI (by omega) (by omega), hp⟩
  · rw [zq_cv_3] at hp
    refine br_t (by decide) ?_
    have e : nI b + 32 - (-3) - 1 = nI (b + 34) := by
      rw [← nI_add b 34]
      show nI b + 32 - (-3) - 1 = nI b + 34
      grind
    rw [e, nI_clamp (by omega), e2]
    exact ⟨vp_in_nI (by omega) (by omega), hp⟩
theorem zx_spec {post : Int32 → St2 → Prop} {D b i a0 a1 a2 : Nat} {p q : Int32} (h6 : D ≤ 6) (hb : b + 34 < 7560) (hi : i < 16) (hs : zq_spec D p q) (e0 : sz (b + 32) = nI a0) (e1 : sz (b + 33) = nI a1) (e2 : sz (b + 34) = nI a2)
    (hp : post 1 (mx, ins, cnt, st, cp, K, X, Y, Z, rs, dt, upd (upd sz (b + i * 2) (nI (zq_sp p q a0 a1 a2).1)) (b + i * 2 + 1) (nI (zq_sp p q a0 a1 a2).2), tr, bd, el)) : wpX_shapeSpec post (mx, ins, cnt, st, cp, K, X, Y, Z, rs, dt, sz, tr, bd, el) (nI b) (nI i) p q := by
  unfold wpX_shapeSpec
  dsimp only
  unfold zq_sp at hp
  rcases hs with ⟨rfl, rfl⟩ | ⟨hc, rfl⟩ | ⟨hc, hc'⟩
  · rw [if_pos rfl, if_pos rfl] at hp
    refine br_t rfl (br_t rfl ?_)
    unfold wX_shapeSpec_47
    exact zx_set (by omega) ⟨rfl, hp⟩
  · rw [if_pos rfl, if_neg (zq_code_ne h6 hc)] at hp
    refine br_t rfl (br_f (zq_code_ne h6 hc) ?_)
    refine zx_soc h6 hb hc e0 e1 e2 ?_
    unfold wX_shapeSpec_47
    exact zx_set (by omega) ⟨rfl, hp⟩
  · rw [if_neg (zq_code_ne h6 hc')] at hp
    refine br_f (zq_code_ne h6 hc') ?_
    refine zx_soc h6 hb hc e0 e1 e2 ?_
    refine zx_soc h6 hb hc' e0 e1 e2 ?_
    exact zx_set (by omega) ⟨rfl, hp⟩
theorem zx_bro {post : Int32 → Prop} {u v : Nat} (hu : u < 100) (hv : v < 100) (ht : (u = v ∨ u = 1 ∨ v = 1) → post 1) (hf : ¬ (u = v ∨ u = 1 ∨ v = 1) → post 0) : wpX_broadcasts post () (nI u) (nI v) :=
  pk_eq u v (fun e => ht (Or.inl e)) (fun n1 => pk_eq u 1 (fun e => ht (Or.inr (Or.inl e))) (fun n2 => pk_eq v 1 (fun e => ht (Or.inr (Or.inr e))) (fun n3 => hf (by omega))))
theorem zx_shBc {post : Int32 → St2 → Prop} {b i p q Rp Rq Cp Cq : Nat} (hb : b + 34 < 7560) (hi : i < 16) (hp : p < i) (hq : q < i) (ex : X i = nI p) (ey : Y i = nI q)
    (r0 : Rp < 100) (r1 : Rq < 100) (c0 : Cp < 100) (c1 : Cq < 100)
    (er : sz (b + p * 2) = nI Rp) (ec : sz (b + p * 2 + 1) = nI Cp) (fr : sz (b + q * 2) = nI Rq) (fc : sz (b + q * 2 + 1) = nI Cq)
    (ok : ((Rp = Rq ∨ Rp = 1 ∨ Rq = 1) ∧ (Cp = Cq ∨ Cp = 1 ∨ Cq = 1)) → post 1 (mx, ins, cnt, st, cp, K, X, Y, Z, rs, dt, upd (upd sz (b + i * 2) (nI (if Rp = 1 then Rq else Rp))) (b + i * 2 + 1) (nI (if Cp = 1 then Cq else Cp)), tr, bd, el))
    (no : ¬ ((Rp = Rq ∨ Rp = 1 ∨ Rq = 1) ∧ (Cp = Cq ∨ Cp = 1 ∨ Cq = 1)) → post 0 (mx, ins, cnt, st, cp, K, X, Y, Z, rs, dt, sz, tr, bd, el)) : wpX_shapeBroadcast post (mx, ins, cnt, st, cp, K, X, Y, Z, rs, dt, sz, tr, bd, el) (nI b) (nI i) := by
  unfold wpX_shapeBroadcast
  dsimp only
  rw [nI_clamp (by omega)]
  refine ⟨vp_in_nI hi (by omega), nm_r ex ⟨vp_in_nI hi (by omega), nm_r ey ?_⟩⟩
  refine zx_rows (by omega) (zx_rows (by omega) (zx_cols (by omega) (zx_cols (by omega) ?_)))
  rw [er, ec, fr, fc]
  refine zx_bro r0 r1 (fun h1 => br_f (by decide) ?_) (fun h1 => br_t rfl (no (fun z => h1 z.1)))
  refine zx_bro c0 c1 (fun h2 => br_f (by decide) ?_) (fun h2 => br_t rfl (no (fun z => h2 z.2)))
  have ok := ok ⟨h1, h2⟩
  refine pk_eq Rp 1 (fun z1 => ?_) (fun z1 => ?_)
  · rw [if_pos z1] at ok
    unfold wX_shapeBroadcast_84
    refine pk_eq Cp 1 (fun z2 => ?_) (fun z2 => ?_)
    · rw [if_pos z2] at ok
      unfold wX_shapeBroadcast_99
      exact zx_set (by omega) ⟨rfl, ok⟩
    · rw [if_neg z2] at ok
      unfold wX_shapeBroadcast_99
      exact zx_set (by omega) ⟨rfl, ok⟩
  · rw [if_neg z1] at ok
    unfold wX_shapeBroadcast_84
    refine pk_eq Cp 1 (fun z2 => ?_) (fun z2 => ?_)
    · rw [if_pos z2] at ok
      unfold wX_shapeBroadcast_99
      exact zx_set (by omega) ⟨rfl, ok⟩
    · rw [if_neg z2] at ok
      unfold wX_shapeBroadcast_99
      exact zx_set (by omega) ⟨rfl, ok⟩
theorem zx_shMm {post : Int32 → St2 → Prop} {b i p q Rp Rq Cp Cq : Nat} (hb : b + 34 < 7560) (hi : i < 16) (hp : p < i) (hq : q < i) (ex : X i = nI p) (ey : Y i = nI q)
    (r1 : Rq < 100) (c0 : Cp < 100)
    (er : sz (b + p * 2) = nI Rp) (ec : sz (b + p * 2 + 1) = nI Cp) (fr : sz (b + q * 2) = nI Rq) (fc : sz (b + q * 2 + 1) = nI Cq)
    (ok : Cp = Rq → post 1 (mx, ins, cnt, st, cp, K, X, Y, Z, rs, dt, upd (upd sz (b + i * 2) (nI Rp)) (b + i * 2 + 1) (nI Cq), tr, bd, el))
    (no : ¬ Cp = Rq → post 0 (mx, ins, cnt, st, cp, K, X, Y, Z, rs, dt, sz, tr, bd, el)) : wpX_shapeMatmul post (mx, ins, cnt, st, cp, K, X, Y, Z, rs, dt, sz, tr, bd, el) (nI b) (nI i) := by
  unfold wpX_shapeMatmul
  dsimp only
  rw [nI_clamp (by omega)]
  refine ⟨vp_in_nI hi (by omega), nm_r ex ⟨vp_in_nI hi (by omega), nm_r ey ?_⟩⟩
  refine zx_cols (by omega) (zx_rows (by omega) ?_)
  rw [ec, fr]
  refine pk_eq Cp Rq (fun z => ?_) (fun z => no z)
  refine zx_rows (by omega) (zx_cols (by omega) ?_)
  rw [er, fc]
  exact zx_set (by omega) ⟨rfl, ok z⟩
theorem zx_shTr {post : Int32 → St2 → Prop} {b i p Rp Cp r : Nat} (hb : b + 34 < 7560) (hi : i < 16) (hp : p < i) (ex : X i = nI p) (hr : r ≤ 2) (eR : rs i = nI r)
    (er : sz (b + p * 2) = nI Rp) (ec : sz (b + p * 2 + 1) = nI Cp)
    (o2 : r = 2 → post 1 (mx, ins, cnt, st, cp, K, X, Y, Z, rs, dt, upd (upd sz (b + i * 2) (nI Cp)) (b + i * 2 + 1) (nI Rp), tr, bd, el))
    (o1 : ¬ r = 2 → post 1 (mx, ins, cnt, st, cp, K, X, Y, Z, rs, dt, upd (upd sz (b + i * 2) (nI Rp)) (b + i * 2 + 1) (nI Cp), tr, bd, el)) : wpX_shapeTranspose post (mx, ins, cnt, st, cp, K, X, Y, Z, rs, dt, sz, tr, bd, el) (nI b) (nI i) := by
  unfold wpX_shapeTranspose
  dsimp only
  rw [nI_clamp (by omega), ex]
  refine ⟨vp_in_nI hi (by omega), zx_rows (by omega) ⟨vp_in_nI hi (by omega), zx_cols (by omega) ⟨vp_in_nI hi (by omega), ?_⟩⟩⟩
  rw [er, ec]
  refine pk_eq r 2 (fun z => ?_) (fun z => ?_) eR rfl
  · exact zx_set (by omega) ⟨rfl, o2 z⟩
  · exact zx_set (by omega) ⟨rfl, o1 z⟩
theorem zx_smr {post : Int32 → Prop} {i p r : Nat} (hi : i < 16) (hp : p < i) (ex : X i = nI p) (hr : r ≤ 2) (eR : rs p = nI r) (h1 : r = 2 ∧ Y i = 0 → post 1) (h0 : ¬ (r = 2 ∧ Y i = 0) → post 0) : wpX_sumsRows post (mx, ins, cnt, st, cp, K, X, Y, Z, rs, dt, sz, tr, bd, el) (nI i) := by
  unfold wpX_sumsRows
  dsimp only
  rw [nI_clamp (by omega), ex, nI_clamp (by omega)]
  refine ⟨vp_in_nI hi (by omega), vp_in_nI (by omega) (by omega), ?_⟩
  refine pk_eq r 2 (fun z => ⟨vp_in_nI hi (by omega), br_c (fun z2 => h1 ⟨z, z2⟩) (fun z2 => h0 (fun w => z2 w.2))⟩) (fun z => h0 (fun w => z w.1)) eR rfl
theorem zx_shSu {post : Int32 → St2 → Prop} {b i p Rp Cp r : Nat} (hb : b + 34 < 7560) (hi : i < 16) (hp : p < i) (ex : X i = nI p) (hr : r ≤ 2) (eR : rs p = nI r)
    (er : sz (b + p * 2) = nI Rp) (ec : sz (b + p * 2 + 1) = nI Cp)
    (ok : post 1 (mx, ins, cnt, st, cp, K, X, Y, Z, rs, dt, upd (upd sz (b + i * 2) (nI 1)) (b + i * 2 + 1) (nI (if r = 2 ∧ Y i = 0 then Cp else Rp)), tr, bd, el)) : wpX_shapeSum post (mx, ins, cnt, st, cp, K, X, Y, Z, rs, dt, sz, tr, bd, el) (nI b) (nI i) := by
  unfold wpX_shapeSum
  dsimp only
  refine zx_smr hi hp ex hr eR (fun z => ?_) (fun z => ?_)
  · rw [if_pos z] at ok
    refine br_f (by decide) ⟨vp_in_nI hi (by omega), ?_⟩
    rw [nI_clamp (by omega), ex]
    refine zx_cols (by omega) ?_
    rw [ec]
    unfold wX_shapeSum_33
    exact zx_set (by omega) ⟨rfl, ok⟩
  · rw [if_neg z] at ok
    refine br_t rfl ⟨vp_in_nI hi (by omega), ?_⟩
    rw [nI_clamp (by omega), ex]
    refine zx_rows (by omega) ?_
    rw [er]
    unfold wX_shapeSum_33
    exact zx_set (by omega) ⟨rfl, ok⟩
theorem zx_upd2 {f : Nat → Int32} {k : Nat} {r s : Int32} : (∀ j, j ≠ k → j ≠ k + 1 → upd (upd f k r) (k + 1) s j = f j) ∧ upd (upd f k r) (k + 1) s k = r ∧ upd (upd f k r) (k + 1) s (k + 1) = s :=
  ⟨fun j h1 h2 => by rw [pk_un h2, pk_un h1], by rw [pk_un (by omega), pk_us], pk_us⟩
theorem zx_shape {post : Int32 → St2 → Prop} {D b i a0 a1 a2 : Nat} {rk R C : Nat → Nat} (h6 : D ≤ 6) (hb : b + 34 < 7560) (hi : i < 16) (hn : zq_nd D i rk (K i) (X i) (Y i) (Z i))
    (hr : ∀ j, j ≤ i → rs j = nI (rk j) ∧ rk j ≤ 2) (e0 : sz (b + 32) = nI a0) (e1 : sz (b + 33) = nI a1) (e2 : sz (b + 34) = nI a2)
    (hc : ∀ j, j < i → sz (b + j * 2) = nI (R j) ∧ sz (b + j * 2 + 1) = nI (C j)) (hg : ∀ j, j < i → R j ≤ 6 ∧ C j ≤ 6) (hv : ∀ p q, zq_spec D p q → (zq_sp p q a0 a1 a2).1 ≤ 6 ∧ (zq_sp p q a0 a1 a2).2 ≤ 6)
    (ok : ∀ r s sz', zq_ru (K i) (X i) (Y i) (Z i) a0 a1 a2 rk R C = some (r, s) → (∀ j, j ≠ b + i * 2 → j ≠ b + i * 2 + 1 → sz' j = sz j) → sz' (b + i * 2) = nI r → sz' (b + i * 2 + 1) = nI s → post 1 (mx, ins, cnt, st, cp, K, X, Y, Z, rs, dt, sz', tr, bd, el))
    (no : ∀ sz', zq_ru (K i) (X i) (Y i) (Z i) a0 a1 a2 rk R C = none → (∀ j, j ≠ b + i * 2 → j ≠ b + i * 2 + 1 → sz' j = sz j) → post 0 (mx, ins, cnt, st, cp, K, X, Y, Z, rs, dt, sz', tr, bd, el)) : wpX_shape post (mx, ins, cnt, st, cp, K, X, Y, Z, rs, dt, sz, tr, bd, el) (nI b) (nI i) := by
  unfold wpX_shape
  dsimp only
  rw [nI_clamp (by omega)]
  refine ⟨vp_in_nI hi (by omega), ?_⟩
  rcases hn with ⟨ek, h2, h3⟩ | ⟨p, q, hp, hq, ex, ey, ek, h4⟩ | ⟨p, q, hp, hq, ex, ey, ek, h4, h5, h7⟩ | ⟨p, hp, ex, ek, h3⟩ | ⟨p, hp, ex, ek, h3, h4⟩ | ⟨p, s, hp, ex, ek, h3, h4, h5⟩
  · refine nm_r ek (br_f (by decide) (br_f (by decide) (br_t rfl ⟨vp_in_nI hi (by omega), vp_in_nI hi (by omega), ?_⟩)))
    refine zx_spec h6 hb hi h2 e0 e1 e2 ⟨rfl, ?_⟩
    exact ok _ _ _ (by rw [ek]; exact zq_ru1) zx_upd2.1 zx_upd2.2.1 zx_upd2.2.2
  · have main : wX_shape_63 post (nI b) (nI i) mx ins cnt st cp K X Y Z rs dt sz tr bd el := by
      unfold wX_shape_63
      rw [ex, ey, zq_ru2 (by omega) (by omega) ek] at ok no
      refine zx_shBc hb hi hp hq ex ey (by have := hg p hp; omega) (by have := hg q hq; omega) (by have := hg p hp; omega) (by have := hg q hq; omega) (hc p hp).1 (hc p hp).2 (hc q hq).1 (hc q hq).2 (fun z => ⟨rfl, ?_⟩) (fun z => ⟨rfl, ?_⟩)
      · exact ok _ _ _ (if_pos z) zx_upd2.1 zx_upd2.2.1 zx_upd2.2.2
      · exact no _ (if_neg z) (fun _ _ _ => rfl)
    rcases ek with ek | ek
    · exact nm_r ek (br_f (by decide) (br_f (by decide) (br_f (by decide) (br_t rfl main))))
    · exact nm_r ek (br_f (by decide) (br_f (by decide) (br_f (by decide) (br_f (by decide) (br_t rfl main)))))
  · refine nm_r ek (br_f (by decide) (br_f (by decide) (br_f (by decide) (br_f (by decide) (br_f (by decide) (br_t rfl ?_))))))
    rw [ek, ex, ey, zq_ru4 (by omega) (by omega)] at ok no
    refine zx_shMm hb hi hp hq ex ey (by have := hg q hq; omega) (by have := hg p hp; omega) (hc p hp).1 (hc p hp).2 (hc q hq).1 (hc q hq).2 (fun z => ⟨rfl, ?_⟩) (fun z => ⟨rfl, ?_⟩)
    · exact ok _ _ _ (if_pos z) zx_upd2.1 zx_upd2.2.1 zx_upd2.2.2
    · exact no _ (if_neg z) (fun _ _ _ => rfl)
  · refine nm_r ek (br_f (by decide) (br_f (by decide) (br_f (by decide) (br_f (by decide) (br_f (by decide) (br_f (by decide) (br_t rfl ?_)))))))
    rw [ek, ex, zq_ru5 (by omega)] at ok
    refine zx_shTr hb hi hp ex (hr i (by omega)).2 (hr i (by omega)).1 (hc p hp).1 (hc p hp).2 (fun z => ⟨rfl, ?_⟩) (fun z => ⟨rfl, ?_⟩)
    · exact ok _ _ _ (by rw [if_pos (by omega)]) zx_upd2.1 zx_upd2.2.1 zx_upd2.2.2
    · exact ok _ _ _ (by rw [if_neg (by omega)]) zx_upd2.1 zx_upd2.2.1 zx_upd2.2.2
  · refine nm_r ek (br_f (by decide) (br_f (by decide) (br_f (by decide) (br_f (by decide) (br_f (by decide) (br_f (by decide) (br_f (by decide) (br_t rfl ⟨vp_in_nI hi (by omega), vp_in_nI hi (by omega), ?_⟩))))))))
    rw [ek, ex, zq_ru6 (by omega)] at ok no
    refine zx_spec h6 hb hi h3 e0 e1 e2 (br_f (by decide) ⟨vp_in_nI hi (by omega), ?_⟩)
    dsimp only
    rw [ex]
    unfold wpX_sameCount
    dsimp only
    refine zx_elc (by omega) (zx_elc (by omega) ?_)
    have u := @zx_upd2 sz (b + i * 2) (nI (zq_sp (Y i) (Z i) a0 a1 a2).1) (nI (zq_sp (Y i) (Z i) a0 a1 a2).2)
    rw [u.2.1, u.2.2, u.1 _ (by omega) (by omega), u.1 _ (by omega) (by omega), (hc p hp).1, (hc p hp).2, pk_mul, pk_mul]
    have g := hg p hp
    have v := hv _ _ h3
    have g1 : R p * C p ≤ 6 * 6 := Nat.mul_le_mul g.1 g.2
    have g2 : (zq_sp (Y i) (Z i) a0 a1 a2).1 * (zq_sp (Y i) (Z i) a0 a1 a2).2 ≤ 6 * 6 := Nat.mul_le_mul v.1 v.2
    refine pk_eq _ _ (fun z => br_f (by decide) ?_) (fun z => br_t rfl ?_) rfl rfl (by omega) (by omega)
    · exact ok _ _ _ (if_pos z) u.1 u.2.1 u.2.2
    · exact no _ (if_neg z) u.1
  · refine nm_r ek (br_f (by decide) (br_t (by decide) ?_))
    rw [ek, ex, zq_ru7 (by omega)] at ok
    refine zx_shSu hb hi hp ex (hr p (by omega)).2 (hr p (by omega)).1 (hc p hp).1 (hc p hp).2 ⟨rfl, ?_⟩
    exact ok _ _ _ rfl zx_upd2.1 zx_upd2.2.1 zx_upd2.2.2
end
