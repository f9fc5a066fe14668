/-! the class: the value rules -/
section
variable {mx ins cnt st cp : Int32} {K X Y Z rs dt sz tr bd el : Nat → Int32}
theorem zx_cin_l {post : St2 → Prop} {i n : Nat} (hi : i < 16) (hn : n ≤ 36) (hp : post (mx, ins, cnt, st, cp, K, X, Y, Z, rs, dt, sz, tr, bd, zq_fo (zq_fin dt (i * 36)) (i * 36) el n)) : ∀ d e fu : Nat, e + d = n → d < fu → wX_computeInput_16 post (nI (i * 36)) (nI n) mx ins cnt st cp fu (nI e) K X Y Z rs dt sz tr bd (zq_fo (zq_fin dt (i * 36)) (i * 36) el e) := by
  intro d
  induction d with
  | zero =>
    intro e fu he hf
    obtain ⟨f, rfl⟩ : ∃ f, fu = f + 1 := ⟨fu - 1, by omega⟩
    have e1 : e = n := by omega
    subst e1
    rw [wX_computeInput_16]
    exact br_t (Int32.le_refl _) hp
  | succ d ih =>
    intro e fu he hf
    obtain ⟨f, rfl⟩ : ∃ f, fu = f + 1 := ⟨fu - 1, by omega⟩
    rw [wX_computeInput_16]
    dsimp only
    rw [nI_add, nI_clamp (by omega)]
    exact br_f (nI_ge (by omega) (by omega)) ⟨vp_in_nI (by omega) (by omega), vp_in_nI (by omega) (by omega), nm_e (nm_r (nI_1 e) (ih (e + 1) f (by omega) (by omega)))⟩
theorem zx_cin {post : St2 → Prop} {b i R C : Nat} (hb : b + 34 < 7560) (hi : i < 16) (er : sz (b + i * 2) = nI R) (ec : sz (b + i * 2 + 1) = nI C) (hn : R * C ≤ 36) (hp : post (mx, ins, cnt, st, cp, K, X, Y, Z, rs, dt, sz, tr, bd, zq_fo (zq_fin dt (i * 36)) (i * 36) el (R * C))) : wpX_computeInput post (mx, ins, cnt, st, cp, K, X, Y, Z, rs, dt, sz, tr, bd, el) (nI b) (nI i) := by
  unfold wpX_computeInput
  dsimp only
  refine nm_r (zq_m36 i) (zx_elc (by omega) ?_)
  rw [er, ec, pk_mul]
  exact ⟨R * C + 1, zx_cin_l hi hn hp (R * C) 0 _ (by omega) (by omega)⟩
theorem zx_ccp_l {post : St2 → Prop} {i p n : Nat} (hi : i < 16) (hpi : p < 16) (hn : n ≤ 36) (hp : post (mx, ins, cnt, st, cp, K, X, Y, Z, rs, dt, sz, tr, bd, zq_fo (zq_fcp p) (i * 36) el n)) : ∀ d e fu : Nat, e + d = n → d < fu → wX_computeCopy_27 post (nI (i * 36)) (nI (p * 36)) (nI n) mx ins cnt st cp fu (nI e) K X Y Z rs dt sz tr bd (zq_fo (zq_fcp p) (i * 36) el e) := by
  intro d
  induction d with
  | zero =>
    intro e fu he hf
    obtain ⟨f, rfl⟩ : ∃ f, fu = f + 1 := ⟨fu - 1, by omega⟩
    have e1 : e = n := by omega
    subst e1
    rw [wX_computeCopy_27]
    exact br_t (Int32.le_refl _) hp
  | succ d ih =>
    intro e fu he hf
    obtain ⟨f, rfl⟩ : ∃ f, fu = f + 1 := ⟨fu - 1, by omega⟩
    rw [wX_computeCopy_27]
    dsimp only
    rw [nI_add (p * 36) e, nI_add (i * 36) e, nI_clamp (n := p * 36 + e) (by omega), nI_clamp (n := i * 36 + e) (by omega)]
    exact br_f (nI_ge (by omega) (by omega)) ⟨vp_in_nI (by omega) (by omega), vp_in_nI (by omega) (by omega), nm_e (nm_r (nI_1 e) (ih (e + 1) f (by omega) (by omega)))⟩
theorem zx_ccp {post : St2 → Prop} {b i p R C : Nat} (hb : b + 34 < 7560) (hi : i < 16) (hpi : p < 16) (ex : X i = nI p) (er : sz (b + i * 2) = nI R) (ec : sz (b + i * 2 + 1) = nI C) (hn : R * C ≤ 36) (hp : post (mx, ins, cnt, st, cp, K, X, Y, Z, rs, dt, sz, tr, bd, zq_fo (zq_fcp p) (i * 36) el (R * C))) : wpX_computeCopy post (mx, ins, cnt, st, cp, K, X, Y, Z, rs, dt, sz, tr, bd, el) (nI b) (nI i) := by
  unfold wpX_computeCopy
  dsimp only
  rw [nI_clamp (by omega), ex]
  refine nm_r (zq_m36 i) ⟨vp_in_nI hi (by omega), nm_r (zq_m36 p) (zx_elc (by omega) ?_)⟩
  rw [er, ec, pk_mul]
  exact ⟨R * C + 1, zx_ccp_l hi hpi hn hp (R * C) 0 _ (by omega) (by omega)⟩
theorem zx_bce {post : Int32 → Prop} {b p r j Rp Cp : Nat} (hb : b + 34 < 7560) (hp : p < 16) (er : sz (b + p * 2) = nI Rp) (ec : sz (b + p * 2 + 1) = nI Cp) (hR : Rp ≤ 6) (hC : Cp ≤ 6) (hr : r < 6) (hj : j < 6) (h : post (el (p * 36 + zq_bi Rp Cp r j))) : wpX_broadcastElement post (mx, ins, cnt, st, cp, K, X, Y, Z, rs, dt, sz, tr, bd, el) (nI b) (nI p) (nI r) (nI j) := by
  unfold wpX_broadcastElement
  dsimp only
  refine zx_rows (by omega) (zx_cols (by omega) ?_)
  rw [er, ec]
  have l41 : ∀ a c : Nat, a < 6 → c < 6 → post (el (p * 36 + (a * Cp + c))) → wX_broadcastElement_41 post (nI p) (nI Cp) (nI a) (nI c) mx ins cnt st cp K X Y Z rs dt sz tr bd el := by
    intro a c ha hc hh
    have hx := zq_ix ha hC hc
    have e : nI p * 36 + nI a * nI Cp + nI c = nI (p * 36 + (a * Cp + c)) := by rw [zq_m36, pk_mul, nI_add, nI_add, Nat.add_assoc]
    unfold wX_broadcastElement_41
    rw [e, nI_clamp (by omega)]
    exact ⟨vp_in_nI (by omega) (by omega), hh⟩
  unfold zq_bi at h
  refine pk_eq Rp 1 (fun z1 => ?_) (fun z1 => ?_)
  · rw [if_pos z1] at h
    unfold wX_broadcastElement_27
    refine pk_eq Cp 1 (fun z2 => ?_) (fun z2 => ?_)
    · rw [if_pos z2] at h
      exact l41 0 0 (by omega) (by omega) h
    · rw [if_neg z2] at h
      exact l41 0 j (by omega) (by omega) h
  · rw [if_neg z1] at h
    unfold wX_broadcastElement_27
    refine pk_eq Cp 1 (fun z2 => ?_) (fun z2 => ?_)
    · rw [if_pos z2] at h
      exact l41 r 0 (by omega) (by omega) h
    · rw [if_neg z2] at h
      exact l41 r j (by omega) (by omega) h
theorem zx_cbc_i {post : St2 → Prop} {J : Int32 → (Nat → Int32) → (Nat → Int32) → (Nat → Int32) → (Nat → Int32) → (Nat → Int32) → (Nat → Int32) → (Nat → Int32) → (Nat → Int32) → (Nat → Int32) → (Nat → Int32) → Prop} {b i p q r R C Rp Cp Rq Cq : Nat} (hb : b + 34 < 7560) (hi : i < 16) (hp : p < 16) (hq : q < 16) (ex : X i = nI p) (ey : Y i = nI q)
    (er : sz (b + p * 2) = nI Rp) (ec : sz (b + p * 2 + 1) = nI Cp) (fr : sz (b + q * 2) = nI Rq) (fc : sz (b + q * 2 + 1) = nI Cq) (h1 : Rp ≤ 6) (h2 : Cp ≤ 6) (h3 : Rq ≤ 6) (h4 : Cq ≤ 6) (hr : r < 6) (hC : C ≤ 6)
    (hJ : J (nI (r + 1)) K X Y Z rs dt sz tr bd (zq_fo (zq_fbc (K i) p q Rp Cp Rq Cq C) (i * 36) el (r * C + C))) :
    ∀ d j fu : Nat, j + d = C → d < fu → wX_computeBroadcast_34 post J (nI b) (nI i) (nI (i * 36)) (nI R) (nI C) (nI r) mx ins cnt st cp fu (nI j) K X Y Z rs dt sz tr bd (zq_fo (zq_fbc (K i) p q Rp Cp Rq Cq C) (i * 36) el (r * C + j)) := by
  intro d
  induction d with
  | zero =>
    intro j fu he hf
    obtain ⟨f, rfl⟩ : ∃ f, fu = f + 1 := ⟨fu - 1, by omega⟩
    have e1 : j = C := by omega
    subst e1
    rw [wX_computeBroadcast_34]
    exact br_t (Int32.le_refl _) (nm_r (nI_1 r) hJ)
  | succ d ih =>
    intro j fu he hf
    obtain ⟨f, rfl⟩ : ∃ f, fu = f + 1 := ⟨fu - 1, by omega⟩
    have hx := zq_ix hr hC (show j < 6 by omega)
    have hI := ih (j + 1) f (by omega) (by omega)
    have dm := zq_dm (i := r) (show j < C by omega)
    have es : zq_fo (zq_fbc (K i) p q Rp Cp Rq Cq C) (i * 36) el (r * C + (j + 1)) = upd (zq_fo (zq_fbc (K i) p q Rp Cp Rq Cq C) (i * 36) el (r * C + j)) (i * 36 + (r * C + j)) (zq_op (K i) ((zq_fo (zq_fbc (K i) p q Rp Cp Rq Cq C) (i * 36) el (r * C + j)) (p * 36 + zq_bi Rp Cp r j)) ((zq_fo (zq_fbc (K i) p q Rp Cp Rq Cq C) (i * 36) el (r * C + j)) (q * 36 + zq_bi Rq Cq r j))) := by
      rw [← Nat.add_assoc]
      show upd _ _ (zq_fbc (K i) p q Rp Cp Rq Cq C _ (r * C + j)) = _
      unfold zq_fbc
      rw [dm.1, dm.2]
    rw [es] at hI
    generalize zq_fo (zq_fbc (K i) p q Rp Cp Rq Cq C) (i * 36) el (r * C + j) = w at hI ⊢
    have e : nI (i * 36) + nI r * nI C + nI j = nI (i * 36 + (r * C + j)) := by rw [pk_mul, nI_add, nI_add, Nat.add_assoc]
    rw [wX_computeBroadcast_34]
    dsimp only
    rw [nI_clamp (n := i) (by omega), ex, ey, e, nI_clamp (by omega)]
    refine br_f (nI_ge (by omega) (by omega)) ⟨vp_in_nI hi (by omega), ?_⟩
    refine zx_bce hb hp er ec h1 h2 hr (by omega) ⟨vp_in_nI hi (by omega), ?_⟩
    refine zx_bce hb hq fr fc h3 h4 hr (by omega) ⟨vp_in_nI hi (by omega), ?_⟩
    unfold zq_op at hI
    refine br_c (fun hk => ⟨vp_in_nI (by omega) (by omega), nm_e (nm_r (nI_1 j) ?_)⟩) (fun hk => ⟨vp_in_nI (by omega) (by omega), nm_e (nm_r (nI_1 j) ?_)⟩)
    · rw [if_pos hk] at hI
      exact hI
    · rw [if_neg hk] at hI
      exact hI
theorem zx_cbc_o {post : St2 → Prop} {b i p q R C Rp Cp Rq Cq : Nat} (hb : b + 34 < 7560) (hi : i < 16) (hp : p < 16) (hq : q < 16) (ex : X i = nI p) (ey : Y i = nI q)
    (er : sz (b + p * 2) = nI Rp) (ec : sz (b + p * 2 + 1) = nI Cp) (fr : sz (b + q * 2) = nI Rq) (fc : sz (b + q * 2 + 1) = nI Cq) (h1 : Rp ≤ 6) (h2 : Cp ≤ 6) (h3 : Rq ≤ 6) (h4 : Cq ≤ 6) (hR : R ≤ 6) (hC : C ≤ 6)
    (h : post (mx, ins, cnt, st, cp, K, X, Y, Z, rs, dt, sz, tr, bd, zq_fo (zq_fbc (K i) p q Rp Cp Rq Cq C) (i * 36) el (R * C))) :
    ∀ d r fu : Nat, r + d = R → d < fu → wX_computeBroadcast_24 post (nI b) (nI i) (nI (i * 36)) (nI R) (nI C) mx ins cnt st cp fu (nI r) K X Y Z rs dt sz tr bd (zq_fo (zq_fbc (K i) p q Rp Cp Rq Cq C) (i * 36) el (r * C)) := by
  intro d
  induction d with
  | zero =>
    intro r fu he hf
    obtain ⟨f, rfl⟩ : ∃ f, fu = f + 1 := ⟨fu - 1, by omega⟩
    have e1 : r = R := by omega
    subst e1
    rw [wX_computeBroadcast_24]
    exact br_t (Int32.le_refl _) h
  | succ d ih =>
    intro r fu he hf
    obtain ⟨f, rfl⟩ : ∃ f, fu = f + 1 := ⟨fu - 1, by omega⟩
    rw [wX_computeBroadcast_24]
    refine br_f (nI_ge (by omega) (by omega)) ⟨C + 1, ?_⟩
    have hI := ih (r + 1) f (by omega) (by omega)
    rw [Nat.add_mul, Nat.one_mul] at hI
    exact zx_cbc_i hb hi hp hq ex ey er ec fr fc h1 h2 h3 h4 (by omega) hC hI C 0 (C + 1) (by omega) (by omega)
theorem zx_cbc {post : St2 → Prop} {b i p q R C Rp Cp Rq Cq : Nat} (hb : b + 34 < 7560) (hi : i < 16) (hp : p < 16) (hq : q < 16) (ex : X i = nI p) (ey : Y i = nI q)
    (gr : sz (b + i * 2) = nI R) (gc : sz (b + i * 2 + 1) = nI C)
    (er : sz (b + p * 2) = nI Rp) (ec : sz (b + p * 2 + 1) = nI Cp) (fr : sz (b + q * 2) = nI Rq) (fc : sz (b + q * 2 + 1) = nI Cq) (h1 : Rp ≤ 6) (h2 : Cp ≤ 6) (h3 : Rq ≤ 6) (h4 : Cq ≤ 6) (hR : R ≤ 6) (hC : C ≤ 6)
    (h : post (mx, ins, cnt, st, cp, K, X, Y, Z, rs, dt, sz, tr, bd, zq_fo (zq_fbc (K i) p q Rp Cp Rq Cq C) (i * 36) el (R * C))) : wpX_computeBroadcast post (mx, ins, cnt, st, cp, K, X, Y, Z, rs, dt, sz, tr, bd, el) (nI b) (nI i) := by
  unfold wpX_computeBroadcast
  dsimp only
  refine nm_r (zq_m36 i) (zx_rows (by omega) (zx_cols (by omega) ?_))
  rw [gr, gc]
  have W := zx_cbc_o hb hi hp hq ex ey er ec fr fc h1 h2 h3 h4 hR hC h R 0 (R + 1) (by omega) (by omega)
  rw [Nat.zero_mul] at W
  exact ⟨R + 1, W⟩
theorem zx_mme_l {post : Int32 → Prop} {p q r j m C : Nat} (hp : p < 16) (hq : q < 16) (hr : r < 6) (hj : j < 6) (hm : m ≤ 6) (hC : C ≤ 6) (h : post (zq_sm (fun t => el (p * 36 + r * m + t) * el (q * 36 + t * C + j)) m)) :
    ∀ d t fu : Nat, t + d = m → d < fu → wX_matmulElement_49 post (nI r) (nI j) (nI (p * 36)) (nI (q * 36)) (nI m) (nI C) mx ins cnt st cp K X Y Z rs dt sz tr bd el fu (zq_sm (fun t => el (p * 36 + r * m + t) * el (q * 36 + t * C + j)) t) (nI t) := by
  intro d
  induction d with
  | zero =>
    intro t fu he hf
    obtain ⟨f, rfl⟩ : ∃ f, fu = f + 1 := ⟨fu - 1, by omega⟩
    have e1 : t = m := by omega
    subst e1
    rw [wX_matmulElement_49]
    exact br_t (Int32.le_refl _) h
  | succ d ih =>
    intro t fu he hf
    obtain ⟨f, rfl⟩ : ∃ f, fu = f + 1 := ⟨fu - 1, by omega⟩
    have hx := zq_ix hr hm (show t < 6 by omega)
    have hy := zq_ix (show t < 6 by omega) hC hj
    rw [wX_matmulElement_49]
    dsimp only
    rw [pk_mul r m, pk_mul t C, nI_add, nI_add, nI_add, nI_add, nI_clamp (by omega), nI_clamp (by omega)]
    exact br_f (nI_ge (by omega) (by omega)) ⟨vp_in_nI (by omega) (by omega), vp_in_nI (by omega) (by omega), nm_e (nm_r (nI_1 t) (ih (t + 1) f (by omega) (by omega)))⟩
theorem zx_mme {post : Int32 → Prop} {b i p q r j m C : Nat} (hb : b + 34 < 7560) (hi : i < 16) (hp : p < 16) (hq : q < 16) (ex : X i = nI p) (ey : Y i = nI q) (gc : sz (b + i * 2 + 1) = nI C) (ec : sz (b + p * 2 + 1) = nI m)
    (hr : r < 6) (hj : j < 6) (hm : m ≤ 6) (hC : C ≤ 6) (h : post (zq_sm (fun t => el (p * 36 + r * m + t) * el (q * 36 + t * C + j)) m)) : wpX_matmulElement post (mx, ins, cnt, st, cp, K, X, Y, Z, rs, dt, sz, tr, bd, el) (nI b) (nI i) (nI r) (nI j) := by
  unfold wpX_matmulElement
  dsimp only
  rw [nI_clamp (by omega), ex, ey]
  refine ⟨vp_in_nI hi (by omega), nm_r (zq_m36 p) ⟨vp_in_nI hi (by omega), nm_r (zq_m36 q) ⟨vp_in_nI hi (by omega), zx_cols (by omega) (zx_cols (by omega) ?_)⟩⟩⟩
  rw [ec, gc]
  exact ⟨m + 1, zx_mme_l hp hq hr hj hm hC h m 0 (m + 1) (by omega) (by omega)⟩
theorem zx_cmm_i {post : St2 → Prop} {J : Int32 → (Nat → Int32) → (Nat → Int32) → (Nat → Int32) → (Nat → Int32) → (Nat → Int32) → (Nat → Int32) → (Nat → Int32) → (Nat → Int32) → (Nat → Int32) → (Nat → Int32) → Prop} {b i p q r m R C : Nat} (hb : b + 34 < 7560) (hi : i < 16) (hp : p < 16) (hq : q < 16) (ex : X i = nI p) (ey : Y i = nI q)
    (gc : sz (b + i * 2 + 1) = nI C) (ec : sz (b + p * 2 + 1) = nI m) (hm : m ≤ 6) (hr : r < 6) (hC : C ≤ 6)
    (hJ : J (nI (r + 1)) K X Y Z rs dt sz tr bd (zq_fo (zq_fmm p q m C) (i * 36) el (r * C + C))) :
    ∀ d j fu : Nat, j + d = C → d < fu → wX_computeMatmul_34 post J (nI b) (nI i) (nI (i * 36)) (nI R) (nI C) (nI r) mx ins cnt st cp fu (nI j) K X Y Z rs dt sz tr bd (zq_fo (zq_fmm p q m C) (i * 36) el (r * C + j)) := by
  intro d
  induction d with
  | zero =>
    intro j fu he hf
    obtain ⟨f, rfl⟩ : ∃ f, fu = f + 1 := ⟨fu - 1, by omega⟩
    have e1 : j = C := by omega
    subst e1
    rw [wX_computeMatmul_34]
    exact br_t (Int32.le_refl _) (nm_r (nI_1 r) hJ)
  | succ d ih =>
    intro j fu he hf
    obtain ⟨f, rfl⟩ : ∃ f, fu = f + 1 := ⟨fu - 1, by omega⟩
    have hx := zq_ix hr hC (show j < 6 by omega)
    have hI := ih (j + 1) f (by omega) (by omega)
    have dm := zq_dm (i := r) (show j < C by omega)
    have es : zq_fo (zq_fmm p q m C) (i * 36) el (r * C + (j + 1)) = upd (zq_fo (zq_fmm p q m C) (i * 36) el (r * C + j)) (i * 36 + (r * C + j)) (zq_sm (fun t => (zq_fo (zq_fmm p q m C) (i * 36) el (r * C + j)) (p * 36 + r * m + t) * (zq_fo (zq_fmm p q m C) (i * 36) el (r * C + j)) (q * 36 + t * C + j)) m) := by
      rw [← Nat.add_assoc]
      show upd _ _ (zq_fmm p q m C _ (r * C + j)) = _
      unfold zq_fmm
      rw [dm.1, dm.2]
    rw [es] at hI
    generalize zq_fo (zq_fmm p q m C) (i * 36) el (r * C + j) = w at hI ⊢
    have e : nI (i * 36) + nI r * nI C + nI j = nI (i * 36 + (r * C + j)) := by rw [pk_mul, nI_add, nI_add, Nat.add_assoc]
    rw [wX_computeMatmul_34]
    dsimp only
    rw [e, nI_clamp (by omega)]
    refine br_f (nI_ge (by omega) (by omega)) ?_
    exact zx_mme hb hi hp hq ex ey gc ec hr (by omega) hm hC ⟨vp_in_nI (by omega) (by omega), nm_e (nm_r (nI_1 j) hI)⟩
theorem zx_cmm_o {post : St2 → Prop} {b i p q m R C : Nat} (hb : b + 34 < 7560) (hi : i < 16) (hp : p < 16) (hq : q < 16) (ex : X i = nI p) (ey : Y i = nI q)
    (gc : sz (b + i * 2 + 1) = nI C) (ec : sz (b + p * 2 + 1) = nI m) (hm : m ≤ 6) (hR : R ≤ 6) (hC : C ≤ 6)
    (h : post (mx, ins, cnt, st, cp, K, X, Y, Z, rs, dt, sz, tr, bd, zq_fo (zq_fmm p q m C) (i * 36) el (R * C))) :
    ∀ d r fu : Nat, r + d = R → d < fu → wX_computeMatmul_24 post (nI b) (nI i) (nI (i * 36)) (nI R) (nI C) mx ins cnt st cp fu (nI r) K X Y Z rs dt sz tr bd (zq_fo (zq_fmm p q m C) (i * 36) el (r * C)) := by
  intro d
  induction d with
  | zero =>
    intro r fu he hf
    obtain ⟨f, rfl⟩ : ∃ f, fu = f + 1 := ⟨fu - 1, by omega⟩
    have e1 : r = R := by omega
    subst e1
    rw [wX_computeMatmul_24]
    exact br_t (Int32.le_refl _) h
  | succ d ih =>
    intro r fu he hf
    obtain ⟨f, rfl⟩ : ∃ f, fu = f + 1 := ⟨fu - 1, by omega⟩
    rw [wX_computeMatmul_24]
    refine br_f (nI_ge (by omega) (by omega)) ⟨C + 1, ?_⟩
    have hI := ih (r + 1) f (by omega) (by omega)
    rw [Nat.add_mul, Nat.one_mul] at hI
    exact zx_cmm_i hb hi hp hq ex ey gc ec hm (by omega) hC hI C 0 (C + 1) (by omega) (by omega)
theorem zx_cmm {post : St2 → Prop} {b i p q m R C : Nat} (hb : b + 34 < 7560) (hi : i < 16) (hp : p < 16) (hq : q < 16) (ex : X i = nI p) (ey : Y i = nI q)
    (gr : sz (b + i * 2) = nI R) (gc : sz (b + i * 2 + 1) = nI C) (ec : sz (b + p * 2 + 1) = nI m) (hm : m ≤ 6) (hR : R ≤ 6) (hC : C ≤ 6)
    (h : post (mx, ins, cnt, st, cp, K, X, Y, Z, rs, dt, sz, tr, bd, zq_fo (zq_fmm p q m C) (i * 36) el (R * C))) : wpX_computeMatmul post (mx, ins, cnt, st, cp, K, X, Y, Z, rs, dt, sz, tr, bd, el) (nI b) (nI i) := by
  unfold wpX_computeMatmul
  dsimp only
  refine nm_r (zq_m36 i) (zx_rows (by omega) (zx_cols (by omega) ?_))
  rw [gr, gc]
  have W := zx_cmm_o hb hi hp hq ex ey gc ec hm hR hC h R 0 (R + 1) (by omega) (by omega)
  rw [Nat.zero_mul] at W
  exact ⟨R + 1, W⟩
theorem zx_ctr_i {post : St2 → Prop} {J : Int32 → (Nat → Int32) → (Nat → Int32) → (Nat → Int32) → (Nat → Int32) → (Nat → Int32) → (Nat → Int32) → (Nat → Int32) → (Nat → Int32) → (Nat → Int32) → (Nat → Int32) → Prop} {i p r R C : Nat} (hi : i < 16) (hp : p < 16) (hr : r < R) (hR : R ≤ 6) (hC : C ≤ 6)
    (hJ : J (nI (r + 1)) K X Y Z rs dt sz tr bd (zq_fo (zq_ftr p R C) (i * 36) el (r * C + C))) :
    ∀ d j fu : Nat, j + d = C → d < fu → wX_computeTranspose_62 post J (nI (i * 36)) (nI (p * 36)) (nI R) (nI C) (nI r) mx ins cnt st cp fu (nI j) K X Y Z rs dt sz tr bd (zq_fo (zq_ftr p R C) (i * 36) el (r * C + j)) := by
  intro d
  induction d with
  | zero =>
    intro j fu he hf
    obtain ⟨f, rfl⟩ : ∃ f, fu = f + 1 := ⟨fu - 1, by omega⟩
    have e1 : j = C := by omega
    subst e1
    rw [wX_computeTranspose_62]
    exact br_t (Int32.le_refl _) (nm_r (nI_1 r) hJ)
  | succ d ih =>
    intro j fu he hf
    obtain ⟨f, rfl⟩ : ∃ f, fu = f + 1 := ⟨fu - 1, by omega⟩
    have hx := zq_ix (show r < 6 by omega) hC (show j < 6 by omega)
    have hy := zq_ix (show j < 6 by omega) hR (show r < 6 by omega)
    have hI := ih (j + 1) f (by omega) (by omega)
    have dm := zq_dm (i := r) (show j < C by omega)
    have es : zq_fo (zq_ftr p R C) (i * 36) el (r * C + (j + 1)) = upd (zq_fo (zq_ftr p R C) (i * 36) el (r * C + j)) (i * 36 + (r * C + j)) ((zq_fo (zq_ftr p R C) (i * 36) el (r * C + j)) (p * 36 + j * R + r)) := by
      rw [← Nat.add_assoc]
      show upd _ _ (zq_ftr p R C _ (r * C + j)) = _
      unfold zq_ftr
      rw [dm.1, dm.2]
    rw [es] at hI
    generalize zq_fo (zq_ftr p R C) (i * 36) el (r * C + j) = w at hI ⊢
    have e : nI (i * 36) + nI r * nI C + nI j = nI (i * 36 + (r * C + j)) := by rw [pk_mul, nI_add, nI_add, Nat.add_assoc]
    have e' : nI (p * 36) + nI j * nI R + nI r = nI (p * 36 + j * R + r) := by rw [pk_mul, nI_add, nI_add]
    rw [wX_computeTranspose_62]
    dsimp only
    rw [e, e', nI_clamp (n := i * 36 + (r * C + j)) (by omega), nI_clamp (n := p * 36 + j * R + r) (by omega)]
    exact br_f (nI_ge (by omega) (by omega)) ⟨vp_in_nI (by omega) (by omega), vp_in_nI (by omega) (by omega), nm_e (nm_r (nI_1 j) hI)⟩
theorem zx_ctr_o {post : St2 → Prop} {i p R C : Nat} (hi : i < 16) (hp : p < 16) (hR : R ≤ 6) (hC : C ≤ 6)
    (h : post (mx, ins, cnt, st, cp, K, X, Y, Z, rs, dt, sz, tr, bd, zq_fo (zq_ftr p R C) (i * 36) el (R * C))) :
    ∀ d r fu : Nat, r + d = R → d < fu → wX_computeTranspose_52 post (nI (i * 36)) (nI (p * 36)) (nI R) (nI C) mx ins cnt st cp fu (nI r) K X Y Z rs dt sz tr bd (zq_fo (zq_ftr p R C) (i * 36) el (r * C)) := by
  intro d
  induction d with
  | zero =>
    intro r fu he hf
    obtain ⟨f, rfl⟩ : ∃ f, fu = f + 1 := ⟨fu - 1, by omega⟩
    have e1 : r = R := by omega
    subst e1
    rw [wX_computeTranspose_52]
    exact br_t (Int32.le_refl _) h
  | succ d ih =>
    intro r fu he hf
    obtain ⟨f, rfl⟩ : ∃ f, fu = f + 1 := ⟨fu - 1, by omega⟩
    rw [wX_computeTranspose_52]
    refine br_f (nI_ge (by omega) (by omega)) ⟨C + 1, ?_⟩
    have hI := ih (r + 1) f (by omega) (by omega)
    rw [Nat.add_mul, Nat.one_mul] at hI
    exact zx_ctr_i hi hp (by omega) hR hC hI C 0 (C + 1) (by omega) (by omega)
theorem zx_ctr {post : St2 → Prop} {b i p R C : Nat} (hb : b + 34 < 7560) (hi : i < 16) (hp : p < 16) (ex : X i = nI p) (h2 : rs i = 2) (gr : sz (b + i * 2) = nI R) (gc : sz (b + i * 2 + 1) = nI C) (hR : R ≤ 6) (hC : C ≤ 6)
    (h : post (mx, ins, cnt, st, cp, K, X, Y, Z, rs, dt, sz, tr, bd, zq_fo (zq_ftr p R C) (i * 36) el (R * C))) : wpX_computeTranspose post (mx, ins, cnt, st, cp, K, X, Y, Z, rs, dt, sz, tr, bd, el) (nI b) (nI i) := by
  unfold wpX_computeTranspose
  dsimp only
  rw [nI_clamp (by omega), ex]
  refine ⟨vp_in_nI hi (by omega), br_t h2 (nm_r (zq_m36 i) ⟨vp_in_nI hi (by omega), nm_r (zq_m36 p) (zx_rows (by omega) (zx_cols (by omega) ?_))⟩)⟩
  rw [gr, gc]
  have W := zx_ctr_o hi hp hR hC h R 0 (R + 1) (by omega) (by omega)
  rw [Nat.zero_mul] at W
  exact ⟨R + 1, W⟩
theorem zx_soco_l {post : Int32 → Prop} {p j R C : Nat} (hp : p < 16) (hj : j < 6) (hR : R ≤ 6) (hC : C ≤ 6) (h : post (zq_sm (fun t => el (p * 36 + t * C + j)) R)) :
    ∀ d t fu : Nat, t + d = R → d < fu → wX_sumOfColumn_28 post (nI j) (nI (p * 36)) (nI R) (nI C) mx ins cnt st cp K X Y Z rs dt sz tr bd el fu (zq_sm (fun t => el (p * 36 + t * C + j)) t) (nI t) := by
  intro d
  induction d with
  | zero =>
    intro t fu he hf
    obtain ⟨f, rfl⟩ : ∃ f, fu = f + 1 := ⟨fu - 1, by omega⟩
    have e1 : t = R := by omega
    subst e1
    rw [wX_sumOfColumn_28]
    exact br_t (Int32.le_refl _) h
  | succ d ih =>
    intro t fu he hf
    obtain ⟨f, rfl⟩ : ∃ f, fu = f + 1 := ⟨fu - 1, by omega⟩
    have hy := zq_ix (show t < 6 by omega) hC hj
    rw [wX_sumOfColumn_28]
    dsimp only
    rw [pk_mul t C, nI_add, nI_add, nI_clamp (by omega)]
    exact br_f (nI_ge (by omega) (by omega)) ⟨vp_in_nI (by omega) (by omega), nm_e (nm_r (nI_1 t) (ih (t + 1) f (by omega) (by omega)))⟩
theorem zx_soco {post : Int32 → Prop} {b p j R C : Nat} (hb : b + 34 < 7560) (hp : p < 16) (hj : j < 6) (gr : sz (b + p * 2) = nI R) (gc : sz (b + p * 2 + 1) = nI C) (hR : R ≤ 6) (hC : C ≤ 6) (h : post (zq_sm (fun t => el (p * 36 + t * C + j)) R)) : wpX_sumOfColumn post (mx, ins, cnt, st, cp, K, X, Y, Z, rs, dt, sz, tr, bd, el) (nI b) (nI p) (nI j) := by
  unfold wpX_sumOfColumn
  dsimp only
  refine nm_r (zq_m36 p) (zx_rows (by omega) (zx_cols (by omega) ?_))
  rw [gr, gc]
  exact ⟨R + 1, zx_soco_l hp hj hR hC h R 0 (R + 1) (by omega) (by omega)⟩
theorem zx_soro_l {post : Int32 → Prop} {p j C : Nat} (hp : p < 16) (hj : j < 6) (hC : C ≤ 6) (h : post (zq_sm (fun t => el (p * 36 + j * C + t)) C)) :
    ∀ d t fu : Nat, t + d = C → d < fu → wX_sumOfRow_20 post (nI j) (nI (p * 36)) (nI C) mx ins cnt st cp K X Y Z rs dt sz tr bd el fu (zq_sm (fun t => el (p * 36 + j * C + t)) t) (nI t) := by
  intro d
  induction d with
  | zero =>
    intro t fu he hf
    obtain ⟨f, rfl⟩ : ∃ f, fu = f + 1 := ⟨fu - 1, by omega⟩
    have e1 : t = C := by omega
    subst e1
    rw [wX_sumOfRow_20]
    exact br_t (Int32.le_refl _) h
  | succ d ih =>
    intro t fu he hf
    obtain ⟨f, rfl⟩ : ∃ f, fu = f + 1 := ⟨fu - 1, by omega⟩
    have hy := zq_ix hj hC (show t < 6 by omega)
    rw [wX_sumOfRow_20]
    dsimp only
    rw [pk_mul j C, nI_add, nI_add, nI_clamp (by omega)]
    exact br_f (nI_ge (by omega) (by omega)) ⟨vp_in_nI (by omega) (by omega), nm_e (nm_r (nI_1 t) (ih (t + 1) f (by omega) (by omega)))⟩
theorem zx_soro {post : Int32 → Prop} {b p j C : Nat} (hb : b + 34 < 7560) (hp : p < 16) (hj : j < 6) (gc : sz (b + p * 2 + 1) = nI C) (hC : C ≤ 6) (h : post (zq_sm (fun t => el (p * 36 + j * C + t)) C)) : wpX_sumOfRow post (mx, ins, cnt, st, cp, K, X, Y, Z, rs, dt, sz, tr, bd, el) (nI b) (nI p) (nI j) := by
  unfold wpX_sumOfRow
  dsimp only
  refine nm_r (zq_m36 p) (zx_cols (by omega) ?_)
  rw [gc]
  exact ⟨C + 1, zx_soro_l hp hj hC h C 0 (C + 1) (by omega) (by omega)⟩
theorem zx_csu_l {post : St2 → Prop} {b i p n r Rp Cp : Nat} {F : (Nat → Int32) → Nat → Int32} (hb : b + 34 < 7560) (hi : i < 16) (hp : p < i) (ex : X i = nI p) (hr : r ≤ 2) (eR : rs p = nI r) (er : sz (b + p * 2) = nI Rp) (ec : sz (b + p * 2 + 1) = nI Cp) (hR : Rp ≤ 6) (hC : Cp ≤ 6) (hn : n ≤ 6)
    (hF : F = if r = 2 ∧ Y i = 0 then zq_fsc p Rp Cp else zq_fsr p Cp) (h : post (mx, ins, cnt, st, cp, K, X, Y, Z, rs, dt, sz, tr, bd, zq_fo F (i * 36) el n)) :
    ∀ d e fu : Nat, e + d = n → d < fu → wX_computeSum_16 post (nI b) (nI i) (nI (i * 36)) (nI n) mx ins cnt st cp fu (nI e) K X Y Z rs dt sz tr bd (zq_fo F (i * 36) el e) := by
  intro d
  induction d with
  | zero =>
    intro e fu he hf
    obtain ⟨f, rfl⟩ : ∃ f, fu = f + 1 := ⟨fu - 1, by omega⟩
    have e1 : e = n := by omega
    subst e1
    rw [wX_computeSum_16]
    exact br_t (Int32.le_refl _) h
  | succ d ih =>
    intro e fu he hf
    obtain ⟨f, rfl⟩ : ∃ f, fu = f + 1 := ⟨fu - 1, by omega⟩
    have hI := ih (e + 1) f (by omega) (by omega)
    have es : zq_fo F (i * 36) el (e + 1) = upd (zq_fo F (i * 36) el e) (i * 36 + e) (F (zq_fo F (i * 36) el e) e) := rfl
    rw [es] at hI
    generalize zq_fo F (i * 36) el e = w at hI ⊢
    rw [wX_computeSum_16]
    dsimp only
    rw [nI_add, nI_clamp (by omega), nI_clamp (n := i) (by omega), ex]
    refine br_f (nI_ge (by omega) (by omega)) ?_
    refine zx_smr hi hp ex hr eR (fun z => br_f (by decide) ⟨vp_in_nI hi (by omega), ?_⟩) (fun z => br_t rfl ⟨vp_in_nI hi (by omega), ?_⟩)
    · rw [if_pos z] at hF
      rw [hF] at hI
      exact zx_soco hb (by omega) (by omega) er ec hR hC ⟨vp_in_nI (by omega) (by omega), nm_e (nm_r (nI_1 e) hI)⟩
    · rw [if_neg z] at hF
      rw [hF] at hI
      exact zx_soro hb (by omega) (by omega) ec hC ⟨vp_in_nI (by omega) (by omega), nm_e (nm_r (nI_1 e) hI)⟩
theorem zx_csu {post : St2 → Prop} {b i p n r Rp Cp : Nat} {F : (Nat → Int32) → Nat → Int32} (hb : b + 34 < 7560) (hi : i < 16) (hp : p < i) (ex : X i = nI p) (hr : r ≤ 2) (eR : rs p = nI r) (gr : sz (b + i * 2) = 1) (gc : sz (b + i * 2 + 1) = nI n) (er : sz (b + p * 2) = nI Rp) (ec : sz (b + p * 2 + 1) = nI Cp) (hR : Rp ≤ 6) (hC : Cp ≤ 6) (hn : n ≤ 6)
    (hF : F = if r = 2 ∧ Y i = 0 then zq_fsc p Rp Cp else zq_fsr p Cp) (h : post (mx, ins, cnt, st, cp, K, X, Y, Z, rs, dt, sz, tr, bd, zq_fo F (i * 36) el n)) : wpX_computeSum post (mx, ins, cnt, st, cp, K, X, Y, Z, rs, dt, sz, tr, bd, el) (nI b) (nI i) := by
  unfold wpX_computeSum
  dsimp only
  refine nm_r (zq_m36 i) (zx_elc (by omega) ?_)
  have e : (1 : Int32) * nI n = nI n := by
    show nI 1 * nI n = nI n
    rw [pk_mul, Nat.one_mul]
  rw [gr, gc, e]
  exact ⟨n + 1, zx_csu_l hb hi hp ex hr eR er ec hR hC hn hF h n 0 (n + 1) (by omega) (by omega)⟩
theorem zx_compute {post : St2 → Prop} {D b i a0 a1 a2 : Nat} {rk R C : Nat → Nat} (hb : b + 34 < 7560) (hi : i < 16) (hn : zq_nd D i rk (K i) (X i) (Y i) (Z i)) (hr : ∀ j, j ≤ i → rs j = nI (rk j) ∧ rk j ≤ 2)
    (hc : ∀ j, j ≤ i → sz (b + j * 2) = nI (R j) ∧ sz (b + j * 2 + 1) = nI (C j)) (hg : ∀ j, j ≤ i → R j ≤ 6 ∧ C j ≤ 6) (hu : zq_ru (K i) (X i) (Y i) (Z i) a0 a1 a2 rk R C = some (R i, C i))
    (hp : post (mx, ins, cnt, st, cp, K, X, Y, Z, rs, dt, sz, tr, bd, zq_fo (zq_f (K i) (X i) (Y i) i dt rk R C) (i * 36) el (R i * C i))) : wpX_compute post (mx, ins, cnt, st, cp, K, X, Y, Z, rs, dt, sz, tr, bd, el) (nI b) (nI i) := by
  have gi := hg i (by omega)
  have hRC : R i * C i ≤ 6 * 6 := Nat.mul_le_mul gi.1 gi.2
  unfold wpX_compute
  dsimp only
  rw [nI_clamp (by omega)]
  refine ⟨vp_in_nI hi (by omega), ?_⟩
  rcases hn with ⟨ek, h2, h3⟩ | ⟨p, q, hpi, hqi, ex, ey, ek, h4⟩ | ⟨p, q, hpi, hqi, ex, ey, ek, h4, h5, h7⟩ | ⟨p, hpi, ex, ek, h3⟩ | ⟨p, hpi, ex, ek, h3, h4⟩ | ⟨p, s, hpi, ex, ek, h3, h4, h5⟩
  · refine nm_r ek (br_f (by decide) (br_f (by decide) (br_t rfl ?_)))
    rw [ek, zq_f1] at hp
    exact zx_cin hb hi (hc i (by omega)).1 (hc i (by omega)).2 (by omega) hp
  · rw [ex, ey, zq_f2 (by omega) (by omega) ek] at hp
    have gp := hg p (by omega)
    have gq := hg q (by omega)
    have main : wX_compute_53 post (nI b) (nI i) mx ins cnt st cp K X Y Z rs dt sz tr bd el := by
      unfold wX_compute_53
      exact zx_cbc hb hi (by omega) (by omega) ex ey (hc i (by omega)).1 (hc i (by omega)).2 (hc p (by omega)).1 (hc p (by omega)).2 (hc q (by omega)).1 (hc q (by omega)).2 gp.1 gp.2 gq.1 gq.2 gi.1 gi.2 hp
    rcases ek with ek | ek
    · exact nm_r ek (br_f (by decide) (br_f (by decide) (br_f (by decide) (br_t rfl main))))
    · exact nm_r ek (br_f (by decide) (br_f (by decide) (br_f (by decide) (br_f (by decide) (br_t rfl main)))))
  · refine nm_r ek (br_f (by decide) (br_f (by decide) (br_f (by decide) (br_f (by decide) (br_f (by decide) (br_t rfl ?_))))))
    rw [ek, ex, ey, zq_f4 (by omega) (by omega)] at hp
    exact zx_cmm hb hi (by omega) (by omega) ex ey (hc i (by omega)).1 (hc i (by omega)).2 (hc p (by omega)).2 (hg p (by omega)).2 gi.1 gi.2 hp
  · refine nm_r ek (br_f (by decide) (br_f (by decide) (br_f (by decide) (br_f (by decide) (br_f (by decide) (br_f (by decide) (br_t rfl ?_)))))))
    by_cases h2 : rk p = 2
    · rw [ek, ex, zq_f5t (by omega) h2] at hp
      exact zx_ctr hb hi (by omega) ex (by rw [(hr i (by omega)).1, h3, h2]; rfl) (hc i (by omega)).1 (hc i (by omega)).2 gi.1 gi.2 hp
    · rw [ek, ex, zq_f5c (by omega) h2] at hp
      unfold wpX_computeTranspose
      dsimp only
      rw [nI_clamp (by omega)]
      refine ⟨vp_in_nI hi (by omega), br_f ?_ ?_⟩
      · rw [(hr i (by omega)).1]
        exact fun z => h2 (by rw [← h3]; exact (nI_eq (b := 2) (by have := (hr i (by omega)).2; omega) (by omega)).mp z)
      · exact zx_ccp hb hi (by omega) ex (hc i (by omega)).1 (hc i (by omega)).2 (by omega) hp
  · refine nm_r ek (br_f (by decide) (br_f (by decide) (br_f (by decide) (br_f (by decide) (br_f (by decide) (br_f (by decide) (br_f (by decide) (br_t rfl ?_))))))))
    rw [ek, ex, zq_f6 (by omega)] at hp
    exact zx_ccp hb hi (by omega) ex (hc i (by omega)).1 (hc i (by omega)).2 (by omega) hp
  · refine nm_r ek (br_f (by decide) (br_t (by decide) ?_))
    rw [ek, ex, zq_ru7 (by omega)] at hu
    have hu1 : 1 = R i := congrArg Prod.fst (Option.some.inj hu)
    have gp := hg p (by omega)
    rw [← hu1, Nat.one_mul] at hp
    refine zx_csu (F := zq_f (K i) (X i) (Y i) i dt rk R C) hb hi hpi ex (hr p (by omega)).2 (hr p (by omega)).1 (by rw [(hc i (by omega)).1, ← hu1]; rfl) (hc i (by omega)).2 (hc p (by omega)).1 (hc p (by omega)).2 gp.1 gp.2 gi.2 ?_ hp
    rw [ek, ex]
    by_cases z : rk p = 2 ∧ Y i = 0
    · rw [zq_f7c (by omega) z, if_pos z]
    · rw [zq_f7r (by omega) z, if_neg z]
end
