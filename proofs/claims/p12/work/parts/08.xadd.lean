/-! the class: addNode and the constructor -/
section
variable {mx ins cnt st cp : Int32} {K X Y Z rs dt sz tr bd el : Nat → Int32}
theorem zx_fd {post : St2 → Prop} {c : Nat} (hc : c < 16) : ∀ d e fu : Nat, ∀ dt0 : Nat → Int32, e + d = 36 → d < fu → dt = zq_fo (fun _ e => nI (e + 1)) (c * 36) dt0 e → post (mx, ins, cnt, st, cp, K, X, Y, Z, rs, zq_fo (fun _ e => nI (e + 1)) (c * 36) dt0 36, sz, tr, bd, el) → wX_fillData_2 post (nI c) mx ins cnt st cp fu (nI e) K X Y Z rs dt sz tr bd el := by
  intro d
  induction d generalizing dt with
  | zero =>
    intro e fu dt0 he hf ed hp
    obtain ⟨f, rfl⟩ : ∃ f, fu = f + 1 := ⟨fu - 1, by omega⟩
    have h36 : e = 36 := by omega
    subst h36
    rw [wX_fillData_2]
    rw [ed]
    exact br_t (Int32.le_refl _) hp
  | succ d ih =>
    intro e fu dt0 he hf ed hp
    obtain ⟨f, rfl⟩ : ∃ f, fu = f + 1 := ⟨fu - 1, by omega⟩
    rw [wX_fillData_2]
    have ei : nI c * 36 + nI e = nI (c * 36 + e) := by rw [zq_m36, nI_add]
    refine br_f (nI_ge (b := 36) (by omega) (by decide)) ?_
    rw [ei, nI_clamp (by omega)]
    refine ⟨vp_in_nI (by omega) (by omega), nm_e (nm_r (nI_1 e) ?_)⟩
    refine ih (e + 1) f dt0 (by omega) (by omega) ?_ hp
    rw [ed, nI_1]
    rfl
theorem zx_fillData {post : St2 → Prop} {c : Nat} (hc : c < 16) (hp : post (mx, ins, cnt, st, cp, K, X, Y, Z, rs, zq_fo (fun _ e => nI (e + 1)) (c * 36) dt 36, sz, tr, bd, el)) : wpX_fillData post (mx, ins, cnt, st, cp, K, X, Y, Z, rs, dt, sz, tr, bd, el) (nI c) := by
  unfold wpX_fillData
  dsimp only
  exact ⟨37, zx_fd hc 36 0 37 dt rfl (by omega) rfl hp⟩
theorem zx_sua {post : St2 → Prop} {D c N : Nat} {k x y z : Int32} {rk rk' : Nat → Nat} (h2 : 2 ≤ D) (h6 : D ≤ 6) (hN : N = D * D * D) (hc : c < 16)
    (hn : ∀ i, i < c → zq_nd D i rk (K i) (X i) (Y i) (Z i)) (hn' : zq_nd D c rk' k x y z) (er : ∀ j, j < c → rk' j = rk j) (hr : ∀ j, j ≤ c → rs j = nI (rk' j) ∧ rk' j ≤ 2)
    (hp : ∀ sz' tr', (∀ n, n < N → zq_tb D (c + 1) (upd K c k) (upd X c x) (upd Y c y) (upd Z c z) rk' sz' tr' n) → post (mx, nI N, cnt, st, cp, upd K c k, upd X c x, upd Y c y, upd Z c z, rs, dt, sz', tr', bd, el)) :
    ∀ d m fu : Nat, ∀ sz tr : Nat → Int32, m + d = N → d < fu → (∀ n, n < m → zq_tb D (c + 1) (upd K c k) (upd X c x) (upd Y c y) (upd Z c z) rk' sz tr n) → (∀ n, m ≤ n → n < N → zq_tb D c K X Y Z rk sz tr n) →
    wX_shapeUnderAll_2 post (nI c) fu (nI m) mx (nI N) cnt st cp (upd K c k) (upd X c x) (upd Y c y) (upd Z c z) rs dt sz tr bd el := by
  have hN2 : N ≤ 216 := by rw [hN]; exact zq_216 h6
  intro d
  induction d with
  | zero =>
    intro m fu sz tr hm hf h1 h3
    obtain ⟨f, rfl⟩ : ∃ f, fu = f + 1 := ⟨fu - 1, by omega⟩
    have e : m = N := by omega
    subst e
    rw [wX_shapeUnderAll_2]
    exact br_t (Int32.le_refl _) (hp sz tr h1)
  | succ d ih =>
    intro m fu sz tr hm hf h1 h3
    obtain ⟨f, rfl⟩ : ∃ f, fu = f + 1 := ⟨fu - 1, by omega⟩
    rw [wX_shapeUnderAll_2]
    refine br_f (nI_ge (by omega) (by omega)) ⟨vp_in_nI (by omega) (by omega), ?_⟩
    rw [nI_clamp (by omega)]
    have hm' := h3 m (by omega) (by omega)
    refine br_c (fun ht => ?_) (fun ht => ?_)
    · obtain ⟨t1, t2, t3, t, R, C, t4, t5, t6⟩ := hm'
      have etc : t = c := by
        rcases t6 with ⟨e, _⟩ | ⟨_, e⟩
        · exact e
        · rw [e] at ht
          exact absurd ht (zq_m1 (by have := t4.1; omega))
      subst etc
      have hd := zq_dec h2 h6 (show m < D * D * D by omega)
      have ha : 1 ≤ m / (D * D) + 1 ∧ m / (D * D) + 1 ≤ D := ⟨Nat.succ_le_succ (Nat.zero_le _), hd.1⟩
      have hb : 1 ≤ m / D % D + 1 ∧ m / D % D + 1 ≤ D := ⟨Nat.succ_le_succ (Nat.zero_le _), hd.2.1⟩
      have hcc : 1 ≤ m % D + 1 ∧ m % D + 1 ≤ D := ⟨Nat.succ_le_succ (Nat.zero_le _), hd.2.2.1⟩
      have hgd : ∀ j, j < t → zq_good D (rk' j) (R j) (C j) := fun j hj => by rw [er j hj]; exact (t4.2.1 j hj).1
      rw [zq_m35]
      refine zx_shape (K := upd K t k) (X := upd X t x) (Y := upd Y t y) (Z := upd Z t z) (rk := rk') (R := R) (C := C) h6 (by omega) hc (by rw [pk_us, pk_us, pk_us, pk_us]; exact hn') hr t1 t2 t3 t5 (fun j hj => ?_) (fun p q hs => ?_) ?_ ?_
      · have g := hgd j hj
        unfold zq_good at g
        omega
      · have g := zq_spec_good h2 h6 hs ha hb hcc
        unfold zq_good at g
        omega
      · rw [pk_us, pk_us, pk_us, pk_us]
        intro r s sz' e fr e1 e2
        refine br_f (by decide) (nm_r (nI_1 m) ?_)
        refine ih (m + 1) f sz' tr (by omega) (by omega) (fun n hnm => ?_) (fun n hnm hnN => ?_)
        · by_cases hnm' : n = m
          · subst hnm'
            exact zq_tb_new hc hn hn' er t1 t2 t3 t4 t5 fr (Or.inl ⟨r, s, e, zq_ru_good h2 h6 (by omega) ha hb hcc hn' hgd e, e1, e2, ht⟩)
          · exact zq_tb_fr (by omega) (h1 n (by omega)) (fun j hj => fr _ (by omega) (by omega)) rfl
        · exact zq_tb_fr (by omega) (h3 n (by omega) hnN) (fun j hj => fr _ (by omega) (by omega)) rfl
      · rw [pk_us, pk_us, pk_us, pk_us]
        intro sz' e fr
        refine br_t rfl ⟨vp_in_nI (by omega) (by omega), nm_e (nm_r (nI_1 m) ?_)⟩
        refine ih (m + 1) f sz' (upd tr m (nI t)) (by omega) (by omega) (fun n hnm => ?_) (fun n hnm hnN => ?_)
        · by_cases hnm' : n = m
          · subst hnm'
            exact zq_tb_new hc hn hn' er t1 t2 t3 t4 t5 fr (Or.inr ⟨e, pk_us⟩)
          · exact zq_tb_fr (by omega) (h1 n (by omega)) (fun j hj => fr _ (by omega) (by omega)) (pk_un hnm')
        · exact zq_tb_fr (by omega) (h3 n (by omega) hnN) (fun j hj => fr _ (by omega) (by omega)) (pk_un (by omega))
    · refine nm_r (nI_1 m) ?_
      refine ih (m + 1) f sz tr (by omega) (by omega) (fun n hnm => ?_) (fun n hnm hnN => h3 n (by omega) hnN)
      by_cases hnm' : n = m
      · subst hnm'
        exact zq_tb_old hc hn er hm' ht
      · exact h1 n (by omega)
theorem zx_add {post : Int32 → St2 → Prop} {D c : Nat} {k x y z : Int32} {rk : Nat → Nat} (h2 : 2 ≤ D) (h6 : D ≤ 6) (hc : c ≤ 16)
    (hr : ∀ j, j < c → rs j = nI (rk j) ∧ rk j ≤ 2) (hn : ∀ i, i < c → zq_nd D i rk (K i) (X i) (Y i) (Z i)) (ht : ∀ n, n < D * D * D → zq_tb D c K X Y Z rk sz tr n)
    (full : c = 16 → post (-1) (nI D, nI (D * D * D), nI c, st, cp, K, X, Y, Z, rs, dt, sz, tr, bd, el)) (no : c < 16 → ¬ zq_vn D c rk k x y z → post (-1) (nI D, nI (D * D * D), nI c, st, cp, K, X, Y, Z, rs, dt, sz, tr, bd, el))
    (ok : c < 16 → zq_vn D c rk k x y z → ∀ r dt' sz' tr', zq_nd D c (zq_ex c r rk) k x y z → r ≤ 2 → dt' = (if k = 1 then zq_fo (fun _ e => nI (e + 1)) (c * 36) dt 36 else dt) →
      (∀ n, n < D * D * D → zq_tb D (c + 1) (upd K c k) (upd X c x) (upd Y c y) (upd Z c z) (zq_ex c r rk) sz' tr' n) →
      post (nI c) (nI D, nI (D * D * D), nI (c + 1), 0, 0, upd K c k, upd X c x, upd Y c y, upd Z c z, upd rs c (nI r), dt', sz', tr', bd, el)) :
    wpX_addNode post (nI D, nI (D * D * D), nI c, st, cp, K, X, Y, Z, rs, dt, sz, tr, bd, el) k x y z := by
  unfold wpX_addNode
  dsimp only
  refine pk_le 16 c (fun h => full (by omega)) (fun h => ?_)
  refine zx_vn h6 hc hr (fun hv => br_f (by decide) ?_) (fun hv => br_t rfl (no h hv))
  rw [nI_clamp (by omega)]
  refine ⟨vp_in_nI h (by omega), nm_e ⟨vp_in_nI h (by omega), nm_e ⟨vp_in_nI h (by omega), nm_e ⟨vp_in_nI h (by omega), nm_e ?_⟩⟩⟩⟩
  refine zx_rbk h6 hc hr hv (fun r hnd => ⟨vp_in_nI h (by omega), nm_e ?_⟩)
  have hr2 : ∀ j, j < c → zq_ex c r rk j ≤ 2 := fun j hj => by rw [zq_ex_n hj]; exact (hr j hj).2
  have r2 : r ≤ 2 := by
    have w := zq_nd_2 hnd hr2
    rw [zq_ex_s] at w
    exact w
  have tail : ∀ dt', dt' = (if k = 1 then zq_fo (fun _ e => nI (e + 1)) (c * 36) dt 36 else dt) → wX_addNode_89 post (nI c) (nI D) (nI (D * D * D)) (nI c) st cp (upd K c k) (upd X c x) (upd Y c y) (upd Z c z) (upd rs c (nI r)) dt' sz tr bd el := by
    intro dt' ed
    unfold wX_addNode_89
    refine nm_r (nI_1 c) ?_
    unfold wpX_shapeUnderAll
    dsimp only
    refine ⟨D * D * D + 1, ?_⟩
    refine zx_sua (rk := rk) (rk' := zq_ex c r rk) h2 h6 rfl h hn hnd (fun j hj => zq_ex_n hj) (fun j hj => ?_) (fun sz' tr' h' => ?_) (D * D * D) 0 (D * D * D + 1) sz tr (by omega) (by omega) (fun n hn0 => absurd hn0 (by omega)) (fun n _ hnN => ht n hnN)
    · by_cases hjc : j = c
      · subst hjc
        rw [pk_us, zq_ex_s]
        exact ⟨rfl, r2⟩
      · rw [pk_un hjc, zq_ex_n (by omega)]
        exact hr j (by omega)
    · exact ok h hv r dt' sz' tr' hnd r2 ed h'
  refine br_c (fun hk => ?_) (fun hk => ?_)
  · exact zx_fillData h (tail _ (if_pos hk).symm)
  · exact tail _ (if_neg hk).symm
/-! the constructor -/
theorem zx_iof {post : Int32 → Prop} {D a b c : Nat} (hp : post (nI ((a * D + b) * D + c))) : wpX_instantiationOf post (nI D, ins, cnt, st, cp, K, X, Y, Z, rs, dt, sz, tr, bd, el) (nI (a + 1)) (nI (b + 1)) (nI (c + 1)) := by
  unfold wpX_instantiationOf
  dsimp only
  rw [nI_pred, nI_pred, nI_pred, pk_mul, nI_add, pk_mul, nI_add]
  exact hp
end
/-- the first m stretches of an empty table -/
def zq_e0 (D m : Nat) (sz tr : Nat → Int32) : Prop := ∀ n, n < m → tr n = -1 ∧ sz (n * 35 + 32) = nI (n / (D * D) + 1) ∧ sz (n * 35 + 33) = nI (n / D % D + 1) ∧ sz (n * 35 + 34) = nI (n % D + 1)
section
variable {mx ins cnt st cp : Int32} {K X Y Z rs dt sz tr bd el : Nat → Int32}
theorem zx_f22 {post : St2 → Prop} {J2 J12 : Int32 → (Nat → Int32) → (Nat → Int32) → (Nat → Int32) → (Nat → Int32) → (Nat → Int32) → (Nat → Int32) → (Nat → Int32) → (Nat → Int32) → (Nat → Int32) → (Nat → Int32) → Prop} {D a b : Nat} (h2 : 2 ≤ D) (h6 : D ≤ 6) (ha : a < D) (hb : b < D)
    (hJ : ∀ sz' tr', zq_e0 D ((a * D + (b + 1)) * D) sz' tr' → J12 (nI (b + 2)) K X Y Z rs dt sz' tr' bd el) :
    ∀ d c fu : Nat, ∀ sz tr : Nat → Int32, c + d = D → d < fu → zq_e0 D ((a * D + b) * D + c) sz tr → wX_fillInstantiations_22 post J2 J12 (nI (a + 1)) (nI (b + 1)) (nI D) ins cnt st cp fu (nI (c + 1)) K X Y Z rs dt sz tr bd el := by
  intro d
  induction d with
  | zero =>
    intro c fu sz tr hd hf hE
    obtain ⟨f, rfl⟩ : ∃ f, fu = f + 1 := ⟨fu - 1, by omega⟩
    have e : c = D := by omega
    subst e
    rw [wX_fillInstantiations_22]
    refine br_t (nI_lt (by omega) (by omega)) (nm_r (nI_1 (b + 1)) ?_)
    refine hJ sz tr ?_
    have e : (a * c + (b + 1)) * c = (a * c + b) * c + c := by rw [← Nat.add_assoc, Nat.add_mul, Nat.one_mul]
    rw [e]
    exact hE
  | succ d ih =>
    intro c fu sz tr hd hf hE
    obtain ⟨f, rfl⟩ : ∃ f, fu = f + 1 := ⟨fu - 1, by omega⟩
    rw [wX_fillInstantiations_22]
    refine br_f (nI_nlt (by omega) (by omega)) (zx_iof ?_)
    have en := zq_enc h2 h6 ha hb (show c < D by omega)
    have h216 := zq_216 h6
    generalize hm : (a * D + b) * D + c = m at en hE ⊢
    rw [zq_m35, zq_a32, nI_1, zq_a2, nI_clamp (by omega), nI_clamp (by omega), nI_clamp (by omega), nI_clamp (by omega)]
    refine ⟨vp_in_nI (by omega) (by omega), nm_e ⟨vp_in_nI (by omega) (by omega), nm_e ⟨vp_in_nI (by omega) (by omega), nm_e ⟨vp_in_nI (by omega) (by omega), nm_e (nm_r (nI_1 (c + 1)) ?_)⟩⟩⟩⟩
    refine ih (c + 1) f _ _ (by omega) (by omega) ?_
    rw [← Nat.add_assoc, hm]
    intro n hn
    by_cases hnm : n = m
    · subst hnm
      refine ⟨pk_us, ?_, ?_, ?_⟩
      · rw [pk_un (by omega), pk_un (by omega), pk_us, en.2.1]
      · rw [pk_un (by omega), pk_us, en.2.2.1]
      · rw [pk_us, en.2.2.2]
    · rw [pk_un hnm, pk_un (by omega), pk_un (by omega), pk_un (by omega), pk_un (by omega), pk_un (by omega), pk_un (by omega), pk_un (by omega), pk_un (by omega), pk_un (by omega)]
      exact hE n (by omega)
theorem zx_f12 {post : St2 → Prop} {J2 : Int32 → (Nat → Int32) → (Nat → Int32) → (Nat → Int32) → (Nat → Int32) → (Nat → Int32) → (Nat → Int32) → (Nat → Int32) → (Nat → Int32) → (Nat → Int32) → (Nat → Int32) → Prop} {D a : Nat} (h2 : 2 ≤ D) (h6 : D ≤ 6) (ha : a < D)
    (hJ : ∀ sz' tr', zq_e0 D (((a + 1) * D) * D) sz' tr' → J2 (nI (a + 2)) K X Y Z rs dt sz' tr' bd el) :
    ∀ d b fu : Nat, ∀ sz tr : Nat → Int32, b + d = D → d < fu → zq_e0 D ((a * D + b) * D) sz tr → wX_fillInstantiations_12 post J2 (nI (a + 1)) (nI D) ins cnt st cp fu (nI (b + 1)) K X Y Z rs dt sz tr bd el := by
  intro d
  induction d with
  | zero =>
    intro b fu sz tr hd hf hE
    obtain ⟨f, rfl⟩ : ∃ f, fu = f + 1 := ⟨fu - 1, by omega⟩
    have e : b = D := by omega
    subst e
    rw [wX_fillInstantiations_12]
    refine br_t (nI_lt (by omega) (by omega)) (nm_r (nI_1 (a + 1)) ?_)
    refine hJ sz tr ?_
    rw [Nat.add_mul, Nat.one_mul]
    exact hE
  | succ d ih =>
    intro b fu sz tr hd hf hE
    obtain ⟨f, rfl⟩ : ∃ f, fu = f + 1 := ⟨fu - 1, by omega⟩
    rw [wX_fillInstantiations_12]
    refine br_f (nI_nlt (by omega) (by omega)) ⟨D + 1, ?_⟩
    exact zx_f22 h2 h6 ha (by omega) (fun sz' tr' h' => ih (b + 1) f sz' tr' (by omega) (by omega) h') D 0 (D + 1) sz tr (by omega) (by omega) hE
theorem zx_f2 {post : St2 → Prop} {D : Nat} (h2 : 2 ≤ D) (h6 : D ≤ 6)
    (hp : ∀ sz' tr', zq_e0 D (D * D * D) sz' tr' → post (nI D, ins, cnt, st, cp, K, X, Y, Z, rs, dt, sz', tr', bd, el)) :
    ∀ d a fu : Nat, ∀ sz tr : Nat → Int32, a + d = D → d < fu → zq_e0 D ((a * D) * D) sz tr → wX_fillInstantiations_2 post (nI D) ins cnt st cp fu (nI (a + 1)) K X Y Z rs dt sz tr bd el := by
  intro d
  induction d with
  | zero =>
    intro a fu sz tr hd hf hE
    obtain ⟨f, rfl⟩ : ∃ f, fu = f + 1 := ⟨fu - 1, by omega⟩
    have e : a = D := by omega
    subst e
    rw [wX_fillInstantiations_2]
    exact br_t (nI_lt (by omega) (by omega)) (hp sz tr hE)
  | succ d ih =>
    intro a fu sz tr hd hf hE
    obtain ⟨f, rfl⟩ : ∃ f, fu = f + 1 := ⟨fu - 1, by omega⟩
    rw [wX_fillInstantiations_2]
    refine br_f (nI_nlt (by omega) (by omega)) ⟨D + 1, ?_⟩
    exact zx_f12 h2 h6 (by omega) (fun sz' tr' h' => ih (a + 1) f sz' tr' (by omega) (by omega) h') D 0 (D + 1) sz tr (by omega) (by omega) hE
theorem zx_fill {post : St2 → Prop} {D : Nat} (h2 : 2 ≤ D) (h6 : D ≤ 6) (hp : ∀ sz' tr', zq_e0 D (D * D * D) sz' tr' → post (nI D, ins, cnt, st, cp, K, X, Y, Z, rs, dt, sz', tr', bd, el)) : wpX_fillInstantiations post (nI D, ins, cnt, st, cp, K, X, Y, Z, rs, dt, sz, tr, bd, el) := by
  unfold wpX_fillInstantiations
  dsimp only
  exact ⟨D + 1, zx_f2 h2 h6 hp D 0 (D + 1) sz tr (by omega) (by omega) (fun n hn => absurd hn (by omega))⟩
end
