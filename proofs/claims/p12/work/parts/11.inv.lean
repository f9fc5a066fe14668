/-! the state of the object between calls -/
def zq_inv (D c : Nat) (rk : Nat → Nat) (K X Y Z rs sz tr bd : Nat → Int32) : Prop :=
  2 ≤ D ∧ D ≤ 6 ∧ c ≤ 16 ∧ (∀ j, j < c → rs j = nI (rk j) ∧ rk j ≤ 2) ∧ (∀ i, i < c → zq_nd D i rk (K i) (X i) (Y i) (Z i)) ∧ (∀ n, n < D * D * D → zq_tb D c K X Y Z rk sz tr n) ∧
  (∃ b0 b1 b2, b0 < D ∧ b1 < D ∧ b2 < D ∧ bd 0 = nI (b0 + 1) ∧ bd 1 = nI (b1 + 1) ∧ bd 2 = nI (b2 + 1))
theorem zr_add {D c r : Nat} {rk : Nat → Nat} {k x y z : Int32} {K X Y Z rs sz tr bd sz' tr' : Nat → Int32} (h : zq_inv D c rk K X Y Z rs sz tr bd) (hc : c < 16) (hnd : zq_nd D c (zq_ex c r rk) k x y z) (r2 : r ≤ 2)
    (ht : ∀ n, n < D * D * D → zq_tb D (c + 1) (upd K c k) (upd X c x) (upd Y c y) (upd Z c z) (zq_ex c r rk) sz' tr' n) : zq_inv D (c + 1) (zq_ex c r rk) (upd K c k) (upd X c x) (upd Y c y) (upd Z c z) (upd rs c (nI r)) sz' tr' bd := by
  obtain ⟨h2, h6, _, hr, hn, _, hb⟩ := h
  refine ⟨h2, h6, by omega, fun j hj => ?_, fun i hi => ?_, ht, hb⟩
  · by_cases e : j = c
    · subst e
      rw [pk_us, zq_ex_s]
      exact ⟨rfl, r2⟩
    · rw [pk_un e, zq_ex_n (by omega)]
      exact hr j (by omega)
  · by_cases e : i = c
    · subst e
      rw [pk_us, pk_us, pk_us, pk_us]
      exact hnd
    · rw [pk_un (f := K) e, pk_un (f := X) e, pk_un (f := Y) e, pk_un (f := Z) e]
      exact zq_nd_c (hn i (by omega)) (fun j hj => zq_ex_n (by omega))
theorem zr_nz {D c n i : Nat} {rk : Nat → Nat} {K X Y Z sz tr : Nat → Int32} (h6 : D ≤ 6) (h : zq_tb D c K X Y Z rk sz tr n) (hc : c ≤ 16) (ht : tr n = -1) (hi : i < c) : ¬ sz (n * 35 + i * 2) = 0 ∧ ¬ sz (n * 35 + i * 2 + 1) = 0 := by
  obtain ⟨t1, t2, t3, t, R, C, t4, t5, t6⟩ := h
  have etc : t = c := by
    rcases t6 with ⟨e, _⟩ | ⟨_, e⟩
    · exact e
    · rw [e] at ht
      exact absurd ht (zq_m1 (by have := t4.1; omega))
  subst etc
  have g := (t4.2.1 i hi).1
  unfold zq_good at g
  rw [(t5 i hi).1, (t5 i hi).2]
  exact ⟨nI_ne0 (by omega) (by omega), nI_ne0 (by omega) (by omega)⟩
section
variable {mx ins cnt st cp : Int32} {K X Y Z rs dt sz tr bd el : Nat → Int32} {D c n t a0 a1 a2 : Nat} {rk R C : Nat → Nat}
theorem zx_run_l {post : Int32 → St2 → Prop} {x2 : Int32} (h6 : D ≤ 6) (hn216 : n < 216) (htc : t ≤ 16) (hn : ∀ i, i < t → zq_nd D i rk (K i) (X i) (Y i) (Z i)) (hr : ∀ j, j < t → rs j = nI (rk j) ∧ rk j ≤ 2)
    (hc : ∀ j, j < t → sz (n * 35 + j * 2) = nI (R j) ∧ sz (n * 35 + j * 2 + 1) = nI (C j)) (hg : ∀ j, j < t → zq_good D (rk j) (R j) (C j) ∧ zq_ru (K j) (X j) (Y j) (Z j) a0 a1 a2 rk R C = some (R j, C j))
    (h0 : x2 = 0 → wX_run_74 post x2 (nI t) 1 mx ins cnt st cp K X Y Z rs dt sz tr bd (zq_ev K X Y dt rk R C el t)) (h1 : ¬ x2 = 0 → wX_run_74 post x2 (nI t) 2 mx ins cnt st cp K X Y Z rs dt sz tr bd (zq_ev K X Y dt rk R C el t)) :
    ∀ d i fu : Nat, i + d = t → d < fu → wX_run_42 post (nI n) x2 (nI t) fu (nI i) mx ins cnt st cp K X Y Z rs dt sz tr bd (zq_ev K X Y dt rk R C el i) := by
  intro d
  induction d with
  | zero =>
    intro i fu hi hf
    obtain ⟨f, rfl⟩ : ∃ f, fu = f + 1 := ⟨fu - 1, by omega⟩
    have e : i = t := by omega
    subst e
    rw [wX_run_42]
    exact br_t (Int32.le_refl _) (br_c h0 h1)
  | succ d ih =>
    intro i fu hi hf
    obtain ⟨f, rfl⟩ : ∃ f, fu = f + 1 := ⟨fu - 1, by omega⟩
    rw [wX_run_42]
    refine br_f (nI_ge (by omega) (by omega)) ?_
    rw [zq_m35]
    refine zx_compute (R := R) (C := C) (rk := rk) (by omega) (by omega) (hn i (by omega)) (fun j hj => hr j (by omega)) (fun j hj => hc j (by omega)) (fun j hj => ?_) (hg i (by omega)).2 ?_
    · have g := (hg j (by omega)).1
      unfold zq_good at g
      omega
    · exact nm_r (nI_1 i) (ih (i + 1) f (by omega) (by omega))
/-- run: how far it goes under the bound values, and what it leaves -/
theorem zx_run {post : Int32 → St2 → Prop} {b0 b1 b2 : Nat} (hI : zq_inv D c rk K X Y Z rs sz tr bd) (hb0 : b0 < D) (hb1 : b1 < D) (hb2 : b2 < D) (e0 : bd 0 = nI (b0 + 1)) (e1 : bd 1 = nI (b1 + 1)) (e2 : bd 2 = nI (b2 + 1))
    (ok : ∀ (R C : Nat → Nat) el', tr ((b0 * D + b1) * D + b2) = -1 → (∀ i, i < c → zq_good D (rk i) (R i) (C i) ∧ sz (((b0 * D + b1) * D + b2) * 35 + i * 2) = nI (R i) ∧ sz (((b0 * D + b1) * D + b2) * 35 + i * 2 + 1) = nI (C i)) → post 1 (nI D, nI (D * D * D), nI c, 1, nI c, K, X, Y, Z, rs, dt, sz, tr, bd, el'))
    (no : ∀ (t : Nat) (R C : Nat → Nat) el', ¬ tr ((b0 * D + b1) * D + b2) = -1 → t < c → (∀ i, i < t → zq_good D (rk i) (R i) (C i) ∧ sz (((b0 * D + b1) * D + b2) * 35 + i * 2) = nI (R i) ∧ sz (((b0 * D + b1) * D + b2) * 35 + i * 2 + 1) = nI (C i)) → post 0 (nI D, nI (D * D * D), nI c, 2, nI t, K, X, Y, Z, rs, dt, sz, tr, bd, el')) :
    wpX_run post (nI D, nI (D * D * D), nI c, st, cp, K, X, Y, Z, rs, dt, sz, tr, bd, el) := by
  obtain ⟨h2, h6, hc, hr, hn, ht, _⟩ := hI
  have h216 := zq_216 h6
  have en := zq_enc h2 h6 hb0 hb1 hb2
  obtain ⟨t1, t2, t3, t, R, C, t4, t5, t6⟩ := ht _ en.1
  rw [en.2.1, en.2.2.1, en.2.2.2] at t4
  have htc := t4.1
  have cells : ∀ i, i < t → zq_good D (rk i) (R i) (C i) ∧ sz (((b0 * D + b1) * D + b2) * 35 + i * 2) = nI (R i) ∧ sz (((b0 * D + b1) * D + b2) * 35 + i * 2 + 1) = nI (C i) := fun i hi => ⟨(t4.2.1 i hi).1, t5 i hi⟩
  unfold wpX_run
  dsimp only
  refine zx_bin e0 e1 e2 ?_
  rw [nI_clamp (by omega)]
  refine ⟨vp_in_nI (by omega) (by omega), ?_⟩
  rcases t6 with ⟨etc, et⟩ | ⟨hlt, et⟩
  · refine br_t et ?_
    unfold wX_run_20
    refine br_t rfl ⟨t + 1, ?_⟩
    rw [← etc]
    refine zx_run_l (n := (b0 * D + b1) * D + b2) (D := D) h6 (by omega) (by omega) (fun i hi => hn i (by omega)) (fun j hj => hr j (by omega)) t5 t4.2.1 (fun _ => ?_) (fun z => absurd rfl z) t 0 (t + 1) (by omega) (by omega)
    unfold wX_run_74
    rw [etc]
    refine br_t rfl ?_
    exact ok R C _ et (fun i hi => cells i (by omega))
  · have hne : ¬ tr ((b0 * D + b1) * D + b2) = -1 := by rw [et]; exact zq_m1 (by omega)
    refine br_f hne ?_
    unfold wX_run_20
    refine br_f (by decide) ⟨vp_in_nI (by omega) (by omega), ?_⟩
    rw [nI_clamp (by omega)]
    refine nm_r et ⟨t + 1, ?_⟩
    refine zx_run_l (n := (b0 * D + b1) * D + b2) (D := D) h6 (by omega) (by omega) (fun i hi => hn i (by omega)) (fun j hj => hr j (by omega)) t5 t4.2.1 (fun z => absurd z (by decide)) (fun _ => ?_) t 0 (t + 1) (by omega) (by omega)
    unfold wX_run_74
    exact br_f (by decide) (no t R C _ hne hlt cells)
theorem zx_vd {post : Int32 → Prop} {b0 b1 b2 j s : Nat} (h2 : 2 ≤ D) (h6 : D ≤ 6) (hc : c ≤ 16) (htc : t ≤ c) (hr : ∀ j, j < c → rs j = nI (rk j) ∧ rk j ≤ 2) (hb0 : b0 < D) (hb1 : b1 < D) (hb2 : b2 < D) (e0 : bd 0 = nI (b0 + 1)) (e1 : bd 1 = nI (b1 + 1)) (e2 : bd 2 = nI (b2 + 1))
    (hj : j < t) (hs : s < rk j) (hp : post (sz (((b0 * D + b1) * D + b2) * 35 + (j * 2 + 2 - rk j + s)))) : wpX_valueDim post (nI D, ins, nI c, st, nI t, K, X, Y, Z, rs, dt, sz, tr, bd, el) (nI j) (nI s) := by
  have h216 := zq_216 h6
  have en := zq_enc h2 h6 hb0 hb1 hb2
  have rj := (hr j (by omega)).2
  unfold wpX_valueDim
  dsimp only
  refine zx_isc (by omega) (fun _ _ _ => br_f (by decide) ?_) (fun h => absurd ⟨j, hj, rfl⟩ h)
  refine zx_hd hc hr (fun _ _ _ _ _ _ => br_f (by decide) ?_) (fun h => absurd ⟨j, s, by omega, rfl, rfl, hs⟩ h)
  refine zx_bin e0 e1 e2 (nm_r (zq_m35 _) (zx_pla (by omega) (hr j (by omega)).1 rj ?_))
  rw [nI_add, nI_clamp (by omega)]
  exact ⟨vp_in_nI (by omega) (by omega), hp⟩
theorem zx_vd0 {post : Int32 → Prop} {x y : Int32} (htc : t ≤ 16) (h : ¬ (∃ j, j < t ∧ x = nI j)) (hp : post 0) : wpX_valueDim post (mx, ins, cnt, st, nI t, K, X, Y, Z, rs, dt, sz, tr, bd, el) x y := by
  unfold wpX_valueDim
  dsimp only
  exact zx_isc htc (fun j hj e => absurd ⟨j, hj, e⟩ h) (fun _ => br_t rfl hp)
theorem zx_rkO {post : Int32 → Prop} {j : Nat} (hc : c ≤ 16) (hj : j < c) (hp : post (rs j)) : wpX_rankOf post (mx, ins, nI c, st, cp, K, X, Y, Z, rs, dt, sz, tr, bd, el) (nI j) := by
  unfold wpX_rankOf
  dsimp only
  refine zx_isn hc (fun _ _ _ => br_f (by decide) ⟨vp_in_nI (by omega) (by omega), ?_⟩) (fun h => absurd ⟨j, hj, rfl⟩ h)
  rw [nI_clamp (by omega)]
  exact hp
theorem zx_bva {post : Int32 → Prop} {j : Nat} (hj : j < 3) (hp : post (bd j)) : wpX_boundValue post (mx, ins, cnt, st, cp, K, X, Y, Z, rs, dt, sz, tr, bd, el) (nI j) := by
  unfold wpX_boundValue
  dsimp only
  refine zx_isy (fun _ _ _ => br_f (by decide) ⟨vp_in_nI hj (by omega), ?_⟩) (fun h => absurd ⟨j, hj, rfl⟩ h)
  rw [nI_clamp (by omega)]
  exact hp
theorem zx_adm {post : Int32 → Prop} {a b d : Nat} (h2 : 2 ≤ D) (h6 : D ≤ 6) (ha : a < D) (hb : b < D) (hd : d < D) (ok : tr ((a * D + b) * D + d) = -1 → post 1) (no : ¬ tr ((a * D + b) * D + d) = -1 → post 0) : wpX_admissible post (nI D, ins, cnt, st, cp, K, X, Y, Z, rs, dt, sz, tr, bd, el) (nI (a + 1)) (nI (b + 1)) (nI (d + 1)) := by
  have h216 := zq_216 h6
  have en := zq_enc h2 h6 ha hb hd
  unfold wpX_admissible
  dsimp only
  refine zx_isz h6 (fun _ _ _ => br_f (by decide) (zx_isz h6 (fun _ _ _ => br_f (by decide) (zx_isz h6 (fun _ _ _ => br_f (by decide) ?_) (fun h => absurd ⟨d, hd, rfl⟩ h))) (fun h => absurd ⟨b, hb, rfl⟩ h))) (fun h => absurd ⟨a, ha, rfl⟩ h)
  refine zx_iof ?_
  rw [nI_clamp (by omega)]
  exact ⟨vp_in_nI (by omega) (by omega), br_c ok no⟩
theorem zx_bnd {post : Int32 → St2 → Prop} {j d : Nat} (hj : j < 3) (h6 : D ≤ 6) (hd : d < D) (hp : post 1 (nI D, ins, cnt, 0, 0, K, X, Y, Z, rs, dt, sz, tr, upd bd j (nI (d + 1)), el)) : wpX_bind post (nI D, ins, cnt, st, cp, K, X, Y, Z, rs, dt, sz, tr, bd, el) (nI j) (nI (d + 1)) := by
  unfold wpX_bind
  dsimp only
  refine zx_isy (fun _ _ _ => br_f (by decide) (zx_isz h6 (fun _ _ _ => br_f (by decide) ?_) (fun h => absurd ⟨d, hd, rfl⟩ h))) (fun h => absurd ⟨j, hj, rfl⟩ h)
  rw [nI_clamp (by omega)]
  refine ⟨vp_in_nI hj (by omega), nm_e ?_⟩
  unfold wpX_forgetRun
  exact hp
theorem zx_init {post : St2 → Prop} (h2 : 2 ≤ D) (h6 : D ≤ 6) (hp : ∀ sz' tr', zq_e0 D (D * D * D) sz' tr' →
    post (nI D, nI (D * D * D), 0, 0, 0, (fun _ => 0), (fun _ => 0), (fun _ => 0), (fun _ => 0), (fun _ => 0), (fun _ => 0), sz', tr', upd (upd (upd (fun _ => 0) 0 1) 1 1) 2 1, (fun _ => 0))) : wpX_init post 10 9011 (0, 0, 0, 0, 0) (nI D) := by
  unfold wpX_init
  dsimp only
  refine ⟨by omega, by omega, by omega, by omega, by omega, by omega, by omega, by omega, by omega, by omega, by omega, by omega, by omega, by omega, by omega, by omega, by omega, by omega, by omega, by omega, ?_⟩
  unfold wpX_clampSize
  refine br_t (nI_le (a := 2) h2 (by omega)) (br_t (nI_le (b := 6) h6 (by omega)) ?_)
  intro f ef
  rw [pk_mul, pk_mul] at ef
  subst ef
  refine zx_fill h2 h6 (fun sz' tr' hE => ⟨4, ?_⟩)
  refine br_f (by decide) ⟨vp_in_nI (n := 0) (by omega) (by omega), nm_e (nm_e ?_)⟩
  refine br_f (by decide) ⟨vp_in_nI (n := 1) (by omega) (by omega), nm_e (nm_e ?_)⟩
  refine br_f (by decide) ⟨vp_in_nI (n := 2) (by omega) (by omega), nm_e (nm_e ?_)⟩
  refine br_t (by decide) ?_
  exact hp sz' tr' hE
end
