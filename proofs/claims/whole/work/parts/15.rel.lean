/-! the relation -/
def zq_inv (D c : Nat) (rk : Nat → Nat) (K X Y Z rs sz tr bd : Nat → Int32) : Prop :=
  2 ≤ D ∧ D ≤ 6 ∧ c ≤ 16 ∧ (∀ j, j < c → rs j = nI (rk j) ∧ rk j ≤ 2) ∧ (∀ i, i < c → zq_nd D i rk (K i) (X i) (Y i) (Z i)) ∧ (∀ n, n < D * D * D → zq_tb D c K X Y Z rk sz tr n) ∧
  (∃ b0 b1 b2, b0 < D ∧ b1 < D ∧ b2 < D ∧ bd 0 = nI (b0 + 1) ∧ bd 1 = nI (b1 + 1) ∧ bd 2 = nI (b2 + 1))
def zq_run (D c : Nat) (rk : Nat → Nat) (st cp tp : Int32) (sz bd vr vd : Nat → Int32) : Prop :=
  (st = 0 ∧ cp = 0) ∨ ∃ (t : Nat) (R C : Nat → Nat) (b0 b1 b2 : Nat), t ≤ c ∧ cp = nI t ∧ ((st = 1 ∧ t = c) ∨ (st = 2 ∧ t < c ∧ tp = nI t)) ∧
    b0 < D ∧ b1 < D ∧ b2 < D ∧ bd 0 = nI (b0 + 1) ∧ bd 1 = nI (b1 + 1) ∧ bd 2 = nI (b2 + 1) ∧
    ∀ i, i < t → zq_good D (rk i) (R i) (C i) ∧ sz (((b0 * D + b1) * D + b2) * 35 + i * 2) = nI (R i) ∧ sz (((b0 * D + b1) * D + b2) * 35 + i * 2 + 1) = nI (C i) ∧
      vr i = nI (rk i) ∧ vd (2 * i) = nI (zq_l0 (rk i) (R i) (C i)) ∧ vd (2 * i + 1) = nI (zq_l1 (rk i) (C i))
def i_Rel (_ : Nat) (u : SX) (v : SY) : Prop :=
  ∃ (D c : Nat) (rk : Nat → Nat) (st cp tp : Int32) (K X Y Z rs dt sz tr bd el rq sr sd vr vd : Nat → Int32),
    u = (nI D, nI (D * D * D), nI c, st, cp, K, X, Y, Z, rs, dt, sz, tr, bd, el) ∧ v = (nI D, nI c, st, tp, K, X, Y, Z, dt, bd, rq, sr, sd, vr, vd, el) ∧ zq_inv D c rk K X Y Z rs sz tr bd ∧ zq_run D c rk st cp tp sz bd vr vd
theorem i_up {k : Nat} {u : SX} {v : SY} (h : i_Rel k u v) : i_Rel (k + 5) u v := h
theorem zr_mk {k D c : Nat} {rk : Nat → Nat} {st cp tp : Int32} {K X Y Z rs dt sz tr bd el rq sr sd vr vd : Nat → Int32} (h : zq_inv D c rk K X Y Z rs sz tr bd) (h' : zq_run D c rk st cp tp sz bd vr vd) : i_Rel k (nI D, nI (D * D * D), nI c, st, cp, K, X, Y, Z, rs, dt, sz, tr, bd, el) (nI D, nI c, st, tp, K, X, Y, Z, dt, bd, rq, sr, sd, vr, vd, el) :=
  ⟨D, c, rk, st, cp, tp, K, X, Y, Z, rs, dt, sz, tr, bd, el, rq, sr, sd, vr, vd, rfl, rfl, h, h'⟩
theorem zr_add {D c r : Nat} {rk : Nat → Nat} {k x y z : Int32} {K X Y Z rs sz tr bd sz' tr' : Nat → Int32} (h : zq_inv D c rk K X Y Z rs sz tr bd) (hc : c < 16) (hnd : zq_nd D c (zq_ex c r rk) k x y z) (r2 : r ≤ 2)
    (ht : ∀ n, n < D * D * D → zq_tb D (c + 1) (upd K c k) (upd X c x) (upd Y c y) (upd Z c z) (zq_ex c r rk) sz' tr' n) : zq_inv D (c + 1) (zq_ex c r rk) (upd K c k) (upd X c x) (upd Y c y) (upd Z c z) (upd rs c (nI r)) sz' tr' bd := by
  obtain ⟨h2, h6, _, hr, hn, _, hb⟩ := h
  refine ⟨h2, h6, by omega, fun j hj => ?_, fun i hi => ?_, ht, hb⟩
  · by_cases e : j = c
    · subst e
      rw [pk_us, zq_ex_s]
      exact ⟨rfl, r2⟩
    · rw [pk_un e, zq_ex_n (by omega)]
      exact hr j (by omega)
  · by_cases e : i = c
    · subst e
      rw [pk_us, pk_us, pk_us, pk_us]
      exact hnd
    · rw [pk_un (f := K) e, pk_un (f := X) e, pk_un (f := Y) e, pk_un (f := Z) e]
      exact zq_nd_c (hn i (by omega)) (fun j hj => zq_ex_n (by omega))
/-- cells of an admissible instantiation are not 0 -/
theorem zr_nz {D c n i : Nat} {rk : Nat → Nat} {K X Y Z sz tr : Nat → Int32} (h6 : D ≤ 6) (h : zq_tb D c K X Y Z rk sz tr n) (hc : c ≤ 16) (ht : tr n = -1) (hi : i < c) : ¬ sz (n * 35 + i * 2) = 0 ∧ ¬ sz (n * 35 + i * 2 + 1) = 0 := by
  obtain ⟨t1, t2, t3, t, R, C, t4, t5, t6⟩ := h
  have etc : t = c := by
    rcases t6 with ⟨e, _⟩ | ⟨_, e⟩
    · exact e
    · rw [e] at ht
      exact absurd ht (zq_m1 (by have := t4.1; omega))
  subst etc
  have g := (t4.2.1 i hi).1
  unfold zq_good at g
  rw [(t5 i hi).1, (t5 i hi).2]
  exact ⟨nI_ne0 (by omega) (by omega), nI_ne0 (by omega) (by omega)⟩
/-- the symbol cells -/
theorem zr_sy {D c n j : Nat} {rk : Nat → Nat} {K X Y Z sz tr : Nat → Int32} (h : zq_tb D c K X Y Z rk sz tr n) (hj : j < 3) : sz (n * 35 + (32 + j)) = nI (zq_sv D n j) := by
  obtain ⟨t1, t2, t3, _⟩ := h
  have e : j = 0 ∨ j = 1 ∨ j = 2 := by omega
  rcases e with rfl | rfl | rfl
  · exact t1
  · exact t2
  · exact t3
theorem zr_sv {D n j : Nat} (h2 : 2 ≤ D) (h6 : D ≤ 6) (hn : n < D * D * D) : 1 ≤ zq_sv D n j ∧ zq_sv D n j ≤ 6 := by
  have hd := zq_dec h2 h6 hn
  have a1 : n / (D * D) + 1 ≤ 6 := Nat.le_trans hd.1 h6
  unfold zq_sv
  split
  · exact ⟨Nat.succ_le_succ (Nat.zero_le _), a1⟩
  · split
    · exact ⟨Nat.succ_le_succ (Nat.zero_le _), Nat.le_trans hd.2.1 h6⟩
    · exact ⟨Nat.succ_le_succ (Nat.zero_le _), Nat.le_trans hd.2.2.1 h6⟩
/-! run -/
section
variable {mx ins cnt st cp : Int32} {K X Y Z rs dt sz tr bd el : Nat → Int32} {D c n t a0 a1 a2 : Nat} {rk R C : Nat → Nat}
theorem zx_run_l {post : Int32 → SX → Prop} {x2 : Int32} (h6 : D ≤ 6) (hn216 : n < 216) (htc : t ≤ 16) (hn : ∀ i, i < t → zq_nd D i rk (K i) (X i) (Y i) (Z i)) (hr : ∀ j, j < t → rs j = nI (rk j) ∧ rk j ≤ 2)
    (hc : ∀ j, j < t → sz (n * 35 + j * 2) = nI (R j) ∧ sz (n * 35 + j * 2 + 1) = nI (C j)) (hg : ∀ j, j < t → zq_good D (rk j) (R j) (C j) ∧ zq_ru (K j) (X j) (Y j) (Z j) a0 a1 a2 rk R C = some (R j, C j))
    (h0 : x2 = 0 → wX_run_74 post x2 (nI t) 1 mx ins cnt st cp K X Y Z rs dt sz tr bd (zq_ev K X Y dt rk R C el t)) (h1 : ¬ x2 = 0 → wX_run_74 post x2 (nI t) 2 mx ins cnt st cp K X Y Z rs dt sz tr bd (zq_ev K X Y dt rk R C el t)) :
    ∀ d i fu : Nat, i + d = t → d < fu → wX_run_42 post (nI n) x2 (nI t) fu (nI i) mx ins cnt st cp K X Y Z rs dt sz tr bd (zq_ev K X Y dt rk R C el i) := by
  intro d
  induction d with
  | zero =>
    intro i fu hi hf
    obtain ⟨f, rfl⟩ : ∃ f, fu = f + 1 := ⟨fu - 1, by omega⟩
    have e : i = t := by omega
    subst e
    rw [wX_run_42]
    exact br_t (Int32.le_refl _) (br_c h0 h1)
  | succ d ih =>
    intro i fu hi hf
    obtain ⟨f, rfl⟩ : ∃ f, fu = f + 1 := ⟨fu - 1, by omega⟩
    rw [wX_run_42]
    refine br_f (nI_ge (by omega) (by omega)) ?_
    rw [zq_m35]
    refine zx_compute (R := R) (C := C) (rk := rk) (by omega) (by omega) (hn i (by omega)) (fun j hj => hr j (by omega)) (fun j hj => hc j (by omega)) (fun j hj => ?_) (hg i (by omega)).2 ?_
    · have g := (hg j (by omega)).1
      unfold zq_good at g
      omega
    · exact nm_r (nI_1 i) (ih (i + 1) f (by omega) (by omega))
end
section
variable {mx cnt st tp : Int32} {K X Y Z dt bd rq sr sd vr vd el : Nat → Int32} {D c t a0 a1 a2 : Nat} {rk R C : Nat → Nat}
theorem zy_run_l {post : Int32 → SY → Prop} (h6 : D ≤ 6) (hc : c ≤ 16) (htc : t ≤ c) (hn : ∀ i, i < t → zq_nd D i rk (K i) (X i) (Y i) (Z i)) (hA : zq_ag rk R C t sr sd)
    (hg : ∀ j, j < t → zq_good D (rk j) (R j) (C j) ∧ zq_ru (K j) (X j) (Y j) (Z j) a0 a1 a2 rk R C = some (R j, C j))
    (h1 : t = c → ∀ vr' vd', zq_ag rk R C t vr' vd' → post 1 (mx, nI c, 1, -1, K, X, Y, Z, dt, bd, rq, sr, sd, vr', vd', zq_ev K X Y dt rk R C el t)) (h2 : t < c → ∀ vr' vd', zq_ag rk R C t vr' vd' → post 0 (mx, nI c, 2, nI t, K, X, Y, Z, dt, bd, rq, sr, sd, vr', vd', zq_ev K X Y dt rk R C el t)) :
    ∀ d i fu : Nat, ∀ vr vd : Nat → Int32, i + d = t → d < fu → zq_ag rk R C i vr vd → wY_run_25 post (nI t) fu (nI i) mx (nI c) st tp K X Y Z dt bd rq sr sd vr vd (zq_ev K X Y dt rk R C el i) := by
  intro d
  induction d with
  | zero =>
    intro i fu vr vd hi hf hv
    obtain ⟨f, rfl⟩ : ∃ f, fu = f + 1 := ⟨fu - 1, by omega⟩
    have e : i = t := by omega
    subst e
    rw [wY_run_25]
    exact br_t (Int32.le_refl _) (pk_le c i (fun z => h1 (by omega) vr vd hv) (fun z => h2 z vr vd hv))
  | succ d ih =>
    intro i fu vr vd hi hf hv
    obtain ⟨f, rfl⟩ : ∃ f, fu = f + 1 := ⟨fu - 1, by omega⟩
    have ai := hA i (by omega)
    have vi : vp_in (nI i) 16 := vp_in_nI (by omega) (by omega)
    have v0 : vp_in (nI (2 * i)) 32 := vp_in_nI (by omega) (by omega)
    have v1 : vp_in (nI (2 * i + 1)) 32 := vp_in_nI (by omega) (by omega)
    rw [wY_run_25]
    refine br_f (nI_ge (by omega) (by omega)) ?_
    refine zy_eval (R := R) (C := C) (rk := rk) h6 (by omega) (hn i (by omega)) (fun j hj => (hg j (by omega)).1) (hg i (by omega)).2 (fun j hj => hA j (by omega)) ?_
    dsimp only
    rw [zq_2m, nI_1 (2 * i), nI_clamp (n := i) (by omega), nI_clamp (n := 2 * i) (by omega), nI_clamp (n := 2 * i + 1) (by omega), ai.1, ai.2.1, ai.2.2]
    refine ⟨vi, vi, nm_e ⟨v0, v0, nm_e ⟨v1, v1, nm_e (nm_r (nI_1 i) ?_)⟩⟩⟩
    refine ih (i + 1) f _ _ (by omega) (by omega) (fun j hj => ?_)
    by_cases e : j = i
    · subst e
      rw [pk_us, pk_us, pk_un (by omega), pk_us]
      exact ⟨rfl, rfl, rfl⟩
    · rw [pk_un e, pk_un (by omega), pk_un (by omega), pk_un (by omega), pk_un (by omega)]
      exact hv j (by omega)
theorem zy_rd {post : Int32 → Prop} {x : Int32} (hc : c ≤ 16) (ht : t ≤ c) (hs : (st = 1 ∧ t = c) ∨ (st = 2 ∧ t < c ∧ tp = nI t)) (ok : ∀ j, j < t → x = nI j → post 1) (no : ¬ (∃ j, j < t ∧ x = nI j) → post 0) : wpY_readable post (mx, nI c, st, tp, K, X, Y, Z, dt, bd, rq, sr, sd, vr, vd, el) x := by
  unfold wpY_readable
  dsimp only
  refine zq_ckl (by omega) (fun j hj e => ?_) (fun h => no (fun ⟨j, hj, e⟩ => h ⟨j, by omega, e⟩))
  rcases hs with ⟨rfl, rfl⟩ | ⟨rfl, hlt, rfl⟩
  · exact br_t rfl (ok j hj e)
  · subst e
    refine br_f (by decide) (br_t rfl (pk_le t j (fun z => no ?_) (fun z => ok j z rfl)))
    rintro ⟨j', hj', e'⟩
    have := (nI_eq (by omega) (by omega)).mp e'
    omega
theorem zy_rd0 {post : Int32 → Prop} {x : Int32} (hs : st = 0) (no : post 0) : wpY_readable post (mx, cnt, st, tp, K, X, Y, Z, dt, bd, rq, sr, sd, vr, vd, el) x := by
  unfold wpY_readable
  dsimp only
  subst hs
  exact br_c (fun _ => no) (fun _ => br_c (fun _ => br_f (by decide) (br_f (by decide) no)) (fun _ => no))
end
