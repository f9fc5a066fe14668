/-! the class: what holds in all admissible instantiations -/
section
variable {mx ins cnt st cp : Int32} {K X Y Z rs dt sz tr bd el : Nat → Int32}
theorem zx_acc_l {post : Int32 → Prop} {N : Nat} (hN : N ≤ 216) (ok : zq_any (fun n => tr n = -1) N → post 1) (no : ¬ zq_any (fun n => tr n = -1) N → post 0) :
    ∀ d m fu : Nat, m + d = N → d < fu → ¬ zq_any (fun n => tr n = -1) m → wX_accepted_2 post mx (nI N) cnt st cp K X Y Z rs dt sz tr bd el fu (nI m) := by
  intro d
  induction d with
  | zero =>
    intro m fu hm hf h
    obtain ⟨f, rfl⟩ : ∃ f, fu = f + 1 := ⟨fu - 1, by omega⟩
    have e : m = N := by omega
    subst e
    rw [wX_accepted_2]
    exact br_t (Int32.le_refl _) (no h)
  | succ d ih =>
    intro m fu hm hf h
    obtain ⟨f, rfl⟩ : ∃ f, fu = f + 1 := ⟨fu - 1, by omega⟩
    rw [wX_accepted_2]
    refine br_f (nI_ge (by omega) (by omega)) ⟨vp_in_nI (by omega) (by omega), ?_⟩
    rw [nI_clamp (by omega)]
    refine br_c (fun ht => ok ⟨m, by omega, ht⟩) (fun ht => nm_r (nI_1 m) ?_)
    exact ih (m + 1) f (by omega) (by omega) (fun z => h ((zq_any_n (A := fun n => tr n = -1) ht).mpr z))
theorem zx_acc {post : Int32 → Prop} {N : Nat} (hN : N ≤ 216) (ok : zq_any (fun n => tr n = -1) N → post 1) (no : ¬ zq_any (fun n => tr n = -1) N → post 0) : wpX_accepted post (mx, nI N, cnt, st, cp, K, X, Y, Z, rs, dt, sz, tr, bd, el) := by
  unfold wpX_accepted
  dsimp only
  exact ⟨N + 1, zx_acc_l hN ok no N 0 (N + 1) (by omega) (by omega) zq_any_0⟩
theorem zx_cms_l {post : Int32 → Prop} {N pl : Nat} (hN : N ≤ 216) (hpl : pl < 35) (hz : ∀ n, n < N → tr n = -1 → ¬ sz (n * 35 + pl) = 0) (hp : ∀ r, zq_cm (fun n => tr n = -1) (fun n => sz (n * 35 + pl)) N r → post r) :
    ∀ d m fu : Nat, ∀ cm : Int32, m + d = N → d < fu → zq_same (fun n => tr n = -1) (fun n => sz (n * 35 + pl)) m → ((¬ zq_any (fun n => tr n = -1) m ∧ cm = 0) ∨ ∃ j, j < m ∧ tr j = -1 ∧ cm = sz (j * 35 + pl)) → wX_commonSize_4 post (nI pl) mx (nI N) cnt st cp K X Y Z rs dt sz tr bd el fu cm (nI m) := by
  intro d
  induction d with
  | zero =>
    intro m fu cm hm hf hs h
    obtain ⟨f, rfl⟩ : ∃ f, fu = f + 1 := ⟨fu - 1, by omega⟩
    have e : m = N := by omega
    subst e
    rw [wX_commonSize_4]
    refine br_t (Int32.le_refl _) (hp _ ?_)
    rcases h with ⟨h1, h2⟩ | ⟨j, h1, h2, h3⟩
    · exact Or.inr ⟨fun z => h1 z.1, h2⟩
    · exact Or.inl ⟨hs, j, h1, h2, h3⟩
  | succ d ih =>
    intro m fu cm hm hf hs h
    obtain ⟨f, rfl⟩ : ∃ f, fu = f + 1 := ⟨fu - 1, by omega⟩
    rw [wX_commonSize_4]
    refine br_f (nI_ge (by omega) (by omega)) ⟨vp_in_nI (by omega) (by omega), ?_⟩
    rw [nI_clamp (by omega), zq_m35, nI_add, nI_clamp (by omega)]
    refine br_c (fun ht => ⟨vp_in_nI (by omega) (by omega), nm_e ?_⟩) (fun ht => nm_r (nI_1 m) ?_)
    · refine br_c (fun h0 => nm_r (nI_1 m) ?_) (fun h0 => br_c (fun he => nm_r (nI_1 m) ?_) (fun he => hp _ ?_))
      · refine ih (m + 1) f _ (by omega) (by omega) (zq_same_1 (fun ⟨j, hj, hA⟩ => ?_)) (Or.inr ⟨m, by omega, ht, rfl⟩)
        rcases h with ⟨h1, h2⟩ | ⟨i, h1, h2, h3⟩
        · exact h1 ⟨j, hj, hA⟩
        · rw [h0] at h3
          exact hz i (by omega) h2 h3.symm
      · rcases h with ⟨h1, h2⟩ | ⟨j, h1, h2, h3⟩
        · exact absurd h2 h0
        · exact ih (m + 1) f _ (by omega) (by omega) ((zq_same_y (A := fun n => tr n = -1) (g := fun n => sz (n * 35 + pl)) h1 h2 (he.symm.trans h3)).mp hs) (Or.inr ⟨m, by omega, ht, rfl⟩)
      · rcases h with ⟨h1, h2⟩ | ⟨j, h1, h2, h3⟩
        · exact absurd h2 h0
        · exact Or.inr ⟨fun z => zq_same_f (A := fun n => tr n = -1) (g := fun n => sz (n * 35 + pl)) (i := m) (m0 := j) (by omega) (by omega) h2 ht (fun w => he (h3.trans w.symm)) z.2, rfl⟩
    · refine ih (m + 1) f _ (by omega) (by omega) ((zq_same_n (A := fun n => tr n = -1) ht).mp hs) ?_
      rcases h with ⟨h1, h2⟩ | ⟨j, h1, h2, h3⟩
      · exact Or.inl ⟨fun z => h1 ((zq_any_n (A := fun n => tr n = -1) ht).mpr z), h2⟩
      · exact Or.inr ⟨j, by omega, h2, h3⟩
theorem zx_cms {post : Int32 → Prop} {N pl : Nat} (hN : N ≤ 216) (hpl : pl < 35) (hz : ∀ n, n < N → tr n = -1 → ¬ sz (n * 35 + pl) = 0) (hp : ∀ r, zq_cm (fun n => tr n = -1) (fun n => sz (n * 35 + pl)) N r → post r) : wpX_commonSize post (mx, nI N, cnt, st, cp, K, X, Y, Z, rs, dt, sz, tr, bd, el) (nI pl) := by
  unfold wpX_commonSize
  dsimp only
  exact ⟨N + 1, zx_cms_l hN hpl hz hp N 0 (N + 1) 0 (by omega) (by omega) zq_same_0 (Or.inl ⟨zq_any_0, rfl⟩)⟩
theorem zx_aeq_l {post : Int32 → Prop} {N pl po : Nat} (hN : N ≤ 216) (hpl : pl < 35) (hpo : po < 35) (ok : zq_eqs (fun n => tr n = -1) (fun n => sz (n * 35 + pl)) (fun n => sz (n * 35 + po)) N → post 1) (no : ¬ zq_eqs (fun n => tr n = -1) (fun n => sz (n * 35 + pl)) (fun n => sz (n * 35 + po)) N → post 0) :
    ∀ d m fu : Nat, m + d = N → d < fu → zq_eqs (fun n => tr n = -1) (fun n => sz (n * 35 + pl)) (fun n => sz (n * 35 + po)) m → wX_alwaysEqual_2 post (nI pl) (nI po) mx (nI N) cnt st cp K X Y Z rs dt sz tr bd el fu (nI m) := by
  intro d
  induction d with
  | zero =>
    intro m fu hm hf h
    obtain ⟨f, rfl⟩ : ∃ f, fu = f + 1 := ⟨fu - 1, by omega⟩
    have e : m = N := by omega
    subst e
    rw [wX_alwaysEqual_2]
    exact br_t (Int32.le_refl _) (ok h)
  | succ d ih =>
    intro m fu hm hf h
    obtain ⟨f, rfl⟩ : ∃ f, fu = f + 1 := ⟨fu - 1, by omega⟩
    rw [wX_alwaysEqual_2]
    refine br_f (nI_ge (by omega) (by omega)) (nm_r (zq_m35 m) ⟨vp_in_nI (by omega) (by omega), ?_⟩)
    rw [nI_clamp (by omega), nI_add, nI_add, nI_clamp (by omega), nI_clamp (by omega)]
    refine br_c (fun ht => ⟨vp_in_nI (by omega) (by omega), vp_in_nI (by omega) (by omega), br_c (fun he => nm_r (nI_1 m) ?_) (fun he => no ?_)⟩) (fun ht => nm_r (nI_1 m) ?_)
    · exact ih (m + 1) f (by omega) (by omega) ((zq_eqs_y (A := fun n => tr n = -1) (g := fun n => sz (n * 35 + pl)) (f := fun n => sz (n * 35 + po)) he).mp h)
    · exact zq_eqs_f (A := fun n => tr n = -1) (g := fun n => sz (n * 35 + pl)) (f := fun n => sz (n * 35 + po)) (i := m) ht (by omega) he
    · exact ih (m + 1) f (by omega) (by omega) ((zq_eqs_n (A := fun n => tr n = -1) ht).mp h)
theorem zx_aeq {post : Int32 → Prop} {N pl po : Nat} (hN : N ≤ 216) (hpl : pl < 35) (hpo : po < 35) (ok : zq_eqs (fun n => tr n = -1) (fun n => sz (n * 35 + pl)) (fun n => sz (n * 35 + po)) N → post 1) (no : ¬ zq_eqs (fun n => tr n = -1) (fun n => sz (n * 35 + pl)) (fun n => sz (n * 35 + po)) N → post 0) : wpX_alwaysEqual post (mx, nI N, cnt, st, cp, K, X, Y, Z, rs, dt, sz, tr, bd, el) (nI pl) (nI po) := by
  unfold wpX_alwaysEqual
  dsimp only
  exact ⟨N + 1, zx_aeq_l hN hpl hpo ok no N 0 (N + 1) (by omega) (by omega) zq_eqs_0⟩
theorem zx_pla {post : Int32 → Prop} {i r s : Nat} (hi : i < 16) (hr : rs i = nI r) (hr2 : r ≤ 2) (hp : post (nI (i * 2 + 2 - r + s))) : wpX_placeOf post (mx, ins, cnt, st, cp, K, X, Y, Z, rs, dt, sz, tr, bd, el) (nI i) (nI s) := by
  unfold wpX_placeOf
  dsimp only
  rw [nI_clamp (by omega), hr, zq_m2, zq_a2, pk_sub (by omega), nI_add]
  exact ⟨vp_in_nI hi (by omega), hp⟩
theorem zx_dim {post : Int32 → Prop} {N c : Nat} {rk : Nat → Nat} {x y : Int32} (hN : N ≤ 216) (hc : c ≤ 16) (hr : ∀ j, j < c → rs j = nI (rk j) ∧ rk j ≤ 2)
    (hz : ∀ n i, n < N → tr n = -1 → i < c → ¬ sz (n * 35 + i * 2) = 0 ∧ ¬ sz (n * 35 + i * 2 + 1) = 0)
    (no : ¬ (∃ p s, p < c ∧ x = nI p ∧ y = nI s ∧ s < rk p) → post 0)
    (ok : ∀ p s r, p < c → x = nI p → y = nI s → s < rk p → zq_dr (fun n => tr n = -1) (fun n => sz (n * 35 + (p * 2 + 2 - rk p + s))) (fun n => sz (n * 35 + 32)) (fun n => sz (n * 35 + 33)) (fun n => sz (n * 35 + 34)) N r → post r) : wpX_dimOf post (mx, nI N, nI c, st, cp, K, X, Y, Z, rs, dt, sz, tr, bd, el) x y := by
  unfold wpX_dimOf
  dsimp only
  refine zx_hd hc hr (fun p s hp ex ey hs => br_f (by decide) ?_) (fun h => br_t rfl (no h))
  have ok1 := fun r => ok p s r hp ex ey hs
  clear ok
  have hr2 := (hr p hp).2
  have hz0 : ∀ n, n < N → tr n = -1 → ¬ sz (n * 35 + (p * 2 + 2 - rk p + s)) = 0 := by
    intro n hn ht
    have z := hz n p hn ht hp
    have e : p * 2 + 2 - rk p + s = p * 2 ∨ p * 2 + 2 - rk p + s = p * 2 + 1 := by omega
    rcases e with e | e
    · rw [e]; exact z.1
    · rw [e, ← Nat.add_assoc]; exact z.2
  refine zx_acc hN (fun ha => br_f (by decide) ?_) (fun ha => br_t rfl (ok1 0 (Or.inl ⟨ha, rfl⟩)))
  subst ex ey
  refine zx_pla (by omega) (hr p hp).1 hr2 ?_
  have hpl : p * 2 + 2 - rk p + s < 35 := by omega
  generalize p * 2 + 2 - rk p + s = pl at hpl hz0 ok1 ⊢
  refine zx_cms hN hpl hz0 (fun r hcm => ?_)
  rcases hcm with ⟨h1, m, h2, h3, h4⟩ | ⟨h1, h2⟩
  · have h0 : ¬ r = 0 := by rw [h4]; exact hz0 m h2 h3
    exact br_f h0 (ok1 r (Or.inr (Or.inl ⟨h1, m, h2, h3, h4⟩)))
  · have hns : ¬ zq_same (fun n => tr n = -1) (fun n => sz (n * 35 + pl)) N := fun z => h1 ⟨ha, z⟩
    have ok2 := fun r w => ok1 r (Or.inr (Or.inr ⟨ha, hns, w⟩))
    refine br_t h2 ⟨4, ?_⟩
    rw [wX_dimOf_43]
    refine br_f (by decide) ?_
    refine zx_aeq (po := 32) hN hpl (by omega) (fun q0 => br_f (by decide) ?_) (fun q0 => br_t rfl (nm_e ?_))
    · rw [show -((0 : Int32) + 1) = -1 from by decide]
      exact ok2 _ (Or.inl ⟨q0, rfl⟩)
    rw [wX_dimOf_43]
    refine br_f (by decide) ?_
    refine zx_aeq (po := 33) hN hpl (by omega) (fun q1 => br_f (by decide) ?_) (fun q1 => br_t rfl (nm_e ?_))
    · rw [show -((0 : Int32) + 1 + 1) = -2 from by decide]
      exact ok2 _ (Or.inr (Or.inl ⟨q0, q1, rfl⟩))
    rw [wX_dimOf_43]
    refine br_f (by decide) ?_
    refine zx_aeq (po := 34) hN hpl (by omega) (fun q2 => br_f (by decide) ?_) (fun q2 => br_t rfl (nm_e ?_))
    · rw [show -((0 : Int32) + 1 + 1 + 1) = -3 from by decide]
      exact ok2 _ (Or.inr (Or.inr (Or.inl ⟨q0, q1, q2, rfl⟩)))
    rw [wX_dimOf_43]
    exact br_t (by decide) (ok2 _ (Or.inr (Or.inr (Or.inr ⟨q0, q1, q2, rfl⟩))))
theorem zx_bin {post : Int32 → Prop} {D a b c : Nat} (h0 : bd 0 = nI (a + 1)) (h1 : bd 1 = nI (b + 1)) (h2 : bd 2 = nI (c + 1)) (hp : post (nI ((a * D + b) * D + c))) : wpX_boundInstantiation post (nI D, ins, cnt, st, cp, K, X, Y, Z, rs, dt, sz, tr, bd, el) := by
  unfold wpX_boundInstantiation
  dsimp only
  rw [h0, h1, h2]
  exact zx_iof hp
theorem zx_isy {post : Int32 → Prop} {x : Int32} (ok : ∀ j, j < 3 → x = nI j → post 1) (no : ¬ (∃ j, j < 3 ∧ x = nI j) → post 0) : wpX_isSymbol post () x := by
  unfold wpX_isSymbol
  exact zq_cke (c := 3) (by omega) ok no
theorem zx_isc {post : Int32 → Prop} {c : Nat} {x : Int32} (hc : c ≤ 16) (ok : ∀ j, j < c → x = nI j → post 1) (no : ¬ (∃ j, j < c ∧ x = nI j) → post 0) : wpX_isComputed post (mx, ins, cnt, st, nI c, K, X, Y, Z, rs, dt, sz, tr, bd, el) x := by
  unfold wpX_isComputed
  dsimp only
  exact zq_cke (by omega) ok no
end
