/-! the reference: shapes -/
def zq_ag (rk R C : Nat → Nat) (t : Nat) (sr sd : Nat → Int32) : Prop := ∀ i, i < t → sr i = nI (rk i) ∧ sd (2 * i) = nI (zq_l0 (rk i) (R i) (C i)) ∧ sd (2 * i + 1) = nI (zq_l1 (rk i) (C i))
section
variable {mx cnt st tp : Int32} {K X Y Z dt bd rq sr sd vr vd el : Nat → Int32}
theorem zy_cv {post : Int32 → Prop} {D a b c : Nat} {x : Int32} (h6 : D ≤ 6) (hc : zq_code D x) (hp : post (nI (zq_cv x a b c))) : wpY_codeVal post (mx, cnt, st, tp, K, X, Y, Z, dt, bd, rq, sr, sd, vr, vd, el) x (nI a) (nI b) (nI c) := by
  unfold wpY_codeVal
  dsimp only
  rcases hc with ⟨d, h1, h2, rfl⟩ | rfl | rfl | rfl
  · rw [zq_cv_d h1 (by omega)] at hp
    exact br_f (nI_nle h1 (by omega)) hp
  · rw [zq_cv_1] at hp
    exact br_t (by decide) (br_t rfl hp)
  · rw [zq_cv_2] at hp
    exact br_t (by decide) (br_f (by decide) (br_t rfl hp))
  · rw [zq_cv_3] at hp
    exact br_t (by decide) (br_f (by decide) (br_f (by decide) hp))
theorem zy_spec {post : SY → Prop} {D i a b c : Nat} {p q : Int32} (h6 : D ≤ 6) (hi : i < 16) (hs : zq_spec D p q)
    (hp : ∀ sr' sd', (∀ j, j ≠ i → sr' j = sr j) → (∀ j, j ≠ 2 * i → j ≠ 2 * i + 1 → sd' j = sd j) → sr' i = nI (zq_sr p q) → sd' (2 * i) = nI (zq_l0 (zq_sr p q) (zq_sp p q a b c).1 (zq_sp p q a b c).2) → sd' (2 * i + 1) = nI (zq_l1 (zq_sr p q) (zq_sp p q a b c).2) → post (mx, cnt, st, tp, K, X, Y, Z, dt, bd, rq, sr', sd', vr, vd, el)) :
    wpY_setSpec post (mx, cnt, st, tp, K, X, Y, Z, dt, bd, rq, sr, sd, vr, vd, el) (nI i) p q (nI a) (nI b) (nI c) := by
  have v0 : vp_in (nI (2 * i)) 32 := vp_in_nI (by omega) (by omega)
  have v1 : vp_in (nI (2 * i + 1)) 32 := vp_in_nI (by omega) (by omega)
  have vi : vp_in (nI i) 16 := vp_in_nI (by omega) (by omega)
  unfold wpY_setSpec
  dsimp only
  rw [zq_2m, nI_1, nI_clamp (n := i) (by omega), nI_clamp (n := 2 * i) (by omega), nI_clamp (n := 2 * i + 1) (by omega)]
  refine ⟨v0, nm_e ⟨v1, nm_e ?_⟩⟩
  unfold zq_sr zq_sp at hp
  rcases hs with ⟨rfl, rfl⟩ | ⟨h, rfl⟩ | ⟨h, h'⟩
  · refine br_t rfl ⟨vi, nm_e (hp _ _ (fun j hj => pk_un hj) (fun j h1 h2 => by rw [pk_un h2, pk_un h1]) ?_ ?_ ?_)⟩
    · rw [if_pos rfl, pk_us]; rfl
    · rw [if_pos rfl, if_pos rfl, if_pos rfl, pk_un (by omega), pk_us]; rfl
    · rw [if_pos rfl, if_pos rfl, if_pos rfl, pk_us]; rfl
  · have hne := zq_code_ne h6 h
    refine br_f hne (zy_cv h6 h ⟨v0, nm_e (br_t rfl ⟨vi, nm_e (hp _ _ (fun j hj => pk_un hj) (fun j h1 h2 => by rw [pk_un h1, pk_un h2, pk_un h1]) ?_ ?_ ?_)⟩)⟩)
    · rw [if_neg hne, if_pos rfl, pk_us]; rfl
    · simp only [if_neg hne, if_pos, pk_us]
      rfl
    · simp only [if_neg hne, if_pos]
      rw [pk_un (by omega), pk_us]
      rfl
  · have hne := zq_code_ne h6 h
    have hne' := zq_code_ne h6 h'
    refine br_f hne (zy_cv h6 h ⟨v0, nm_e (br_f hne' (zy_cv h6 h' ⟨v1, nm_e ⟨vi, nm_e (hp _ _ (fun j hj => pk_un hj) (fun j h1 h2 => by rw [pk_un h2, pk_un h1, pk_un h2, pk_un h1]) ?_ ?_ ?_)⟩⟩))⟩)
    · rw [if_neg hne, if_neg hne', pk_us]; rfl
    · simp only [if_neg hne, if_neg hne']
      rw [pk_un (by omega), pk_us]
      rfl
    · simp only [if_neg hne, if_neg hne', pk_us]
      rfl
theorem zy_prod {post : Int32 → Prop} {D x r R C : Nat} (hx : x < 16) (hg : zq_good D r R C) (e : sr x = nI r) (e0 : sd (2 * x) = nI (zq_l0 r R C)) (e1 : sd (2 * x + 1) = nI (zq_l1 r C)) (hp : post (nI (R * C))) : wpY_prod post (mx, cnt, st, tp, K, X, Y, Z, dt, bd, rq, sr, sd, vr, vd, el) (nI x) := by
  have v0 : vp_in (nI (2 * x)) 32 := vp_in_nI (by omega) (by omega)
  have v1 : vp_in (nI (2 * x + 1)) 32 := vp_in_nI (by omega) (by omega)
  have vi : vp_in (nI x) 16 := vp_in_nI (by omega) (by omega)
  unfold zq_good at hg
  unfold wpY_prod
  dsimp only
  rw [zq_2m, nI_1, nI_clamp (n := x) (by omega), nI_clamp (n := 2 * x) (by omega), nI_clamp (n := 2 * x + 1) (by omega), e, e0, e1]
  unfold zq_l0 zq_l1
  refine ⟨vi, pk_eq r 0 (fun z => ?_) (fun z => ⟨vi, pk_eq r 1 (fun z1 => ⟨v0, ?_⟩) (fun z1 => ⟨v0, v1, ?_⟩)⟩)⟩
  · have eR : R = 1 := by omega
    have eC : C = 1 := by omega
    subst eR eC
    exact hp
  · have eR : R = 1 := by omega
    subst eR
    rw [if_neg (by omega)]
    rw [Nat.one_mul] at hp
    exact hp
  · rw [if_pos (by omega), if_pos (by omega), pk_mul]
    exact hp
theorem zy_dimR0 {post : Int32 → Prop} {D x r R C : Nat} (hx : x < 16) (hg : zq_good D r R C) (e : sr x = nI r) (e0 : sd (2 * x) = nI (zq_l0 r R C)) (e1 : sd (2 * x + 1) = nI (zq_l1 r C)) (hp : post (nI C)) : wpY_dimR post (mx, cnt, st, tp, K, X, Y, Z, dt, bd, rq, sr, sd, vr, vd, el) (nI x) 0 := by
  have v0 : vp_in (nI (2 * x)) 32 := vp_in_nI (by omega) (by omega)
  have v1 : vp_in (nI (2 * x + 1)) 32 := vp_in_nI (by omega) (by omega)
  have vi : vp_in (nI x) 16 := vp_in_nI (by omega) (by omega)
  unfold zq_good at hg
  unfold wpY_dimR
  dsimp only
  rw [zq_2m, nI_1, nI_clamp (n := x) (by omega), nI_clamp (n := 2 * x) (by omega), nI_clamp (n := 2 * x + 1) (by omega), e, e0, e1]
  unfold zq_l0 zq_l1
  refine ⟨vi, pk_lt 0 r (fun z => ⟨vi, pk_eq r 2 (fun z1 => br_t rfl ⟨v1, ?_⟩) (fun z1 => ⟨v0, ?_⟩)⟩) (fun z => ?_)⟩
  · rw [if_pos z1]
    exact hp
  · rw [if_neg z1]
    exact hp
  · have eC : C = 1 := by omega
    subst eC
    exact hp
theorem zy_dimR1 {post : Int32 → Prop} {D x r R C : Nat} (hx : x < 16) (hg : zq_good D r R C) (e : sr x = nI r) (e0 : sd (2 * x) = nI (zq_l0 r R C)) (e1 : sd (2 * x + 1) = nI (zq_l1 r C)) (hp : post (nI R)) : wpY_dimR post (mx, cnt, st, tp, K, X, Y, Z, dt, bd, rq, sr, sd, vr, vd, el) (nI x) 1 := by
  have v0 : vp_in (nI (2 * x)) 32 := vp_in_nI (by omega) (by omega)
  have v1 : vp_in (nI (2 * x + 1)) 32 := vp_in_nI (by omega) (by omega)
  have vi : vp_in (nI x) 16 := vp_in_nI (by omega) (by omega)
  unfold zq_good at hg
  unfold wpY_dimR
  dsimp only
  rw [zq_2m, nI_1, nI_clamp (n := x) (by omega), nI_clamp (n := 2 * x) (by omega), nI_clamp (n := 2 * x + 1) (by omega), e, e0, e1]
  unfold zq_l0 zq_l1
  refine ⟨vi, pk_lt 1 r (fun z => ⟨vi, pk_eq r 2 (fun z1 => br_f (by decide) ⟨v0, ?_⟩) (fun z1 => absurd z1 (by omega))⟩) (fun z => ?_)⟩
  · rw [if_pos z1]
    exact hp
  · have eR : R = 1 := by omega
    subst eR
    exact hp
/-- one turn of the broadcast loop's choice -/
theorem zy_bw {A T : Prop} {W : Int32 → Prop} {u v : Nat} (hu : u < 100) (hv : v < 100) (hA : (u = v ∨ u = 1 ∨ v = 1) → W (nI (if u = 1 then v else u))) (hT : ¬ (u = v ∨ u = 1 ∨ v = 1) → T) :
    (nI u = nI v → W (nI u)) ∧ (¬ nI u = nI v → ((nI u = 1 → W (nI v)) ∧ (¬ nI u = 1 → ((nI v = 1 → W (nI u)) ∧ (¬ nI v = 1 → T))))) := by
  refine pk_eq u v (fun e => ?_) (fun n1 => pk_eq u 1 (fun e => ?_) (fun n2 => pk_eq v 1 (fun e => ?_) (fun n3 => hT (by omega))))
  · have h := hA (Or.inl e)
    have e' : (if u = 1 then v else u) = u := by split <;> omega
    rw [e'] at h
    exact h
  · have h := hA (Or.inr (Or.inl e))
    rw [if_pos e] at h
    exact h
  · have h := hA (Or.inr (Or.inr e))
    rw [if_neg n2] at h
    exact h
theorem zy_body {post : Int32 → SY → Prop} {D c i f a0 a1 a2 : Nat} {rk R C : Nat → Nat} (h6 : D ≤ 6) (hc : c ≤ 16) (hi : i < c) (hn : zq_nd D i rk (K i) (X i) (Y i) (Z i)) (hr : ∀ j, j ≤ i → rk j ≤ 2)
    (hg : ∀ j, j < i → zq_good D (rk j) (R j) (C j)) (hsg : ∀ p q, zq_spec D p q → zq_good D (zq_sr p q) (zq_sp p q a0 a1 a2).1 (zq_sp p q a0 a1 a2).2) (hA : zq_ag rk R C i sr sd)
    (go : ∀ r s sr' sd', zq_ru (K i) (X i) (Y i) (Z i) a0 a1 a2 rk R C = some (r, s) → (∀ j, j ≠ i → sr' j = sr j) → (∀ j, j ≠ 2 * i → j ≠ 2 * i + 1 → sd' j = sd j) → sr' i = nI (rk i) → sd' (2 * i) = nI (zq_l0 (rk i) r s) → sd' (2 * i + 1) = nI (zq_l1 (rk i) s) →
      wY_shapes_3 post (nI a0) (nI a1) (nI a2) f (nI (i + 1)) mx (nI c) st tp K X Y Z dt bd rq sr' sd' vr vd el)
    (stop : ∀ sr' sd', zq_ru (K i) (X i) (Y i) (Z i) a0 a1 a2 rk R C = none → (∀ j, j ≠ i → sr' j = sr j) → (∀ j, j ≠ 2 * i → j ≠ 2 * i + 1 → sd' j = sd j) → post (nI i) (mx, nI c, st, tp, K, X, Y, Z, dt, bd, rq, sr', sd', vr, vd, el)) :
    wY_shapes_3 post (nI a0) (nI a1) (nI a2) (f + 1) (nI i) mx (nI c) st tp K X Y Z dt bd rq sr sd vr vd el := by
  have v0 : vp_in (nI (2 * i)) 32 := vp_in_nI (by omega) (by omega)
  have v1 : vp_in (nI (2 * i + 1)) 32 := vp_in_nI (by omega) (by omega)
  have vi : vp_in (nI i) 16 := vp_in_nI (by omega) (by omega)
  rw [wY_shapes_3]
  dsimp only
  rw [zq_2m i, nI_1 (2 * i), nI_clamp (n := i) (by omega), nI_clamp (n := 2 * i) (by omega), nI_clamp (n := 2 * i + 1) (by omega)]
  refine br_f (nI_ge hi (by omega)) ⟨vi, ?_⟩
  have fr0 : ∀ j, j ≠ 2 * i → j ≠ 2 * i + 1 → upd (upd sd (2 * i) 1) (2 * i + 1) 1 j = sd j := fun j h1 h2 => by rw [pk_un h2, pk_un h1]
  have s0 : upd (upd sd (2 * i) 1) (2 * i + 1) 1 (2 * i) = 1 := by rw [pk_un (by omega), pk_us]
  have s1 : upd (upd sd (2 * i) 1) (2 * i + 1) 1 (2 * i + 1) = 1 := pk_us
  generalize hsd1 : upd (upd sd (2 * i) 1) (2 * i + 1) 1 = sd1 at fr0 s0 s1
  have hA1 : zq_ag rk R C i sr sd1 := by
    intro j hj
    rw [fr0 _ (by omega) (by omega), fr0 _ (by omega) (by omega)]
    exact hA j hj
  have ri := hr i (by omega)
  rcases hn with ⟨ek, h2, h3⟩ | ⟨p, q, hp, hq, ex, ey, ek, h4⟩ | ⟨p, q, hp, hq, ex, ey, ek, h4, h5, h7⟩ | ⟨p, hp, ex, ek, h3⟩ | ⟨p, hp, ex, ek, h3, h4⟩ | ⟨p, s, hp, ex, ek, h3, h4, h5⟩
  · refine nm_r ek ⟨vi, nm_e ⟨vi, nm_e ⟨v0, nm_e ⟨v1, nm_r hsd1 (br_t rfl ?_)⟩⟩⟩⟩
    refine zy_spec (a := a0) (b := a1) (c := a2) h6 (by omega) h2 (fun sr' sd' f1 f2 q1 q2 q3 => nm_r (nI_1 i) ?_)
    refine go _ _ sr' sd' (by rw [ek]; exact zq_ru1) f1 (fun j j1 j2 => (f2 j j1 j2).trans (fr0 j j1 j2)) (by rw [h3]; exact q1) (by rw [h3]; exact q2) (by rw [h3]; exact q3)
  · have gp := hg p hp
    have gq := hg q hq
    have gp' := gp
    have gq' := gq
    unfold zq_good at gp' gq'
    have ap := hA1 p hp
    have aq := hA1 q hq
    rw [ex, ey, zq_ru2 (by omega) (by omega) ek] at go stop
    have m140 : ∀ x8, x8 = nI (rk i) → ∃ n140 : Nat, wY_shapes_140 post (wY_shapes_3 post (nI a0) (nI a1) (nI a2) f) (nI a0) (nI a1) (nI a2) (nI i) (nI p) (nI q) x8 mx (nI c) st tp K X Y Z dt bd rq sr sd1 vr vd el n140 1 1 0 := by
      intro x8 e8
      subst e8
      refine ⟨3, ?_⟩
      rw [wY_shapes_140]
      refine br_f (by decide) (zy_dimR0 (by omega) gp ap.1 ap.2.1 ap.2.2 (zy_dimR0 (by omega) gq aq.1 aq.2.1 aq.2.2 ?_))
      refine zy_bw (A := True) (W := fun w => wY_shapes_209 post (wY_shapes_3 post (nI a0) (nI a1) (nI a2) f) (wY_shapes_140 post (wY_shapes_3 post (nI a0) (nI a1) (nI a2) f) (nI a0) (nI a1) (nI a2) (nI i) (nI p) (nI q) (nI (rk i)) mx (nI c) st tp K X Y Z dt bd rq sr sd1 vr vd el 2) (nI a0) (nI a1) (nI a2) (nI i) (nI p) (nI q) (nI (rk i)) 1 1 0 w mx (nI c) st tp K X Y Z dt bd rq sr sd1 vr vd el) (by omega) (by omega) (fun hC => ?_) (fun hC => stop sr sd1 (if_neg (fun w => hC w.2)) (fun _ _ => rfl) fr0)
      unfold wY_shapes_209
      refine br_t rfl (nm_e ?_)
      rw [wY_shapes_140]
      refine br_f (by decide) (zy_dimR1 (by omega) gp ap.1 ap.2.1 ap.2.2 (zy_dimR1 (by omega) gq aq.1 aq.2.1 aq.2.2 ?_))
      refine zy_bw (A := True) (W := fun w => wY_shapes_209 post (wY_shapes_3 post (nI a0) (nI a1) (nI a2) f) (wY_shapes_140 post (wY_shapes_3 post (nI a0) (nI a1) (nI a2) f) (nI a0) (nI a1) (nI a2) (nI i) (nI p) (nI q) (nI (rk i)) mx (nI c) st tp K X Y Z dt bd rq sr sd1 vr vd el 1) (nI a0) (nI a1) (nI a2) (nI i) (nI p) (nI q) (nI (rk i)) (nI (if C p = 1 then C q else C p)) 1 (0 + 1) w mx (nI c) st tp K X Y Z dt bd rq sr sd1 vr vd el) (by omega) (by omega) (fun hR => ?_) (fun hR => stop sr sd1 (if_neg (fun w => hR w.1)) (fun _ _ => rfl) fr0)
      unfold wY_shapes_209
      refine br_f (by decide) (nm_e ?_)
      rw [wY_shapes_140]
      refine br_t (by decide) ⟨vi, nm_e ?_⟩
      rw [zq_2m i, nI_1 (2 * i), nI_clamp (n := i) (by omega), nI_clamp (n := 2 * i) (by omega), nI_clamp (n := 2 * i + 1) (by omega)]
      have go := fun sr' sd' => go _ _ sr' sd' (if_pos ⟨hR, hC⟩)
      refine pk_eq (rk i) 2 (fun z => ⟨v0, nm_e ⟨v1, nm_e (nm_r (nI_1 i) ?_)⟩⟩) (fun z => pk_eq (rk i) 1 (fun z1 => ⟨v0, nm_e (nm_r (nI_1 i) ?_)⟩) (fun z1 => nm_r (nI_1 i) ?_))
      · refine go _ _ (fun j hj => pk_un hj) (fun j j1 j2 => by rw [pk_un j2, pk_un j1]; exact fr0 j j1 j2) pk_us ?_ ?_
        · rw [pk_un (by omega), pk_us]
          unfold zq_l0
          rw [if_pos z]
        · rw [pk_us]
          unfold zq_l1
          rw [if_pos z]
      · refine go _ _ (fun j hj => pk_un hj) (fun j j1 j2 => by rw [pk_un j1]; exact fr0 j j1 j2) pk_us ?_ ?_
        · rw [pk_us]
          unfold zq_l0
          rw [if_neg z]
        · rw [pk_un (by omega), s1]
          unfold zq_l1
          rw [if_neg z]
          rfl
      · refine go _ _ (fun j hj => pk_un hj) fr0 pk_us ?_ ?_
        · rw [s0]
          unfold zq_l0
          rw [if_neg z]
          have e : (if C p = 1 then C q else C p) = 1 := by split <;> omega
          rw [e]
          rfl
        · rw [s1]
          unfold zq_l1
          rw [if_neg z]
          rfl
    have main : wY_shapes_95 post (wY_shapes_3 post (nI a0) (nI a1) (nI a2) f) (nI a0) (nI a1) (nI a2) (nI i) (nI p) (nI q) mx (nI c) st tp K X Y Z dt bd rq sr sd1 vr vd el := by
      unfold wY_shapes_95
      rw [nI_clamp (n := p) (by omega), nI_clamp (n := q) (by omega), ap.1, aq.1]
      have vp : vp_in (nI p) 16 := vp_in_nI (by omega) (by omega)
      have vq : vp_in (nI q) 16 := vp_in_nI (by omega) (by omega)
      refine ⟨vp, vq, pk_le (rk p) (rk q) (fun e => ⟨vq, fun x8 e8 => m140 x8 ?_⟩) (fun e => ⟨vp, fun x8 e8 => m140 x8 ?_⟩)⟩
      · rw [e8, h4]
        congr 1
        omega
      · rw [e8, h4]
        congr 1
        omega
    rcases ek with ek | ek
    · exact nm_r ek ⟨vi, nm_r ex ⟨vi, nm_r ey ⟨v0, nm_e ⟨v1, nm_r hsd1 (br_f (by decide) (br_t rfl main))⟩⟩⟩⟩
    · exact nm_r ek ⟨vi, nm_r ex ⟨vi, nm_r ey ⟨v0, nm_e ⟨v1, nm_r hsd1 (br_f (by decide) (br_f (by decide) (br_t rfl main)))⟩⟩⟩⟩
  · have ap := hA1 p hp
    have aq := hA1 q hq
    have gp := hg p hp
    have gq := hg q hq
    unfold zq_good at gp gq
    rw [ek, ex, ey, zq_ru4 (by omega) (by omega)] at go stop
    rw [h4] at ap
    rw [h5] at aq
    have l0 : ∀ R C, zq_l0 2 R C = R := fun R C => if_pos rfl
    have l1 : ∀ C, zq_l1 2 C = C := fun C => if_pos rfl
    rw [l0, l1] at ap aq
    have w0 : vp_in (nI (2 * p)) 32 := vp_in_nI (by omega) (by omega)
    have w1 : vp_in (nI (2 * p + 1)) 32 := vp_in_nI (by omega) (by omega)
    have x0 : vp_in (nI (2 * q)) 32 := vp_in_nI (by omega) (by omega)
    have x1 : vp_in (nI (2 * q + 1)) 32 := vp_in_nI (by omega) (by omega)
    refine nm_r ek ⟨vi, nm_r ex ⟨vi, nm_r ey ⟨v0, nm_e ⟨v1, nm_r hsd1 (br_f (by decide) (br_f (by decide) (br_f (by decide) (br_t rfl ?_))))⟩⟩⟩⟩
    rw [zq_2m p, zq_2m q, nI_1 (2 * p), nI_1 (2 * q), nI_clamp (n := 2 * p) (by omega), nI_clamp (n := 2 * p + 1) (by omega), nI_clamp (n := 2 * q) (by omega), nI_clamp (n := 2 * q + 1) (by omega), ap.2.1, ap.2.2, aq.2.1]
    refine ⟨w1, x0, pk_eq (C p) (R q) (fun z => ⟨vi, nm_e ⟨w0, v0, nm_e ⟨x1, v1, nm_e (nm_r (nI_1 i) ?_)⟩⟩⟩) (fun z => stop sr sd1 (if_neg z) (fun _ _ => rfl) fr0)⟩
    refine go _ _ _ _ (if_pos z) (fun j hj => pk_un hj) (fun j j1 j2 => by rw [pk_un j2, pk_un j1]; exact fr0 j j1 j2) (by rw [pk_us, h7]; rfl) ?_ ?_
    · rw [pk_un (by omega), pk_us, h7, l0]
    · rw [pk_us, pk_un (by omega), aq.2.2, h7, l1]
  · have ap := hA1 p hp
    have gp := hg p hp
    unfold zq_good at gp
    rw [ek, ex, zq_ru5 (by omega)] at go
    have w0 : vp_in (nI (2 * p)) 32 := vp_in_nI (by omega) (by omega)
    have w1 : vp_in (nI (2 * p + 1)) 32 := vp_in_nI (by omega) (by omega)
    have vp : vp_in (nI p) 16 := vp_in_nI (by omega) (by omega)
    refine nm_r ek ⟨vi, nm_r ex ⟨vi, nm_e ⟨v0, nm_e ⟨v1, nm_r hsd1 (br_f (by decide) (br_f (by decide) (br_f (by decide) (br_f (by decide) (br_t rfl ?_)))))⟩⟩⟩⟩
    rw [zq_2m p, nI_1 (2 * p), nI_clamp (n := p) (by omega), nI_clamp (n := 2 * p) (by omega), nI_clamp (n := 2 * p + 1) (by omega), ap.1]
    refine ⟨vp, vi, nm_e ⟨vp, ?_⟩⟩
    rw [pk_un (f := sr) (show p ≠ i by omega), ap.1, ap.2.1, ap.2.2]
    refine pk_eq (rk p) 2 (fun z => ⟨w1, v0, nm_e ⟨w0, v1, nm_e (nm_r (nI_1 i) ?_)⟩⟩) (fun z => ⟨w0, v0, nm_e (nm_r (nI_1 i) ?_)⟩)
    · refine go _ _ _ _ (by rw [if_pos z]) (fun j hj => pk_un hj) (fun j j1 j2 => by rw [pk_un j2, pk_un j1]; exact fr0 j j1 j2) (by rw [pk_us, h3]) ?_ ?_
      · rw [pk_un (by omega), pk_us, h3]
        unfold zq_l0 zq_l1
        rw [if_pos z, if_pos z]
      · rw [pk_us, pk_un (by omega), ap.2.1, h3]
        unfold zq_l0 zq_l1
        rw [if_pos z, if_pos z]
    · refine go _ _ _ _ (by rw [if_neg z]) (fun j hj => pk_un hj) (fun j j1 j2 => by rw [pk_un j1]; exact fr0 j j1 j2) (by rw [pk_us, h3]) ?_ ?_
      · rw [pk_us, h3]
      · rw [pk_un (by omega), s1, h3]
        unfold zq_l1
        rw [if_neg z]
        rfl
  · have ap := hA1 p hp
    have gp := hg p hp
    rw [ek, ex, zq_ru6 (by omega)] at go stop
    refine nm_r ek ⟨vi, nm_r ex ⟨vi, nm_e ⟨v0, nm_e ⟨v1, nm_r hsd1 (br_f (by decide) (br_f (by decide) (br_f (by decide) (br_f (by decide) (br_f (by decide) (br_t rfl ⟨vi, ?_⟩))))))⟩⟩⟩⟩
    refine zy_spec (a := a0) (b := a1) (c := a2) h6 (by omega) h3 (fun sr' sd' f1 f2 q1 q2 q3 => ?_)
    have gi := hsg _ _ h3
    have gi' := gi
    have gp' := gp
    unfold zq_good at gi' gp'
    have g1 : R p * C p ≤ 6 * 6 := Nat.mul_le_mul (by omega) (by omega)
    have g2 : (zq_sp (Y i) (Z i) a0 a1 a2).1 * (zq_sp (Y i) (Z i) a0 a1 a2).2 ≤ 6 * 6 := Nat.mul_le_mul (by omega) (by omega)
    refine zy_prod (by omega) gi q1 q2 q3 (zy_prod (by omega) gp ((f1 p (by omega)).trans ap.1) ((f2 _ (by omega) (by omega)).trans ap.2.1) ((f2 _ (by omega) (by omega)).trans ap.2.2) ?_)
    refine pk_eq _ _ (fun z => nm_r (nI_1 i) ?_) (fun z => ?_) rfl rfl (by omega) (by omega)
    · refine go _ _ sr' sd' (if_pos z) f1 (fun j j1 j2 => (f2 j j1 j2).trans (fr0 j j1 j2)) (by rw [h4]; exact q1) (by rw [h4]; exact q2) (by rw [h4]; exact q3)
    · exact stop sr' sd' (if_neg z) f1 (fun j j1 j2 => (f2 j j1 j2).trans (fr0 j j1 j2))
  · have ap := hA1 p hp
    have gp := hg p hp
    unfold zq_good at gp
    rw [ek, ex, zq_ru7 (by omega)] at go
    have w0 : vp_in (nI (2 * p)) 32 := vp_in_nI (by omega) (by omega)
    have w1 : vp_in (nI (2 * p + 1)) 32 := vp_in_nI (by omega) (by omega)
    have vp : vp_in (nI p) 16 := vp_in_nI (by omega) (by omega)
    refine nm_r ek ⟨vi, nm_r ex ⟨vi, nm_e ⟨v0, nm_e ⟨v1, nm_r hsd1 (br_f (by decide) (br_f (by decide) (br_f (by decide) (br_f (by decide) (br_f (by decide) (br_f (by decide) ⟨vp, ?_⟩))))))⟩⟩⟩⟩
    rw [zq_2m p, nI_1 (2 * p), nI_clamp (n := p) (by omega), nI_clamp (n := 2 * p) (by omega), nI_clamp (n := 2 * p + 1) (by omega), ap.1, ap.2.1, ap.2.2]
    refine pk_eq (rk p) 1 (fun z => ⟨vi, nm_e (nm_r (nI_1 i) ?_)⟩) (fun z => ⟨vi, nm_e (br_c (fun zy => ⟨w1, v0, nm_e (nm_r (nI_1 i) ?_)⟩) (fun zy => ⟨w0, v0, nm_e (nm_r (nI_1 i) ?_)⟩))⟩)
    · have e0 : rk i = 0 := by omega
      refine go _ _ _ _ rfl (fun j hj => pk_un hj) fr0 (by rw [pk_us, e0]; rfl) ?_ ?_
      · rw [s0, if_neg (by omega), e0]
        unfold zq_l0
        rw [if_neg (by omega), show R p = 1 by omega]
        rfl
      · rw [s1, e0]
        rfl
    · have e0 : rk i = 1 := by omega
      have e2 : rk p = 2 := by omega
      refine go _ _ _ _ rfl (fun j hj => pk_un hj) (fun j j1 j2 => by rw [pk_un j1]; exact fr0 j j1 j2) (by rw [pk_us, e0]; rfl) ?_ ?_
      · rw [pk_us, if_pos ⟨e2, zy⟩, e0, e2]
        rfl
      · rw [pk_un (by omega), s1, e0]
        rfl
    · have e0 : rk i = 1 := by omega
      have e2 : rk p = 2 := by omega
      refine go _ _ _ _ rfl (fun j hj => pk_un hj) (fun j j1 j2 => by rw [pk_un j1]; exact fr0 j j1 j2) (by rw [pk_us, e0]; rfl) ?_ ?_
      · rw [pk_us, if_neg (fun w => zy w.2), e0, e2]
        rfl
      · rw [pk_un (by omega), s1, e0]
        rfl
theorem zy_shapes_l {post : Int32 → SY → Prop} {D c t a0 a1 a2 : Nat} {rk R C : Nat → Nat} (h6 : D ≤ 6) (hc : c ≤ 16) (hn : ∀ i, i < c → zq_nd D i rk (K i) (X i) (Y i) (Z i)) (hr : ∀ j, j < c → rk j ≤ 2)
    (hsg : ∀ p q, zq_spec D p q → zq_good D (zq_sr p q) (zq_sp p q a0 a1 a2).1 (zq_sp p q a0 a1 a2).2) (hs : zq_sh D c K X Y Z rk a0 a1 a2 t R C)
    (hp : ∀ sr' sd', zq_ag rk R C t sr' sd' → post (nI t) (mx, nI c, st, tp, K, X, Y, Z, dt, bd, rq, sr', sd', vr, vd, el)) :
    ∀ d i fu : Nat, ∀ sr sd : Nat → Int32, i + d = t → d < fu → zq_ag rk R C i sr sd → wY_shapes_3 post (nI a0) (nI a1) (nI a2) fu (nI i) mx (nI c) st tp K X Y Z dt bd rq sr sd vr vd el := by
  obtain ⟨s1, s2, s3⟩ := hs
  intro d
  induction d with
  | zero =>
    intro i fu sr sd hi hf hA
    obtain ⟨f, rfl⟩ : ∃ f, fu = f + 1 := ⟨fu - 1, by omega⟩
    have e : i = t := by omega
    subst e
    by_cases htc : i = c
    · subst htc
      rw [wY_shapes_3]
      exact br_t (Int32.le_refl _) (hp sr sd hA)
    · have hlt : i < c := by omega
      have hnone := s3 hlt
      refine zy_body h6 hc hlt (hn i hlt) (fun j hj => hr j (by omega)) (fun j hj => (s2 j hj).1) hsg hA ?_ ?_
      · intro r s sr' sd' e
        rw [hnone] at e
        cases e
      · intro sr' sd' _ f1 f2
        refine hp sr' sd' (fun j hj => ?_)
        rw [f1 j (by omega), f2 _ (by omega) (by omega), f2 _ (by omega) (by omega)]
        exact hA j hj
  | succ d ih =>
    intro i fu sr sd hi hf hA
    obtain ⟨f, rfl⟩ : ∃ f, fu = f + 1 := ⟨fu - 1, by omega⟩
    have hlt : i < c := by omega
    have hsome := (s2 i (by omega)).2
    refine zy_body h6 hc hlt (hn i hlt) (fun j hj => hr j (by omega)) (fun j hj => (s2 j (by omega)).1) hsg hA ?_ ?_
    · intro r s sr' sd' e f1 f2 q1 q2 q3
      rw [hsome] at e
      cases e
      refine ih (i + 1) f sr' sd' (by omega) (by omega) (fun j hj => ?_)
      by_cases hji : j = i
      · subst hji
        exact ⟨q1, q2, q3⟩
      · rw [f1 j hji, f2 _ (by omega) (by omega), f2 _ (by omega) (by omega)]
        exact hA j (by omega)
    · intro sr' sd' e
      rw [hsome] at e
      cases e
theorem zy_shapes {post : Int32 → SY → Prop} {D c t a0 a1 a2 : Nat} {rk R C : Nat → Nat} (h6 : D ≤ 6) (hc : c ≤ 16) (hn : ∀ i, i < c → zq_nd D i rk (K i) (X i) (Y i) (Z i)) (hr : ∀ j, j < c → rk j ≤ 2)
    (hsg : ∀ p q, zq_spec D p q → zq_good D (zq_sr p q) (zq_sp p q a0 a1 a2).1 (zq_sp p q a0 a1 a2).2) (hs : zq_sh D c K X Y Z rk a0 a1 a2 t R C)
    (hp : ∀ sr' sd', zq_ag rk R C t sr' sd' → post (nI t) (mx, nI c, st, tp, K, X, Y, Z, dt, bd, rq, sr', sd', vr, vd, el)) : wpY_shapes post (mx, nI c, st, tp, K, X, Y, Z, dt, bd, rq, sr, sd, vr, vd, el) (nI a0) (nI a1) (nI a2) := by
  unfold wpY_shapes
  dsimp only
  exact ⟨t + 1, zy_shapes_l h6 hc hn hr hsg hs hp t 0 (t + 1) sr sd (by omega) (by omega) (fun i hi => absurd hi (by omega))⟩
end
