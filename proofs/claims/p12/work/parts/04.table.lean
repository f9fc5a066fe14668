/-! the table of sizes, a stretch of 35 cells for each instantiation: pure -/
def zq_tb (D c : Nat) (K X Y Z : Nat → Int32) (rk : Nat → Nat) (sz tr : Nat → Int32) (n : Nat) : Prop :=
  sz (n * 35 + 32) = nI (n / (D * D) + 1) ∧ sz (n * 35 + 33) = nI (n / D % D + 1) ∧ sz (n * 35 + 34) = nI (n % D + 1) ∧
  ∃ (t : Nat) (R C : Nat → Nat), zq_sh D c K X Y Z rk (n / (D * D) + 1) (n / D % D + 1) (n % D + 1) t R C ∧
    (∀ i, i < t → sz (n * 35 + i * 2) = nI (R i) ∧ sz (n * 35 + i * 2 + 1) = nI (C i)) ∧
    ((t = c ∧ tr n = -1) ∨ (t < c ∧ tr n = nI t))
theorem zq_m1 {t : Nat} (h : t < 2 ^ 31) : ¬ nI t = -1 := by
  intro e
  have h1 := congrArg Int32.toInt e
  rw [nI_toInt h, show (-1 : Int32).toInt = -1 from by decide] at h1
  omega
theorem zq_tb_fr {D c m : Nat} {K X Y Z : Nat → Int32} {rk : Nat → Nat} {sz tr sz' tr' : Nat → Int32} (hc : c ≤ 16) (h : zq_tb D c K X Y Z rk sz tr m) (hs : ∀ j, j < 35 → sz' (m * 35 + j) = sz (m * 35 + j)) (ht : tr' m = tr m) : zq_tb D c K X Y Z rk sz' tr' m := by
  obtain ⟨h1, h2, h3, t, R, C, h4, h5, h6⟩ := h
  refine ⟨by rw [hs 32 (by omega)]; exact h1, by rw [hs 33 (by omega)]; exact h2, by rw [hs 34 (by omega)]; exact h3, t, R, C, h4, fun i hi => ?_, by rw [ht]; exact h6⟩
  have ht' := h4.1
  have e0 := hs (i * 2) (by omega)
  have e1 := hs (i * 2 + 1) (by omega)
  rw [← Nat.add_assoc] at e1
  rw [e0, e1]
  exact h5 i hi
def zq_ex (c r : Nat) (f : Nat → Nat) : Nat → Nat := fun j => if j = c then r else f j
theorem zq_ex_s {c r : Nat} {f : Nat → Nat} : zq_ex c r f c = r := if_pos rfl
theorem zq_ex_n {c r j : Nat} {f : Nat → Nat} (h : j < c) : zq_ex c r f j = f j := if_neg (by omega)
section
variable {D c a b d t : Nat} {K X Y Z : Nat → Int32} {rk rk' R C : Nat → Nat} {k x y z : Int32}
theorem zq_sh_old (hc : c < 2 ^ 31) (hn : ∀ i, i < c → zq_nd D i rk (K i) (X i) (Y i) (Z i)) (er : ∀ j, j < c → rk' j = rk j) (h : zq_sh D c K X Y Z rk a b d t R C) (ht : t < c) : zq_sh D (c + 1) (upd K c k) (upd X c x) (upd Y c y) (upd Z c z) rk' a b d t R C := by
  obtain ⟨h1, h2, h3⟩ := h
  refine ⟨by omega, fun i hi => ?_, fun _ => ?_⟩
  · rw [pk_un (f := K) (by omega), pk_un (f := X) (by omega), pk_un (f := Y) (by omega), pk_un (f := Z) (by omega), er i (by omega), zq_ru_c (by omega) (hn i (by omega)) (fun j hj => er j (by omega)) (fun _ _ => rfl) (fun _ _ => rfl)]
    exact h2 i hi
  · rw [pk_un (f := K) (by omega), pk_un (f := X) (by omega), pk_un (f := Y) (by omega), pk_un (f := Z) (by omega), zq_ru_c (by omega) (hn t ht) (fun j hj => er j (by omega)) (fun _ _ => rfl) (fun _ _ => rfl)]
    exact h3 ht
theorem zq_sh_trap (hc : c < 2 ^ 31) (hn : ∀ i, i < c → zq_nd D i rk (K i) (X i) (Y i) (Z i)) (er : ∀ j, j < c → rk' j = rk j) (h : zq_sh D c K X Y Z rk a b d c R C) (e : zq_ru k x y z a b d rk' R C = none) : zq_sh D (c + 1) (upd K c k) (upd X c x) (upd Y c y) (upd Z c z) rk' a b d c R C := by
  obtain ⟨h1, h2, h3⟩ := h
  refine ⟨by omega, fun i hi => ?_, fun _ => ?_⟩
  · rw [pk_un (f := K) (by omega), pk_un (f := X) (by omega), pk_un (f := Y) (by omega), pk_un (f := Z) (by omega), er i (by omega), zq_ru_c (by omega) (hn i (by omega)) (fun j hj => er j (by omega)) (fun _ _ => rfl) (fun _ _ => rfl)]
    exact h2 i hi
  · rw [pk_us, pk_us, pk_us, pk_us]
    exact e
theorem zq_sh_ok {r s : Nat} (hc : c < 2 ^ 31) (hn : ∀ i, i < c → zq_nd D i rk (K i) (X i) (Y i) (Z i)) (hn' : zq_nd D c rk' k x y z) (er : ∀ j, j < c → rk' j = rk j) (h : zq_sh D c K X Y Z rk a b d c R C) (e : zq_ru k x y z a b d rk' R C = some (r, s)) (hg : zq_good D (rk' c) r s) : zq_sh D (c + 1) (upd K c k) (upd X c x) (upd Y c y) (upd Z c z) rk' a b d (c + 1) (zq_ex c r R) (zq_ex c s C) := by
  obtain ⟨h1, h2, h3⟩ := h
  refine ⟨by omega, fun i hi => ?_, fun z => absurd z (by omega)⟩
  by_cases hic : i = c
  · subst hic
    rw [pk_us, pk_us, pk_us, pk_us, zq_ex_s, zq_ex_s, zq_ru_c hc hn' (fun j hj => rfl) (fun j hj => zq_ex_n hj) (fun j hj => zq_ex_n hj)]
    exact ⟨hg, e⟩
  · have hi' : i < c := by omega
    rw [pk_un (f := K) (by omega), pk_un (f := X) (by omega), pk_un (f := Y) (by omega), pk_un (f := Z) (by omega), er i (by omega), zq_ex_n hi', zq_ex_n hi', zq_ru_c (by omega) (hn i hi') (fun j hj => er j (by omega)) (fun j hj => zq_ex_n (by omega)) (fun j hj => zq_ex_n (by omega))]
    exact h2 i hi'
end
section
variable {D c n : Nat} {K X Y Z : Nat → Int32} {rk rk' : Nat → Nat} {k x y z : Int32} {sz tr sz' tr' : Nat → Int32}
theorem zq_tb_old (hc : c < 16) (hn : ∀ i, i < c → zq_nd D i rk (K i) (X i) (Y i) (Z i)) (er : ∀ j, j < c → rk' j = rk j) (h : zq_tb D c K X Y Z rk sz tr n) (ht : ¬ tr n = -1) : zq_tb D (c + 1) (upd K c k) (upd X c x) (upd Y c y) (upd Z c z) rk' sz tr n := by
  obtain ⟨h1, h2, h3, t, R, C, h4, h5, h6⟩ := h
  rcases h6 with ⟨_, h6⟩ | ⟨h7, h6⟩
  · exact absurd h6 ht
  · exact ⟨h1, h2, h3, t, R, C, zq_sh_old (by omega) hn er h4 h7, h5, Or.inr ⟨by omega, h6⟩⟩
/-- what a step that shapes node c under n may do to the table -/
theorem zq_tb_new (hc : c < 16) (hn : ∀ i, i < c → zq_nd D i rk (K i) (X i) (Y i) (Z i)) (hn' : zq_nd D c rk' k x y z) (er : ∀ j, j < c → rk' j = rk j)
    (h1 : sz (n * 35 + 32) = nI (n / (D * D) + 1)) (h2 : sz (n * 35 + 33) = nI (n / D % D + 1)) (h3 : sz (n * 35 + 34) = nI (n % D + 1))
    {R C : Nat → Nat} (h4 : zq_sh D c K X Y Z rk (n / (D * D) + 1) (n / D % D + 1) (n % D + 1) c R C) (h5 : ∀ i, i < c → sz (n * 35 + i * 2) = nI (R i) ∧ sz (n * 35 + i * 2 + 1) = nI (C i))
    (fr : ∀ j, j ≠ n * 35 + c * 2 → j ≠ n * 35 + c * 2 + 1 → sz' j = sz j)
    (w : (∃ r s, zq_ru k x y z (n / (D * D) + 1) (n / D % D + 1) (n % D + 1) rk' R C = some (r, s) ∧ zq_good D (rk' c) r s ∧ sz' (n * 35 + c * 2) = nI r ∧ sz' (n * 35 + c * 2 + 1) = nI s ∧ tr' n = -1) ∨
      (zq_ru k x y z (n / (D * D) + 1) (n / D % D + 1) (n % D + 1) rk' R C = none ∧ tr' n = nI c)) :
    zq_tb D (c + 1) (upd K c k) (upd X c x) (upd Y c y) (upd Z c z) rk' sz' tr' n := by
  refine ⟨by rw [fr _ (by omega) (by omega)]; exact h1, by rw [fr _ (by omega) (by omega)]; exact h2, by rw [fr _ (by omega) (by omega)]; exact h3, ?_⟩
  rcases w with ⟨r, s, e, hg, e1, e2, e3⟩ | ⟨e, e3⟩
  · refine ⟨c + 1, zq_ex c r R, zq_ex c s C, zq_sh_ok (by omega) hn hn' er h4 e hg, fun i hi => ?_, Or.inl ⟨rfl, e3⟩⟩
    by_cases hic : i = c
    · subst hic
      rw [zq_ex_s, zq_ex_s]
      exact ⟨e1, e2⟩
    · rw [zq_ex_n (by omega), zq_ex_n (by omega), fr _ (by omega) (by omega), fr _ (by omega) (by omega)]
      exact h5 i (by omega)
  · refine ⟨c, R, C, zq_sh_trap (by omega) hn er h4 e, fun i hi => ?_, Or.inr ⟨by omega, e3⟩⟩
    rw [fr _ (by omega) (by omega), fr _ (by omega) (by omega)]
    exact h5 i hi
end
