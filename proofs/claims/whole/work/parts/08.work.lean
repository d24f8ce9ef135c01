/-! peek, clock, reset, keep, back -/
def nb_cs (n : Nat) (kd : Nat → Nat) (g f : Nat → Int32) : Nat → Int32 := fun j => if j < n ∧ kd j = 2 then g j else f j
def nb_al (n : Nat) (g f : Nat → Int32) : Nat → Int32 := fun j => if j < n then g j else f j
theorem nb_cs_0 (kd : Nat → Nat) (g f : Nat → Int32) : nb_cs 0 kd g f = f := funext fun j => if_neg (fun h => absurd h.1 (Nat.not_lt_zero j))
theorem nb_al_0 (g f : Nat → Int32) : nb_al 0 g f = f := funext fun j => if_neg (Nat.not_lt_zero j)
theorem nb_cs_t {n : Nat} {kd : Nat → Nat} {g f : Nat → Int32} (h : kd n = 2) : upd (nb_cs n kd g f) n (g n) = nb_cs (n + 1) kd g f := by
  funext j
  unfold nb_cs upd
  by_cases e : j = n
  · subst e; rw [if_pos rfl, if_pos ⟨by omega, h⟩]
  · rw [if_neg e]
    dsimp only
    by_cases q : j < n ∧ kd j = 2
    · rw [if_pos q, if_pos ⟨by omega, q.2⟩]
    · rw [if_neg q, if_neg (fun w => q ⟨by omega, w.2⟩)]
theorem nb_cs_f {n : Nat} {kd : Nat → Nat} {g f : Nat → Int32} (h : ¬ kd n = 2) : nb_cs n kd g f = nb_cs (n + 1) kd g f := by
  funext j
  unfold nb_cs
  by_cases e : j = n
  · subst e; rw [if_neg (fun w => h w.2), if_neg (fun w => h w.2)]
  · by_cases q : j < n ∧ kd j = 2
    · rw [if_pos q, if_pos ⟨by omega, q.2⟩]
    · rw [if_neg q, if_neg (fun w => q ⟨by omega, w.2⟩)]
theorem nb_cs_c {n : Nat} {kd : Nat → Nat} {g g' f : Nat → Int32} (h : ∀ j, j < n → kd j = 2 → g j = g' j) : nb_cs n kd g f = nb_cs n kd g' f := by
  funext j
  unfold nb_cs
  by_cases q : j < n ∧ kd j = 2
  · rw [if_pos q, if_pos q]; exact h j q.1 q.2
  · rw [if_neg q, if_neg q]
theorem nb_cs_n {n : Nat} {kd : Nat → Nat} {g f : Nat → Int32} {j : Nat} (hj : j < n) (h : kd j = 2) : nb_cs n kd g f j = g j := if_pos ⟨hj, h⟩
theorem nb_cs_R {n : Nat} {kd wd : Nat → Nat} {g f : Nat → Int32} (hg : ∀ j, j < n → kd j = 2 → nb_R (wd j) (g j)) (hf : ∀ j, j < n → nb_R (wd j) (f j)) : ∀ j, j < n → nb_R (wd j) (nb_cs n kd g f j) := by
  intro j hj
  unfold nb_cs
  by_cases q : j < n ∧ kd j = 2
  · rw [if_pos q]; exact hg j hj q.2
  · rw [if_neg q]; exact hf j hj
theorem nb_al_t {n : Nat} {g f : Nat → Int32} : upd (nb_al n g f) n (g n) = nb_al (n + 1) g f := by
  funext j
  unfold nb_al upd
  by_cases e : j = n
  · subst e; rw [if_pos rfl, if_pos (by omega)]
  · rw [if_neg e]
    dsimp only
    by_cases q : j < n
    · rw [if_pos q, if_pos (by omega)]
    · rw [if_neg q, if_neg (by omega)]
theorem nb_al_n {n : Nat} {g f : Nat → Int32} {j : Nat} (hj : j < n) : nb_al n g f j = g j := if_pos hj
section
variable {c : Nat} {cs sw pp pd pe : Int32} {K W ox oy oz nums rch D nx en fo H nt mem nm vals tr ex ey ez nty va td mt : Nat → Int32} {kd wd xo yo zo dp : Nat → Nat}
theorem nx_reset_m (post : SX → Prop) (hp : post ((nI c), cs, sw, pp, pd, pe, K, W, ox, oy, oz, nums, rch, D, nx, en, fo, H, nt, (nb_al 4 (fun _ => 0) mem), nm, vals, tr)) : ∃ n, wX_reset_40 post (nI c) cs sw pp pd pe n 0 K W ox oy oz nums rch D nx en fo H nt mem nm vals tr := by
  have key : ∀ d i, i + d = 4 → wX_reset_40 post (nI c) cs sw pp pd pe (d + 1) (nI i) K W ox oy oz nums rch D nx en fo H nt (nb_al i (fun _ => 0) mem) nm vals tr := by
    intro d
    induction d with
    | zero =>
      intro i hi
      have : i = 4 := by omega
      subst this
      exact br_t (by decide) hp
    | succ d ih =>
      intro i hi
      have x1 : vp_in (nI i) 4 := vp_in_nI (by omega) (by omega)
      have x2 : (nI i).toNatClampNeg = i := nI_clamp (by omega)
      have nxt := ih (i + 1) (by omega)
      rw [← nb_al_t] at nxt
      refine br_f (nI_ge (b := 4) (by omega) (by omega)) ⟨x1, nm_e (nm_r (nI_1 i) ?_)⟩
      rw [x2]
      exact nxt
  have k0 := key 4 0 rfl
  rw [nb_al_0] at k0
  exact ⟨5, k0⟩
theorem nx_reset (post : SX → Prop) (hc : c ≤ 24) (hK : ∀ j, K j = nI (kd j)) (k18 : ∀ j, j < c → kd j ≤ 18) (hp : post ((nI c), cs, sw, pp, pd, pe, K, W, ox, oy, oz, nums, rch, D, nx, en, fo, (nb_cs c kd nums H), nt, (nb_al 4 (fun _ => 0) mem), nm, vals, tr)) : wpX_reset post ((nI c), cs, sw, pp, pd, pe, K, W, ox, oy, oz, nums, rch, D, nx, en, fo, H, nt, mem, nm, vals, tr) := by
  have key : ∀ n i, i ≤ c → c < i + n → wX_reset_2 post (nI c) cs sw pp pd pe n (nI i) K W ox oy oz nums rch D nx en fo (nb_cs i kd nums H) nt mem nm vals tr := by
    intro n
    induction n with
    | zero => intro i h1 h2; omega
    | succ n ih =>
      intro i h1 h2
      by_cases hi : i < c
      · have x1 : vp_in (nI i) 24 := vp_in_nI (by omega) (by omega)
        have x2 : (nI i).toNatClampNeg = i := nI_clamp (by omega)
        have kk := k18 i hi
        have nxt := ih (i + 1) (by omega) (by omega)
        refine br_f (nI_ge hi (by omega)) ⟨x1, ?_⟩
        rw [x2]
        by_cases k2 : kd i = 2
        · have e2 : K i = 2 := by rw [hK, k2]; rfl
          rw [← nb_cs_t k2] at nxt
          refine br_t e2 ⟨x1, x1, nm_e (nm_r (nI_1 i) ?_)⟩
          exact nxt
        · have e2 : ¬ K i = 2 := by rw [hK]; exact fun q => k2 ((nI_eq (b := 2) (by omega) (by omega)).mp q)
          rw [← nb_cs_f k2] at nxt
          exact br_f e2 (nm_r (nI_1 i) nxt)
      · have : i = c := by omega
        subst this
        exact br_t (nI_le (Nat.le_refl _) (by omega)) (nx_reset_m post hp)
  have k0 := key (c + 1) 0 (by omega) (by omega)
  rw [nb_cs_0] at k0
  exact ⟨c + 1, k0⟩
theorem ny_reset_m (post : SY → Prop) (hp : post ((nI c), cs, sw, pp, pd, pe, K, ex, ey, ez, W, H, nty, fo, va, nx, en, (nb_al 4 (fun _ => 0) mem), nm, td, mt)) : ∃ n, wY_reset_40 post (nI c) cs sw pp pd pe n 0 K ex ey ez W H nty fo va nx en mem nm td mt := by
  have key : ∀ d i, i + d = 4 → wY_reset_40 post (nI c) cs sw pp pd pe (d + 1) (nI i) K ex ey ez W H nty fo va nx en (nb_al i (fun _ => 0) mem) nm td mt := by
    intro d
    induction d with
    | zero =>
      intro i hi
      have : i = 4 := by omega
      subst this
      exact br_t (by decide) hp
    | succ d ih =>
      intro i hi
      have x1 : vp_in (nI i) 4 := vp_in_nI (by omega) (by omega)
      have x2 : (nI i).toNatClampNeg = i := nI_clamp (by omega)
      have nxt := ih (i + 1) (by omega)
      rw [← nb_al_t] at nxt
      refine br_f (nI_ge (b := 4) (by omega) (by omega)) ⟨x1, nm_e (nm_r (nI_1 i) ?_)⟩
      rw [x2]
      exact nxt
  have k0 := key 4 0 rfl
  rw [nb_al_0] at k0
  exact ⟨5, k0⟩
theorem ny_reset (post : SY → Prop) (hc : c ≤ 24) (hK : ∀ j, K j = nI (kd j)) (k18 : ∀ j, j < c → kd j ≤ 18) (hp : post ((nI c), cs, sw, pp, pd, pe, K, ex, ey, ez, W, (nb_cs c kd ey H), nty, fo, va, nx, en, (nb_al 4 (fun _ => 0) mem), nm, td, mt)) : wpY_reset post ((nI c), cs, sw, pp, pd, pe, K, ex, ey, ez, W, H, nty, fo, va, nx, en, mem, nm, td, mt) := by
  have key : ∀ n i, i ≤ c → c < i + n → wY_reset_2 post (nI c) cs sw pp pd pe n (nI i) K ex ey ez W (nb_cs i kd ey H) nty fo va nx en mem nm td mt := by
    intro n
    induction n with
    | zero => intro i h1 h2; omega
    | succ n ih =>
      intro i h1 h2
      by_cases hi : i < c
      · have x1 : vp_in (nI i) 24 := vp_in_nI (by omega) (by omega)
        have x2 : (nI i).toNatClampNeg = i := nI_clamp (by omega)
        have kk := k18 i hi
        have nxt := ih (i + 1) (by omega) (by omega)
        refine br_f (nI_ge hi (by omega)) ⟨x1, ?_⟩
        rw [x2]
        by_cases k2 : kd i = 2
        · have e2 : K i = 2 := by rw [hK, k2]; rfl
          rw [← nb_cs_t k2] at nxt
          refine br_t e2 ⟨x1, x1, nm_e (nm_r (nI_1 i) ?_)⟩
          exact nxt
        · have e2 : ¬ K i = 2 := by rw [hK]; exact fun q => k2 ((nI_eq (b := 2) (by omega) (by omega)).mp q)
          rw [← nb_cs_f k2] at nxt
          exact br_f e2 (nm_r (nI_1 i) nxt)
      · have : i = c := by omega
        subst this
        exact br_t (nI_le (Nat.le_refl _) (by omega)) (ny_reset_m post hp)
  have k0 := key (c + 1) 0 (by omega) (by omega)
  rw [nb_cs_0] at k0
  exact ⟨c + 1, k0⟩
theorem nx_keep_m (post : SX → Prop) (hp : post ((nI c), cs, sw, pp, pd, pe, K, W, ox, oy, oz, nums, rch, D, nx, en, fo, H, nt, mem, (nb_al 4 mem nm), vals, tr)) : ∃ n, wX_keep_40 post (nI c) cs sw pp pd pe n 0 K W ox oy oz nums rch D nx en fo H nt mem nm vals tr := by
  have key : ∀ d i, i + d = 4 → wX_keep_40 post (nI c) cs sw pp pd pe (d + 1) (nI i) K W ox oy oz nums rch D nx en fo H nt mem (nb_al i mem nm) vals tr := by
    intro d
    induction d with
    | zero =>
      intro i hi
      have : i = 4 := by omega
      subst this
      exact br_t (by decide) hp
    | succ d ih =>
      intro i hi
      have x1 : vp_in (nI i) 4 := vp_in_nI (by omega) (by omega)
      have x2 : (nI i).toNatClampNeg = i := nI_clamp (by omega)
      have nxt := ih (i + 1) (by omega)
      rw [← nb_al_t] at nxt
      refine br_f (nI_ge (b := 4) (by omega) (by omega)) ⟨x1, x1, nm_e (nm_r (nI_1 i) ?_)⟩
      rw [x2]
      exact nxt
  have k0 := key 4 0 rfl
  rw [nb_al_0] at k0
  exact ⟨5, k0⟩
theorem nx_keep (post : SX → Prop) (hc : c ≤ 24) (hK : ∀ j, K j = nI (kd j)) (k18 : ∀ j, j < c → kd j ≤ 18) (hp : post ((nI c), cs, sw, pp, pd, pe, K, W, ox, oy, oz, nums, rch, D, nx, en, fo, H, (nb_cs c kd H nt), mem, (nb_al 4 mem nm), vals, tr)) : wpX_keep post ((nI c), cs, sw, pp, pd, pe, K, W, ox, oy, oz, nums, rch, D, nx, en, fo, H, nt, mem, nm, vals, tr) := by
  have key : ∀ n i, i ≤ c → c < i + n → wX_keep_2 post (nI c) cs sw pp pd pe n (nI i) K W ox oy oz nums rch D nx en fo H (nb_cs i kd H nt) mem nm vals tr := by
    intro n
    induction n with
    | zero => intro i h1 h2; omega
    | succ n ih =>
      intro i h1 h2
      by_cases hi : i < c
      · have x1 : vp_in (nI i) 24 := vp_in_nI (by omega) (by omega)
        have x2 : (nI i).toNatClampNeg = i := nI_clamp (by omega)
        have kk := k18 i hi
        have nxt := ih (i + 1) (by omega) (by omega)
        refine br_f (nI_ge hi (by omega)) ⟨x1, ?_⟩
        rw [x2]
        by_cases k2 : kd i = 2
        · have e2 : K i = 2 := by rw [hK, k2]; rfl
          rw [← nb_cs_t k2] at nxt
          refine br_t e2 ⟨x1, x1, nm_e (nm_r (nI_1 i) ?_)⟩
          exact nxt
        · have e2 : ¬ K i = 2 := by rw [hK]; exact fun q => k2 ((nI_eq (b := 2) (by omega) (by omega)).mp q)
          rw [← nb_cs_f k2] at nxt
          exact br_f e2 (nm_r (nI_1 i) nxt)
      · have : i = c := by omega
        subst this
        exact br_t (nI_le (Nat.le_refl _) (by omega)) (nx_keep_m post hp)
  have k0 := key (c + 1) 0 (by omega) (by omega)
  rw [nb_cs_0] at k0
  exact ⟨c + 1, k0⟩
theorem ny_keep_m (post : SY → Prop) (hp : post ((nI c), cs, sw, pp, pd, pe, K, ex, ey, ez, W, H, nty, fo, va, nx, en, mem, (nb_al 4 mem nm), td, mt)) : ∃ n, wY_keep_30 post (nI c) cs sw pp pd pe n 0 K ex ey ez W H nty fo va nx en mem nm td mt := by
  have key : ∀ d i, i + d = 4 → wY_keep_30 post (nI c) cs sw pp pd pe (d + 1) (nI i) K ex ey ez W H nty fo va nx en mem (nb_al i mem nm) td mt := by
    intro d
    induction d with
    | zero =>
      intro i hi
      have : i = 4 := by omega
      subst this
      exact br_t (by decide) hp
    | succ d ih =>
      intro i hi
      have x1 : vp_in (nI i) 4 := vp_in_nI (by omega) (by omega)
      have x2 : (nI i).toNatClampNeg = i := nI_clamp (by omega)
      have nxt := ih (i + 1) (by omega)
      rw [← nb_al_t] at nxt
      refine br_f (nI_ge (b := 4) (by omega) (by omega)) ⟨x1, x1, nm_e (nm_r (nI_1 i) ?_)⟩
      rw [x2]
      exact nxt
  have k0 := key 4 0 rfl
  rw [nb_al_0] at k0
  exact ⟨5, k0⟩
theorem ny_keep (post : SY → Prop) (hc : c ≤ 24) (hK : ∀ j, K j = nI (kd j)) (k18 : ∀ j, j < c → kd j ≤ 18) (hp : post ((nI c), cs, sw, pp, pd, pe, K, ex, ey, ez, W, H, (nb_al c H nty), fo, va, nx, en, mem, (nb_al 4 mem nm), td, mt)) : wpY_keep post ((nI c), cs, sw, pp, pd, pe, K, ex, ey, ez, W, H, nty, fo, va, nx, en, mem, nm, td, mt) := by
  have key : ∀ n i, i ≤ c → c < i + n → wY_keep_2 post (nI c) cs sw pp pd pe n (nI i) K ex ey ez W H (nb_al i H nty) fo va nx en mem nm td mt := by
    intro n
    induction n with
    | zero => intro i h1 h2; omega
    | succ n ih =>
      intro i h1 h2
      by_cases hi : i < c
      · have x1 : vp_in (nI i) 24 := vp_in_nI (by omega) (by omega)
        have x2 : (nI i).toNatClampNeg = i := nI_clamp (by omega)
        have kk := k18 i hi
        have nxt := ih (i + 1) (by omega) (by omega)
        refine br_f (nI_ge hi (by omega)) ⟨x1, ?_⟩
        rw [x2]
        rw [← nb_al_t] at nxt
        exact ⟨x1, nm_e (nm_r (nI_1 i) nxt)⟩
      · have : i = c := by omega
        subst this
        exact br_t (nI_le (Nat.le_refl _) (by omega)) (ny_keep_m post hp)
  have k0 := key (c + 1) 0 (by omega) (by omega)
  rw [nb_al_0] at k0
  exact ⟨c + 1, k0⟩
theorem nx_back_m (post : SX → Prop) (hp : post ((nI c), cs, sw, pp, pd, pe, K, W, ox, oy, oz, nums, rch, D, nx, en, fo, H, nt, (nb_al 4 nm mem), nm, vals, tr)) : ∃ n, wX_back_40 post (nI c) cs sw pp pd pe n 0 K W ox oy oz nums rch D nx en fo H nt mem nm vals tr := by
  have key : ∀ d i, i + d = 4 → wX_back_40 post (nI c) cs sw pp pd pe (d + 1) (nI i) K W ox oy oz nums rch D nx en fo H nt (nb_al i nm mem) nm vals tr := by
    intro d
    induction d with
    | zero =>
      intro i hi
      have : i = 4 := by omega
      subst this
      exact br_t (by decide) hp
    | succ d ih =>
      intro i hi
      have x1 : vp_in (nI i) 4 := vp_in_nI (by omega) (by omega)
      have x2 : (nI i).toNatClampNeg = i := nI_clamp (by omega)
      have nxt := ih (i + 1) (by omega)
      rw [← nb_al_t] at nxt
      refine br_f (nI_ge (b := 4) (by omega) (by omega)) ⟨x1, x1, nm_e (nm_r (nI_1 i) ?_)⟩
      rw [x2]
      exact nxt
  have k0 := key 4 0 rfl
  rw [nb_al_0] at k0
  exact ⟨5, k0⟩
theorem nx_back (post : SX → Prop) (hc : c ≤ 24) (hK : ∀ j, K j = nI (kd j)) (k18 : ∀ j, j < c → kd j ≤ 18) (hp : post ((nI c), cs, sw, pp, pd, pe, K, W, ox, oy, oz, nums, rch, D, nx, en, fo, (nb_cs c kd nt H), nt, (nb_al 4 nm mem), nm, vals, tr)) : wpX_back post ((nI c), cs, sw, pp, pd, pe, K, W, ox, oy, oz, nums, rch, D, nx, en, fo, H, nt, mem, nm, vals, tr) := by
  have key : ∀ n i, i ≤ c → c < i + n → wX_back_2 post (nI c) cs sw pp pd pe n (nI i) K W ox oy oz nums rch D nx en fo (nb_cs i kd nt H) nt mem nm vals tr := by
    intro n
    induction n with
    | zero => intro i h1 h2; omega
    | succ n ih =>
      intro i h1 h2
      by_cases hi : i < c
      · have x1 : vp_in (nI i) 24 := vp_in_nI (by omega) (by omega)
        have x2 : (nI i).toNatClampNeg = i := nI_clamp (by omega)
        have kk := k18 i hi
        have nxt := ih (i + 1) (by omega) (by omega)
        refine br_f (nI_ge hi (by omega)) ⟨x1, ?_⟩
        rw [x2]
        by_cases k2 : kd i = 2
        · have e2 : K i = 2 := by rw [hK, k2]; rfl
          rw [← nb_cs_t k2] at nxt
          refine br_t e2 ⟨x1, x1, nm_e (nm_r (nI_1 i) ?_)⟩
          exact nxt
        · have e2 : ¬ K i = 2 := by rw [hK]; exact fun q => k2 ((nI_eq (b := 2) (by omega) (by omega)).mp q)
          rw [← nb_cs_f k2] at nxt
          exact br_f e2 (nm_r (nI_1 i) nxt)
      · have : i = c := by omega
        subst this
        exact br_t (nI_le (Nat.le_refl _) (by omega)) (nx_back_m post hp)
  have k0 := key (c + 1) 0 (by omega) (by omega)
  rw [nb_cs_0] at k0
  exact ⟨c + 1, k0⟩
theorem ny_back_m (post : SY → Prop) (hp : post ((nI c), cs, sw, pp, pd, pe, K, ex, ey, ez, W, H, nty, fo, va, nx, en, (nb_al 4 nm mem), nm, td, mt)) : ∃ n, wY_back_40 post (nI c) cs sw pp pd pe n 0 K ex ey ez W H nty fo va nx en mem nm td mt := by
  have key : ∀ d i, i + d = 4 → wY_back_40 post (nI c) cs sw pp pd pe (d + 1) (nI i) K ex ey ez W H nty fo va nx en (nb_al i nm mem) nm td mt := by
    intro d
    induction d with
    | zero =>
      intro i hi
      have : i = 4 := by omega
      subst this
      exact br_t (by decide) hp
    | succ d ih =>
      intro i hi
      have x1 : vp_in (nI i) 4 := vp_in_nI (by omega) (by omega)
      have x2 : (nI i).toNatClampNeg = i := nI_clamp (by omega)
      have nxt := ih (i + 1) (by omega)
      rw [← nb_al_t] at nxt
      refine br_f (nI_ge (b := 4) (by omega) (by omega)) ⟨x1, x1, nm_e (nm_r (nI_1 i) ?_)⟩
      rw [x2]
      exact nxt
  have k0 := key 4 0 rfl
  rw [nb_al_0] at k0
  exact ⟨5, k0⟩
theorem ny_back (post : SY → Prop) (hc : c ≤ 24) (hK : ∀ j, K j = nI (kd j)) (k18 : ∀ j, j < c → kd j ≤ 18) (hp : post ((nI c), cs, sw, pp, pd, pe, K, ex, ey, ez, W, (nb_cs c kd nty H), nty, fo, va, nx, en, (nb_al 4 nm mem), nm, td, mt)) : wpY_back post ((nI c), cs, sw, pp, pd, pe, K, ex, ey, ez, W, H, nty, fo, va, nx, en, mem, nm, td, mt) := by
  have key : ∀ n i, i ≤ c → c < i + n → wY_back_2 post (nI c) cs sw pp pd pe n (nI i) K ex ey ez W (nb_cs i kd nty H) nty fo va nx en mem nm td mt := by
    intro n
    induction n with
    | zero => intro i h1 h2; omega
    | succ n ih =>
      intro i h1 h2
      by_cases hi : i < c
      · have x1 : vp_in (nI i) 24 := vp_in_nI (by omega) (by omega)
        have x2 : (nI i).toNatClampNeg = i := nI_clamp (by omega)
        have kk := k18 i hi
        have nxt := ih (i + 1) (by omega) (by omega)
        refine br_f (nI_ge hi (by omega)) ⟨x1, ?_⟩
        rw [x2]
        by_cases k2 : kd i = 2
        · have e2 : K i = 2 := by rw [hK, k2]; rfl
          rw [← nb_cs_t k2] at nxt
          refine br_t e2 ⟨x1, x1, nm_e (nm_r (nI_1 i) ?_)⟩
          exact nxt
        · have e2 : ¬ K i = 2 := by rw [hK]; exact fun q => k2 ((nI_eq (b := 2) (by omega) (by omega)).mp q)
          rw [← nb_cs_f k2] at nxt
          exact br_f e2 (nm_r (nI_1 i) nxt)
      · have : i = c := by omega
        subst this
        exact br_t (nI_le (Nat.le_refl _) (by omega)) (ny_back_m post hp)
  have k0 := key (c + 1) 0 (by omega) (by omega)
  rw [nb_cs_0] at k0
  exact ⟨c + 1, k0⟩
theorem nb_tM_R (hc : c ≤ 24) (po : nb_po c wd pp pd pe) {C : Nat → Int32} (hR : ∀ j, j < c → nb_R (wd j) (C j)) (hm : ∀ i, i < 4 → nb_R 4 (mem i)) : ∀ i, i < 4 → nb_R 4 (nb_tM pp pd pe C mem i) := by
  intro i hi
  unfold nb_tM
  by_cases g : nb_gm pp pe C = true
  · rw [if_pos g]
    have q : ¬ pp = -1 := fun q => nb_gm_1 q g
    obtain ⟨p, d, e, h1, h2, h3, e1, e2, e3, w1, w2⟩ := po.resolve_left q
    have r := hR d h2
    rw [w2] at r
    rw [e2, nI_clamp (by omega)]
    by_cases z : i = (C pp.toNatClampNeg).toNatClampNeg
    · rw [z, pk_us]; exact r
    · rw [pk_un z]; exact hm i hi
  · rw [if_neg g]; exact hm i hi
theorem nb_clk (S : nb_S c K W ox oy oz nums rch D ex ey ez kd wd xo yo zo dp) (d1 : ∀ j, j < c → nb_ne c wd nx en j) (d2 : ∀ j, j < c → fo j = -1 ∨ nb_R (wd j) (fo j)) (po : nb_po c wd pp pd pe) {T : Nat} (hT : T ≤ 40) :
    ∀ d i (x3 : Int32) (H mem : Nat → Int32), i + d = T → (∀ j, j < c → nb_R (wd j) (H j)) → (∀ i, i < 4 → nb_R 4 (mem i)) →
      ∃ (r : Int32) (H' mem' : Nat → Int32), (∀ j, j < c → nb_R (wd j) (H' j)) ∧ (∀ i, i < 4 → nb_R 4 (mem' i))
        ∧ (∀ (post : Int32 → SX → Prop) (vals : Nat → Int32), (∀ vals', post r ((nI c), cs, sw, pp, pd, pe, K, W, ox, oy, oz, nums, rch, D, nx, en, fo, H', nt, mem', nm, vals', tr)) → wX_clock_26 post (nI T) (d + 1) x3 (nI i) (nI c) cs sw pp pd pe K W ox oy oz nums rch D nx en fo H nt mem nm vals tr)
        ∧ (∀ (post : Int32 → SY → Prop) (va : Nat → Int32), (∀ va', post r ((nI c), cs, sw, pp, pd, pe, K, ex, ey, ez, W, H', nty, fo, va', nx, en, mem', nm, td, mt)) → wY_clock_26 post (nI T) (d + 1) x3 (nI i) (nI c) cs sw pp pd pe K ex ey ez W H nty fo va nx en mem nm td mt) := by
  obtain ⟨hc, hK, hW, hx, hy, hz, hD, ok, ye, _, _, _⟩ := S
  have k18 : ∀ j, j < c → kd j ≤ 18 := fun j hj => (ok j hj).1
  intro d
  induction d with
  | zero =>
    intro i x3 H mem hi hH hm
    have : i = T := by omega
    subst this
    exact ⟨x3, H, mem, hH, hm, fun post vals hp => br_t (nI_le (Nat.le_refl _) (by omega)) (hp vals), fun post va hp => br_t (nI_le (Nat.le_refl _) (by omega)) (hp va)⟩
  | succ d ih =>
    intro i x3 H mem hi hH hm
    obtain ⟨C, hC⟩ := nb_sol_ex (nb_locX (fo := fo) (mem := mem) (base := H) ok)
    obtain ⟨V0, hV0⟩ := nb_sol_ex (nb_locY (fo := fo) (mem := mem) (base := H) ok)
    have agr : ∀ V, nb_Sol (nb_FY kd wd xo yo zo nums fo mem H) c V → ∀ j, j < c → C j = V j ∧ nb_R (wd j) (C j) := fun V hV j hj =>
      nb_agree ok d2 hm (fun _ => True) (fun _ _ _ => ⟨fun _ => trivial, fun _ _ => trivial, fun _ => trivial⟩) (fun j hj _ _ => ⟨rfl, hH j hj⟩) hC hV (j + 1) j (by omega) hj trivial
    have hR : ∀ j, j < c → nb_R (wd j) (C j) := fun j hj => (agr V0 hV0 j hj).2
    have hH' : ∀ j, j < c → nb_R (wd j) (nb_tH (nb_gt kd nx en C) (fun j => C (nx j).toNatClampNeg) H c j) := nb_tH_R (P := fun j v => nb_R (wd j) v) hH (fun j hj g => by
      obtain ⟨t, ht, e, w⟩ := (d1 j hj).1.resolve_left (nb_gt_inv g).2
      show nb_R (wd j) (C (nx j).toNatClampNeg)
      rw [e, nI_clamp (by omega), ← w]
      exact hR t ht) c (Nat.le_refl c)
    obtain ⟨r, H2, mem2, h1, h2, fx, fy⟩ := ih (i + 1) (x3 + (nb_tS (nb_gt kd nx en C) (fun j => C (nx j).toNatClampNeg) H c + nb_ts pp pd pe C mem)) (nb_tH (nb_gt kd nx en C) (fun j => C (nx j).toNatClampNeg) H c) (nb_tM pp pd pe C mem) (by omega) hH' (nb_tM_R hc po hR hm)
    refine ⟨r, H2, mem2, h1, h2, fun post vals hp => ?_, fun post va hp => ?_⟩
    · refine br_f (nI_ge (by omega) (by omega)) ?_
      refine nx_set_held _ hc hK hW hx hy hz ok (fun V hV => ?_)
      have hv := fun j hj => nb_sol_un (nb_locX ok) hV hC (j + 1) j (by omega) hj
      refine nx_tr _ hc hK k18 d1 hv (nm_e ?_)
      refine nx_tm _ hc po hv hR (nm_r (Int32.add_assoc _ _ _) (nm_r (nI_1 i) ?_))
      exact fx post V hp
    · refine br_f (nI_ge (by omega) (by omega)) ?_
      unfold wpY_tick
      refine ny_work_held _ hc hK hW ok ye d2 (fun V hV => ?_)
      exact ny_tk _ hc hK k18 d1 po (fun j hj => (agr V hV j hj).1.symm) hR (nm_e (nm_r (nI_1 i) (fy post V hp)))
end
theorem i_vc_peek {k : Nat} {u : SX} {v : SY} (I : i_Rel k u v) (hk : k + 5 ≤ 2560) (v1 : Int32) : wpX_peek (fun r u' => wpY_peek (fun r' v' => r' = r ∧ i_Rel (k + 5) u' v') v v1) u v1 := by
  obtain ⟨c, cs, sw, pp, pd, pe, K, W, ox, oy, oz, nums, rch, D, nx, en, fo, H, nt, mem, nm, vals, tr, ex, ey, ez, nty, va, td, mt, kd, wd, xo, yo, zo, dp, rfl, rfl, h1, S, d1, d2, d3, d4, d5, d6, d7⟩ := I
  have S0 := S
  obtain ⟨hc, hK, hW, hx, hy, hz, hD, ok, ye, _, _, _⟩ := S0
  unfold wpX_peek
  by_cases q : nb_sg c v1
  · obtain ⟨s, hs, rfl⟩ := q
    have x1 : vp_in (nI s) 24 := vp_in_nI (by omega) (by omega)
    have x2 : (nI s).toNatClampNeg = s := nI_clamp (by omega)
    refine nx_isS_t _ hc hs (br_f (by decide) ?_)
    refine nx_set_held _ hc hK hW hx hy hz ok (fun U hU => ⟨x1, ?_⟩)
    unfold wpY_peek
    refine ny_isS_t _ hc hs (br_f (by decide) ?_)
    refine ny_work_held _ hc hK hW ok ye d2 (fun V hV => ⟨x1, ?_, nb_rel h1 S ⟨d1, d2, d3, d4, d5, d6, d7⟩⟩)
    rw [x2]
    exact (nb_agree ok d2 d5 (fun _ => True) (fun _ _ _ => ⟨fun _ => trivial, fun _ _ => trivial, fun _ => trivial⟩) (fun j hj _ _ => ⟨rfl, d3 j hj⟩) hU hV (s + 1) s (by omega) hs trivial).1.symm
  · refine nx_isS_f _ hc q (br_t rfl ?_)
    unfold wpY_peek
    exact ny_isS_f _ hc q (br_t rfl ⟨rfl, nb_rel h1 S ⟨d1, d2, d3, d4, d5, d6, d7⟩⟩)
theorem i_vc_clock {k : Nat} {u : SX} {v : SY} (I : i_Rel k u v) (hk : k + 5 ≤ 2560) (v1 : Int32) : wpX_clock (fun r u' => wpY_clock (fun r' v' => r' = r ∧ i_Rel (k + 5) u' v') v v1) u v1 := by
  obtain ⟨c, cs, sw, pp, pd, pe, K, W, ox, oy, oz, nums, rch, D, nx, en, fo, H, nt, mem, nm, vals, tr, ex, ey, ez, nty, va, td, mt, kd, wd, xo, yo, zo, dp, rfl, rfl, h1, S, d1, d2, d3, d4, d5, d6, d7⟩ := I
  by_cases q0 : 0 ≤ v1
  · by_cases q4 : v1 ≤ 40
    · obtain ⟨T, hT, rfl⟩ := nI_of (Int32.not_lt.mpr q0)
      have hT4 : T ≤ 40 := (nI_leI (b := 40) hT (by omega)).mp q4
      obtain ⟨r, H', mem', hH, hm, fx, fy⟩ := nb_clk (cs := cs) (sw := sw) (nt := nt) (nm := nm) (tr := tr) (nty := nty) (td := td) (mt := mt) S d1 d2 d7 hT4 T 0 0 H mem (by omega) d3 d5
      exact br_t q0 (br_t q4 ⟨T + 1, fx _ _ (fun vals' => br_t q0 (br_t q4 ⟨T + 1, fy _ _ (fun va' => ⟨rfl, nb_rel h1 S ⟨d1, d2, hH, d4, hm, d6, d7⟩⟩)⟩))⟩)
    · obtain ⟨r, H', mem', hH, hm, fx, fy⟩ := nb_clk (cs := cs) (sw := sw) (nt := nt) (nm := nm) (tr := tr) (nty := nty) (td := td) (mt := mt) S d1 d2 d7 (T := 40) (by omega) 40 0 0 H mem (by omega) d3 d5
      exact br_t q0 (br_f q4 ⟨41, fx _ _ (fun vals' => br_t q0 (br_f q4 ⟨41, fy _ _ (fun va' => ⟨rfl, nb_rel h1 S ⟨d1, d2, hH, d4, hm, d6, d7⟩⟩)⟩))⟩)
  · obtain ⟨r, H', mem', hH, hm, fx, fy⟩ := nb_clk (cs := cs) (sw := sw) (nt := nt) (nm := nm) (tr := tr) (nty := nty) (td := td) (mt := mt) S d1 d2 d7 (T := 0) (by omega) 0 0 0 H mem (by omega) d3 d5
    exact br_f q0 ⟨1, fx _ _ (fun vals' => br_f q0 ⟨1, fy _ _ (fun va' => ⟨rfl, nb_rel h1 S ⟨d1, d2, hH, d4, hm, d6, d7⟩⟩)⟩)⟩
theorem i_vc_reset {k : Nat} {u : SX} {v : SY} (I : i_Rel k u v) (hk : k + 5 ≤ 2560) : wpX_reset (fun u' => wpY_reset (fun v' => i_Rel (k + 5) u' v') v) u := by
  obtain ⟨c, cs, sw, pp, pd, pe, K, W, ox, oy, oz, nums, rch, D, nx, en, fo, H, nt, mem, nm, vals, tr, ex, ey, ez, nty, va, td, mt, kd, wd, xo, yo, zo, dp, rfl, rfl, h1, S, d1, d2, d3, d4, d5, d6, d7⟩ := I
  have S0 := S
  obtain ⟨hc, hK, hW, hx, hy, hz, hD, ok, ye, _, _, _⟩ := S0
  have k18 : ∀ j, j < c → kd j ≤ 18 := fun j hj => (ok j hj).1
  refine nx_reset _ hc hK k18 (ny_reset _ hc hK k18 ?_)
  rw [nb_cs_c (g := ey) (g' := nums) (fun j hj e => (ye j hj).2.2.2 (Or.inr (Or.inl e)))]
  refine nb_rel h1 S ⟨d1, d2, nb_cs_R (fun j hj e => (ok j hj).2.2.2.2.2.2.2.2.2.1 (Or.inr e)) d3, d4, fun i hi => ?_, d6, d7⟩
  rw [nb_al_n hi]
  exact ⟨0, by decide, rfl⟩
theorem i_vc_keep {k : Nat} {u : SX} {v : SY} (I : i_Rel k u v) (hk : k + 5 ≤ 2560) : wpX_keep (fun u' => wpY_keep (fun v' => i_Rel (k + 5) u' v') v) u := by
  obtain ⟨c, cs, sw, pp, pd, pe, K, W, ox, oy, oz, nums, rch, D, nx, en, fo, H, nt, mem, nm, vals, tr, ex, ey, ez, nty, va, td, mt, kd, wd, xo, yo, zo, dp, rfl, rfl, h1, S, d1, d2, d3, d4, d5, d6, d7⟩ := I
  have S0 := S
  obtain ⟨hc, hK, hW, hx, hy, hz, hD, ok, ye, _, _, _⟩ := S0
  have k18 : ∀ j, j < c → kd j ≤ 18 := fun j hj => (ok j hj).1
  refine nx_keep _ hc hK k18 (ny_keep _ hc hK k18 ?_)
  refine nb_rel h1 S ⟨d1, d2, d3, fun j hj e => ?_, d5, fun i hi => ?_, d7⟩
  · rw [nb_cs_n hj e, nb_al_n hj]
    exact ⟨rfl, d3 j hj⟩
  · rw [nb_al_n hi]
    exact d5 i hi
theorem i_vc_back {k : Nat} {u : SX} {v : SY} (I : i_Rel k u v) (hk : k + 5 ≤ 2560) : wpX_back (fun u' => wpY_back (fun v' => i_Rel (k + 5) u' v') v) u := by
  obtain ⟨c, cs, sw, pp, pd, pe, K, W, ox, oy, oz, nums, rch, D, nx, en, fo, H, nt, mem, nm, vals, tr, ex, ey, ez, nty, va, td, mt, kd, wd, xo, yo, zo, dp, rfl, rfl, h1, S, d1, d2, d3, d4, d5, d6, d7⟩ := I
  have S0 := S
  obtain ⟨hc, hK, hW, hx, hy, hz, hD, ok, ye, _, _, _⟩ := S0
  have k18 : ∀ j, j < c → kd j ≤ 18 := fun j hj => (ok j hj).1
  refine nx_back _ hc hK k18 (ny_back _ hc hK k18 ?_)
  rw [← nb_cs_c (g := nt) (g' := nty) (fun j hj e => (d4 j hj e).1)]
  refine nb_rel h1 S ⟨d1, d2, nb_cs_R (fun j hj e => (d4 j hj e).2) d3, d4, fun i hi => ?_, d6, d7⟩
  rw [nb_al_n hi]
  exact d6 i hi
