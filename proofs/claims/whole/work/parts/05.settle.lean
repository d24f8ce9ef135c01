/-! settle and work: the values are a solution -/
section
variable {c : Nat} {cs sw pp pd pe : Int32} {K W ox oy oz nums rch D nx en fo H nt mem nm vals tr ex ey ez nty va td mt : Nat → Int32} {kd wd xo yo zo dp : Nat → Nat}
theorem nx_wo (post : Int32 → Prop) (hc : c ≤ 24) (hK : ∀ j, K j = nI (kd j)) (hW : ∀ j, W j = nI (wd j)) (hx : ∀ j, ox j = nI (xo j)) (hy : ∀ j, oy j = nI (yo j)) (hz : ∀ j, oz j = nI (zo j)) (ok : ∀ j, j < c → nb_ok kd wd xo yo zo nums j) {i : Nat} (hi : i < c) (h0 : kd i ≠ 0) (h2 : kd i ≠ 2)
    (h : post (nb_wX (kd i) (wd i) (wd (yo i)) (nums i) mem (vals (xo i)) (vals (yo i)) (vals (zo i)))) : wpX_workOut post ((nI c), cs, sw, pp, pd, pe, K, W, ox, oy, oz, nums, rch, D, nx, en, fo, H, nt, mem, nm, vals, tr) (nI i) := by
  obtain ⟨k18, w1, w7, x0, y0, z0, _⟩ := ok i hi
  have x1 : vp_in (nI i) 24 := vp_in_nI (by omega) (by omega)
  have x2 : (nI i).toNatClampNeg = i := nI_clamp (by omega)
  have a1 : vp_in (ox i) 24 := by rw [hx]; exact vp_in_nI (by omega) (by omega)
  have a2 : (ox i).toNatClampNeg = xo i := by rw [hx]; exact nI_clamp (by omega)
  have b1 : vp_in (oy i) 24 := by rw [hy]; exact vp_in_nI (by omega) (by omega)
  have b2 : (oy i).toNatClampNeg = yo i := by rw [hy]; exact nI_clamp (by omega)
  have c1 : vp_in (oz i) 24 := by rw [hz]; exact vp_in_nI (by omega) (by omega)
  have c2 : (oz i).toNatClampNeg = zo i := by rw [hz]; exact nI_clamp (by omega)
  have m : ((1 : Int32) <<< (W i &&& 31)) - 1 = nb_m (wd i) := by rw [hW]; rfl
  have wy : W (yo i) = nI (wd (yo i)) := hW _
  have kk : K i = nI (kd i) := hK i
  unfold wpX_workOut
  simp only [x1, x2, a1, a2, b1, b2, c1, c2, m, wy, true_and, forall_eq]
  generalize vals (xo i) = x at *
  generalize vals (yo i) = y at *
  generalize vals (zo i) = z at *
  generalize kd i = k at *
  match k, k18, h0, h2, kk, h with
  | 0, _, h0, _, _, _ => exact absurd rfl h0
  | 2, _, _, h2, _, _ => exact absurd rfl h2
  | n + 19, k18, _, _, _, _ => exact absurd k18 (by omega)
  | 1, _, _, _, kk, h =>
    have e : K i = 1 := kk
    rw [e]
    exact br_f (by decide) (br_f (by decide) (br_t rfl h))
  | 3, _, _, _, kk, h =>
    have e : K i = 3 := kk
    rw [e]
    exact br_f (by decide) (br_f (by decide) (br_f (by decide) (br_f (by decide) (br_t rfl h))))
  | 4, _, _, _, kk, h =>
    have e : K i = 4 := kk
    rw [e]
    exact br_f (by decide) (br_f (by decide) (br_f (by decide) (br_f (by decide) (br_f (by decide) (br_t rfl h)))))
  | 5, _, _, _, kk, h =>
    have e : K i = 5 := kk
    rw [e]
    exact br_f (by decide) (br_f (by decide) (br_f (by decide) (br_f (by decide) (br_f (by decide) (br_f (by decide) (br_t rfl h))))))
  | 6, _, _, _, kk, h =>
    have e : K i = 6 := kk
    rw [e]
    exact br_f (by decide) (br_f (by decide) (br_f (by decide) (br_f (by decide) (br_f (by decide) (br_f (by decide) (br_f (by decide) (br_t rfl h)))))))
  | 7, _, _, _, kk, h =>
    have e : K i = 7 := kk
    rw [e]
    exact br_f (by decide) (br_f (by decide) (br_f (by decide) (br_f (by decide) (br_f (by decide) (br_f (by decide) (br_f (by decide) (br_f (by decide) (br_t rfl h))))))))
  | 8, _, _, _, kk, h =>
    have e : K i = 8 := kk
    rw [e]
    exact br_f (by decide) (br_f (by decide) (br_f (by decide) (br_f (by decide) (br_f (by decide) (br_f (by decide) (br_f (by decide) (br_f (by decide) (br_f (by decide) (br_t rfl h)))))))))
  | 9, _, _, _, kk, h =>
    have e : K i = 9 := kk
    rw [e]
    exact br_f (by decide) (br_f (by decide) (br_f (by decide) (br_f (by decide) (br_f (by decide) (br_f (by decide) (br_f (by decide) (br_f (by decide) (br_f (by decide) (br_f (by decide) (br_t rfl h))))))))))
  | 10, _, _, _, kk, h =>
    have e : K i = 10 := kk
    rw [e]
    have h' : post (if x < y then 1 else 0) := h
    refine br_f (by decide) (br_f (by decide) (br_f (by decide) (br_f (by decide) (br_f (by decide) (br_f (by decide) (br_f (by decide) (br_f (by decide) (br_f (by decide) (br_f (by decide) (br_f (by decide) (br_t rfl ?_)))))))))))
    by_cases q : y ≤ x
    · rw [if_neg (Int32.not_lt.mpr q)] at h'; exact br_t q h'
    · rw [if_pos (Int32.not_le.mp q)] at h'; exact br_f q h'
  | 11, _, _, _, kk, h =>
    have e : K i = 11 := kk
    rw [e]
    have h' : post (if x = y then 1 else 0) := h
    refine br_f (by decide) (br_f (by decide) (br_f (by decide) (br_f (by decide) (br_f (by decide) (br_f (by decide) (br_f (by decide) (br_f (by decide) (br_f (by decide) (br_f (by decide) (br_f (by decide) (br_f (by decide) (br_t rfl ?_))))))))))))
    by_cases q : x = y
    · rw [if_pos q] at h'; exact br_t q h'
    · rw [if_neg q] at h'; exact br_f q h'
  | 12, _, _, _, kk, h =>
    have e : K i = 12 := kk
    rw [e]
    have h' : post (if x = 1 then y else z) := h
    refine br_f (by decide) (br_f (by decide) (br_f (by decide) (br_f (by decide) (br_f (by decide) (br_f (by decide) (br_f (by decide) (br_f (by decide) (br_f (by decide) (br_f (by decide) (br_f (by decide) (br_f (by decide) (br_f (by decide) (br_t rfl ?_)))))))))))))
    by_cases q : x = 1
    · rw [if_pos q] at h'; exact br_t q h'
    · rw [if_neg q] at h'; exact br_f q h'
  | 13, _, _, _, kk, h =>
    have e : K i = 13 := kk
    rw [e]
    exact br_f (by decide) (br_f (by decide) (br_f (by decide) (br_f (by decide) (br_f (by decide) (br_f (by decide) (br_f (by decide) (br_f (by decide) (br_f (by decide) (br_f (by decide) (br_f (by decide) (br_f (by decide) (br_f (by decide) (br_f (by decide) (br_t rfl h))))))))))))))
  | 14, _, _, _, kk, h =>
    have e : K i = 14 := kk
    rw [e]
    exact br_f (by decide) (br_f (by decide) (br_f (by decide) (br_f (by decide) (br_f (by decide) (br_f (by decide) (br_f (by decide) (br_f (by decide) (br_f (by decide) (br_f (by decide) (br_f (by decide) (br_f (by decide) (br_f (by decide) (br_f (by decide) (br_f (by decide) (br_t rfl h)))))))))))))))
  | 15, _, _, _, kk, h =>
    have e : K i = 15 := kk
    rw [e]
    exact br_f (by decide) (br_f (by decide) (br_f (by decide) (br_f (by decide) (br_f (by decide) (br_f (by decide) (br_f (by decide) (br_f (by decide) (br_f (by decide) (br_f (by decide) (br_f (by decide) (br_f (by decide) (br_f (by decide) (br_f (by decide) (br_f (by decide) (br_f (by decide) (br_t rfl h))))))))))))))))
  | 16, _, _, _, kk, h =>
    have e : K i = 16 := kk
    rw [e]
    exact br_f (by decide) (br_f (by decide) (br_f (by decide) (br_f (by decide) (br_f (by decide) (br_f (by decide) (br_f (by decide) (br_f (by decide) (br_f (by decide) (br_f (by decide) (br_f (by decide) (br_f (by decide) (br_f (by decide) (br_f (by decide) (br_f (by decide) (br_f (by decide) (br_f (by decide) (br_t rfl h)))))))))))))))))
  | 17, _, _, _, kk, h =>
    have e : K i = 17 := kk
    rw [e]
    exact br_f (by decide) (br_f (by decide) (br_f (by decide) (br_f (by decide) (br_f (by decide) (br_f (by decide) (br_f (by decide) (br_f (by decide) (br_f (by decide) (br_f (by decide) (br_f (by decide) (br_f (by decide) (br_f (by decide) (br_f (by decide) (br_f (by decide) (br_f (by decide) (br_f (by decide) (br_f (by decide) (br_t rfl (nx_ones _ _ h)))))))))))))))))))
  | 18, _, _, _, kk, h =>
    have e : K i = 18 := kk
    rw [e]
    exact br_f (by decide) (br_f (by decide) (br_f (by decide) (br_f (by decide) (br_f (by decide) (br_f (by decide) (br_f (by decide) (br_f (by decide) (br_f (by decide) (br_f (by decide) (br_f (by decide) (br_f (by decide) (br_f (by decide) (br_f (by decide) (br_f (by decide) (br_f (by decide) (br_f (by decide) (br_f (by decide) (br_f (by decide) (br_t rfl ⟨pk_andIn x (m := 3) 2 (by decide) (by decide), h⟩)))))))))))))))))))
theorem nx_set_held (post : SX → Prop) (hc : c ≤ 24) (hK : ∀ j, K j = nI (kd j)) (hW : ∀ j, W j = nI (wd j)) (hx : ∀ j, ox j = nI (xo j)) (hy : ∀ j, oy j = nI (yo j)) (hz : ∀ j, oz j = nI (zo j)) (ok : ∀ j, j < c → nb_ok kd wd xo yo zo nums j)
    (hp : ∀ V, nb_Sol (nb_FX kd wd xo yo zo nums fo mem H) c V → post ((nI c), cs, sw, pp, pd, pe, K, W, ox, oy, oz, nums, rch, D, nx, en, fo, H, nt, mem, nm, V, tr)) : wpX_settle__held post ((nI c), cs, sw, pp, pd, pe, K, W, ox, oy, oz, nums, rch, D, nx, en, fo, H, nt, mem, nm, vals, tr) := by
  have key : ∀ n i vals, i ≤ c → c < i + n → nb_Sol (nb_FX kd wd xo yo zo nums fo mem H) i vals → wX_settle__held_2 post (nI c) cs sw pp pd pe n (nI i) K W ox oy oz nums rch D nx en fo H nt mem nm vals tr := by
    intro n
    induction n with
    | zero => intro i vals h1 h2; omega
    | succ n ih =>
      intro i vals h1 h2 hs
      by_cases hi : i < c
      · have x1 : vp_in (nI i) 24 := vp_in_nI (by omega) (by omega)
        have x2 : (nI i).toNatClampNeg = i := nI_clamp (by omega)
        have k18 := (ok i hi).1
        have nxt : ∀ v, v = nb_FX kd wd xo yo zo nums fo mem H vals i → wX_settle__held_2 post (nI c) cs sw pp pd pe n (nI (i + 1)) K W ox oy oz nums rch D nx en fo H nt mem nm (upd vals i v) tr := fun v e => ih (i + 1) _ (by omega) (by omega) (e ▸ nb_sol_step (nb_locX ok) hi hs)
        refine br_f (nI_ge hi (by omega)) ⟨x1, ?_⟩
        rw [x2]
        by_cases hf : fo i = -1
        · refine br_t hf ⟨x1, ?_⟩
          by_cases k0 : kd i = 0
          · have e : K i = 0 := by rw [hK, k0]; rfl
            refine br_t e ⟨x1, x1, ?_⟩
            refine nm_e (nm_r (nI_1 i) ?_)
            rw [x2]
            exact nxt _ (by rw [nb_FX, if_pos hf, if_pos (Or.inl k0)])
          · have e : ¬ K i = 0 := by rw [hK]; exact fun q => k0 ((nI_eq (b := 0) (by omega) (by omega)).mp q)
            refine br_f e ⟨x1, ?_⟩
            by_cases k2 : kd i = 2
            · have e2 : K i = 2 := by rw [hK, k2]; rfl
              refine br_t e2 ⟨x1, x1, ?_⟩
              refine nm_e (nm_r (nI_1 i) ?_)
              rw [x2]
              exact nxt _ (by rw [nb_FX, if_pos hf, if_pos (Or.inr k2)])
            · have e2 : ¬ K i = 2 := by rw [hK]; exact fun q => k2 ((nI_eq (b := 2) (by omega) (by omega)).mp q)
              refine br_f e2 ?_
              refine nx_wo _ hc hK hW hx hy hz ok hi k0 k2 ⟨x1, nm_e (nm_r (nI_1 i) ?_)⟩
              exact nxt _ (by rw [nb_FX, if_pos hf, if_neg (by omega)])
        · refine br_f hf ⟨x1, x1, nm_e (nm_r (nI_1 i) ?_)⟩
          exact nxt _ (by rw [nb_FX, if_neg hf])
      · have : i = c := by omega
        subst this
        exact br_t (nI_le (Nat.le_refl _) (by omega)) (hp vals hs)
  exact ⟨c + 1, key (c + 1) 0 vals (by omega) (by omega) (fun j hj => absurd hj (Nat.not_lt_zero j))⟩
theorem nx_set_trial (post : SX → Prop) (hc : c ≤ 24) (hK : ∀ j, K j = nI (kd j)) (hW : ∀ j, W j = nI (wd j)) (hx : ∀ j, ox j = nI (xo j)) (hy : ∀ j, oy j = nI (yo j)) (hz : ∀ j, oz j = nI (zo j)) (ok : ∀ j, j < c → nb_ok kd wd xo yo zo nums j)
    (hp : ∀ V, nb_Sol (nb_FX kd wd xo yo zo nums fo mem tr) c V → post ((nI c), cs, sw, pp, pd, pe, K, W, ox, oy, oz, nums, rch, D, nx, en, fo, H, nt, mem, nm, V, tr)) : wpX_settle__trial post ((nI c), cs, sw, pp, pd, pe, K, W, ox, oy, oz, nums, rch, D, nx, en, fo, H, nt, mem, nm, vals, tr) := by
  have key : ∀ n i vals, i ≤ c → c < i + n → nb_Sol (nb_FX kd wd xo yo zo nums fo mem tr) i vals → wX_settle__trial_2 post (nI c) cs sw pp pd pe n (nI i) K W ox oy oz nums rch D nx en fo H nt mem nm vals tr := by
    intro n
    induction n with
    | zero => intro i vals h1 h2; omega
    | succ n ih =>
      intro i vals h1 h2 hs
      by_cases hi : i < c
      · have x1 : vp_in (nI i) 24 := vp_in_nI (by omega) (by omega)
        have x2 : (nI i).toNatClampNeg = i := nI_clamp (by omega)
        have k18 := (ok i hi).1
        have nxt : ∀ v, v = nb_FX kd wd xo yo zo nums fo mem tr vals i → wX_settle__trial_2 post (nI c) cs sw pp pd pe n (nI (i + 1)) K W ox oy oz nums rch D nx en fo H nt mem nm (upd vals i v) tr := fun v e => ih (i + 1) _ (by omega) (by omega) (e ▸ nb_sol_step (nb_locX ok) hi hs)
        refine br_f (nI_ge hi (by omega)) ⟨x1, ?_⟩
        rw [x2]
        by_cases hf : fo i = -1
        · refine br_t hf ⟨x1, ?_⟩
          by_cases k0 : kd i = 0
          · have e : K i = 0 := by rw [hK, k0]; rfl
            refine br_t e ⟨x1, x1, ?_⟩
            refine nm_e (nm_r (nI_1 i) ?_)
            rw [x2]
            exact nxt _ (by rw [nb_FX, if_pos hf, if_pos (Or.inl k0)])
          · have e : ¬ K i = 0 := by rw [hK]; exact fun q => k0 ((nI_eq (b := 0) (by omega) (by omega)).mp q)
            refine br_f e ⟨x1, ?_⟩
            by_cases k2 : kd i = 2
            · have e2 : K i = 2 := by rw [hK, k2]; rfl
              refine br_t e2 ⟨x1, x1, ?_⟩
              refine nm_e (nm_r (nI_1 i) ?_)
              rw [x2]
              exact nxt _ (by rw [nb_FX, if_pos hf, if_pos (Or.inr k2)])
            · have e2 : ¬ K i = 2 := by rw [hK]; exact fun q => k2 ((nI_eq (b := 2) (by omega) (by omega)).mp q)
              refine br_f e2 ?_
              refine nx_wo _ hc hK hW hx hy hz ok hi k0 k2 ⟨x1, nm_e (nm_r (nI_1 i) ?_)⟩
              exact nxt _ (by rw [nb_FX, if_pos hf, if_neg (by omega)])
        · refine br_f hf ⟨x1, x1, nm_e (nm_r (nI_1 i) ?_)⟩
          exact nxt _ (by rw [nb_FX, if_neg hf])
      · have : i = c := by omega
        subst this
        exact br_t (nI_le (Nat.le_refl _) (by omega)) (hp vals hs)
  exact ⟨c + 1, key (c + 1) 0 vals (by omega) (by omega) (fun j hj => absurd hj (Nat.not_lt_zero j))⟩
/-- what the reference keeps of a signal's operands -/
def nb_ye (kd xo yo zo : Nat → Nat) (nums ex ey ez : Nat → Int32) (j : Nat) : Prop :=
  (3 ≤ kd j → ex j = nI (xo j)) ∧ (4 ≤ kd j → kd j ≤ 15 → ey j = nI (yo j)) ∧ (kd j = 12 → ez j = nI (zo j)) ∧ (kd j = 1 ∨ kd j = 2 ∨ kd j = 16 → ey j = nums j)
theorem ny_wo (post : Int32 → Prop) (hc : c ≤ 24) (hK : ∀ j, K j = nI (kd j)) (hW : ∀ j, W j = nI (wd j)) (ok : ∀ j, j < c → nb_ok kd wd xo yo zo nums j) (ye : ∀ j, j < c → nb_ye kd xo yo zo nums ex ey ez j) {i : Nat} (hi : i < c) (h0 : kd i ≠ 0) (h2 : kd i ≠ 2)
    (h : post (nb_wY (kd i) (wd (yo i)) (nums i) mem (va (xo i)) (va (yo i)) (va (zo i)))) : wpY_worked post ((nI c), cs, sw, pp, pd, pe, K, ex, ey, ez, W, H, nty, fo, va, nx, en, mem, nm, td, mt) (nI i) := by
  obtain ⟨k18, w1, w7, x0, y0, z0, _⟩ := ok i hi
  obtain ⟨ye1, ye2, ye3, ye4⟩ := ye i hi
  have x1 : vp_in (nI i) 24 := vp_in_nI (by omega) (by omega)
  have x2 : (nI i).toNatClampNeg = i := nI_clamp (by omega)
  have wy : W (yo i) = nI (wd (yo i)) := hW _
  have vx : vp_in (nI (xo i)) 24 := vp_in_nI (by omega) (by omega)
  have vy : vp_in (nI (yo i)) 24 := vp_in_nI (by omega) (by omega)
  have vz : vp_in (nI (zo i)) 24 := vp_in_nI (by omega) (by omega)
  have cx : (nI (xo i)).toNatClampNeg = xo i := nI_clamp (by omega)
  have cy : (nI (yo i)).toNatClampNeg = yo i := nI_clamp (by omega)
  have cz : (nI (zo i)).toNatClampNeg = zo i := nI_clamp (by omega)
  have kk : K i = nI (kd i) := hK i
  unfold wpY_worked
  simp only [x1, x2, true_and, forall_eq]
  generalize kd i = k at *
  match k, k18, h0, h2, kk, h, ye1, ye2, ye3, ye4 with
  | 0, _, h0, _, _, _, _, _, _, _ => exact absurd rfl h0
  | 2, _, _, h2, _, _, _, _, _, _ => exact absurd rfl h2
  | n + 19, k18, _, _, _, _, _, _, _, _ => exact absurd k18 (by omega)
  | 1, _, _, _, kk, h, ye1, ye2, ye3, ye4 =>
    have e : K i = 1 := kk
    rw [e, ye4 (by decide)]
    exact br_t rfl h
  | 3, _, _, _, kk, h, ye1, ye2, ye3, ye4 =>
    have e : K i = 3 := kk
    rw [e, ye1 (by decide), cx]
    exact br_f (by decide) ⟨vx, br_t rfl h⟩
  | 4, _, _, _, kk, h, ye1, ye2, ye3, ye4 =>
    have e : K i = 4 := kk
    rw [e, ye1 (by decide), cx, ye2 (by decide) (by decide), cy]
    refine br_f (by decide) ⟨vx, br_f (by decide) (br_f (by decide) (br_f (by decide) (br_f (by decide) ⟨vy, br_f (by decide) (br_f (by decide) ?_)⟩)))⟩
    unfold wpY_joined
    exact br_t rfl h
  | 5, _, _, _, kk, h, ye1, ye2, ye3, ye4 =>
    have e : K i = 5 := kk
    rw [e, ye1 (by decide), cx, ye2 (by decide) (by decide), cy]
    refine br_f (by decide) ⟨vx, br_f (by decide) (br_f (by decide) (br_f (by decide) (br_f (by decide) ⟨vy, br_f (by decide) (br_f (by decide) ?_)⟩)))⟩
    unfold wpY_joined
    exact br_f (by decide) (br_t rfl h)
  | 6, _, _, _, kk, h, ye1, ye2, ye3, ye4 =>
    have e : K i = 6 := kk
    rw [e, ye1 (by decide), cx, ye2 (by decide) (by decide), cy]
    refine br_f (by decide) ⟨vx, br_f (by decide) (br_f (by decide) (br_f (by decide) (br_f (by decide) ⟨vy, br_f (by decide) (br_f (by decide) ?_)⟩)))⟩
    unfold wpY_joined
    exact br_f (by decide) (br_f (by decide) (br_t rfl h))
  | 7, _, _, _, kk, h, ye1, ye2, ye3, ye4 =>
    have e : K i = 7 := kk
    rw [e, ye1 (by decide), cx, ye2 (by decide) (by decide), cy]
    refine br_f (by decide) ⟨vx, br_f (by decide) (br_f (by decide) (br_f (by decide) (br_f (by decide) ⟨vy, br_f (by decide) (br_f (by decide) ?_)⟩)))⟩
    unfold wpY_joined
    exact br_f (by decide) (br_f (by decide) (br_f (by decide) (br_t rfl h)))
  | 8, _, _, _, kk, h, ye1, ye2, ye3, ye4 =>
    have e : K i = 8 := kk
    rw [e, ye1 (by decide), cx, ye2 (by decide) (by decide), cy]
    refine br_f (by decide) ⟨vx, br_f (by decide) (br_f (by decide) (br_f (by decide) (br_f (by decide) ⟨vy, br_f (by decide) (br_f (by decide) ?_)⟩)))⟩
    unfold wpY_joined
    exact br_f (by decide) (br_f (by decide) (br_f (by decide) (br_f (by decide) (br_t rfl h))))
  | 9, _, _, _, kk, h, ye1, ye2, ye3, ye4 =>
    have e : K i = 9 := kk
    rw [e, ye1 (by decide), cx, ye2 (by decide) (by decide), cy]
    refine br_f (by decide) ⟨vx, br_f (by decide) (br_f (by decide) (br_f (by decide) (br_f (by decide) ⟨vy, br_f (by decide) (br_f (by decide) ?_)⟩)))⟩
    unfold wpY_joined
    exact br_f (by decide) (br_f (by decide) (br_f (by decide) (br_f (by decide) (br_f (by decide) (br_t rfl h)))))
  | 10, _, _, _, kk, h, ye1, ye2, ye3, ye4 =>
    have e : K i = 10 := kk
    rw [e, ye1 (by decide), cx, ye2 (by decide) (by decide), cy]
    refine br_f (by decide) ⟨vx, br_f (by decide) (br_f (by decide) (br_f (by decide) (br_f (by decide) ⟨vy, br_f (by decide) (br_f (by decide) ?_)⟩)))⟩
    unfold wpY_joined
    have h' : post (if va (xo i) < va (yo i) then 1 else 0) := h
    refine br_f (by decide) (br_f (by decide) (br_f (by decide) (br_f (by decide) (br_f (by decide) (br_f (by decide) (br_t rfl ?_))))))
    by_cases q : va (yo i) ≤ va (xo i)
    · rw [if_neg (Int32.not_lt.mpr q)] at h'; exact br_t q h'
    · rw [if_pos (Int32.not_le.mp q)] at h'; exact br_f q h'
  | 11, _, _, _, kk, h, ye1, ye2, ye3, ye4 =>
    have e : K i = 11 := kk
    rw [e, ye1 (by decide), cx, ye2 (by decide) (by decide), cy]
    refine br_f (by decide) ⟨vx, br_f (by decide) (br_f (by decide) (br_f (by decide) (br_f (by decide) ⟨vy, br_f (by decide) (br_f (by decide) ?_)⟩)))⟩
    unfold wpY_joined
    have h' : post (if va (xo i) = va (yo i) then 1 else 0) := h
    refine br_f (by decide) (br_f (by decide) (br_f (by decide) (br_f (by decide) (br_f (by decide) (br_f (by decide) (br_f (by decide) (br_t rfl ?_)))))))
    by_cases q : va (xo i) = va (yo i)
    · rw [if_pos q] at h'; exact br_t q h'
    · rw [if_neg q] at h'; exact br_f q h'
  | 12, _, _, _, kk, h, ye1, ye2, ye3, ye4 =>
    have e : K i = 12 := kk
    rw [e, ye1 (by decide), cx, ye2 (by decide) (by decide), cy, ye3 rfl, cz]
    have h' : post (if va (xo i) = 1 then va (yo i) else va (zo i)) := h
    refine br_f (by decide) ⟨vx, br_f (by decide) (br_f (by decide) (br_f (by decide) (br_f (by decide) ⟨vy, br_t rfl ?_⟩)))⟩
    by_cases q : va (xo i) = 1
    · rw [if_pos q] at h'; exact br_t q h'
    · rw [if_neg q] at h'; exact br_f q ⟨vz, h'⟩
  | 13, _, _, _, kk, h, ye1, ye2, ye3, ye4 =>
    have e : K i = 13 := kk
    rw [e, ye1 (by decide), cx, ye2 (by decide) (by decide), cy]
    refine br_f (by decide) ⟨vx, br_f (by decide) (br_f (by decide) (br_f (by decide) (br_f (by decide) ⟨vy, br_f (by decide) (br_f (by decide) ?_)⟩)))⟩
    unfold wpY_joined
    exact br_f (by decide) (br_f (by decide) (br_f (by decide) (br_f (by decide) (br_f (by decide) (br_f (by decide) (br_f (by decide) (br_f (by decide) (br_t rfl h))))))))
  | 14, _, _, _, kk, h, ye1, ye2, ye3, ye4 =>
    have e : K i = 14 := kk
    rw [e, ye1 (by decide), cx, ye2 (by decide) (by decide), cy]
    refine br_f (by decide) ⟨vx, br_f (by decide) (br_f (by decide) (br_f (by decide) (br_f (by decide) ⟨vy, br_f (by decide) (br_f (by decide) ?_)⟩)))⟩
    unfold wpY_joined
    exact br_f (by decide) (br_f (by decide) (br_f (by decide) (br_f (by decide) (br_f (by decide) (br_f (by decide) (br_f (by decide) (br_f (by decide) (br_f (by decide) (h)))))))))
  | 15, _, _, _, kk, h, ye1, ye2, ye3, ye4 =>
    have e : K i = 15 := kk
    rw [e, ye1 (by decide), cx, ye2 (by decide) (by decide), cy, wy]
    exact br_f (by decide) ⟨vx, br_f (by decide) (br_f (by decide) (br_f (by decide) (br_f (by decide) ⟨vy, br_f (by decide) (br_t rfl ⟨vy, h⟩)⟩)))⟩
  | 16, _, _, _, kk, h, ye1, ye2, ye3, ye4 =>
    have e : K i = 16 := kk
    rw [e, ye1 (by decide), cx, ye4 (by decide)]
    exact br_f (by decide) ⟨vx, br_f (by decide) (br_t rfl h)⟩
  | 17, _, _, _, kk, h, ye1, ye2, ye3, ye4 =>
    have e : K i = 17 := kk
    rw [e, ye1 (by decide), cx]
    exact br_f (by decide) ⟨vx, br_f (by decide) (br_f (by decide) (br_t rfl (ny_ones _ _ h)))⟩
  | 18, _, _, _, kk, h, ye1, ye2, ye3, ye4 =>
    have e : K i = 18 := kk
    rw [e, ye1 (by decide), cx]
    exact br_f (by decide) ⟨vx, br_f (by decide) (br_f (by decide) (br_f (by decide) (br_t rfl ⟨pk_andIn _ (m := 3) 2 (by decide) (by decide), h⟩)))⟩
theorem ny_work_held (post : SY → Prop) (hc : c ≤ 24) (hK : ∀ j, K j = nI (kd j)) (hW : ∀ j, W j = nI (wd j)) (ok : ∀ j, j < c → nb_ok kd wd xo yo zo nums j) (ye : ∀ j, j < c → nb_ye kd xo yo zo nums ex ey ez j) (hf0 : ∀ j, j < c → fo j = -1 ∨ nb_R (wd j) (fo j))
    (hp : ∀ V, nb_Sol (nb_FY kd wd xo yo zo nums fo mem H) c V → post ((nI c), cs, sw, pp, pd, pe, K, ex, ey, ez, W, H, nty, fo, V, nx, en, mem, nm, td, mt)) : wpY_work post ((nI c), cs, sw, pp, pd, pe, K, ex, ey, ez, W, H, nty, fo, va, nx, en, mem, nm, td, mt) 0 := by
  have key : ∀ n i va, i ≤ c → c < i + n → nb_Sol (nb_FY kd wd xo yo zo nums fo mem H) i va → wY_work_2 post 0 (nI c) cs sw pp pd pe n (nI i) K ex ey ez W H nty fo va nx en mem nm td mt := by
    intro n
    induction n with
    | zero => intro i va h1 h2; omega
    | succ n ih =>
      intro i va h1 h2 hs
      by_cases hi : i < c
      · have x1 : vp_in (nI i) 24 := vp_in_nI (by omega) (by omega)
        have x2 : (nI i).toNatClampNeg = i := nI_clamp (by omega)
        have k18 := (ok i hi).1
        have w7 := (ok i hi).2.2.1
        have m : ((1 : Int32) <<< (W i &&& 31)) - 1 = nb_m (wd i) := by rw [hW]; rfl
        have nxt : ∀ v, v &&& nb_m (wd i) = nb_FY kd wd xo yo zo nums fo mem H va i → wY_work_77 post (wY_work_2 post 0 (nI c) cs sw pp pd pe n) 0 (nI i) v (nI c) cs sw pp pd pe K ex ey ez W H nty fo va nx en mem nm td mt := fun v e => by
          refine ⟨x1, x1, nm_e (nm_r (nI_1 i) ?_)⟩
          rw [x2, m]
          exact ih (i + 1) _ (by omega) (by omega) (e ▸ nb_sol_step (nb_locY ok) hi hs)
        refine br_f (nI_ge hi (by omega)) ⟨x1, ?_⟩
        rw [x2]
        by_cases hf : fo i = -1
        · refine br_t (by rw [hf]; decide) ⟨x1, ?_⟩
          by_cases k0 : kd i = 0
          · have e : K i = 0 := by rw [hK, k0]; rfl
            refine br_t e (br_t rfl ⟨x1, ?_⟩)
            rw [x2]
            exact nxt _ (by rw [nb_FY, if_pos hf, if_pos (Or.inl k0)])
          · have e : ¬ K i = 0 := by rw [hK]; exact fun q => k0 ((nI_eq (b := 0) (by omega) (by omega)).mp q)
            refine br_f e ⟨x1, ?_⟩
            by_cases k2 : kd i = 2
            · have e2 : K i = 2 := by rw [hK, k2]; rfl
              refine br_t e2 (br_t rfl ⟨x1, ?_⟩)
              rw [x2]
              exact nxt _ (by rw [nb_FY, if_pos hf, if_pos (Or.inr k2)])
            · have e2 : ¬ K i = 2 := by rw [hK]; exact fun q => k2 ((nI_eq (b := 2) (by omega) (by omega)).mp q)
              refine br_f e2 ?_
              refine ny_wo _ hc hK hW ok ye hi k0 k2 ?_
              exact nxt _ (by rw [nb_FY, if_pos hf, if_neg (by omega)])
        · have hp0 : ¬ fo i < 0 := by
            obtain ⟨v, hv, e⟩ := (hf0 i hi).resolve_left hf
            have := nb_pw w7
            rw [e]
            exact nI_pos (by omega)
          refine br_f hp0 ⟨x1, nm_e ?_⟩
          exact nxt _ (by rw [nb_FY, if_neg hf])
      · have : i = c := by omega
        subst this
        exact br_t (nI_le (Nat.le_refl _) (by omega)) (hp va hs)
  exact ⟨c + 1, key (c + 1) 0 va (by omega) (by omega) (fun j hj => absurd hj (Nat.not_lt_zero j))⟩
theorem ny_work_tried (post : SY → Prop) (hc : c ≤ 24) (hK : ∀ j, K j = nI (kd j)) (hW : ∀ j, W j = nI (wd j)) (ok : ∀ j, j < c → nb_ok kd wd xo yo zo nums j) (ye : ∀ j, j < c → nb_ye kd xo yo zo nums ex ey ez j) (hf0 : ∀ j, j < c → fo j = -1 ∨ nb_R (wd j) (fo j))
    (hp : ∀ V, nb_Sol (nb_FY kd wd xo yo zo nums fo mem td) c V → post ((nI c), cs, sw, pp, pd, pe, K, ex, ey, ez, W, H, nty, fo, V, nx, en, mem, nm, td, mt)) : wpY_work post ((nI c), cs, sw, pp, pd, pe, K, ex, ey, ez, W, H, nty, fo, va, nx, en, mem, nm, td, mt) 1 := by
  have key : ∀ n i va, i ≤ c → c < i + n → nb_Sol (nb_FY kd wd xo yo zo nums fo mem td) i va → wY_work_2 post 1 (nI c) cs sw pp pd pe n (nI i) K ex ey ez W H nty fo va nx en mem nm td mt := by
    intro n
    induction n with
    | zero => intro i va h1 h2; omega
    | succ n ih =>
      intro i va h1 h2 hs
      by_cases hi : i < c
      · have x1 : vp_in (nI i) 24 := vp_in_nI (by omega) (by omega)
        have x2 : (nI i).toNatClampNeg = i := nI_clamp (by omega)
        have k18 := (ok i hi).1
        have w7 := (ok i hi).2.2.1
        have m : ((1 : Int32) <<< (W i &&& 31)) - 1 = nb_m (wd i) := by rw [hW]; rfl
        have nxt : ∀ v, v &&& nb_m (wd i) = nb_FY kd wd xo yo zo nums fo mem td va i → wY_work_77 post (wY_work_2 post 1 (nI c) cs sw pp pd pe n) 1 (nI i) v (nI c) cs sw pp pd pe K ex ey ez W H nty fo va nx en mem nm td mt := fun v e => by
          refine ⟨x1, x1, nm_e (nm_r (nI_1 i) ?_)⟩
          rw [x2, m]
          exact ih (i + 1) _ (by omega) (by omega) (e ▸ nb_sol_step (nb_locY ok) hi hs)
        refine br_f (nI_ge hi (by omega)) ⟨x1, ?_⟩
        rw [x2]
        by_cases hf : fo i = -1
        · refine br_t (by rw [hf]; decide) ⟨x1, ?_⟩
          by_cases k0 : kd i = 0
          · have e : K i = 0 := by rw [hK, k0]; rfl
            refine br_t e (br_f (by decide) ⟨x1, ?_⟩)
            rw [x2]
            exact nxt _ (by rw [nb_FY, if_pos hf, if_pos (Or.inl k0)])
          · have e : ¬ K i = 0 := by rw [hK]; exact fun q => k0 ((nI_eq (b := 0) (by omega) (by omega)).mp q)
            refine br_f e ⟨x1, ?_⟩
            by_cases k2 : kd i = 2
            · have e2 : K i = 2 := by rw [hK, k2]; rfl
              refine br_t e2 (br_f (by decide) ⟨x1, ?_⟩)
              rw [x2]
              exact nxt _ (by rw [nb_FY, if_pos hf, if_pos (Or.inr k2)])
            · have e2 : ¬ K i = 2 := by rw [hK]; exact fun q => k2 ((nI_eq (b := 2) (by omega) (by omega)).mp q)
              refine br_f e2 ?_
              refine ny_wo _ hc hK hW ok ye hi k0 k2 ?_
              exact nxt _ (by rw [nb_FY, if_pos hf, if_neg (by omega)])
        · have hp0 : ¬ fo i < 0 := by
            obtain ⟨v, hv, e⟩ := (hf0 i hi).resolve_left hf
            have := nb_pw w7
            rw [e]
            exact nI_pos (by omega)
          refine br_f hp0 ⟨x1, nm_e ?_⟩
          exact nxt _ (by rw [nb_FY, if_neg hf])
      · have : i = c := by omega
        subst this
        exact br_t (nI_le (Nat.le_refl _) (by omega)) (hp va hs)
  exact ⟨c + 1, key (c + 1) 0 va (by omega) (by omega) (fun j hj => absurd hj (Nat.not_lt_zero j))⟩
end
