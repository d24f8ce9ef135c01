/-! depth -/
section
variable {c : Nat} {cs sw pp pd pe : Int32} {K W ox oy oz nums rch D nx en fo H nt mem nm vals tr ex ey ez nty va td mt : Nat → Int32} {kd wd xo yo zo dp : Nat → Nat}
theorem ny_uX_t (post : Int32 → Prop) (hc : c ≤ 24) (hK : ∀ j, K j = nI (kd j)) {i : Nat} (hi : i < c) (k18 : kd i ≤ 18) (g : 3 ≤ kd i) (h : post 1) : wpY_usesX post ((nI c), cs, sw, pp, pd, pe, K, ex, ey, ez, W, H, nty, fo, va, nx, en, mem, nm, td, mt) (nI i) := by
  unfold wpY_usesX
  refine ⟨vp_in_nI (by omega) (by omega), ?_⟩
  rw [nI_clamp (by omega), hK]
  exact br_f (nI_nlt (b := 3) g (by omega)) h
theorem ny_uX_f (post : Int32 → Prop) (hc : c ≤ 24) (hK : ∀ j, K j = nI (kd j)) {i : Nat} (hi : i < c) (g : ¬ 3 ≤ kd i) (h : post 0) : wpY_usesX post ((nI c), cs, sw, pp, pd, pe, K, ex, ey, ez, W, H, nty, fo, va, nx, en, mem, nm, td, mt) (nI i) := by
  unfold wpY_usesX
  refine ⟨vp_in_nI (by omega) (by omega), ?_⟩
  rw [nI_clamp (by omega), hK]
  exact br_t (nI_lt (b := 3) (by omega) (by omega)) h
theorem ny_uY_t (post : Int32 → Prop) (hc : c ≤ 24) (hK : ∀ j, K j = nI (kd j)) {i : Nat} (hi : i < c) (g : 4 ≤ kd i ∧ kd i ≤ 15) (h : post 1) : wpY_usesY post ((nI c), cs, sw, pp, pd, pe, K, ex, ey, ez, W, H, nty, fo, va, nx, en, mem, nm, td, mt) (nI i) := by
  unfold wpY_usesY
  have x1 : vp_in (nI i) 24 := vp_in_nI (by omega) (by omega)
  refine ⟨x1, ?_⟩
  rw [nI_clamp (by omega), hK]
  exact br_f (nI_nlt (b := 4) g.1 (by omega)) ⟨x1, br_f (nI_nlt (a := 15) g.2 (by omega)) h⟩
theorem ny_uY_f (post : Int32 → Prop) (hc : c ≤ 24) (hK : ∀ j, K j = nI (kd j)) {i : Nat} (hi : i < c) (k18 : kd i ≤ 18) (g : ¬ (4 ≤ kd i ∧ kd i ≤ 15)) (h : post 0) : wpY_usesY post ((nI c), cs, sw, pp, pd, pe, K, ex, ey, ez, W, H, nty, fo, va, nx, en, mem, nm, td, mt) (nI i) := by
  unfold wpY_usesY
  have x1 : vp_in (nI i) 24 := vp_in_nI (by omega) (by omega)
  refine ⟨x1, ?_⟩
  rw [nI_clamp (by omega), hK]
  by_cases q : 4 ≤ kd i
  · exact br_f (nI_nlt (b := 4) q (by omega)) ⟨x1, br_t (nI_lt (a := 15) (by omega) (by omega)) h⟩
  · exact br_t (nI_lt (b := 4) (by omega) (by omega)) h
theorem nb_mx_le {a b n : Nat} (ha : a ≤ n) (hb : b ≤ n) : nb_mx a b ≤ n := by
  unfold nb_mx
  by_cases h : b ≤ a
  · rw [if_pos h]; exact ha
  · rw [if_neg h]; exact hb
theorem ny_dep (post : Int32 → SY → Prop) (S : nb_S c K W ox oy oz nums rch D ex ey ez kd wd xo yo zo dp) {s : Nat} (hs : s < c) (hp : ∀ td', post (nI (dp s)) ((nI c), cs, sw, pp, pd, pe, K, ex, ey, ez, W, H, nty, fo, va, nx, en, mem, nm, td', mt)) : ∃ n, wY_depth_12 post (nI s) (nI c) cs sw pp pd pe n 0 K ex ey ez W H nty fo va nx en mem nm td mt := by
  obtain ⟨hc, hK, hW, hx, hy, hz, hD, ok, ye, _, _, dq⟩ := S
  have key : ∀ n i td, i ≤ s + 1 → s + 1 < i + n → (∀ j, j < i → td j = nI (dp j)) → wY_depth_12 post (nI s) (nI c) cs sw pp pd pe n (nI i) K ex ey ez W H nty fo va nx en mem nm td mt := by
    intro n
    induction n with
    | zero => intro i td h1 h2; omega
    | succ n ih =>
      intro i td h1 h2 ht
      by_cases hi : i ≤ s
      · have hic : i < c := by omega
        have x1 : vp_in (nI i) 24 := vp_in_nI (by omega) (by omega)
        have x2 : (nI i).toNatClampNeg = i := nI_clamp (by omega)
        obtain ⟨k18, _, _, x0, y0, z0, a1, a2, a3, _⟩ := ok i hic
        obtain ⟨ye1, ye2, ye3, _⟩ := ye i hic
        have dx := (dq (xo i) (by omega)).2
        have dy := (dq (yo i) (by omega)).2
        have dz := (dq (zo i) (by omega)).2
        have di := (dq i hic).1
        have fin : ∀ v, v = nI (dp i) → wY_depth_12 post (nI s) (nI c) cs sw pp pd pe n (nI (i + 1)) K ex ey ez W H nty fo va nx en mem nm (upd td i v) mt := fun v e => by
          refine ih (i + 1) _ (by omega) (by omega) (fun j hj => ?_)
          by_cases q : j = i
          · subst q; rw [pk_us]; exact e
          · rw [pk_un q]; exact ht j (by omega)
        have n12 : kd i ≠ 12 → ¬ K i = 12 := fun h => by rw [hK]; exact fun q => h ((nI_eq (b := 12) (by omega) (by omega)).mp q)
        refine br_f (nI_nlt hi (by omega)) ?_
        by_cases g3 : 3 ≤ kd i
        · have hxi := a1 g3
          refine ny_uX_t _ hc hK hic k18 g3 (br_f (by decide) ⟨x1, ?_⟩)
          have st112 : ∀ m, m + 1 = dp i → wY_depth_112 post (wY_depth_12 post (nI s) (nI c) cs sw pp pd pe n) (nI s) (nI i) (nI m) (nI c) cs sw pp pd pe K ex ey ez W H nty fo va nx en mem nm td mt := fun m e => by
            unfold wY_depth_112
            refine ny_uX_t _ hc hK hic k18 g3 (br_f (by decide) ⟨x1, nm_e (nm_r (nI_1 i) ?_)⟩)
            rw [x2]
            exact fin _ (by rw [nI_1, e])
          have st74 : ∀ m, m ≤ 24 → (if kd i = 12 then nb_mx m (dp (zo i)) else m) + 1 = dp i → wY_depth_74 post (wY_depth_12 post (nI s) (nI c) cs sw pp pd pe n) (nI s) (nI i) (nI m) (nI c) cs sw pp pd pe K ex ey ez W H nty fo va nx en mem nm td mt := fun m hm e => by
            unfold wY_depth_74
            refine ⟨x1, ?_⟩
            rw [x2]
            by_cases g12 : kd i = 12
            · have vz : vp_in (ez i) 24 := by rw [ye3 g12]; exact vp_in_nI (by omega) (by omega)
              have cz : (ez i).toNatClampNeg = zo i := by rw [ye3 g12]; exact nI_clamp (by omega)
              have hzi := a3 g12
              rw [if_pos g12] at e
              unfold nb_mx at e
              refine br_t (by rw [hK, g12]; rfl) ⟨x1, vz, ?_⟩
              rw [cz, ht (zo i) hzi]
              by_cases q : dp (zo i) ≤ m
              · rw [if_pos q] at e
                exact br_t (nI_le q (by omega)) (st112 m e)
              · rw [if_neg q] at e
                exact br_f (fun w => q ((nI_leI (by omega) (by omega)).mp w)) ⟨x1, vz, nm_e (st112 _ e)⟩
            · rw [if_neg g12] at e
              exact br_f (n12 g12) (st112 m e)
          have st39 : ∀ m, m ≤ 24 → (if kd i = 12 then nb_mx (if 4 ≤ kd i ∧ kd i ≤ 15 then nb_mx m (dp (yo i)) else m) (dp (zo i)) else (if 4 ≤ kd i ∧ kd i ≤ 15 then nb_mx m (dp (yo i)) else m)) + 1 = dp i → wY_depth_39 post (wY_depth_12 post (nI s) (nI c) cs sw pp pd pe n) (nI s) (nI i) (nI m) (nI c) cs sw pp pd pe K ex ey ez W H nty fo va nx en mem nm td mt := fun m hm e => by
            unfold wY_depth_39
            by_cases g4 : 4 ≤ kd i ∧ kd i ≤ 15
            · have vy : vp_in (ey i) 24 := by rw [ye2 g4.1 g4.2]; exact vp_in_nI (by omega) (by omega)
              have cy : (ey i).toNatClampNeg = yo i := by rw [ye2 g4.1 g4.2]; exact nI_clamp (by omega)
              have hyi := a2 g4.1 g4.2
              rw [if_pos g4] at e
              refine ny_uY_t _ hc hK hic g4 (br_f (by decide) ⟨x1, ?_⟩)
              rw [x2]
              refine ⟨vy, ?_⟩
              rw [cy, ht (yo i) hyi]
              by_cases q : dp (yo i) ≤ m
              · rw [show nb_mx m (dp (yo i)) = m from if_pos q] at e
                exact br_t (nI_le q (by omega)) (st74 m hm e)
              · rw [show nb_mx m (dp (yo i)) = dp (yo i) from if_neg q] at e
                exact br_f (fun w => q ((nI_leI (by omega) (by omega)).mp w)) ⟨x1, vy, nm_e (st74 _ (by omega) e)⟩
            · rw [if_neg g4] at e
              exact ny_uY_f _ hc hK hic k18 g4 (br_t rfl (st74 m hm e))
          have vx : vp_in (ex i) 24 := by rw [ye1 g3]; exact vp_in_nI (by omega) (by omega)
          have cx : (ex i).toNatClampNeg = xo i := by rw [ye1 g3]; exact nI_clamp (by omega)
          rw [x2]
          refine ⟨vx, ?_⟩
          rw [cx, ht (xo i) hxi]
          refine nm_e (st39 _ (by omega) ?_)
          rw [nb_dv, if_neg (by omega)] at di
          exact di.symm
        · refine ny_uX_f _ hc hK hic g3 (br_t rfl ?_)
          unfold wY_depth_39
          refine ny_uY_f _ hc hK hic k18 (by omega) (br_t rfl ?_)
          unfold wY_depth_74
          refine ⟨x1, ?_⟩
          rw [x2]
          refine br_f (n12 (by omega)) ?_
          unfold wY_depth_112
          refine ny_uX_f _ hc hK hic g3 (br_t rfl ⟨x1, nm_e (nm_r (nI_1 i) ?_)⟩)
          rw [x2]
          rw [nb_dv, if_pos (by omega)] at di
          exact fin _ (by rw [di]; rfl)
      · have : i = s + 1 := by omega
        subst this
        refine br_t (nI_lt (by omega) (by omega)) ⟨vp_in_nI (by omega) (by omega), ?_⟩
        rw [nI_clamp (by omega), ht s (by omega)]
        exact hp td
  exact ⟨s + 3, key (s + 3) 0 td (by omega) (by omega) (fun j hj => absurd hj (Nat.not_lt_zero j))⟩
end
theorem i_vc_depth {k : Nat} {u : SX} {v : SY} (I : i_Rel k u v) (hk : k + 5 ≤ 2560) (v1 : Int32) : wpX_depth (fun r => wpY_depth (fun r' v' => r' = r ∧ i_Rel (k + 5) u v') v v1) u v1 := by
  obtain ⟨c, cs, sw, pp, pd, pe, K, W, ox, oy, oz, nums, rch, D, nx, en, fo, H, nt, mem, nm, vals, tr, ex, ey, ez, nty, va, td, mt, kd, wd, xo, yo, zo, dp, rfl, rfl, h1, S, Dy⟩ := I
  have hc := S.1
  have hD := S.2.2.2.2.2.2.1
  unfold wpX_depth
  by_cases q : nb_sg c v1
  · obtain ⟨s, hs, rfl⟩ := q
    refine nx_isS_t _ hc hs (br_f (by decide) ⟨vp_in_nI (by omega) (by omega), ?_⟩)
    rw [nI_clamp (by omega), hD]
    unfold wpY_depth
    refine ny_isS_t _ hc hs (br_f (by decide) ?_)
    exact ny_dep _ S hs (fun td' => ⟨rfl, nb_rel h1 S Dy⟩)
  · refine nx_isS_f _ hc q (br_t rfl ?_)
    unfold wpY_depth
    exact ny_isS_f _ hc q (br_t rfl ⟨rfl, nb_rel h1 S Dy⟩)
