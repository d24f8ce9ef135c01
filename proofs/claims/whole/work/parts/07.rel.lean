/-! the relation -/
def nb_mx (a b : Nat) : Nat := if b ≤ a then a else b
def nb_dv (k dx dy dz : Nat) : Nat := if k < 3 then 0 else (if k = 12 then nb_mx (if 4 ≤ k ∧ k ≤ 15 then nb_mx dx dy else dx) dz else (if 4 ≤ k ∧ k ≤ 15 then nb_mx dx dy else dx)) + 1
def nb_dq (kd xo yo zo dp : Nat → Nat) (j : Nat) : Prop := dp j = nb_dv (kd j) (dp (xo j)) (dp (yo j)) (dp (zo j)) ∧ dp j ≤ j
/-- what never changes of the signals that are there -/
def nb_S (c : Nat) (K W ox oy oz nums rch D ex ey ez : Nat → Int32) (kd wd xo yo zo dp : Nat → Nat) : Prop :=
  c ≤ 24 ∧ (∀ j, K j = nI (kd j)) ∧ (∀ j, W j = nI (wd j)) ∧ (∀ j, ox j = nI (xo j)) ∧ (∀ j, oy j = nI (yo j)) ∧ (∀ j, oz j = nI (zo j)) ∧ (∀ j, D j = nI (dp j))
    ∧ (∀ j, j < c → nb_ok kd wd xo yo zo nums j) ∧ (∀ j, j < c → nb_ye kd xo yo zo nums ex ey ez j) ∧ (∀ j, c ≤ j → xo j = 0 ∧ yo j = 0 ∧ zo j = 0 ∧ dp j = 0)
    ∧ (∀ j, j < c → nb_rq kd xo yo zo rch j) ∧ (∀ j, j < c → nb_dq kd xo yo zo dp j)
/-- what calls change -/
def nb_D (c : Nat) (kd wd : Nat → Nat) (pp pd pe : Int32) (nx en fo H nt nty mem nm : Nat → Int32) : Prop :=
  (∀ j, j < c → nb_ne c wd nx en j) ∧ (∀ j, j < c → fo j = -1 ∨ nb_R (wd j) (fo j)) ∧ (∀ j, j < c → nb_R (wd j) (H j)) ∧ (∀ j, j < c → kd j = 2 → nt j = nty j ∧ nb_R (wd j) (nt j))
    ∧ (∀ i, i < 4 → nb_R 4 (mem i)) ∧ (∀ i, i < 4 → nb_R 4 (nm i)) ∧ nb_po c wd pp pd pe
def i_Rel (k : Nat) (u : SX) (v : SY) : Prop :=
  ∃ (c : Nat) (cs sw pp pd pe : Int32) (K W ox oy oz nums rch D nx en fo H nt mem nm vals tr ex ey ez nty va td mt : Nat → Int32) (kd wd xo yo zo dp : Nat → Nat),
    u = ((nI c), cs, sw, pp, pd, pe, K, W, ox, oy, oz, nums, rch, D, nx, en, fo, H, nt, mem, nm, vals, tr) ∧ v = ((nI c), cs, sw, pp, pd, pe, K, ex, ey, ez, W, H, nty, fo, va, nx, en, mem, nm, td, mt) ∧ sw ≤ 60 ∧ nb_S c K W ox oy oz nums rch D ex ey ez kd wd xo yo zo dp ∧ nb_D c kd wd pp pd pe nx en fo H nt nty mem nm
theorem nb_rel {k c : Nat} {cs sw pp pd pe : Int32} {K W ox oy oz nums rch D nx en fo H nt mem nm vals tr ex ey ez nty va td mt : Nat → Int32} {kd wd xo yo zo dp : Nat → Nat}
    (h1 : sw ≤ 60) (h2 : nb_S c K W ox oy oz nums rch D ex ey ez kd wd xo yo zo dp) (h3 : nb_D c kd wd pp pd pe nx en fo H nt nty mem nm) : i_Rel k ((nI c), cs, sw, pp, pd, pe, K, W, ox, oy, oz, nums, rch, D, nx, en, fo, H, nt, mem, nm, vals, tr) ((nI c), cs, sw, pp, pd, pe, K, ex, ey, ez, W, H, nty, fo, va, nx, en, mem, nm, td, mt) :=
  ⟨c, cs, sw, pp, pd, pe, K, W, ox, oy, oz, nums, rch, D, nx, en, fo, H, nt, mem, nm, vals, tr, ex, ey, ez, nty, va, td, mt, kd, wd, xo, yo, zo, dp, rfl, rfl, h1, h2, h3⟩
theorem i_up {k : Nat} {u : SX} {v : SY} (h : i_Rel k u v) : i_Rel (k + 5) u v := h
theorem i_vc0 : wpX_init (fun u => wpY_init (fun v => i_Rel 0 u v)) := by
  have z : ∀ j : Nat, (fun _ : Nat => (0 : Int32)) j = nI ((fun _ : Nat => 0) j) := fun _ => rfl
  have n0 : ∀ {P : Nat → Prop} (j : Nat), j < 0 → P j := fun j h => absurd h (Nat.not_lt_zero j)
  have r0 : ∀ i : Nat, i < 4 → nb_R 4 ((fun _ : Nat => (0 : Int32)) i) := fun _ _ => ⟨0, by decide, rfl⟩
  exact nb_rel (k := 0) (c := 0) (kd := fun _ => 0) (wd := fun _ => 0) (xo := fun _ => 0) (yo := fun _ => 0) (zo := fun _ => 0) (dp := fun _ => 0) (by decide)
    ⟨by omega, z, z, z, z, z, z, n0, n0, fun _ _ => ⟨rfl, rfl, rfl, rfl⟩, n0, n0⟩ ⟨n0, n0, n0, n0, r0, r0, Or.inl rfl⟩
section
variable {c : Nat} {cs sw pp pd pe : Int32} {K W ox oy oz nums rch D nx en fo H nt mem nm vals tr ex ey ez nty va td mt : Nat → Int32} {kd wd xo yo zo dp : Nat → Nat}
/-! connect, port, drive, force, word, level -/
def nb_cc (c : Nat) (kd wd : Nat → Nat) (v1 v2 v3 : Int32) : Prop := ∃ r t, r < c ∧ t < c ∧ v1 = nI r ∧ v2 = nI t ∧ kd r = 2 ∧ wd t = wd r ∧ (v3 = -1 ∨ ∃ e, e < c ∧ v3 = nI e ∧ wd e = 1)
theorem nx_connect (post : Int32 → SX → Prop) (S : nb_S c K W ox oy oz nums rch D ex ey ez kd wd xo yo zo dp) {v1 v2 v3 : Int32}
    (ht : ∀ r t, r < c → t < c → v1 = nI r → v2 = nI t → kd r = 2 → wd t = wd r → (v3 = -1 ∨ ∃ e, e < c ∧ v3 = nI e ∧ wd e = 1) → post 1 ((nI c), cs, sw, pp, pd, pe, K, W, ox, oy, oz, nums, rch, D, (upd nx r v2), (upd en r v3), fo, H, nt, mem, nm, vals, tr))
    (hf : ¬ nb_cc c kd wd v1 v2 v3 → post 0 ((nI c), cs, sw, pp, pd, pe, K, W, ox, oy, oz, nums, rch, D, nx, en, fo, H, nt, mem, nm, vals, tr)) : wpX_connect post ((nI c), cs, sw, pp, pd, pe, K, W, ox, oy, oz, nums, rch, D, nx, en, fo, H, nt, mem, nm, vals, tr) v1 v2 v3 := by
  obtain ⟨hc, hK, hW, _, _, _, _, ok, _⟩ := S
  unfold wpX_connect
  by_cases q1 : ∃ a, a < c ∧ v1 = nI a ∧ nI (kd a) = 2
  · obtain ⟨r, hr, rfl, e2⟩ := q1
    have k18 := (ok r hr).1
    have wr := (ok r hr).2.2.1
    have k2 : kd r = 2 := (nI_eq (b := 2) (by omega) (by omega)).mp e2
    have x1 : vp_in (nI r) 24 := vp_in_nI (by omega) (by omega)
    have x2 : (nI r).toNatClampNeg = r := nI_clamp (by omega)
    refine nx_isK_t _ hc hK hr e2 (br_f (by decide) ⟨x1, ?_⟩)
    rw [x2, hW]
    by_cases q2 : ∃ a, a < c ∧ v2 = nI a ∧ nI (wd a) = nI (wd r)
    · obtain ⟨t, ht', rfl, e3⟩ := q2
      have wt := (ok t ht').2.2.1
      have w2 : wd t = wd r := (nI_eq (by omega) (by omega)).mp e3
      refine nx_isW_t _ hc hW ht' e3 (br_f (by decide) ?_)
      have fin : (v3 = -1 ∨ ∃ e, e < c ∧ v3 = nI e ∧ wd e = 1) → wX_connect_41 post (nI r) (nI t) v3 (nI c) cs sw pp pd pe K W ox oy oz nums rch D nx en fo H nt mem nm vals tr := fun h3 => by
        refine ⟨x1, nm_e ⟨x1, nm_e ?_⟩⟩
        rw [x2]
        exact ht r t hr ht' rfl rfl k2 w2 h3
      by_cases q3 : v3 = -1
      · exact br_t q3 (fin (Or.inl q3))
      · refine br_f q3 ?_
        by_cases q4 : ∃ a, a < c ∧ v3 = nI a ∧ nI (wd a) = 1
        · obtain ⟨e, he, rfl, e4⟩ := q4
          have we := (ok e he).2.2.1
          exact nx_isW_t _ hc hW he e4 (br_f (by decide) (fin (Or.inr ⟨e, he, rfl, (nI_eq (b := 1) (by omega) (by omega)).mp e4⟩)))
        · refine nx_isW_f _ hc hW q4 (br_t rfl (hf ?_))
          rintro ⟨_, _, _, _, _, _, _, _, z | ⟨e, he, z, we⟩⟩
          · exact q3 z
          · exact q4 ⟨e, he, z, by rw [we]; rfl⟩
    · refine nx_isW_f _ hc hW q2 (br_t rfl (hf ?_))
      rintro ⟨r', t, hr', ht', er, et, _, w2, _⟩
      have : r = r' := (nI_eq (by omega) (by omega)).mp er
      subst this
      exact q2 ⟨t, ht', et, by rw [w2]⟩
  · refine nx_isK_f _ hc hK q1 (br_t rfl (hf ?_))
    rintro ⟨r, _, hr, _, er, _, k2, _⟩
    exact q1 ⟨r, hr, er, by rw [k2]; rfl⟩
theorem ny_connect (post : Int32 → SY → Prop) (S : nb_S c K W ox oy oz nums rch D ex ey ez kd wd xo yo zo dp) {v1 v2 v3 : Int32}
    (ht : ∀ r t, r < c → t < c → v1 = nI r → v2 = nI t → kd r = 2 → wd t = wd r → (v3 = -1 ∨ ∃ e, e < c ∧ v3 = nI e ∧ wd e = 1) → post 1 ((nI c), cs, sw, pp, pd, pe, K, ex, ey, ez, W, H, nty, fo, va, (upd nx r v2), (upd en r v3), mem, nm, td, mt))
    (hf : ¬ nb_cc c kd wd v1 v2 v3 → post 0 ((nI c), cs, sw, pp, pd, pe, K, ex, ey, ez, W, H, nty, fo, va, nx, en, mem, nm, td, mt)) : wpY_connect post ((nI c), cs, sw, pp, pd, pe, K, ex, ey, ez, W, H, nty, fo, va, nx, en, mem, nm, td, mt) v1 v2 v3 := by
  obtain ⟨hc, hK, hW, _, _, _, _, ok, _⟩ := S
  have h7 : ∀ j, j < c → wd j < 7 := fun j hj => (ok j hj).2.2.1
  unfold wpY_connect
  by_cases q0 : nb_sg c v1
  · obtain ⟨r, hr, rfl⟩ := q0
    have k18 := (ok r hr).1
    have wr := h7 r hr
    have x1 : vp_in (nI r) 24 := vp_in_nI (by omega) (by omega)
    have x2 : (nI r).toNatClampNeg = r := nI_clamp (by omega)
    refine ny_isS_t _ hc hr (br_f (by decide) ⟨x1, ?_⟩)
    rw [x2, hK]
    by_cases k2 : kd r = 2
    · refine br_t (by rw [k2]; rfl) ?_
      by_cases q2 : ∃ a b, a < c ∧ b < c ∧ nI r = nI a ∧ v2 = nI b ∧ wd a = wd b
      · obtain ⟨a, t, ha, ht', ea, rfl, w2⟩ := q2
        have : r = a := (nI_eq (by omega) (by omega)).mp ea
        subst this
        refine ny_al_t _ hc hW hr ht' w2 (br_f (by decide) ?_)
        have fin : (v3 = -1 ∨ ∃ e, e < c ∧ v3 = nI e ∧ wd e = 1) → wY_connect_43 post (nI r) (nI t) v3 (nI c) cs sw pp pd pe K ex ey ez W H nty fo va nx en mem nm td mt := fun h3 => by
          refine ⟨x1, nm_e ⟨x1, nm_e ?_⟩⟩
          rw [x2]
          exact ht r t hr ht' rfl rfl k2 w2.symm h3
        by_cases q3 : v3 = -1
        · exact br_t q3 (fin (Or.inl q3))
        · refine br_f q3 ?_
          by_cases q4 : ∃ a, a < c ∧ v3 = nI a ∧ nI (wd a) = 1
          · obtain ⟨e, he, rfl, e4⟩ := q4
            have we := h7 e he
            exact ny_isW_t _ hc hW he e4 (br_f (by decide) (fin (Or.inr ⟨e, he, rfl, (nI_eq (b := 1) (by omega) (by omega)).mp e4⟩)))
          · refine ny_isW_f _ hc hW q4 (br_t rfl (hf ?_))
            rintro ⟨_, _, _, _, _, _, _, _, z | ⟨e, he, z, we⟩⟩
            · exact q3 z
            · exact q4 ⟨e, he, z, by rw [we]; rfl⟩
      · refine ny_al_f _ hc hW h7 q2 (br_t rfl (hf ?_))
        rintro ⟨r', t, hr', ht', er, et, _, w2, _⟩
        have : r = r' := (nI_eq (by omega) (by omega)).mp er
        subst this
        exact q2 ⟨r, t, hr, ht', rfl, et, w2.symm⟩
    · refine br_f (fun q => k2 ((nI_eq (b := 2) (by omega) (by omega)).mp q)) (hf ?_)
      rintro ⟨r', _, hr', _, er, _, k2', _⟩
      have : r = r' := (nI_eq (by omega) (by omega)).mp er
      subst this
      exact k2 k2'
  · refine ny_isS_f _ hc q0 (br_t rfl (hf ?_))
    rintro ⟨r, _, hr, _, er, _⟩
    exact q0 ⟨r, hr, er⟩
def nb_pc (c : Nat) (wd : Nat → Nat) (v1 v2 v3 : Int32) : Prop := ∃ p d e, p < c ∧ d < c ∧ e < c ∧ v1 = nI p ∧ v2 = nI d ∧ v3 = nI e ∧ wd p = 2 ∧ wd d = 4 ∧ wd e = 1
theorem nx_port (post : Int32 → SX → Prop) (S : nb_S c K W ox oy oz nums rch D ex ey ez kd wd xo yo zo dp) {v1 v2 v3 : Int32}
    (ht : nb_pc c wd v1 v2 v3 → post 1 ((nI c), cs, sw, v1, v2, v3, K, W, ox, oy, oz, nums, rch, D, nx, en, fo, H, nt, mem, nm, vals, tr)) (hf : ¬ nb_pc c wd v1 v2 v3 → post 0 ((nI c), cs, sw, pp, pd, pe, K, W, ox, oy, oz, nums, rch, D, nx, en, fo, H, nt, mem, nm, vals, tr)) : wpX_port post ((nI c), cs, sw, pp, pd, pe, K, W, ox, oy, oz, nums, rch, D, nx, en, fo, H, nt, mem, nm, vals, tr) v1 v2 v3 := by
  obtain ⟨hc, hK, hW, _, _, _, _, ok, _⟩ := S
  have h7 : ∀ j, j < c → wd j < 7 := fun j hj => (ok j hj).2.2.1
  unfold wpX_port
  by_cases q1 : ∃ a, a < c ∧ v1 = nI a ∧ nI (wd a) = 2
  · obtain ⟨p, hp, rfl, e1⟩ := q1
    have w1 := h7 p hp
    refine nx_isW_t _ hc hW hp e1 (br_f (by decide) ?_)
    by_cases q2 : ∃ a, a < c ∧ v2 = nI a ∧ nI (wd a) = 4
    · obtain ⟨d, hd, rfl, e2⟩ := q2
      have w2 := h7 d hd
      refine nx_isW_t _ hc hW hd e2 (br_f (by decide) ?_)
      by_cases q3 : ∃ a, a < c ∧ v3 = nI a ∧ nI (wd a) = 1
      · obtain ⟨e, he, rfl, e3⟩ := q3
        have w3 := h7 e he
        exact nx_isW_t _ hc hW he e3 (br_f (by decide) (ht ⟨p, d, e, hp, hd, he, rfl, rfl, rfl, (nI_eq (b := 2) (by omega) (by omega)).mp e1, (nI_eq (b := 4) (by omega) (by omega)).mp e2, (nI_eq (b := 1) (by omega) (by omega)).mp e3⟩))
      · refine nx_isW_f _ hc hW q3 (br_t rfl (hf ?_))
        rintro ⟨_, _, e, _, _, he, _, _, z, _, _, w⟩
        exact q3 ⟨e, he, z, by rw [w]; rfl⟩
    · refine nx_isW_f _ hc hW q2 (br_t rfl (hf ?_))
      rintro ⟨_, d, _, _, hd, _, _, z, _, _, w, _⟩
      exact q2 ⟨d, hd, z, by rw [w]; rfl⟩
  · refine nx_isW_f _ hc hW q1 (br_t rfl (hf ?_))
    rintro ⟨p, _, _, hp, _, _, z, _, _, w, _, _⟩
    exact q1 ⟨p, hp, z, by rw [w]; rfl⟩
theorem ny_port (post : Int32 → SY → Prop) (S : nb_S c K W ox oy oz nums rch D ex ey ez kd wd xo yo zo dp) {v1 v2 v3 : Int32}
    (ht : nb_pc c wd v1 v2 v3 → post 1 ((nI c), cs, sw, v1, v2, v3, K, ex, ey, ez, W, H, nty, fo, va, nx, en, mem, nm, td, mt)) (hf : ¬ nb_pc c wd v1 v2 v3 → post 0 ((nI c), cs, sw, pp, pd, pe, K, ex, ey, ez, W, H, nty, fo, va, nx, en, mem, nm, td, mt)) : wpY_port post ((nI c), cs, sw, pp, pd, pe, K, ex, ey, ez, W, H, nty, fo, va, nx, en, mem, nm, td, mt) v1 v2 v3 := by
  obtain ⟨hc, hK, hW, _, _, _, _, ok, _⟩ := S
  have h7 : ∀ j, j < c → wd j < 7 := fun j hj => (ok j hj).2.2.1
  unfold wpY_port
  by_cases q1 : ∃ a, a < c ∧ v1 = nI a ∧ nI (wd a) = 2
  · obtain ⟨p, hp, rfl, e1⟩ := q1
    have w1 := h7 p hp
    refine ny_isW_t _ hc hW hp e1 (br_f (by decide) ?_)
    by_cases q2 : ∃ a, a < c ∧ v2 = nI a ∧ nI (wd a) = 4
    · obtain ⟨d, hd, rfl, e2⟩ := q2
      have w2 := h7 d hd
      refine ny_isW_t _ hc hW hd e2 (br_f (by decide) ?_)
      by_cases q3 : ∃ a, a < c ∧ v3 = nI a ∧ nI (wd a) = 1
      · obtain ⟨e, he, rfl, e3⟩ := q3
        have w3 := h7 e he
        exact ny_isW_t _ hc hW he e3 (br_f (by decide) (ht ⟨p, d, e, hp, hd, he, rfl, rfl, rfl, (nI_eq (b := 2) (by omega) (by omega)).mp e1, (nI_eq (b := 4) (by omega) (by omega)).mp e2, (nI_eq (b := 1) (by omega) (by omega)).mp e3⟩))
      · refine ny_isW_f _ hc hW q3 (br_t rfl (hf ?_))
        rintro ⟨_, _, e, _, _, he, _, _, z, _, _, w⟩
        exact q3 ⟨e, he, z, by rw [w]; rfl⟩
    · refine ny_isW_f _ hc hW q2 (br_t rfl (hf ?_))
      rintro ⟨_, d, _, _, hd, _, _, z, _, _, w, _⟩
      exact q2 ⟨d, hd, z, by rw [w]; rfl⟩
  · refine ny_isW_f _ hc hW q1 (br_t rfl (hf ?_))
    rintro ⟨p, _, _, hp, _, _, z, _, _, w, _, _⟩
    exact q1 ⟨p, hp, z, by rw [w]; rfl⟩
def nb_dc (c : Nat) (kd wd : Nat → Nat) (v1 v2 : Int32) : Prop := ∃ s, s < c ∧ v1 = nI s ∧ kd s = 0 ∧ nb_R (wd s) v2
theorem nx_drive (post : Int32 → SX → Prop) (S : nb_S c K W ox oy oz nums rch D ex ey ez kd wd xo yo zo dp) {v1 v2 : Int32}
    (ht : ∀ s, s < c → v1 = nI s → kd s = 0 → nb_R (wd s) v2 → post 1 ((nI c), cs, sw, pp, pd, pe, K, W, ox, oy, oz, nums, rch, D, nx, en, fo, (upd H s v2), nt, mem, nm, vals, tr)) (hf : ¬ nb_dc c kd wd v1 v2 → post 0 ((nI c), cs, sw, pp, pd, pe, K, W, ox, oy, oz, nums, rch, D, nx, en, fo, H, nt, mem, nm, vals, tr)) : wpX_drive post ((nI c), cs, sw, pp, pd, pe, K, W, ox, oy, oz, nums, rch, D, nx, en, fo, H, nt, mem, nm, vals, tr) v1 v2 := by
  obtain ⟨hc, hK, hW, _, _, _, _, ok, _⟩ := S
  unfold wpX_drive
  by_cases q1 : ∃ a, a < c ∧ v1 = nI a ∧ nI (kd a) = 0
  · obtain ⟨s, hs, rfl, e2⟩ := q1
    have k18 := (ok s hs).1
    have ws := (ok s hs).2.2.1
    have k0 : kd s = 0 := (nI_eq (b := 0) (by omega) (by omega)).mp e2
    have x1 : vp_in (nI s) 24 := vp_in_nI (by omega) (by omega)
    have x2 : (nI s).toNatClampNeg = s := nI_clamp (by omega)
    refine nx_isK_t _ hc hK hs e2 (br_f (by decide) ⟨x1, ?_⟩)
    rw [x2, hW]
    by_cases r : nb_R (wd s) v2
    · exact nx_fw_t _ ws r (br_f (by decide) ⟨x1, nm_e (ht s hs rfl k0 r)⟩)
    · refine nx_fw_f _ ws r (br_t rfl (hf ?_))
      rintro ⟨s', hs', es, _, r'⟩
      have : s = s' := (nI_eq (by omega) (by omega)).mp es
      subst this
      exact r r'
  · refine nx_isK_f _ hc hK q1 (br_t rfl (hf ?_))
    rintro ⟨s, hs, es, k0, _⟩
    exact q1 ⟨s, hs, es, by rw [k0]; rfl⟩
theorem ny_drive (post : Int32 → SY → Prop) (S : nb_S c K W ox oy oz nums rch D ex ey ez kd wd xo yo zo dp) {v1 v2 : Int32}
    (ht : ∀ s, s < c → v1 = nI s → kd s = 0 → nb_R (wd s) v2 → post 1 ((nI c), cs, sw, pp, pd, pe, K, ex, ey, ez, W, (upd H s v2), nty, fo, va, nx, en, mem, nm, td, mt)) (hf : ¬ nb_dc c kd wd v1 v2 → post 0 ((nI c), cs, sw, pp, pd, pe, K, ex, ey, ez, W, H, nty, fo, va, nx, en, mem, nm, td, mt)) : wpY_drive post ((nI c), cs, sw, pp, pd, pe, K, ex, ey, ez, W, H, nty, fo, va, nx, en, mem, nm, td, mt) v1 v2 := by
  obtain ⟨hc, hK, hW, _, _, _, _, ok, _⟩ := S
  unfold wpY_drive
  by_cases q0 : nb_sg c v1
  · obtain ⟨s, hs, rfl⟩ := q0
    obtain ⟨k18, w1, ws, _⟩ := ok s hs
    have x1 : vp_in (nI s) 24 := vp_in_nI (by omega) (by omega)
    have x2 : (nI s).toNatClampNeg = s := nI_clamp (by omega)
    refine ny_isS_t _ hc hs (br_f (by decide) ⟨x1, ?_⟩)
    rw [x2, hK, hW]
    by_cases k0 : kd s = 0
    · refine br_t (by rw [k0]; rfl) ⟨x1, ?_⟩
      by_cases r : nb_R (wd s) v2
      · exact ny_ir_t _ w1 ws r (br_f (by decide) ⟨x1, nm_e (ht s hs rfl k0 r)⟩)
      · refine ny_ir_f _ w1 ws r (br_t rfl (hf ?_))
        rintro ⟨s', hs', es, _, r'⟩
        have : s = s' := (nI_eq (by omega) (by omega)).mp es
        subst this
        exact r r'
    · refine br_f (fun q => k0 ((nI_eq (b := 0) (by omega) (by omega)).mp q)) (hf ?_)
      rintro ⟨s', hs', es, k0', _⟩
      have : s = s' := (nI_eq (by omega) (by omega)).mp es
      subst this
      exact k0 k0'
  · refine ny_isS_f _ hc q0 (br_t rfl (hf ?_))
    rintro ⟨s, hs, es, _⟩
    exact q0 ⟨s, hs, es⟩
def nb_fc (c : Nat) (wd : Nat → Nat) (v1 v2 : Int32) : Prop := ∃ s, s < c ∧ v1 = nI s ∧ (v2 = -1 ∨ nb_R (wd s) v2)
theorem nx_force (post : Int32 → SX → Prop) (S : nb_S c K W ox oy oz nums rch D ex ey ez kd wd xo yo zo dp) {v1 v2 : Int32}
    (ht : ∀ s, s < c → v1 = nI s → (v2 = -1 ∨ nb_R (wd s) v2) → post 1 ((nI c), cs, sw, pp, pd, pe, K, W, ox, oy, oz, nums, rch, D, nx, en, (upd fo s v2), H, nt, mem, nm, vals, tr)) (hf : ¬ nb_fc c wd v1 v2 → post 0 ((nI c), cs, sw, pp, pd, pe, K, W, ox, oy, oz, nums, rch, D, nx, en, fo, H, nt, mem, nm, vals, tr)) : wpX_force post ((nI c), cs, sw, pp, pd, pe, K, W, ox, oy, oz, nums, rch, D, nx, en, fo, H, nt, mem, nm, vals, tr) v1 v2 := by
  obtain ⟨hc, hK, hW, _, _, _, _, ok, _⟩ := S
  unfold wpX_force
  by_cases q0 : nb_sg c v1
  · obtain ⟨s, hs, rfl⟩ := q0
    obtain ⟨k18, w1, ws, _⟩ := ok s hs
    have x1 : vp_in (nI s) 24 := vp_in_nI (by omega) (by omega)
    have x2 : (nI s).toNatClampNeg = s := nI_clamp (by omega)
    refine nx_isS_t _ hc hs (br_f (by decide) ?_)
    rw [x2, hW]
    by_cases q : v2 = -1
    · exact br_t q ⟨x1, nm_e (ht s hs rfl (Or.inl q))⟩
    · refine br_f q ⟨x1, ?_⟩
      by_cases r : nb_R (wd s) v2
      · exact nx_fw_t _ ws r (br_f (by decide) ⟨x1, nm_e (ht s hs rfl (Or.inr r))⟩)
      · refine nx_fw_f _ ws r (br_t rfl (hf ?_))
        rintro ⟨s', hs', es, r'⟩
        have : s = s' := (nI_eq (by omega) (by omega)).mp es
        subst this
        exact r (r'.resolve_left q)
  · refine nx_isS_f _ hc q0 (br_t rfl (hf ?_))
    rintro ⟨s, hs, es, _⟩
    exact q0 ⟨s, hs, es⟩
theorem ny_force (post : Int32 → SY → Prop) (S : nb_S c K W ox oy oz nums rch D ex ey ez kd wd xo yo zo dp) {v1 v2 : Int32}
    (ht : ∀ s, s < c → v1 = nI s → (v2 = -1 ∨ nb_R (wd s) v2) → post 1 ((nI c), cs, sw, pp, pd, pe, K, ex, ey, ez, W, H, nty, (upd fo s v2), va, nx, en, mem, nm, td, mt)) (hf : ¬ nb_fc c wd v1 v2 → post 0 ((nI c), cs, sw, pp, pd, pe, K, ex, ey, ez, W, H, nty, fo, va, nx, en, mem, nm, td, mt)) : wpY_force post ((nI c), cs, sw, pp, pd, pe, K, ex, ey, ez, W, H, nty, fo, va, nx, en, mem, nm, td, mt) v1 v2 := by
  obtain ⟨hc, hK, hW, _, _, _, _, ok, _⟩ := S
  unfold wpY_force
  by_cases q0 : nb_sg c v1
  · obtain ⟨s, hs, rfl⟩ := q0
    obtain ⟨k18, w1, ws, _⟩ := ok s hs
    have x1 : vp_in (nI s) 24 := vp_in_nI (by omega) (by omega)
    have x2 : (nI s).toNatClampNeg = s := nI_clamp (by omega)
    refine ny_isS_t _ hc hs (br_f (by decide) ?_)
    rw [x2, hW]
    by_cases q : v2 = -1
    · exact br_t q ⟨x1, nm_e (ht s hs rfl (Or.inl q))⟩
    · refine br_f q ⟨x1, ?_⟩
      by_cases r : nb_R (wd s) v2
      · exact ny_ir_t _ w1 ws r (br_f (by decide) ⟨x1, nm_e (ht s hs rfl (Or.inr r))⟩)
      · refine ny_ir_f _ w1 ws r (br_t rfl (hf ?_))
        rintro ⟨s', hs', es, r'⟩
        have : s = s' := (nI_eq (by omega) (by omega)).mp es
        subst this
        exact r (r'.resolve_left q)
  · refine ny_isS_f _ hc q0 (br_t rfl (hf ?_))
    rintro ⟨s, hs, es, _⟩
    exact q0 ⟨s, hs, es⟩
theorem nb_Ru {wd : Nat → Nat} {f : Nat → Int32} {s : Nat} {v : Int32} (h : ∀ j, j < c → nb_R (wd j) (f j)) (r : nb_R (wd s) v) : ∀ j, j < c → nb_R (wd j) (upd f s v j) := by
  intro j hj
  by_cases e : j = s
  · subst e; rw [pk_us]; exact r
  · rw [pk_un e]; exact h j hj
end
theorem i_vc_connect {k : Nat} {u : SX} {v : SY} (I : i_Rel k u v) (hk : k + 5 ≤ 2560) (v1 : Int32) (v2 : Int32) (v3 : Int32) : wpX_connect (fun r u' => wpY_connect (fun r' v' => r' = r ∧ i_Rel (k + 5) u' v') v v1 v2 v3) u v1 v2 v3 := by
  obtain ⟨c, cs, sw, pp, pd, pe, K, W, ox, oy, oz, nums, rch, D, nx, en, fo, H, nt, mem, nm, vals, tr, ex, ey, ez, nty, va, td, mt, kd, wd, xo, yo, zo, dp, rfl, rfl, h1, S, d1, d2⟩ := I
  have hc := S.1
  refine nx_connect _ S (fun r t hr ht e1 e2 k2 w2 h3 => ?_) (fun hn => ?_)
  · refine ny_connect _ S (fun r' t' hr' ht' e1' e2' _ _ _ => ?_) (fun hn => absurd ⟨r, t, hr, ht, e1, e2, k2, w2, h3⟩ hn)
    have : r = r' := (nI_eq (by omega) (by omega)).mp (e1.symm.trans e1')
    subst this
    refine ⟨rfl, nb_rel h1 S ⟨?_, d2⟩⟩
    intro j hj
    by_cases e : j = r
    · subst e
      refine ⟨?_, ?_⟩
      · rw [pk_us]; exact Or.inr ⟨t, ht, e2, w2⟩
      · rw [pk_us]
        rcases h3 with z | ⟨e, he, z, _⟩
        · exact Or.inl z
        · exact Or.inr ⟨e, he, z⟩
    · unfold nb_ne
      rw [pk_un e, pk_un e]
      exact d1 j hj
  · exact ny_connect _ S (fun r' t' hr' ht' e1' e2' k2 w2 h3 => absurd ⟨r', t', hr', ht', e1', e2', k2, w2, h3⟩ hn) (fun _ => ⟨rfl, nb_rel h1 S ⟨d1, d2⟩⟩)
theorem i_vc_port {k : Nat} {u : SX} {v : SY} (I : i_Rel k u v) (hk : k + 5 ≤ 2560) (v1 : Int32) (v2 : Int32) (v3 : Int32) : wpX_port (fun r u' => wpY_port (fun r' v' => r' = r ∧ i_Rel (k + 5) u' v') v v1 v2 v3) u v1 v2 v3 := by
  obtain ⟨c, cs, sw, pp, pd, pe, K, W, ox, oy, oz, nums, rch, D, nx, en, fo, H, nt, mem, nm, vals, tr, ex, ey, ez, nty, va, td, mt, kd, wd, xo, yo, zo, dp, rfl, rfl, h1, S, d1, d2, d3, d4, d5, d6, d7⟩ := I
  refine nx_port _ S (fun hp => ?_) (fun hn => ?_)
  · refine ny_port _ S (fun _ => ?_) (fun hn => absurd hp hn)
    refine ⟨rfl, nb_rel h1 S ⟨d1, d2, d3, d4, d5, d6, ?_⟩⟩
    obtain ⟨p, d, e, hp, hd, he, e1, e2, e3, w1, w2, _⟩ := hp
    exact Or.inr ⟨p, d, e, hp, hd, he, e1, e2, e3, w1, w2⟩
  · exact ny_port _ S (fun hp => absurd hp hn) (fun _ => ⟨rfl, nb_rel h1 S ⟨d1, d2, d3, d4, d5, d6, d7⟩⟩)
theorem i_vc_drive {k : Nat} {u : SX} {v : SY} (I : i_Rel k u v) (hk : k + 5 ≤ 2560) (v1 : Int32) (v2 : Int32) : wpX_drive (fun r u' => wpY_drive (fun r' v' => r' = r ∧ i_Rel (k + 5) u' v') v v1 v2) u v1 v2 := by
  obtain ⟨c, cs, sw, pp, pd, pe, K, W, ox, oy, oz, nums, rch, D, nx, en, fo, H, nt, mem, nm, vals, tr, ex, ey, ez, nty, va, td, mt, kd, wd, xo, yo, zo, dp, rfl, rfl, h1, S, d1, d2, d3, d4⟩ := I
  have hc := S.1
  refine nx_drive _ S (fun s hs es k0 r => ?_) (fun hn => ?_)
  · refine ny_drive _ S (fun s' hs' es' _ _ => ?_) (fun hn => absurd ⟨s, hs, es, k0, r⟩ hn)
    have : s = s' := (nI_eq (by omega) (by omega)).mp (es.symm.trans es')
    subst this
    exact ⟨rfl, nb_rel h1 S ⟨d1, d2, nb_Ru d3 r, d4⟩⟩
  · exact ny_drive _ S (fun s hs es k0 r => absurd ⟨s, hs, es, k0, r⟩ hn) (fun _ => ⟨rfl, nb_rel h1 S ⟨d1, d2, d3, d4⟩⟩)
theorem i_vc_force {k : Nat} {u : SX} {v : SY} (I : i_Rel k u v) (hk : k + 5 ≤ 2560) (v1 : Int32) (v2 : Int32) : wpX_force (fun r u' => wpY_force (fun r' v' => r' = r ∧ i_Rel (k + 5) u' v') v v1 v2) u v1 v2 := by
  obtain ⟨c, cs, sw, pp, pd, pe, K, W, ox, oy, oz, nums, rch, D, nx, en, fo, H, nt, mem, nm, vals, tr, ex, ey, ez, nty, va, td, mt, kd, wd, xo, yo, zo, dp, rfl, rfl, h1, S, d1, d2, d3⟩ := I
  have hc := S.1
  refine nx_force _ S (fun s hs es r => ?_) (fun hn => ?_)
  · refine ny_force _ S (fun s' hs' es' _ => ?_) (fun hn => absurd ⟨s, hs, es, r⟩ hn)
    have : s = s' := (nI_eq (by omega) (by omega)).mp (es.symm.trans es')
    subst this
    refine ⟨rfl, nb_rel h1 S ⟨d1, ?_, d3⟩⟩
    intro j hj
    by_cases e : j = s
    · subst e; rw [pk_us]; exact r
    · rw [pk_un e]; exact d2 j hj
  · exact ny_force _ S (fun s hs es r => absurd ⟨s, hs, es, r⟩ hn) (fun _ => ⟨rfl, nb_rel h1 S ⟨d1, d2, d3⟩⟩)
theorem i_vc_word {k : Nat} {u : SX} {v : SY} (I : i_Rel k u v) (hk : k + 5 ≤ 2560) (v1 : Int32) : wpX_word (fun r => wpY_word (fun r' => r' = r ∧ i_Rel (k + 5) u v) v v1) u v1 := by
  have I5 := i_up I
  obtain ⟨c, cs, sw, pp, pd, pe, K, W, ox, oy, oz, nums, rch, D, nx, en, fo, H, nt, mem, nm, vals, tr, ex, ey, ez, nty, va, td, mt, kd, wd, xo, yo, zo, dp, rfl, rfl, _⟩ := I
  by_cases q0 : v1 < 0
  · exact br_t q0 (br_t q0 ⟨rfl, I5⟩)
  · obtain ⟨j, hj, rfl⟩ := nI_of q0
    by_cases q4 : j < 4
    · have x1 : vp_in (nI j) 4 := vp_in_nI q4 (by omega)
      exact br_f q0 (br_t (nI_lt (b := 4) q4 (by omega)) ⟨x1, br_f q0 (br_f (nI_nlt (a := 3) (by omega) (by omega)) ⟨x1, rfl, I5⟩)⟩)
    · exact br_f q0 (br_f (nI_nlt (b := 4) (by omega) (by omega)) (br_f q0 (br_t (nI_lt (a := 3) (by omega) (by omega)) ⟨rfl, I5⟩)))
theorem i_vc_level {k : Nat} {u : SX} {v : SY} (I : i_Rel k u v) (hk : k + 5 ≤ 2560) (v1 : Int32) : wpX_level (fun r => wpY_level (fun r' => r' = r ∧ i_Rel (k + 5) u v) v v1) u v1 := by
  have I5 := i_up I
  obtain ⟨c, cs, sw, pp, pd, pe, K, W, ox, oy, oz, nums, rch, D, nx, en, fo, H, nt, mem, nm, vals, tr, ex, ey, ez, nty, va, td, mt, kd, wd, xo, yo, zo, dp, rfl, rfl, _⟩ := I
  by_cases q0 : v1 < 0
  · exact br_t q0 (br_t q0 ⟨rfl, I5⟩)
  · by_cases q2 : 2 < v1
    · exact br_f q0 (br_t q2 (br_f q0 (br_t q2 ⟨rfl, I5⟩)))
    · exact br_f q0 (br_f q2 (br_f q0 (br_f q2 ⟨rfl, I5⟩)))
