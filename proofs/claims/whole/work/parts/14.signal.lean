/-! signal: both sides put together -/
section
variable {c : Nat} {cs sw pp pd pe : Int32} {K W ox oy oz nums rch D nx en fo H nt mem nm vals tr ex ey ez nty va td mt : Nat → Int32} {kd wd xo yo zo dp : Nat → Nat}
theorem nb_fq_w {k : Nat} (hk : k ≤ 18) (h7 : ∀ j, j < c → wd j < 7) {x y z : Int32} {a b d w : Nat} (q : nb_fq c wd k x y z a b d w) : w < 13 := by
  match k, hk, q with
  | 0, _, q =>
    obtain ⟨⟨_, _, w7⟩, _⟩ := q
    omega
  | 1, _, q =>
    obtain ⟨⟨_, _, w7, _⟩, _⟩ := q
    omega
  | 2, _, q =>
    obtain ⟨⟨_, _, w7, _⟩, _⟩ := q
    omega
  | 3, _, q =>
    obtain ⟨⟨ha, _⟩, ew, _⟩ := q
    have := h7 a ha
    omega
  | 4, _, q =>
    obtain ⟨⟨ha, hb, _⟩, ew, _⟩ := q
    have := h7 a ha
    have := h7 b hb
    omega
  | 5, _, q =>
    obtain ⟨⟨ha, hb, _⟩, ew, _⟩ := q
    have := h7 a ha
    have := h7 b hb
    omega
  | 6, _, q =>
    obtain ⟨⟨ha, hb, _⟩, ew, _⟩ := q
    have := h7 a ha
    have := h7 b hb
    omega
  | 7, _, q =>
    obtain ⟨⟨ha, hb, _⟩, ew, _⟩ := q
    have := h7 a ha
    have := h7 b hb
    omega
  | 8, _, q =>
    obtain ⟨⟨ha, hb, _⟩, ew, _⟩ := q
    have := h7 a ha
    have := h7 b hb
    omega
  | 9, _, q =>
    obtain ⟨⟨ha, hb, _⟩, ew, _⟩ := q
    have := h7 a ha
    have := h7 b hb
    omega
  | 10, _, q =>
    obtain ⟨⟨ha, hb, _⟩, ew, _⟩ := q
    have := h7 a ha
    have := h7 b hb
    omega
  | 11, _, q =>
    obtain ⟨⟨ha, hb, _⟩, ew, _⟩ := q
    have := h7 a ha
    have := h7 b hb
    omega
  | 12, _, q =>
    obtain ⟨_, ⟨hb, _⟩, ew⟩ := q
    have := h7 b hb
    omega
  | 13, _, q =>
    obtain ⟨⟨ha, _⟩, _, ew, _⟩ := q
    have := h7 a ha
    omega
  | 14, _, q =>
    obtain ⟨⟨ha, _⟩, _, ew, _⟩ := q
    have := h7 a ha
    omega
  | 15, _, q =>
    obtain ⟨⟨ha, _⟩, ⟨hb, _⟩, ew, _⟩ := q
    have := h7 a ha
    have := h7 b hb
    omega
  | 16, _, q =>
    obtain ⟨⟨ha, _⟩, ⟨s, _, _, _, hs⟩, _⟩ := q
    have := h7 a ha
    omega
  | 17, _, q =>
    obtain ⟨_, ew, _⟩ := q
    omega
  | 18, _, q =>
    obtain ⟨_, ew, _⟩ := q
    omega
  | n + 19, hk, _ => exact absurd hk (by omega)
theorem nx_84 (post : Int32 → SX → Prop) (S : nb_S c K W ox oy oz nums rch D ex ey ez kd wd xo yo zo dp) (hc : c < 24) {k a b d w : Nat} (hk : k ≤ 18) {x y z co zz : Int32} (op : nb_ops c k x y z a b d w)
    (hfull : (220 < cs + co ∨ ¬ sw + zz ≤ 60) → post (-2) ((nI c), cs, sw, pp, pd, pe, K, W, ox, oy, oz, nums, rch, D, nx, en, fo, H, nt, mem, nm, vals, tr))
    (hgo : ¬ 220 < cs + co → sw + zz ≤ 60 → ∀ ox' oy' oz' rch' D', (∀ j, ox' j = nI (nb_up xo c a j)) → (∀ j, oy' j = nI (nb_up yo c b j)) → (∀ j, oz' j = nI (nb_up zo c d j)) → (∀ j, j ≠ c → rch' j = rch j)
      → (∀ i, i < 24 → (bt (rch' c) i = true ↔ (i = c ∨ (3 ≤ k ∧ bt (rch a) i = true) ∨ ((4 ≤ k ∧ k ≤ 15) ∧ bt (rch b) i = true) ∨ (k = 12 ∧ bt (rch d) i = true))))
      → (∀ j, D' j = nI (nb_up dp c (nb_dv k (dp a) (dp b) (dp d)) j))
      → post (nI c) ((nI (c + 1)), (cs + co), (sw + zz), pp, pd, pe, (upd K c (nI k)), (upd W c (nI w)), ox', oy', oz', (upd nums c (if k = 1 ∨ k = 2 ∨ k = 16 then y else 0)), rch', D', (upd nx c (-1)), (upd en c (-1)), (upd fo c (-1)), (upd H c (if k = 2 then y else 0)), (upd nt c (if k = 2 then y else 0)), mem, nm, vals, tr)) :
    wX_signal_84 post (nI k) x y z (nI w) co zz (nI c) cs sw pp pd pe K W ox oy oz nums rch D nx en fo H nt mem nm vals tr := by
  obtain ⟨_, hK, hW, hx, hy, hz, hD, ok, ye, be, rq, dq⟩ := S
  obtain ⟨b1, b2, b3, b4⟩ := be c (Nat.le_refl c)
  have x1 : vp_in (nI c) 24 := vp_in_nI (by omega) (by omega)
  have x2 : (nI c).toNatClampNeg = c := nI_clamp (by omega)
  by_cases q1 : 220 < cs + co
  · exact br_t q1 (hfull (Or.inl q1))
  refine br_f q1 ?_
  by_cases q2 : sw + zz ≤ 60
  · refine br_t q2 (nm_e (nm_e ⟨x1, nm_e ⟨x1, nm_e ?_⟩⟩))
    rw [x2]
    have fin : ∀ nv, nv = (if k = 1 ∨ k = 2 ∨ k = 16 then y else 0) → wX_signal_186 post x y z (nI c) nv (nI c) (nI c) (cs + co) (sw + zz) pp pd pe (upd K c (nI k)) (upd W c (nI w)) ox oy oz nums rch D nx en fo H nt mem nm vals tr := fun nv e => by
      unfold wX_signal_186
      refine ⟨x1, nm_e ?_⟩
      rw [x2, e]
      refine nx_go _ hc hk pk_us hx b1 hy b2 hz b3 hD b4 (fun j hj => (dq j hj).2) op (fun ox' oy' oz' rch' D' s1 s2 s3 s4 s5 s6 => ?_)
      refine nx_gs _ hc hk pk_us (nm_r (nI_1 c) ?_)
      have fv : (if k = 2 then upd nums c (if k = 1 ∨ k = 2 ∨ k = 16 then y else 0) c else 0) = (if k = 2 then y else 0) := by
        by_cases g : k = 2
        · rw [if_pos g, if_pos g, pk_us, if_pos (Or.inr (Or.inl g))]
        · rw [if_neg g, if_neg g]
      rw [fv]
      exact hgo q1 q2 ox' oy' oz' rch' D' s1 s2 s3 s4 s5 s6
    by_cases g1 : k = 1
    · exact br_t (by rw [g1]; rfl) (fin y (by rw [if_pos (Or.inl g1)]))
    refine br_f (fun w => g1 ((nI_eq (b := 1) (by omega) (by omega)).mp w)) ?_
    by_cases g2 : k = 2
    · exact br_t (by rw [g2]; rfl) (fin y (by rw [if_pos (Or.inr (Or.inl g2))]))
    refine br_f (fun w => g2 ((nI_eq (b := 2) (by omega) (by omega)).mp w)) ?_
    by_cases g3 : k = 16
    · exact br_t (by rw [g3]; rfl) (fin y (by rw [if_pos (Or.inr (Or.inr g3))]))
    · exact br_f (fun w => g3 ((nI_eq (b := 16) (by omega) (by omega)).mp w)) (fin 0 (by rw [if_neg (fun w => w.elim g1 (fun w => w.elim g2 g3))]))
  · exact br_f q2 (hfull (Or.inr q2))
theorem ny_148 (post : Int32 → SY → Prop) (hc : c < 24) {k w : Nat} (hk : k ≤ 18) {x y z : Int32}
    (hp : post (nI c) ((nI (c + 1)), cs, sw, pp, pd, pe, (upd K c (nI k)), (upd ex c x), (upd ey c y), (upd ez c z), (upd W c (nI w)), (upd H c (if k = 2 then y else 0)), (upd nty c (if k = 2 then y else 0)), (upd fo c (-1)), va, (upd nx c (-1)), (upd en c (-1)), mem, nm, td, mt)) : wY_signal_148 post (nI k) x y z (nI w) (nI c) cs sw pp pd pe K ex ey ez W H nty fo va nx en mem nm td mt := by
  have x1 : vp_in (nI c) 24 := vp_in_nI (by omega) (by omega)
  have x2 : (nI c).toNatClampNeg = c := nI_clamp (by omega)
  have fin : ∀ fv, fv = (if k = 2 then y else 0) → wY_signal_218 post fv (nI c) (nI c) cs sw pp pd pe (upd K c (nI k)) (upd ex c x) (upd ey c y) (upd ez c z) (upd W c (nI w)) H nty fo va nx en mem nm td mt := fun fv e => by
    unfold wY_signal_218
    rw [x2, e]
    refine ⟨x1, nm_e ⟨x1, x1, ?_⟩⟩
    rw [pk_us]
    refine nm_e ⟨x1, nm_e ⟨x1, nm_e ⟨x1, nm_e (nm_r (nI_1 c) ?_)⟩⟩⟩
    rw [nI_pred]
    exact hp
  unfold wY_signal_148
  rw [x2]
  refine ⟨x1, nm_e ⟨x1, nm_e ⟨x1, nm_e ⟨x1, nm_e ⟨x1, nm_e ?_⟩⟩⟩⟩⟩
  by_cases g : k = 2
  · exact br_t (by rw [g]; rfl) (fin y (by rw [if_pos g]))
  · exact br_f (fun w => g ((nI_eq (b := 2) (by omega) (by omega)).mp w)) (fin 0 (by rw [if_neg g]))
theorem ny_86 (post : Int32 → SY → Prop) (hc : c < 24) {k w : Nat} (hk : k ≤ 18) {x y z co hz zz : Int32} (hh : (hz = 0 ∧ zz = 0) ∨ (hz = 1 ∧ zz = nI w)) (h60 : sw ≤ 60)
    (hfull : (220 < cs + co ∨ ¬ sw + zz ≤ 60) → post (-2) ((nI c), cs, sw, pp, pd, pe, K, ex, ey, ez, W, H, nty, fo, va, nx, en, mem, nm, td, mt))
    (hgo : ¬ 220 < cs + co → sw + zz ≤ 60 → post (nI c) ((nI (c + 1)), (cs + co), (sw + zz), pp, pd, pe, (upd K c (nI k)), (upd ex c x), (upd ey c y), (upd ez c z), (upd W c (nI w)), (upd H c (if k = 2 then y else 0)), (upd nty c (if k = 2 then y else 0)), (upd fo c (-1)), va, (upd nx c (-1)), (upd en c (-1)), mem, nm, td, mt)) :
    wY_signal_86 post (nI k) x y z (nI w) co hz (nI c) cs sw pp pd pe K ex ey ez W H nty fo va nx en mem nm td mt := by
  by_cases q1 : 220 < cs + co
  · exact br_t q1 (hfull (Or.inl q1))
  refine br_f q1 ?_
  rcases hh with ⟨rfl, rfl⟩ | ⟨rfl, rfl⟩
  · have e : sw + 0 = sw := Int32.add_zero sw
    rw [e] at hgo
    exact br_t rfl (nm_e (br_t rfl (ny_148 _ hc hk (hgo q1 h60))))
  · refine br_f (by decide) ?_
    by_cases q2 : sw + nI w ≤ 60
    · exact br_t q2 (nm_e (br_f (by decide) (nm_e (ny_148 _ hc hk (hgo q1 q2)))))
    · exact br_f q2 (hfull (Or.inr q2))
theorem nx_sig_t (post : Int32 → SX → Prop) (S : nb_S c K W ox oy oz nums rch D ex ey ez kd wd xo yo zo dp) (hc4 : c < 24) {k a b d w : Nat} (hk : k ≤ 18) {x y z : Int32} (q : nb_fq c wd k x y z a b d w) (w1 : 1 ≤ w) (w7 : w < 7)
    (h : wX_signal_84 post (nI k) x y z (nI w) (nb_co k w (wd a)) (if k = 0 ∨ k = 2 then nI w else 0) (nI c) cs sw pp pd pe K W ox oy oz nums rch D nx en fo H nt mem nm vals tr) : wpX_signal post ((nI c), cs, sw, pp, pd, pe, K, W, ox, oy, oz, nums, rch, D, nx, en, fo, H, nt, mem, nm, vals, tr) (nI k) x y z := by
  obtain ⟨hc, hK, hW, hx, hy, hz, hD, ok, ye, be, rq, dq⟩ := S
  have h7 : ∀ j, j < c → wd j < 7 := fun j hj => (ok j hj).2.2.1
  unfold wpX_signal
  refine br_t (nI_lt (b := 24) hc4 (by omega)) (br_f (nI_pos (by omega)) (br_t (nI_le (b := 18) hk (by omega)) ?_))
  refine nx_ft _ hk hc hW h7 q (br_f (by decide) ?_)
  refine nx_rw _ hk hc hW q ?_
  refine nx_iw_t _ w1 w7 (br_f (by decide) ?_)
  refine nx_co _ hk hc hW q ?_
  by_cases g0 : k = 0
  · rw [if_pos (Or.inl g0)] at h
    exact br_t (by rw [g0]; rfl) h
  · refine br_f (fun w => g0 ((nI_eq (b := 0) (by omega) (by omega)).mp w)) ?_
    by_cases g2 : k = 2
    · rw [if_pos (Or.inr g2)] at h
      exact br_t (by rw [g2]; rfl) h
    · rw [if_neg (fun w => w.elim g0 g2)] at h
      exact br_f (fun w => g2 ((nI_eq (b := 2) (by omega) (by omega)).mp w)) h
theorem nx_sig_f (post : Int32 → SX → Prop) (S : nb_S c K W ox oy oz nums rch D ex ey ez kd wd xo yo zo dp) (hc4 : c < 24) {k : Nat} (hk : k ≤ 18) {x y z : Int32} (hn : ¬ ∃ a b d w, nb_fq c wd k x y z a b d w ∧ w < 7)
    (h : post (-1) ((nI c), cs, sw, pp, pd, pe, K, W, ox, oy, oz, nums, rch, D, nx, en, fo, H, nt, mem, nm, vals, tr)) : wpX_signal post ((nI c), cs, sw, pp, pd, pe, K, W, ox, oy, oz, nums, rch, D, nx, en, fo, H, nt, mem, nm, vals, tr) (nI k) x y z := by
  obtain ⟨hc, hK, hW, hx, hy, hz, hD, ok, ye, be, rq, dq⟩ := S
  have h7 : ∀ j, j < c → wd j < 7 := fun j hj => (ok j hj).2.2.1
  unfold wpX_signal
  refine br_t (nI_lt (b := 24) hc4 (by omega)) (br_f (nI_pos (by omega)) (br_t (nI_le (b := 18) hk (by omega)) ?_))
  by_cases q : ∃ a b d w, nb_fq c wd k x y z a b d w
  · obtain ⟨a, b, d, w, q⟩ := q
    have w13 := nb_fq_w hk h7 q
    refine nx_ft _ hk hc hW h7 q (br_f (by decide) ?_)
    refine nx_rw _ hk hc hW q ?_
    refine nx_iw_f _ ?_ (br_t rfl h)
    rintro ⟨w', _, w7, e⟩
    have : w = w' := (nI_eq (by omega) (by omega)).mp e
    exact hn ⟨a, b, d, w, q, by omega⟩
  · exact nx_ff _ hk hc hW h7 q (br_t rfl h)
theorem ny_sig_t (post : Int32 → SY → Prop) (S : nb_S c K W ox oy oz nums rch D ex ey ez kd wd xo yo zo dp) (hc4 : c < 24) {k a b d w : Nat} (hk : k ≤ 18) {x y z : Int32} (q : nb_fq c wd k x y z a b d w) (w1 : 1 ≤ w) (w7 : w < 7)
    (h : wY_signal_86 post (nI k) x y z (nI w) (nb_co k w (wd a)) (if k = 0 ∨ k = 2 then 1 else 0) (nI c) cs sw pp pd pe K ex ey ez W H nty fo va nx en mem nm td mt) : wpY_signal post ((nI c), cs, sw, pp, pd, pe, K, ex, ey, ez, W, H, nty, fo, va, nx, en, mem, nm, td, mt) (nI k) x y z := by
  obtain ⟨hc, hK, hW, hx, hy, hz, hD, ok, ye, be, rq, dq⟩ := S
  have h7 : ∀ j, j < c → wd j < 7 := fun j hj => (ok j hj).2.2.1
  unfold wpY_signal
  refine br_f (fun w => absurd ((nI_eq (b := 24) (by omega) (by omega)).mp w) (by omega)) (br_f (nI_pos (by omega)) (br_f (nI_nlt (a := 18) hk (by omega)) ?_))
  have mid : wpY_widthOf (fun r_27 => (((r_27 < 1 → (post (-1) ((nI c), cs, sw, pp, pd, pe, K, ex, ey, ez, W, H, nty, fo, va, nx, en, mem, nm, td, mt))) ∧ (¬ r_27 < 1 → (((r_27 ≤ 6 → (wpY_costOf (fun r_51 => (((nI k = 0 → (wY_signal_81 post (nI k) x y z r_27 r_51 (nI c) cs sw pp pd pe K ex ey ez W H nty fo va nx en mem nm td mt)) ∧ (¬ nI k = 0 → (((nI k = 2 → (wY_signal_81 post (nI k) x y z r_27 r_51 (nI c) cs sw pp pd pe K ex ey ez W H nty fo va nx en mem nm td mt)) ∧ (¬ nI k = 2 → (wY_signal_86 post (nI k) x y z r_27 r_51 0 (nI c) cs sw pp pd pe K ex ey ez W H nty fo va nx en mem nm td mt)))))))) ((nI c), cs, sw, pp, pd, pe, K, ex, ey, ez, W, H, nty, fo, va, nx, en, mem, nm, td, mt) (nI k) x r_27)) ∧ (¬ r_27 ≤ 6 → (post (-1) ((nI c), cs, sw, pp, pd, pe, K, ex, ey, ez, W, H, nty, fo, va, nx, en, mem, nm, td, mt))))))))) ((nI c), cs, sw, pp, pd, pe, K, ex, ey, ez, W, H, nty, fo, va, nx, en, mem, nm, td, mt) (nI k) x y z := by
    refine ny_rw _ hk hc hW q ?_
    refine br_f (nI_nlt (b := 1) w1 (by omega)) (br_t (nI_le (b := 6) (by omega) (by omega)) ?_)
    refine ny_co _ hk hc hW q ?_
    by_cases g0 : k = 0
    · rw [if_pos (Or.inl g0)] at h
      exact br_t (by rw [g0]; rfl) h
    · refine br_f (fun w => g0 ((nI_eq (b := 0) (by omega) (by omega)).mp w)) ?_
      by_cases g2 : k = 2
      · rw [if_pos (Or.inr g2)] at h
        exact br_t (by rw [g2]; rfl) h
      · rw [if_neg (fun w => w.elim g0 g2)] at h
        exact br_f (fun w => g2 ((nI_eq (b := 2) (by omega) (by omega)).mp w)) h
  by_cases g0 : k = 0
  · exact br_t (by rw [g0]; rfl) (br_f (by decide) mid)
  · exact ny_ft _ hk g0 hc hW h7 q (br_f (by decide) mid)
theorem ny_sig_f (post : Int32 → SY → Prop) (S : nb_S c K W ox oy oz nums rch D ex ey ez kd wd xo yo zo dp) (hc4 : c < 24) {k : Nat} (hk : k ≤ 18) {x y z : Int32} (hn : ¬ ∃ a b d w, nb_fq c wd k x y z a b d w ∧ w < 7)
    (h : post (-1) ((nI c), cs, sw, pp, pd, pe, K, ex, ey, ez, W, H, nty, fo, va, nx, en, mem, nm, td, mt)) : wpY_signal post ((nI c), cs, sw, pp, pd, pe, K, ex, ey, ez, W, H, nty, fo, va, nx, en, mem, nm, td, mt) (nI k) x y z := by
  obtain ⟨hc, hK, hW, hx, hy, hz, hD, ok, ye, be, rq, dq⟩ := S
  have h7 : ∀ j, j < c → wd j < 7 := fun j hj => (ok j hj).2.2.1
  unfold wpY_signal
  refine br_f (fun w => absurd ((nI_eq (b := 24) (by omega) (by omega)).mp w) (by omega)) (br_f (nI_pos (by omega)) (br_f (nI_nlt (a := 18) hk (by omega)) ?_))
  by_cases g0 : k = 0
  · subst g0
    refine br_t rfl (br_f (by decide) ?_)
    refine br_f (by decide) ?_
    have hx0 : ¬ ∃ w, 1 ≤ w ∧ w < 7 ∧ x = nI w := fun ⟨w, w1, w7, e⟩ => hn ⟨0, 0, 0, w, ⟨⟨e, w1, w7⟩, rfl, rfl, rfl⟩, w7⟩
    rcases nb_nw hx0 with q | ⟨q, q6⟩
    · exact br_t q h
    · exact br_f q (br_f (Int32.not_le.mpr q6) h)
  · by_cases q : ∃ a b d w, nb_fq c wd k x y z a b d w
    · obtain ⟨a, b, d, w, q⟩ := q
      have w13 := nb_fq_w hk h7 q
      refine ny_ft _ hk g0 hc hW h7 q (br_f (by decide) ?_)
      refine ny_rw _ hk hc hW q ?_
      have w6 : ¬ w < 7 := fun w7 => hn ⟨a, b, d, w, q, w7⟩
      exact br_f (nI_nlt (b := 1) (by omega) (by omega)) (br_f (nI_ge (a := 6) (by omega) (by omega)) h)
    · exact ny_ff _ hk g0 hc hW h7 q (br_t rfl h)
theorem nb_S_new (S : nb_S c K W ox oy oz nums rch D ex ey ez kd wd xo yo zo dp) (hc : c < 24) {k a b d w : Nat} (hk : k ≤ 18) {x y z : Int32} (op : nb_ops c k x y z a b d w) (wf : nb_wf k w (wd a) (wd b) (wd d)) (w7 : w < 7)
    {ox' oy' oz' rch' D' : Nat → Int32} (s1 : ∀ j, ox' j = nI (nb_up xo c a j)) (s2 : ∀ j, oy' j = nI (nb_up yo c b j)) (s3 : ∀ j, oz' j = nI (nb_up zo c d j)) (s4 : ∀ j, j ≠ c → rch' j = rch j)
    (s5 : ∀ i, i < 24 → (bt (rch' c) i = true ↔ (i = c ∨ (3 ≤ k ∧ bt (rch a) i = true) ∨ ((4 ≤ k ∧ k ≤ 15) ∧ bt (rch b) i = true) ∨ (k = 12 ∧ bt (rch d) i = true))))
    (s6 : ∀ j, D' j = nI (nb_up dp c (nb_dv k (dp a) (dp b) (dp d)) j)) :
    nb_S (c + 1) (upd K c (nI k)) (upd W c (nI w)) ox' oy' oz' (upd nums c (if k = 1 ∨ k = 2 ∨ k = 16 then y else 0)) rch' D' (upd ex c x) (upd ey c y) (upd ez c z) (nb_up kd c k) (nb_up wd c w) (nb_up xo c a) (nb_up yo c b) (nb_up zo c d) (nb_up dp c (nb_dv k (dp a) (dp b) (dp d))) := by
  obtain ⟨_, hK, hW, hx, hy, hz, hD, ok, ye, be, rq, dq⟩ := S
  obtain ⟨oa, na, ob, nb, od, nd, w1, rn⟩ := op
  have la : 3 ≤ k → a < c := fun h => (oa h).1
  have lb : 3 ≤ k → b < c := fun h => by
    have := la h
    by_cases g : 4 ≤ k ∧ k ≤ 15
    · exact (ob g).1
    · rw [nb g]; omega
  have ld : 3 ≤ k → d < c := fun h => by
    have := la h
    by_cases g : k = 12
    · exact (od g).1
    · rw [nd g]; omega
  have lo : k < 3 → a = 0 ∧ b = 0 ∧ d = 0 := fun h => ⟨na h, nb (by omega), nd (by omega)⟩
  have alla : a ≤ c ∧ b ≤ c ∧ d ≤ c := by
    by_cases g : k < 3
    · obtain ⟨e1, e2, e3⟩ := lo g
      omega
    · have := la (by omega)
      have := lb (by omega)
      have := ld (by omega)
      omega
  refine ⟨by omega, nb_upI hK, nb_upI hW, s1, s2, s3, s6, ?_, ?_, ?_, ?_, ?_⟩
  · have new : nb_ok (nb_up kd c k) (nb_up wd c w) (nb_up xo c a) (nb_up yo c b) (nb_up zo c d) (upd nums c (if k = 1 ∨ k = 2 ∨ k = 16 then y else 0)) c := by
      unfold nb_ok
      rw [nb_ups, nb_ups, nb_ups, nb_ups, nb_ups, pk_us]
      refine ⟨hk, w1, w7, alla.1, alla.2.1, alla.2.2, la, fun h h' => (ob ⟨h, h'⟩).1, fun h => (od h).1, fun h => ?_, ?_⟩
      · rw [if_pos (h.elim Or.inl (fun h => Or.inr (Or.inl h)))]
        exact rn h
      · by_cases g : k < 3
        · exact nb_wf_lo g
        · have := la (by omega)
          have := lb (by omega)
          have := ld (by omega)
          rw [nb_upn (show a ≠ c by omega), nb_upn (show b ≠ c by omega), nb_upn (show d ≠ c by omega)]
          exact wf
    intro j hj
    by_cases e : j = c
    · rw [e]; exact new
    · have hjc : j < c := by omega
      have o := ok j hjc
      have o4 := o.2.2.2.1
      have o5 := o.2.2.2.2.1
      have o6 := o.2.2.2.2.2.1
      unfold nb_ok
      rw [nb_upn e, nb_upn e, nb_upn e, nb_upn e, nb_upn e, pk_un e, nb_upn (show xo j ≠ c by omega), nb_upn (show yo j ≠ c by omega), nb_upn (show zo j ≠ c by omega)]
      exact o
  · have new : nb_ye (nb_up kd c k) (nb_up xo c a) (nb_up yo c b) (nb_up zo c d) (upd nums c (if k = 1 ∨ k = 2 ∨ k = 16 then y else 0)) (upd ex c x) (upd ey c y) (upd ez c z) c := by
      unfold nb_ye
      rw [nb_ups, nb_ups, nb_ups, nb_ups, pk_us, pk_us, pk_us, pk_us]
      refine ⟨fun h => (oa h).2, fun h h' => (ob ⟨h, h'⟩).2, fun h => (od h).2, fun h => ?_⟩
      rw [if_pos h]
    intro j hj
    by_cases e : j = c
    · rw [e]; exact new
    · unfold nb_ye
      rw [nb_upn e, nb_upn e, nb_upn e, nb_upn e, pk_un e, pk_un e, pk_un e, pk_un e]
      exact ye j (by omega)
  · intro j hj
    have e : j ≠ c := by omega
    rw [nb_upn e, nb_upn e, nb_upn e, nb_upn e]
    exact be j (by omega)
  · have new : nb_rq (nb_up kd c k) (nb_up xo c a) (nb_up yo c b) (nb_up zo c d) rch' c := by
      intro i hi
      rw [nb_ups, nb_ups, nb_ups, nb_ups, s5 i hi]
      have pa : 3 ≤ k → rch' a = rch a := fun h => s4 a (by have := la h; omega)
      have pb : 4 ≤ k ∧ k ≤ 15 → rch' b = rch b := fun h => s4 b (by have := lb (by omega); omega)
      have pd : k = 12 → rch' d = rch d := fun h => s4 d (by have := ld (by omega); omega)
      constructor
      · rintro (h | ⟨g, h⟩ | ⟨g, h⟩ | ⟨g, h⟩)
        · exact Or.inl h
        · exact Or.inr (Or.inl ⟨g, by rw [pa g]; exact h⟩)
        · exact Or.inr (Or.inr (Or.inl ⟨g, by rw [pb g]; exact h⟩))
        · exact Or.inr (Or.inr (Or.inr ⟨g, by rw [pd g]; exact h⟩))
      · rintro (h | ⟨g, h⟩ | ⟨g, h⟩ | ⟨g, h⟩)
        · exact Or.inl h
        · rw [pa g] at h; exact Or.inr (Or.inl ⟨g, h⟩)
        · rw [pb g] at h; exact Or.inr (Or.inr (Or.inl ⟨g, h⟩))
        · rw [pd g] at h; exact Or.inr (Or.inr (Or.inr ⟨g, h⟩))
    intro j hj
    by_cases e : j = c
    · rw [e]; exact new
    · have hjc : j < c := by omega
      have o := ok j hjc
      have o4 := o.2.2.2.1
      have o5 := o.2.2.2.2.1
      have o6 := o.2.2.2.2.2.1
      unfold nb_rq
      rw [nb_upn e, nb_upn e, nb_upn e, nb_upn e, s4 j e, s4 (xo j) (by omega), s4 (yo j) (by omega), s4 (zo j) (by omega)]
      exact rq j hjc
  · have new : nb_dq (nb_up kd c k) (nb_up xo c a) (nb_up yo c b) (nb_up zo c d) (nb_up dp c (nb_dv k (dp a) (dp b) (dp d))) c := by
      unfold nb_dq
      rw [nb_ups, nb_ups, nb_ups, nb_ups, nb_ups]
      refine ⟨?_, ?_⟩
      · by_cases g : k < 3
        · unfold nb_dv
          rw [if_pos g, if_pos g]
        · have := la (by omega)
          have := lb (by omega)
          have := ld (by omega)
          rw [nb_upn (show a ≠ c by omega), nb_upn (show b ≠ c by omega), nb_upn (show d ≠ c by omega)]
      · exact nb_dv_le (fun h => by have := la h; have := (dq a (la h)).2; omega) (fun h => by have := lb h; have := (dq b (lb h)).2; omega) (fun h => by have := ld h; have := (dq d (ld h)).2; omega)
    intro j hj
    by_cases e : j = c
    · rw [e]; exact new
    · have hjc : j < c := by omega
      have o := ok j hjc
      have o4 := o.2.2.2.1
      have o5 := o.2.2.2.2.1
      have o6 := o.2.2.2.2.2.1
      unfold nb_dq
      rw [nb_upn e, nb_upn e, nb_upn e, nb_upn e, nb_upn e, nb_upn (show xo j ≠ c by omega), nb_upn (show yo j ≠ c by omega), nb_upn (show zo j ≠ c by omega)]
      exact dq j hjc
theorem nb_D_new (Dy : nb_D c kd wd pp pd pe nx en fo H nt nty mem nm) {k w : Nat} {y : Int32} (r : k = 2 → nb_R w y) :
    nb_D (c + 1) (nb_up kd c k) (nb_up wd c w) pp pd pe (upd nx c (-1)) (upd en c (-1)) (upd fo c (-1)) (upd H c (if k = 2 then y else 0)) (upd nt c (if k = 2 then y else 0)) (upd nty c (if k = 2 then y else 0)) mem nm := by
  obtain ⟨d1, d2, d3, d4, d5, d6, d7⟩ := Dy
  have rf : nb_R w (if k = 2 then y else 0) := by
    by_cases g : k = 2
    · rw [if_pos g]; exact r g
    · rw [if_neg g]; exact ⟨0, Nat.two_pow_pos w, rfl⟩
  refine ⟨fun j hj => ?_, fun j hj => ?_, fun j hj => ?_, fun j hj => ?_, d5, d6, ?_⟩
  · unfold nb_ne
    by_cases e : j = c
    · rw [e, pk_us, pk_us]
      exact ⟨Or.inl rfl, Or.inl rfl⟩
    · rw [pk_un e, pk_un e, nb_upn e]
      obtain ⟨n1, n2⟩ := d1 j (by omega)
      refine ⟨n1.elim Or.inl (fun ⟨t, ht, e1, e2⟩ => Or.inr ⟨t, by omega, e1, ?_⟩), n2.elim Or.inl (fun ⟨t, ht, e1⟩ => Or.inr ⟨t, by omega, e1⟩)⟩
      rw [nb_upn (by omega)]
      exact e2
  · by_cases e : j = c
    · rw [e, pk_us]; exact Or.inl rfl
    · rw [pk_un e, nb_upn e]; exact d2 j (by omega)
  · by_cases e : j = c
    · rw [e, pk_us, nb_ups]; exact rf
    · rw [pk_un e, nb_upn e]; exact d3 j (by omega)
  · by_cases e : j = c
    · rw [e, pk_us, pk_us, nb_ups, nb_ups]; exact fun _ => ⟨rfl, rf⟩
    · rw [pk_un e, pk_un e, nb_upn e, nb_upn e]; exact d4 j (by omega)
  · rcases d7 with h | ⟨p, d, e, h1, h2, h3, e1, e2, e3, w1, w2⟩
    · exact Or.inl h
    · refine Or.inr ⟨p, d, e, by omega, by omega, by omega, e1, e2, e3, ?_, ?_⟩
      · rw [nb_upn (by omega)]; exact w1
      · rw [nb_upn (by omega)]; exact w2
end
theorem i_vc_signal {k : Nat} {u : SX} {v : SY} (I : i_Rel k u v) (hk : k + 5 ≤ 2560) (v1 : Int32) (v2 : Int32) (v3 : Int32) (v4 : Int32) : wpX_signal (fun r u' => wpY_signal (fun r' v' => r' = r ∧ i_Rel (k + 5) u' v') v v1 v2 v3 v4) u v1 v2 v3 v4 := by
  obtain ⟨c, cs, sw, pp, pd, pe, K, W, ox, oy, oz, nums, rch, D, nx, en, fo, H, nt, mem, nm, vals, tr, ex, ey, ez, nty, va, td, mt, kd, wd, xo, yo, zo, dp, rfl, rfl, h1, S, Dy⟩ := I
  have same : i_Rel (k + 5) ((nI c), cs, sw, pp, pd, pe, K, W, ox, oy, oz, nums, rch, D, nx, en, fo, H, nt, mem, nm, vals, tr) ((nI c), cs, sw, pp, pd, pe, K, ex, ey, ez, W, H, nty, fo, va, nx, en, mem, nm, td, mt) := nb_rel h1 S Dy
  have hc := S.1
  have ok := S.2.2.2.2.2.2.2.1
  by_cases hc4 : c < 24
  · by_cases q0 : v1 < 0
    · exact br_t (nI_lt (b := 24) hc4 (by omega)) (br_t q0 (br_f (fun w => absurd ((nI_eq (b := 24) (by omega) (by omega)).mp w) (by omega)) (br_t q0 ⟨rfl, same⟩)))
    · by_cases q18 : v1 ≤ 18
      · obtain ⟨m, hm, rfl⟩ := nI_of q0
        have m18 : m ≤ 18 := (nI_leI (b := 18) hm (by omega)).mp q18
        by_cases q : ∃ a b d w, nb_fq c wd m v2 v3 v4 a b d w ∧ w < 7
        · obtain ⟨a, b, d, w, q, w7⟩ := q
          obtain ⟨op, wf⟩ := nb_fq_ops m18 (fun j hj => (ok j hj).2.1) q
          have w1 : 1 ≤ w := op.2.2.2.2.2.2.1
          have hh : ((if m = 0 ∨ m = 2 then (1 : Int32) else 0) = 0 ∧ (if m = 0 ∨ m = 2 then nI w else 0) = 0) ∨ ((if m = 0 ∨ m = 2 then (1 : Int32) else 0) = 1 ∧ (if m = 0 ∨ m = 2 then nI w else 0) = nI w) := by
            by_cases g : m = 0 ∨ m = 2
            · rw [if_pos g, if_pos g]; exact Or.inr ⟨rfl, rfl⟩
            · rw [if_neg g, if_neg g]; exact Or.inl ⟨rfl, rfl⟩
          refine nx_sig_t _ S hc4 m18 q w1 w7 (nx_84 _ S hc4 m18 op (fun hf => ?_) (fun q1 q2 ox' oy' oz' rch' D' s1 s2 s3 s4 s5 s6 => ?_))
          · exact ny_sig_t _ S hc4 m18 q w1 w7 (ny_86 _ hc4 m18 hh h1 (fun _ => ⟨rfl, same⟩) (fun q1 q2 => absurd hf (fun w => w.elim q1 (fun w => w q2))))
          · refine ny_sig_t _ S hc4 m18 q w1 w7 (ny_86 _ hc4 m18 hh h1 (fun hf => absurd hf (fun w => w.elim q1 (fun w => w q2))) (fun _ _ => ⟨rfl, ?_⟩))
            exact nb_rel (c := c + 1) q2 (nb_S_new S hc4 m18 op wf w7 s1 s2 s3 s4 s5 s6) (nb_D_new Dy (fun g => op.2.2.2.2.2.2.2 (Or.inr g)))
        · exact nx_sig_f _ S hc4 m18 q (ny_sig_f _ S hc4 m18 q ⟨rfl, same⟩)
      · exact br_t (nI_lt (b := 24) hc4 (by omega)) (br_f q0 (br_f q18 (br_f (fun w => absurd ((nI_eq (b := 24) (by omega) (by omega)).mp w) (by omega)) (br_f q0 (br_t (Int32.not_le.mp q18) ⟨rfl, same⟩)))))
  · have e : c = 24 := by omega
    subst e
    exact br_f (nI_nlt (b := 24) (by omega) (by omega)) (br_t rfl ⟨rfl, same⟩)
