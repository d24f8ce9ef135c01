/-! equivalent and satisfied: one answer for every way to fill the support -/
theorem nb_a15 : ∀ w, w < 16 → (nI w &&& 15) = nI w := by decide +kernel
theorem nb_oo (x : Int32) : x ||| x = x := b_ext (fun i _ => by rw [b_or, Bool.or_self])
section
variable {c : Nat} {cs sw pp pd pe : Int32} {K W ox oy oz nums rch D nx en fo H nt mem nm vals tr ex ey ez nty va td mt : Nat → Int32} {kd wd xo yo zo dp : Nat → Nat}
/-- for one way: what each side's values of the cone are, whatever the rest holds -/
theorem nb_way (S : nb_S c K W ox oy oz nums rch D ex ey ez kd wd xo yo zo dp) (d2 : ∀ j, j < c → fo j = -1 ∨ nb_R (wd j) (fo j)) (d5 : ∀ i, i < 4 → nb_R 4 (mem i)) {cone : Int32} (cl : nb_Cl c kd xo yo zo (fun i => bt cone i = true)) (way : Int32) :
    ∃ C : Nat → Int32,
      (∀ tr' U, (∀ j, j < c → nb_sp cone kd j = true → tr' j = nb_tv (nb_sp cone kd) wd way j) → nb_Sol (nb_FX kd wd xo yo zo nums fo mem tr') c U → ∀ j, j < c → bt cone j = true → U j = C j)
      ∧ (∀ td' V, (∀ j, j < c → nb_sp cone kd j = true → td' j = nb_tv (nb_sp cone kd) wd way j) → nb_Sol (nb_FY kd wd xo yo zo nums fo mem td') c V → ∀ j, j < c → bt cone j = true → V j = C j) := by
  have ok := S.2.2.2.2.2.2.2.1
  obtain ⟨C, hC⟩ := nb_sol_ex (nb_locX (fo := fo) (mem := mem) (base := nb_tv (nb_sp cone kd) wd way) ok)
  obtain ⟨V0, hV0⟩ := nb_sol_ex (nb_locY (fo := fo) (mem := mem) (base := nb_tv (nb_sp cone kd) wd way) ok)
  have R : ∀ j, j < c → nb_R (wd j) (nb_tv (nb_sp cone kd) wd way j) := fun j hj => nb_mR (ok j hj).2.2.1 _
  have e0 : ∀ j, j < c → bt cone j = true → C j = V0 j := fun j hj b =>
    (nb_agree ok d2 d5 (fun i => bt cone i = true) cl (fun j hj _ _ => ⟨rfl, R j hj⟩) hC hV0 (j + 1) j (by omega) hj b).1
  refine ⟨C, fun tr' U h hU j hj b => ?_, fun td' V h hV j hj b => ?_⟩
  · rw [e0 j hj b]
    exact (nb_agree ok d2 d5 (fun i => bt cone i = true) cl (fun j hj b k => ⟨h j hj (nb_sp_iff.mpr ⟨b, k⟩), R j hj⟩) hU hV0 (j + 1) j (by omega) hj b).1
  · refine (nb_agree ok d2 d5 (fun i => bt cone i = true) cl (fun j hj b k => ?_) hC hV (j + 1) j (by omega) hj b).1.symm
    have e := h j hj (nb_sp_iff.mpr ⟨b, k⟩)
    rw [e]
    exact ⟨rfl, R j hj⟩
theorem nb_eqv (S : nb_S c K W ox oy oz nums rch D ex ey ez kd wd xo yo zo dp) (d2 : ∀ j, j < c → fo j = -1 ∨ nb_R (wd j) (fo j)) (d5 : ∀ i, i < 4 → nb_R 4 (mem i)) {cone : Int32} (cl : nb_Cl c kd xo yo zo (fun i => bt cone i = true))
    {s t b : Nat} (hs : s < c) (ht : t < c) (bs : bt cone s = true) (bt' : bt cone t = true) (hb : b ≤ 8) :
    ∀ d i, i + d = 2 ^ b → ∃ r : Int32,
      (∀ (post : Int32 → SX → Prop) (vals tr : Nat → Int32), (∀ vals' tr', post r ((nI c), cs, sw, pp, pd, pe, K, W, ox, oy, oz, nums, rch, D, nx, en, fo, H, nt, mem, nm, vals', tr')) → wX_equivalent_70 post (nI s) (nI t) cone (nI (2 ^ b)) (d + 1) (nI i) (nI c) cs sw pp pd pe K W ox oy oz nums rch D nx en fo H nt mem nm vals tr)
      ∧ (∀ (post : Int32 → SY → Prop) (va td mt : Nat → Int32), (∀ j, j < c → (¬ mt j = 0 ↔ bt cone j = true)) → (∀ va' td', post r ((nI c), cs, sw, pp, pd, pe, K, ex, ey, ez, W, H, nty, fo, va', nx, en, mem, nm, td', mt)) → wY_equivalent_28 post (nI s) (nI t) (nI b) (d + 1) (nI i) (nI c) cs sw pp pd pe K ex ey ez W H nty fo va nx en mem nm td mt) := by
  have S0 := S
  obtain ⟨hc, hK, hW, hx, hy, hz, hD, ok, ye, _, _, _⟩ := S0
  have h2 : 2 ^ b ≤ 256 := Nat.pow_le_pow_right (by decide) hb
  have es : (1 : Int32) <<< ((nI b &&& 15) &&& 31) = nI (2 ^ b) := by rw [nb_a15 b (by omega)]; exact nb_sh1 b (by omega)
  have xs : vp_in (nI s) 24 := vp_in_nI (by omega) (by omega)
  have xt : vp_in (nI t) 24 := vp_in_nI (by omega) (by omega)
  have cs2 : (nI s).toNatClampNeg = s := nI_clamp (by omega)
  have ct2 : (nI t).toNatClampNeg = t := nI_clamp (by omega)
  intro d
  induction d with
  | zero =>
    intro i hi
    have : i = 2 ^ b := by omega
    subst this
    refine ⟨1, fun post vals tr hp => br_t (nI_le (Nat.le_refl _) (by omega)) (hp vals tr), fun post va td mt hM hp => br_t ?_ (hp va td)⟩
    rw [es]
    exact nI_le (Nat.le_refl _) (by omega)
  | succ d ih =>
    intro i hi
    obtain ⟨C, cX, cY⟩ := nb_way S d2 d5 cl (nI i)
    obtain ⟨r, fx, fy⟩ := ih (i + 1) (by omega)
    have nle : ¬ nI (2 ^ b) ≤ nI i := nI_ge (by omega) (by omega)
    by_cases q : C s = C t
    · refine ⟨r, fun post vals tr hp => ?_, fun post va td mt hM hp => ?_⟩
      · refine br_f nle (nx_fill _ S (fun tr' h => ?_))
        refine nx_set_trial _ hc hK hW hx hy hz ok (fun U hU => ⟨xs, xt, ?_⟩)
        rw [cs2, ct2, cX tr' U h hU s hs bs, cX tr' U h hU t ht bt']
        exact br_t q (nm_r (nI_1 i) (fx post U tr' hp))
      · refine br_f (by rw [es]; exact nle) (ny_give _ S d2 hM (fun td' V h hV => ⟨xs, xt, ?_⟩))
        rw [cs2, ct2, cY td' V h hV s hs bs, cY td' V h hV t ht bt']
        exact br_t q (nm_r (nI_1 i) (fy post V td' mt hM hp))
    · refine ⟨0, fun post vals tr hp => ?_, fun post va td mt hM hp => ?_⟩
      · refine br_f nle (nx_fill _ S (fun tr' h => ?_))
        refine nx_set_trial _ hc hK hW hx hy hz ok (fun U hU => ⟨xs, xt, ?_⟩)
        rw [cs2, ct2, cX tr' U h hU s hs bs, cX tr' U h hU t ht bt']
        exact br_f q (hp U tr')
      · refine br_f (by rw [es]; exact nle) (ny_give _ S d2 hM (fun td' V h hV => ⟨xs, xt, ?_⟩))
        rw [cs2, ct2, cY td' V h hV s hs bs, cY td' V h hV t ht bt']
        exact br_f q (hp V td')
theorem nb_sat (S : nb_S c K W ox oy oz nums rch D ex ey ez kd wd xo yo zo dp) (d2 : ∀ j, j < c → fo j = -1 ∨ nb_R (wd j) (fo j)) (d5 : ∀ i, i < 4 → nb_R 4 (mem i)) {cone : Int32} (cl : nb_Cl c kd xo yo zo (fun i => bt cone i = true))
    {s b : Nat} (hs : s < c) (bs : bt cone s = true) (hb : b ≤ 8) :
    ∀ d i (x4 : Int32), i + d = 2 ^ b → ∃ r : Int32,
      (∀ (post : Int32 → SX → Prop) (vals tr : Nat → Int32), (∀ vals' tr', post r ((nI c), cs, sw, pp, pd, pe, K, W, ox, oy, oz, nums, rch, D, nx, en, fo, H, nt, mem, nm, vals', tr')) → wX_satisfied_42 post (nI s) cone (nI (2 ^ b)) (d + 1) x4 (nI i) (nI c) cs sw pp pd pe K W ox oy oz nums rch D nx en fo H nt mem nm vals tr)
      ∧ (∀ (post : Int32 → SY → Prop) (va td mt : Nat → Int32), (∀ j, j < c → (¬ mt j = 0 ↔ bt cone j = true)) → (∀ va' td', post r ((nI c), cs, sw, pp, pd, pe, K, ex, ey, ez, W, H, nty, fo, va', nx, en, mem, nm, td', mt)) → wY_satisfied_29 post (nI s) (nI b) (d + 1) x4 (nI i) (nI c) cs sw pp pd pe K ex ey ez W H nty fo va nx en mem nm td mt) := by
  have S0 := S
  obtain ⟨hc, hK, hW, hx, hy, hz, hD, ok, ye, _, _, _⟩ := S0
  have h2 : 2 ^ b ≤ 256 := Nat.pow_le_pow_right (by decide) hb
  have es : (1 : Int32) <<< ((nI b &&& 15) &&& 31) = nI (2 ^ b) := by rw [nb_a15 b (by omega)]; exact nb_sh1 b (by omega)
  have xs : vp_in (nI s) 24 := vp_in_nI (by omega) (by omega)
  have cs2 : (nI s).toNatClampNeg = s := nI_clamp (by omega)
  intro d
  induction d with
  | zero =>
    intro i x4 hi
    have : i = 2 ^ b := by omega
    subst this
    refine ⟨x4, fun post vals tr hp => br_t (nI_le (Nat.le_refl _) (by omega)) (hp vals tr), fun post va td mt hM hp => br_t ?_ (hp va td)⟩
    rw [es]
    exact nI_le (Nat.le_refl _) (by omega)
  | succ d ih =>
    intro i x4 hi
    obtain ⟨C, cX, cY⟩ := nb_way S d2 d5 cl (nI i)
    have nle : ¬ nI (2 ^ b) ≤ nI i := nI_ge (by omega) (by omega)
    by_cases q : C s = 0
    · obtain ⟨r, fx, fy⟩ := ih (i + 1) x4 (by omega)
      refine ⟨r, fun post vals tr hp => ?_, fun post va td mt hM hp => ?_⟩
      · refine br_f nle (nx_fill _ S (fun tr' h => ?_))
        refine nx_set_trial _ hc hK hW hx hy hz ok (fun U hU => ⟨xs, ?_⟩)
        rw [cs2, cX tr' U h hU s hs bs]
        exact br_t q (nm_r (nI_1 i) (fx post U tr' hp))
      · refine br_f (by rw [es]; exact nle) (ny_give _ S d2 hM (fun td' V h hV => ⟨xs, ?_⟩))
        rw [cs2, cY td' V h hV s hs bs]
        exact br_t q (nm_r (nI_1 i) (fy post V td' mt hM hp))
    · obtain ⟨r, fx, fy⟩ := ih (i + 1) (x4 + 1) (by omega)
      refine ⟨r, fun post vals tr hp => ?_, fun post va td mt hM hp => ?_⟩
      · refine br_f nle (nx_fill _ S (fun tr' h => ?_))
        refine nx_set_trial _ hc hK hW hx hy hz ok (fun U hU => ⟨xs, ?_⟩)
        rw [cs2, cX tr' U h hU s hs bs]
        exact br_f q (nm_e (nm_r (nI_1 i) (fx post U tr' hp)))
      · refine br_f (by rw [es]; exact nle) (ny_give _ S d2 hM (fun td' V h hV => ⟨xs, ?_⟩))
        rw [cs2, cY td' V h hV s hs bs]
        exact br_f q (nm_e (nm_r (nI_1 i) (fy post V td' mt hM hp)))
/-- the component, up to the loop over the ways -/
theorem nx_eq_in (post : Int32 → SX → Prop) (S : nb_S c K W ox oy oz nums rch D ex ey ez kd wd xo yo zo dp) {v1 v2 : Int32}
    (hn : (¬ ∃ a b, a < c ∧ b < c ∧ v1 = nI a ∧ v2 = nI b ∧ wd a = wd b) → post (-1) ((nI c), cs, sw, pp, pd, pe, K, W, ox, oy, oz, nums, rch, D, nx, en, fo, H, nt, mem, nm, vals, tr))
    (ho : ∀ s t, s < c → t < c → v1 = nI s → v2 = nI t → wd s = wd t → nb_op c (rch s ||| rch t) kd wd → post (-3) ((nI c), cs, sw, pp, pd, pe, K, W, ox, oy, oz, nums, rch, D, nx, en, fo, H, nt, mem, nm, vals, tr))
    (hl : ∀ s t, s < c → t < c → v1 = nI s → v2 = nI t → wd s = wd t → ¬ nb_op c (rch s ||| rch t) kd wd → ∃ n, wX_equivalent_70 post (nI s) (nI t) (rch s ||| rch t) (nI (2 ^ nb_sw (nb_sp (rch s ||| rch t) kd) wd c)) n 0 (nI c) cs sw pp pd pe K W ox oy oz nums rch D nx en fo H nt mem nm vals tr) : wpX_equivalent post ((nI c), cs, sw, pp, pd, pe, K, W, ox, oy, oz, nums, rch, D, nx, en, fo, H, nt, mem, nm, vals, tr) v1 v2 := by
  have S0 := S
  obtain ⟨hc, hK, hW, hx, hy, hz, hD, ok, ye, _, _, _⟩ := S0
  unfold wpX_equivalent
  by_cases q1 : nb_sg c v1
  · obtain ⟨s, hs, rfl⟩ := q1
    refine nx_isS_t _ hc hs (br_f (by decide) ?_)
    by_cases q2 : nb_sg c v2
    · obtain ⟨t, ht, rfl⟩ := q2
      have xs : vp_in (nI s) 24 := vp_in_nI (by omega) (by omega)
      have xt : vp_in (nI t) 24 := vp_in_nI (by omega) (by omega)
      have ws := (ok s hs).2.2.1
      have wt := (ok t ht).2.2.1
      refine nx_isS_t _ hc ht (br_f (by decide) ⟨xs, xt, ?_⟩)
      rw [nI_clamp (by omega), nI_clamp (by omega), hW, hW]
      by_cases w : wd s = wd t
      · refine br_t (by rw [w]) ⟨xs, xt, nm_e ?_⟩
        refine nx_open _ S (fun o => br_f (by decide) (ho s t hs ht rfl rfl w o)) (fun o => br_t rfl (nx_swd _ S ?_))
        refine nm_r (nb_sh1 _ ?_) (hl s t hs ht rfl rfl w o)
        have : ¬ 8 < nb_sw (nb_sp (rch s ||| rch t) kd) wd c := fun z => o (Or.inr z)
        omega
      · refine br_f (fun z => w ((nI_eq (by omega) (by omega)).mp z)) (hn ?_)
        rintro ⟨a, b, ha, hb, ea, eb, e⟩
        have e1 : s = a := (nI_eq (by omega) (by omega)).mp ea
        have e2 : t = b := (nI_eq (by omega) (by omega)).mp eb
        subst e1 e2
        exact w e
    · refine nx_isS_f _ hc q2 (br_t rfl (hn ?_))
      rintro ⟨_, b, _, hb, _, eb, _⟩
      exact q2 ⟨b, hb, eb⟩
  · refine nx_isS_f _ hc q1 (br_t rfl (hn ?_))
    rintro ⟨a, _, ha, _, ea, _⟩
    exact q1 ⟨a, ha, ea⟩
end
theorem i_vc_equivalent {k : Nat} {u : SX} {v : SY} (I : i_Rel k u v) (hk : k + 5 ≤ 2560) (v1 : Int32) (v2 : Int32) : wpX_equivalent (fun r u' => wpY_equivalent (fun r' v' => r' = r ∧ i_Rel (k + 5) u' v') v v1 v2) u v1 v2 := by
  obtain ⟨c, cs, sw, pp, pd, pe, K, W, ox, oy, oz, nums, rch, D, nx, en, fo, H, nt, mem, nm, vals, tr, ex, ey, ez, nty, va, td, mt, kd, wd, xo, yo, zo, dp, rfl, rfl, h1, S, d1, d2, d3, d4, d5, d6, d7⟩ := I
  have S0 := S
  obtain ⟨hc, hK, hW, hx, hy, hz, hD, ok, ye, _, rq, _⟩ := S0
  have h7 : ∀ j, j < c → wd j < 7 := fun j hj => (ok j hj).2.2.1
  refine nx_eq_in _ S (fun hn => ?_) (fun s t hs ht e1 e2 w o => ?_) (fun s t hs ht e1 e2 w o => ?_)
  · unfold wpY_equivalent
    exact ny_al_f _ hc hW h7 hn (br_t rfl ⟨rfl, nb_rel h1 S ⟨d1, d2, d3, d4, d5, d6, d7⟩⟩)
  · subst e1 e2
    unfold wpY_equivalent
    refine ny_al_t _ hc hW hs ht w (br_f (by decide) ?_)
    exact ny_sup _ S hs ht (fun _ mt' => br_f (by decide) ⟨rfl, nb_rel h1 S ⟨d1, d2, d3, d4, d5, d6, d7⟩⟩) (fun o' => absurd o o')
  · subst e1 e2
    obtain ⟨cl, bs, bt', _⟩ := nb_cone hc ok rq hs ht
    have hb : nb_sw (nb_sp (rch s ||| rch t) kd) wd c ≤ 8 := Nat.not_lt.mp (fun z => o (Or.inr z))
    obtain ⟨r, fx, fy⟩ := nb_eqv (cs := cs) (sw := sw) (pp := pp) (pd := pd) (pe := pe) (nx := nx) (en := en) (H := H) (nt := nt) (nm := nm) (nty := nty) S d2 d5 cl hs ht bs bt' hb _ 0 (Nat.zero_add _)
    refine ⟨_, fx _ vals tr (fun vals' tr' => ?_)⟩
    unfold wpY_equivalent
    refine ny_al_t _ hc hW hs ht w (br_f (by decide) ?_)
    refine ny_sup _ S hs ht (fun o' => absurd o' o) (fun _ mt' hM => br_t (nI_pos' (by omega)) ⟨_, fy _ va td mt' hM (fun va' td' => ?_)⟩)
    exact ⟨rfl, nb_rel h1 S ⟨d1, d2, d3, d4, d5, d6, d7⟩⟩
theorem i_vc_satisfied {k : Nat} {u : SX} {v : SY} (I : i_Rel k u v) (hk : k + 5 ≤ 2560) (v1 : Int32) : wpX_satisfied (fun r u' => wpY_satisfied (fun r' v' => r' = r ∧ i_Rel (k + 5) u' v') v v1) u v1 := by
  obtain ⟨c, cs, sw, pp, pd, pe, K, W, ox, oy, oz, nums, rch, D, nx, en, fo, H, nt, mem, nm, vals, tr, ex, ey, ez, nty, va, td, mt, kd, wd, xo, yo, zo, dp, rfl, rfl, h1, S, d1, d2, d3, d4, d5, d6, d7⟩ := I
  have S0 := S
  obtain ⟨hc, hK, hW, hx, hy, hz, hD, ok, ye, _, rq, _⟩ := S0
  unfold wpX_satisfied
  by_cases q : nb_sg c v1
  · obtain ⟨s, hs, rfl⟩ := q
    have xs : vp_in (nI s) 24 := vp_in_nI (by omega) (by omega)
    obtain ⟨cl, bs, _, _⟩ := nb_cone hc ok rq hs hs
    have yS : ∀ (post : Int32 → SY → Prop), (nb_op c (rch s) kd wd → ∀ mt', post (-1) ((nI c), cs, sw, pp, pd, pe, K, ex, ey, ez, W, H, nty, fo, va, nx, en, mem, nm, td, mt')) → (¬ nb_op c (rch s) kd wd → ∀ mt', (∀ j, j < c → (¬ mt' j = 0 ↔ bt (rch s) j = true)) → post (nI (nb_sw (nb_sp (rch s) kd) wd c)) ((nI c), cs, sw, pp, pd, pe, K, ex, ey, ez, W, H, nty, fo, va, nx, en, mem, nm, td, mt')) → wpY_support post ((nI c), cs, sw, pp, pd, pe, K, ex, ey, ez, W, H, nty, fo, va, nx, en, mem, nm, td, mt) (nI s) (nI s) := fun post a b => by
      have z := ny_sup (cs := cs) (sw := sw) (pp := pp) (pd := pd) (pe := pe) (H := H) (nty := nty) (fo := fo) (va := va) (nx := nx) (en := en) (mem := mem) (nm := nm) (td := td) (mt := mt) post S hs hs
      rw [nb_oo] at z
      exact z a b
    rw [nb_oo] at cl bs
    refine nx_isS_t _ hc hs (br_f (by decide) ⟨xs, ?_⟩)
    rw [nI_clamp (by omega)]
    refine nm_e (nx_open _ S (fun o => br_f (by decide) ?_) (fun o => br_t rfl (nx_swd _ S ?_)))
    · unfold wpY_satisfied
      refine ny_isS_t _ hc hs (br_f (by decide) ?_)
      exact yS _ (fun _ mt' => br_f (by decide) ⟨rfl, nb_rel h1 S ⟨d1, d2, d3, d4, d5, d6, d7⟩⟩) (fun o' => absurd o o')
    · have hb : nb_sw (nb_sp (rch s) kd) wd c ≤ 8 := Nat.not_lt.mp (fun z => o (Or.inr z))
      obtain ⟨r, fx, fy⟩ := nb_sat (cs := cs) (sw := sw) (pp := pp) (pd := pd) (pe := pe) (nx := nx) (en := en) (H := H) (nt := nt) (nm := nm) (nty := nty) S d2 d5 cl hs bs hb _ 0 0 (Nat.zero_add _)
      refine nm_r (nb_sh1 _ (by omega)) ⟨_, fx _ vals tr (fun vals' tr' => ?_)⟩
      unfold wpY_satisfied
      refine ny_isS_t _ hc hs (br_f (by decide) ?_)
      refine yS _ (fun o' => absurd o' o) (fun _ mt' hM => br_t (nI_pos' (by omega)) ⟨_, fy _ va td mt' hM (fun va' td' => ?_)⟩)
      exact ⟨rfl, nb_rel h1 S ⟨d1, d2, d3, d4, d5, d6, d7⟩⟩
  · refine nx_isS_f _ hc q (br_t rfl ?_)
    unfold wpY_satisfied
    exact ny_isS_f _ hc q (br_t rfl ⟨rfl, nb_rel h1 S ⟨d1, d2, d3, d4, d5, d6, d7⟩⟩)
