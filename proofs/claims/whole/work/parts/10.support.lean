/-! the support: the component's bits and the reference's marks give one cone, one width, one filling -/
def nb_op (c : Nat) (cone : Int32) (kd wd : Nat → Nat) : Prop := (∃ j, j < c ∧ bt cone j = true ∧ kd j = 18) ∨ 8 < nb_sw (nb_sp cone kd) wd c
section
variable {c : Nat} {cs sw pp pd pe : Int32} {K W ox oy oz nums rch D nx en fo H nt mem nm vals tr ex ey ez nty va td mt : Nat → Int32} {kd wd xo yo zo dp : Nat → Nat}
theorem nx_sp_t (post : Int32 → Prop) (hc : c ≤ 24) (hK : ∀ j, K j = nI (kd j)) {cone : Int32} {i : Nat} (hi : i < c) (k18 : kd i ≤ 18) (g : nb_sp cone kd i = true) (h : post 1) : wpX_isInSupport post ((nI c), cs, sw, pp, pd, pe, K, W, ox, oy, oz, nums, rch, D, nx, en, fo, H, nt, mem, nm, vals, tr) cone (nI i) := by
  have x1 : vp_in (nI i) 24 := vp_in_nI (by omega) (by omega)
  have x2 : (nI i).toNatClampNeg = i := nI_clamp (by omega)
  obtain ⟨b, k⟩ := nb_sp_iff.mp g
  unfold wpX_isInSupport
  refine br_t ((nb_bit cone i (by omega)).mpr b) ⟨x1, ?_⟩
  rw [x2, hK]
  rcases k with k | k
  · exact br_t (by rw [k]; rfl) h
  · exact br_f (by rw [k]; decide) ⟨x1, br_t (by rw [k]; rfl) h⟩
theorem nx_sp_f (post : Int32 → Prop) (hc : c ≤ 24) (hK : ∀ j, K j = nI (kd j)) {cone : Int32} {i : Nat} (hi : i < c) (k18 : kd i ≤ 18) (g : ¬ nb_sp cone kd i = true) (h : post 0) : wpX_isInSupport post ((nI c), cs, sw, pp, pd, pe, K, W, ox, oy, oz, nums, rch, D, nx, en, fo, H, nt, mem, nm, vals, tr) cone (nI i) := by
  have x1 : vp_in (nI i) 24 := vp_in_nI (by omega) (by omega)
  have x2 : (nI i).toNatClampNeg = i := nI_clamp (by omega)
  unfold wpX_isInSupport
  by_cases b : bt cone i = true
  · refine br_t ((nb_bit cone i (by omega)).mpr b) ⟨x1, ?_⟩
    rw [x2, hK]
    refine br_f (fun q => g (nb_sp_iff.mpr ⟨b, Or.inl ((nI_eq (b := 0) (by omega) (by omega)).mp q)⟩)) ⟨x1, br_f (fun q => g (nb_sp_iff.mpr ⟨b, Or.inr ((nI_eq (b := 2) (by omega) (by omega)).mp q)⟩)) h⟩
  · exact br_f (fun q => b ((nb_bit cone i (by omega)).mp q)) h
theorem nx_swd (post : Int32 → Prop) (S : nb_S c K W ox oy oz nums rch D ex ey ez kd wd xo yo zo dp) {cone : Int32} (h : post (nI (nb_sw (nb_sp cone kd) wd c))) : wpX_supportWidth post ((nI c), cs, sw, pp, pd, pe, K, W, ox, oy, oz, nums, rch, D, nx, en, fo, H, nt, mem, nm, vals, tr) cone := by
  obtain ⟨hc, hK, hW, hx, hy, hz, hD, ok, ye, _, _, _⟩ := S
  have key : ∀ n i, i ≤ c → c < i + n → wX_supportWidth_4 post cone (nI c) cs sw pp pd pe K W ox oy oz nums rch D nx en fo H nt mem nm vals tr n (nI (nb_sw (nb_sp cone kd) wd i)) (nI i) := by
    intro n
    induction n with
    | zero => intro i h1 h2; omega
    | succ n ih =>
      intro i h1 h2
      by_cases hi : i < c
      · have x1 : vp_in (nI i) 24 := vp_in_nI (by omega) (by omega)
        have x2 : (nI i).toNatClampNeg = i := nI_clamp (by omega)
        have nxt := ih (i + 1) (by omega) (by omega)
        refine br_f (nI_ge hi (by omega)) ?_
        by_cases g : nb_sp cone kd i = true
        · rw [nb_sw_t g] at nxt
          refine nx_sp_t _ hc hK hi (ok i hi).1 g (br_f (by decide) ⟨x1, ?_⟩)
          rw [x2, hW]
          exact nm_r (nI_add _ _) (nm_r (nI_1 i) nxt)
        · rw [nb_sw_f g] at nxt
          exact nx_sp_f _ hc hK hi (ok i hi).1 g (br_t rfl (nm_r (nI_1 i) nxt))
      · have : i = c := by omega
        subst this
        exact br_t (nI_le (Nat.le_refl _) (by omega)) h
  exact ⟨c + 1, key (c + 1) 0 (by omega) (by omega)⟩
theorem nx_open (post : Int32 → Prop) (S : nb_S c K W ox oy oz nums rch D ex ey ez kd wd xo yo zo dp) {cone : Int32} (ht : nb_op c cone kd wd → post 1) (hf : ¬ nb_op c cone kd wd → post 0) : wpX_isOpen post ((nI c), cs, sw, pp, pd, pe, K, W, ox, oy, oz, nums, rch, D, nx, en, fo, H, nt, mem, nm, vals, tr) cone := by
  have S0 := S
  obtain ⟨hc, hK, hW, hx, hy, hz, hD, ok, ye, _, _, _⟩ := S0
  have key : ∀ n i, i ≤ c → c < i + n → (∀ j, j < i → ¬ (bt cone j = true ∧ kd j = 18)) → wX_isOpen_2 post cone (nI c) cs sw pp pd pe K W ox oy oz nums rch D nx en fo H nt mem nm vals tr n (nI i) := by
    intro n
    induction n with
    | zero => intro i h1 h2; omega
    | succ n ih =>
      intro i h1 h2 hn
      by_cases hi : i < c
      · have x1 : vp_in (nI i) 24 := vp_in_nI (by omega) (by omega)
        have x2 : (nI i).toNatClampNeg = i := nI_clamp (by omega)
        have k18 := (ok i hi).1
        refine br_f (nI_ge hi (by omega)) ?_
        by_cases b : bt cone i = true
        · refine br_t ((nb_bit cone i (by omega)).mpr b) ⟨x1, ?_⟩
          rw [x2, hK]
          by_cases k : kd i = 18
          · exact br_t (by rw [k]; rfl) (ht (Or.inl ⟨i, hi, b, k⟩))
          · exact br_f (fun q => k ((nI_eq (b := 18) (by omega) (by omega)).mp q)) (nm_r (nI_1 i) (ih (i + 1) (by omega) (by omega) (lt_s hn (fun w => k w.2))))
        · exact br_f (fun q => b ((nb_bit cone i (by omega)).mp q)) (nm_r (nI_1 i) (ih (i + 1) (by omega) (by omega) (lt_s hn (fun w => b w.1))))
      · have : i = c := by omega
        subst this
        have le := nb_sw_le (P := nb_sp cone kd) (wd := wd) (fun j hj => (ok j hj).2.2.1) i (Nat.le_refl i)
        refine br_t (nI_le (Nat.le_refl _) (by omega)) (nx_swd _ S ?_)
        by_cases q : nb_sw (nb_sp cone kd) wd i ≤ 8
        · refine br_t (nI_le (b := 8) q (by omega)) (hf ?_)
          rintro (⟨j, hj, w⟩ | w)
          · exact hn j hj w
          · omega
        · exact br_f (fun w => q ((nI_leI (b := 8) (by omega) (by omega)).mp w)) (ht (Or.inr (by omega)))
  exact ⟨c + 1, key (c + 1) 0 (by omega) (by omega) (fun j hj => absurd hj (Nat.not_lt_zero j))⟩
theorem nx_fill (post : SX → Prop) (S : nb_S c K W ox oy oz nums rch D ex ey ez kd wd xo yo zo dp) {cone way : Int32}
    (hp : ∀ tr', (∀ j, j < c → nb_sp cone kd j = true → tr' j = nb_tv (nb_sp cone kd) wd way j) → post ((nI c), cs, sw, pp, pd, pe, K, W, ox, oy, oz, nums, rch, D, nx, en, fo, H, nt, mem, nm, vals, tr')) : wpX_fillTrial post ((nI c), cs, sw, pp, pd, pe, K, W, ox, oy, oz, nums, rch, D, nx, en, fo, H, nt, mem, nm, vals, tr) cone way := by
  obtain ⟨hc, hK, hW, hx, hy, hz, hD, ok, ye, _, _, _⟩ := S
  have key : ∀ n i tr, i ≤ c → c < i + n → (∀ j, j < i → nb_sp cone kd j = true → tr j = nb_tv (nb_sp cone kd) wd way j) → wX_fillTrial_5 post cone (nI c) cs sw pp pd pe n (nb_rs (nb_sp cone kd) wd way i) (nI i) K W ox oy oz nums rch D nx en fo H nt mem nm vals tr := by
    intro n
    induction n with
    | zero => intro i tr h1 h2; omega
    | succ n ih =>
      intro i tr h1 h2 ht
      by_cases hi : i < c
      · have x1 : vp_in (nI i) 24 := vp_in_nI (by omega) (by omega)
        have x2 : (nI i).toNatClampNeg = i := nI_clamp (by omega)
        refine br_f (nI_ge hi (by omega)) ?_
        by_cases g : nb_sp cone kd i = true
        · have nxt := ih (i + 1) (upd tr i (nb_tv (nb_sp cone kd) wd way i)) (by omega) (by omega) (fun j hj hg => by
            by_cases e : j = i
            · subst e; exact pk_us
            · rw [pk_un e]; exact ht j (by omega) hg)
          rw [nb_rs_t g] at nxt
          refine nx_sp_t _ hc hK hi (ok i hi).1 g (br_f (by decide) ⟨x1, x1, ?_⟩)
          rw [x2, hW]
          exact nm_e ⟨x1, nm_e (nm_r (nI_1 i) nxt)⟩
        · have nxt := ih (i + 1) tr (by omega) (by omega) (fun j hj hg => by
            by_cases e : j = i
            · subst e; exact absurd hg g
            · exact ht j (by omega) hg)
          rw [nb_rs_f g] at nxt
          exact nx_sp_f _ hc hK hi (ok i hi).1 g (br_t rfl (nm_r (nI_1 i) nxt))
      · have : i = c := by omega
        subst this
        exact br_t (nI_le (Nat.le_refl _) (by omega)) (hp tr ht)
  exact ⟨c + 1, key (c + 1) 0 tr (by omega) (by omega) (fun j hj => absurd hj (Nat.not_lt_zero j))⟩
/-! the reference's marks -/
theorem nb_b1 : vp_nar .boolean 1 = 1 := by rfl
theorem nb_b0 : vp_nar .boolean 0 = 0 := by rfl
def nb_Iv (c : Nat) (kd xo yo zo : Nat → Nat) (B : Nat → Prop) (s t r : Nat) (mt : Nat → Int32) : Prop :=
  (∀ j, j < c → ¬ mt j = 0 → B j) ∧ (∀ j, r ≤ j → j < c → ¬ mt j = 0 → (3 ≤ kd j → ¬ mt (xo j) = 0) ∧ (4 ≤ kd j → kd j ≤ 15 → ¬ mt (yo j) = 0) ∧ (kd j = 12 → ¬ mt (zo j) = 0)) ∧ ¬ mt s = 0 ∧ ¬ mt t = 0
theorem nb_up1 {f : Nat → Int32} {a b : Nat} (h : ¬ f b = 0) : ¬ upd f a 1 b = 0 := by
  by_cases e : b = a
  · subst e; rw [pk_us]; decide
  · rw [pk_un e]; exact h
theorem nb_up2 {f : Nat → Int32} {a : Nat} : ¬ upd f a 1 a = 0 := by rw [pk_us]; decide
theorem nb_Iv_up {B : Nat → Prop} {s t i a : Nat} {mt : Nat → Int32} (I : nb_Iv c kd xo yo zo B s t (i + 1) mt) (ha : a < i) (hB : B a) : nb_Iv c kd xo yo zo B s t (i + 1) (upd mt a 1) := by
  obtain ⟨i1, i2, i3, i4⟩ := I
  refine ⟨fun j hj h => ?_, fun j hr hj h => ?_, nb_up1 i3, nb_up1 i4⟩
  · by_cases e : j = a
    · exact e ▸ hB
    · rw [pk_un e] at h; exact i1 j hj h
  · rw [pk_un (by omega)] at h
    obtain ⟨q1, q2, q3⟩ := i2 j hr hj h
    exact ⟨fun g => nb_up1 (q1 g), fun g g' => nb_up1 (q2 g g'), fun g => nb_up1 (q3 g)⟩
theorem ny_cb (post : SY → Prop) (S : nb_S c K W ox oy oz nums rch D ex ey ez kd wd xo yo zo dp) {B : Nat → Prop} (cl : nb_Cl c kd xo yo zo B) {s t : Nat}
    (hp : ∀ mt', nb_Iv c kd xo yo zo B s t 0 mt' → post ((nI c), cs, sw, pp, pd, pe, K, ex, ey, ez, W, H, nty, fo, va, nx, en, mem, nm, td, mt')) (h1 : 1 ≤ c) (I : nb_Iv c kd xo yo zo B s t c mt) : wpY_comeBack post ((nI c), cs, sw, pp, pd, pe, K, ex, ey, ez, W, H, nty, fo, va, nx, en, mem, nm, td, mt) := by
  obtain ⟨hc, hK, hW, hx, hy, hz, hD, ok, ye, _, _, _⟩ := S
  have key : ∀ n r mt, r < n → r ≤ c → nb_Iv c kd xo yo zo B s t r mt → wY_comeBack_7 post (nI c) cs sw pp pd pe n (nI r + (-1)) K ex ey ez W H nty fo va nx en mem nm td mt := by
    intro n
    induction n with
    | zero => intro r mt h; omega
    | succ n ih =>
      intro r mt hr hrc I
      cases r with
      | zero => exact br_t (by decide) (hp mt I)
      | succ i =>
        rw [pk_m1]
        have hic : i < c := by omega
        have x1 : vp_in (nI i) 24 := vp_in_nI (by omega) (by omega)
        have x2 : (nI i).toNatClampNeg = i := nI_clamp (by omega)
        obtain ⟨k18, _, _, x0, y0, z0, a1, a2, a3, _⟩ := ok i hic
        obtain ⟨ye1, ye2, ye3, _⟩ := ye i hic
        have n12 : kd i ≠ 12 → ¬ K i = 12 := fun h => by rw [hK]; exact fun q => h ((nI_eq (b := 12) (by omega) (by omega)).mp q)
        refine br_f (nI_pos (by omega)) ⟨x1, ?_⟩
        rw [x2]
        by_cases m : mt i = 0
        · have nxt := ih i mt (by omega) (by omega) (by
            obtain ⟨i1, i2, i3, i4⟩ := I
            refine ⟨i1, fun j hr hj h => ?_, i3, i4⟩
            by_cases e : j = i
            · subst e; exact absurd m h
            · exact i2 j (by omega) hj h)
          refine br_t m ⟨x1, ?_⟩
          rw [x2]
          refine br_t m ⟨x1, ?_⟩
          rw [x2]
          exact br_t m (nm_e nxt)
        · have cli := cl i hic (I.1 i hic m)
          have L69 : ∀ mt, nb_Iv c kd xo yo zo B s t (i + 1) mt → ¬ mt i = 0 → (3 ≤ kd i → ¬ mt (xo i) = 0) → (4 ≤ kd i → kd i ≤ 15 → ¬ mt (yo i) = 0) → wY_comeBack_69 post (wY_comeBack_7 post (nI c) cs sw pp pd pe n) (nI i) (nI c) cs sw pp pd pe K ex ey ez W H nty fo va nx en mem nm td mt := by
            intro mt I m hx' hy'
            refine ⟨x1, ?_⟩
            rw [x2]
            refine br_f m ⟨x1, ?_⟩
            by_cases g : kd i = 12
            · have vz : vp_in (ez i) 24 := by rw [ye3 g]; exact vp_in_nI (by omega) (by omega)
              have cz : (ez i).toNatClampNeg = zo i := by rw [ye3 g]; exact nI_clamp (by omega)
              refine br_t (by rw [hK, g]; rfl) ⟨x1, vz, nm_e (nm_e ?_)⟩
              rw [cz, nb_b1]
              refine ih i _ (by omega) (by omega) ?_
              obtain ⟨i1, i2, i3, i4⟩ := nb_Iv_up I (a3 g) (cli.2.2 g)
              refine ⟨i1, fun j hr hj h => ?_, i3, i4⟩
              by_cases e : j = i
              · subst e
                exact ⟨fun g => nb_up1 (hx' g), fun g g' => nb_up1 (hy' g g'), fun _ => nb_up2⟩
              · exact i2 j (by omega) hj h
            · refine br_f (n12 g) (nm_e (ih i _ (by omega) (by omega) ?_))
              obtain ⟨i1, i2, i3, i4⟩ := I
              refine ⟨i1, fun j hr hj h => ?_, i3, i4⟩
              by_cases e : j = i
              · subst e
                exact ⟨hx', hy', fun g' => absurd g' g⟩
              · exact i2 j (by omega) hj h
          have L40 : ∀ mt, nb_Iv c kd xo yo zo B s t (i + 1) mt → ¬ mt i = 0 → (3 ≤ kd i → ¬ mt (xo i) = 0) → wY_comeBack_40 post (wY_comeBack_7 post (nI c) cs sw pp pd pe n) (nI i) (nI c) cs sw pp pd pe K ex ey ez W H nty fo va nx en mem nm td mt := by
            intro mt I m hx'
            refine ⟨x1, ?_⟩
            rw [x2]
            refine br_f m ?_
            by_cases g : 4 ≤ kd i ∧ kd i ≤ 15
            · have vy : vp_in (ey i) 24 := by rw [ye2 g.1 g.2]; exact vp_in_nI (by omega) (by omega)
              have cy : (ey i).toNatClampNeg = yo i := by rw [ye2 g.1 g.2]; exact nI_clamp (by omega)
              refine ny_uY_t _ hc hK hic g (br_f (by decide) ⟨x1, vy, nm_e ?_⟩)
              rw [cy, nb_b1]
              exact L69 _ (nb_Iv_up I (a2 g.1 g.2) (cli.2.1 g.1 g.2)) (nb_up1 m) (fun g => nb_up1 (hx' g)) (fun _ _ => nb_up2)
            · exact ny_uY_f _ hc hK hic k18 g (br_t rfl (L69 _ I m hx' (fun g1 g2 => absurd ⟨g1, g2⟩ g)))
          refine br_f m ?_
          by_cases g : 3 ≤ kd i
          · have vx : vp_in (ex i) 24 := by rw [ye1 g]; exact vp_in_nI (by omega) (by omega)
            have cx : (ex i).toNatClampNeg = xo i := by rw [ye1 g]; exact nI_clamp (by omega)
            refine ny_uX_t _ hc hK hic k18 g (br_f (by decide) ⟨x1, vx, nm_e ?_⟩)
            rw [cx, nb_b1]
            exact L40 _ (nb_Iv_up I (a1 g) (cli.1 g)) (nb_up1 m) (fun _ => nb_up2)
          · exact ny_uX_f _ hc hK hic g (br_t rfl (L40 _ I m (fun g' => absurd g' g)))
  unfold wpY_comeBack
  obtain ⟨e, rfl⟩ : ∃ e, c = e + 1 := ⟨c - 1, by omega⟩
  have k0 := key (e + 2) (e + 1) mt (by omega) (by omega) I
  rw [pk_m1] at k0
  exact nm_r (nI_pred e) ⟨e + 2, k0⟩
theorem ny_sup46 (post : Int32 → SY → Prop) (S : nb_S c K W ox oy oz nums rch D ex ey ez kd wd xo yo zo dp) {cone : Int32} (hM : ∀ j, j < c → (¬ mt j = 0 ↔ bt cone j = true))
    (ht : nb_op c cone kd wd → post (-1) ((nI c), cs, sw, pp, pd, pe, K, ex, ey, ez, W, H, nty, fo, va, nx, en, mem, nm, td, mt)) (hf : ¬ nb_op c cone kd wd → post (nI (nb_sw (nb_sp cone kd) wd c)) ((nI c), cs, sw, pp, pd, pe, K, ex, ey, ez, W, H, nty, fo, va, nx, en, mem, nm, td, mt)) : ∃ n, wY_support_46 post (nI c) cs sw pp pd pe K ex ey ez W H nty fo va nx en mem nm td mt n 0 0 := by
  obtain ⟨hc, hK, hW, hx, hy, hz, hD, ok, ye, _, _, _⟩ := S
  have key : ∀ n i, i ≤ c → c < i + n → (∀ j, j < i → ¬ (bt cone j = true ∧ kd j = 18)) → wY_support_46 post (nI c) cs sw pp pd pe K ex ey ez W H nty fo va nx en mem nm td mt n (nI (nb_sw (nb_sp cone kd) wd i)) (nI i) := by
    intro n
    induction n with
    | zero => intro i h1 h2; omega
    | succ n ih =>
      intro i h1 h2 hn
      by_cases hi : i < c
      · have x1 : vp_in (nI i) 24 := vp_in_nI (by omega) (by omega)
        have x2 : (nI i).toNatClampNeg = i := nI_clamp (by omega)
        have k18 := (ok i hi).1
        refine br_f (nI_ge hi (by omega)) ⟨x1, ?_⟩
        rw [x2]
        by_cases m : mt i = 0
        · have b : ¬ bt cone i = true := fun b => (hM i hi).mpr b m
          have nxt := ih (i + 1) (by omega) (by omega) (lt_s hn (fun w => b w.1))
          rw [nb_sw_f (fun g => b (nb_sp_iff.mp g).1)] at nxt
          refine br_t m ⟨x1, ?_⟩
          rw [x2]
          exact br_t m (nm_r (nI_1 i) nxt)
        · have b := (hM i hi).mp m
          refine br_f m ⟨x1, ?_⟩
          rw [hK]
          by_cases k : kd i = 18
          · exact br_t (by rw [k]; rfl) (ht (Or.inl ⟨i, hi, b, k⟩))
          · have nxt := ih (i + 1) (by omega) (by omega) (lt_s hn (fun w => k w.2))
            refine br_f (fun q => k ((nI_eq (b := 18) (by omega) (by omega)).mp q)) ⟨x1, ?_⟩
            rw [x2]
            refine br_f m ⟨x1, ?_⟩
            rw [hK]
            have fin : nb_sp cone kd i = true → wY_support_110 post (wY_support_46 post (nI c) cs sw pp pd pe K ex ey ez W H nty fo va nx en mem nm td mt n) (nI (nb_sw (nb_sp cone kd) wd i)) (nI i) (nI c) cs sw pp pd pe K ex ey ez W H nty fo va nx en mem nm td mt := fun g => by
              rw [nb_sw_t g] at nxt
              refine ⟨x1, ?_⟩
              rw [x2, hW]
              exact nm_r (nI_add _ _) (nm_r (nI_1 i) nxt)
            by_cases k0 : kd i = 0
            · exact br_t (by rw [k0]; rfl) (fin (nb_sp_iff.mpr ⟨b, Or.inl k0⟩))
            · refine br_f (fun q => k0 ((nI_eq (b := 0) (by omega) (by omega)).mp q)) ⟨x1, ?_⟩
              by_cases k2 : kd i = 2
              · exact br_t (by rw [k2]; rfl) (fin (nb_sp_iff.mpr ⟨b, Or.inr k2⟩))
              · rw [nb_sw_f (fun g => (nb_sp_iff.mp g).2.elim k0 k2)] at nxt
                exact br_f (fun q => k2 ((nI_eq (b := 2) (by omega) (by omega)).mp q)) (nm_r (nI_1 i) nxt)
      · have : i = c := by omega
        subst this
        have le := nb_sw_le (P := nb_sp cone kd) (wd := wd) (fun j hj => (ok j hj).2.2.1) i (Nat.le_refl i)
        refine br_t (nI_le (Nat.le_refl _) (by omega)) ?_
        by_cases q : nb_sw (nb_sp cone kd) wd i ≤ 8
        · refine br_t (nI_le (b := 8) q (by omega)) (hf ?_)
          rintro (⟨j, hj, w⟩ | w)
          · exact hn j hj w
          · omega
        · exact br_f (fun w => q ((nI_leI (b := 8) (by omega) (by omega)).mp w)) (ht (Or.inr (by omega)))
  exact ⟨c + 1, key (c + 1) 0 (by omega) (by omega) (fun j hj => absurd hj (Nat.not_lt_zero j))⟩
theorem ny_sup (post : Int32 → SY → Prop) (S : nb_S c K W ox oy oz nums rch D ex ey ez kd wd xo yo zo dp) {s t : Nat} (hs : s < c) (ht' : t < c)
    (ht : nb_op c (rch s ||| rch t) kd wd → ∀ mt', post (-1) ((nI c), cs, sw, pp, pd, pe, K, ex, ey, ez, W, H, nty, fo, va, nx, en, mem, nm, td, mt'))
    (hf : ¬ nb_op c (rch s ||| rch t) kd wd → ∀ mt', (∀ j, j < c → (¬ mt' j = 0 ↔ bt (rch s ||| rch t) j = true)) → post (nI (nb_sw (nb_sp (rch s ||| rch t) kd) wd c)) ((nI c), cs, sw, pp, pd, pe, K, ex, ey, ez, W, H, nty, fo, va, nx, en, mem, nm, td, mt')) : wpY_support post ((nI c), cs, sw, pp, pd, pe, K, ex, ey, ez, W, H, nty, fo, va, nx, en, mem, nm, td, mt) (nI s) (nI t) := by
  have S0 := S
  obtain ⟨hc, hK, hW, hx, hy, hz, hD, ok, ye, _, rq, _⟩ := S0
  obtain ⟨cl, bs, bt', mn⟩ := nb_cone hc ok rq hs ht'
  have key : ∀ n i mt, i ≤ c → c < i + n → (∀ j, j < i → (¬ mt j = 0 ↔ (j = s ∨ j = t))) → wY_support_2 post (nI s) (nI t) (nI c) cs sw pp pd pe n (nI i) K ex ey ez W H nty fo va nx en mem nm td mt := by
    intro n
    induction n with
    | zero => intro i mt h1 h2; omega
    | succ n ih =>
      intro i mt h1 h2 hm
      by_cases hi : i < c
      · have x1 : vp_in (nI i) 24 := vp_in_nI (by omega) (by omega)
        have x2 : (nI i).toNatClampNeg = i := nI_clamp (by omega)
        have stp : ∀ v, (¬ v = 0 ↔ (i = s ∨ i = t)) → wY_support_2 post (nI s) (nI t) (nI c) cs sw pp pd pe n (nI (i + 1)) K ex ey ez W H nty fo va nx en mem nm td (upd mt i v) := fun v e => by
          refine ih (i + 1) _ (by omega) (by omega) (fun j hj => ?_)
          by_cases q : j = i
          · subst q; rw [pk_us]; exact e
          · rw [pk_un q]; exact hm j (by omega)
        refine br_f (nI_ge hi (by omega)) ?_
        by_cases q1 : i = s
        · refine br_t (by rw [q1]) ⟨x1, nm_e (nm_r (nI_1 i) ?_)⟩
          rw [x2, nb_b1]
          exact stp 1 ⟨fun _ => Or.inl q1, fun _ => by decide⟩
        · refine br_f (fun w => q1 ((nI_eq (by omega) (by omega)).mp w)) ?_
          by_cases q2 : i = t
          · refine br_t (by rw [q2]) ⟨x1, nm_e (nm_r (nI_1 i) ?_)⟩
            rw [x2, nb_b1]
            exact stp 1 ⟨fun _ => Or.inr q2, fun _ => by decide⟩
          · refine br_f (fun w => q2 ((nI_eq (by omega) (by omega)).mp w)) ⟨x1, nm_e (nm_r (nI_1 i) ?_)⟩
            rw [x2, nb_b0]
            exact stp 0 ⟨fun w => absurd rfl w, fun w => absurd w (fun w => w.elim q1 q2)⟩
      · have : i = c := by omega
        subst this
        refine br_t (nI_le (Nat.le_refl _) (by omega)) ?_
        refine ny_cb _ S cl (s := s) (t := t) (fun mt' I => ?_) (by omega) ⟨fun j hj h => ?_, fun j hr hj => absurd hj (by omega), (hm s hs).mpr (Or.inl rfl), (hm t ht').mpr (Or.inr rfl)⟩
        · have hM : ∀ j, j < i → (¬ mt' j = 0 ↔ bt (rch s ||| rch t) j = true) := fun j hj =>
            ⟨I.1 j hj, mn (fun j => ¬ mt' j = 0) (fun j hj h => I.2.1 j (by omega) hj h) I.2.2.1 I.2.2.2 j hj⟩
          exact ny_sup46 post S hM (fun o => ht o mt') (fun o => hf o mt' hM)
        · rcases (hm j hj).mp h with e | e
          · exact e ▸ bs
          · exact e ▸ bt'
  exact ⟨c + 1, key (c + 1) 0 mt (by omega) (by omega) (fun j hj => absurd hj (Nat.not_lt_zero j))⟩
theorem ny_give (post : SY → Prop) (S : nb_S c K W ox oy oz nums rch D ex ey ez kd wd xo yo zo dp) (d2 : ∀ j, j < c → fo j = -1 ∨ nb_R (wd j) (fo j)) {cone way : Int32} (hM : ∀ j, j < c → (¬ mt j = 0 ↔ bt cone j = true))
    (hp : ∀ td' V, (∀ j, j < c → nb_sp cone kd j = true → td' j = nb_tv (nb_sp cone kd) wd way j) → nb_Sol (nb_FY kd wd xo yo zo nums fo mem td') c V → post ((nI c), cs, sw, pp, pd, pe, K, ex, ey, ez, W, H, nty, fo, V, nx, en, mem, nm, td', mt)) : wpY_give post ((nI c), cs, sw, pp, pd, pe, K, ex, ey, ez, W, H, nty, fo, va, nx, en, mem, nm, td, mt) way := by
  obtain ⟨hc, hK, hW, hx, hy, hz, hD, ok, ye, _, _, _⟩ := S
  have key : ∀ n i td, i ≤ c → c < i + n → (∀ j, j < i → nb_sp cone kd j = true → td j = nb_tv (nb_sp cone kd) wd way j) → wY_give_4 post (nI c) cs sw pp pd pe n (nb_rs (nb_sp cone kd) wd way i) (nI i) K ex ey ez W H nty fo va nx en mem nm td mt := by
    intro n
    induction n with
    | zero => intro i td h1 h2; omega
    | succ n ih =>
      intro i td h1 h2 ht
      by_cases hi : i < c
      · have x1 : vp_in (nI i) 24 := vp_in_nI (by omega) (by omega)
        have x2 : (nI i).toNatClampNeg = i := nI_clamp (by omega)
        have k18 := (ok i hi).1
        refine br_f (nI_ge hi (by omega)) ⟨x1, nm_e ⟨x1, ?_⟩⟩
        rw [x2]
        have no : ¬ nb_sp cone kd i = true → wY_give_4 post (nI c) cs sw pp pd pe n (nb_rs (nb_sp cone kd) wd way i) (nI (i + 1)) K ex ey ez W H nty fo va nx en mem nm (upd td i 0) mt := fun g => by
          have nxt := ih (i + 1) (upd td i 0) (by omega) (by omega) (fun j hj hg => by
            by_cases e : j = i
            · subst e; exact absurd hg g
            · rw [pk_un e]; exact ht j (by omega) hg)
          rw [nb_rs_f g] at nxt
          exact nxt
        by_cases m : mt i = 0
        · exact br_t m (nm_r (nI_1 i) (no (fun g => (hM i hi).mpr (nb_sp_iff.mp g).1 m)))
        · have b := (hM i hi).mp m
          refine br_f m ⟨x1, ?_⟩
          have yes : nb_sp cone kd i = true → wY_give_47 post (wY_give_4 post (nI c) cs sw pp pd pe n) (nb_rs (nb_sp cone kd) wd way i) (nI i) (nI c) cs sw pp pd pe K ex ey ez W H nty fo va nx en mem nm (upd td i 0) mt := fun g => by
            have nxt := ih (i + 1) (upd (upd td i 0) i (nb_tv (nb_sp cone kd) wd way i)) (by omega) (by omega) (fun j hj hg => by
              by_cases e : j = i
              · subst e; exact pk_us
              · rw [pk_un e, pk_un e]; exact ht j (by omega) hg)
            rw [nb_rs_t g] at nxt
            refine ⟨x1, x1, ?_⟩
            rw [x2, hW]
            exact nm_e ⟨x1, nm_e (nm_r (nI_1 i) nxt)⟩
          rw [hK]
          by_cases k0 : kd i = 0
          · exact br_t (by rw [k0]; rfl) (yes (nb_sp_iff.mpr ⟨b, Or.inl k0⟩))
          · refine br_f (fun q => k0 ((nI_eq (b := 0) (by omega) (by omega)).mp q)) ⟨x1, ?_⟩
            by_cases k2 : kd i = 2
            · exact br_t (by rw [k2]; rfl) (yes (nb_sp_iff.mpr ⟨b, Or.inr k2⟩))
            · exact br_f (fun q => k2 ((nI_eq (b := 2) (by omega) (by omega)).mp q)) (nm_r (nI_1 i) (no (fun g => (nb_sp_iff.mp g).2.elim k0 k2)))
      · have : i = c := by omega
        subst this
        refine br_t (nI_le (Nat.le_refl _) (by omega)) ?_
        exact ny_work_tried _ hc hK hW ok ye d2 (fun V hV => hp td V ht hV)
  exact ⟨c + 1, key (c + 1) 0 td (by omega) (by omega) (fun j hj => absurd hj (Nat.not_lt_zero j))⟩
end
