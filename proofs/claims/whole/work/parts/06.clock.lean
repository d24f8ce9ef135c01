/-! the clock: one tick as both sides make it -/
def nb_gt (kd : Nat → Nat) (nx en C : Nat → Int32) (j : Nat) : Bool := decide (kd j = 2) && (!decide (nx j = -1) && (decide (en j = -1) || decide (C (en j).toNatClampNeg = 1)))
theorem nb_gt_t {kd : Nat → Nat} {nx en C : Nat → Int32} {j : Nat} (h1 : kd j = 2) (h2 : ¬ nx j = -1) (h3 : en j = -1 ∨ C (en j).toNatClampNeg = 1) : nb_gt kd nx en C j = true := by
  unfold nb_gt
  rw [decide_eq_true h1, decide_eq_false h2]
  rcases h3 with h | h
  · rw [decide_eq_true h]; rfl
  · rw [decide_eq_true h, Bool.or_true]; rfl
theorem nb_gt_1 {kd : Nat → Nat} {nx en C : Nat → Int32} {j : Nat} (h1 : ¬ kd j = 2) : ¬ nb_gt kd nx en C j = true := by
  unfold nb_gt
  rw [decide_eq_false h1]
  exact Bool.noConfusion
theorem nb_gt_2 {kd : Nat → Nat} {nx en C : Nat → Int32} {j : Nat} (h1 : nx j = -1) : ¬ nb_gt kd nx en C j = true := by
  unfold nb_gt
  rw [decide_eq_true h1, Bool.not_true, Bool.false_and, Bool.and_false]
  exact Bool.noConfusion
theorem nb_gt_3 {kd : Nat → Nat} {nx en C : Nat → Int32} {j : Nat} (h1 : ¬ (en j = -1 ∨ C (en j).toNatClampNeg = 1)) : ¬ nb_gt kd nx en C j = true := by
  unfold nb_gt
  rw [decide_eq_false (fun h => h1 (Or.inl h)), decide_eq_false (fun h => h1 (Or.inr h)), Bool.or_false, Bool.and_false, Bool.and_false]
  exact Bool.noConfusion
theorem nb_gt_inv {kd : Nat → Nat} {nx en C : Nat → Int32} {j : Nat} (h : nb_gt kd nx en C j = true) : kd j = 2 ∧ ¬ nx j = -1 :=
  ⟨Classical.byContradiction fun q => nb_gt_1 q h, fun q => nb_gt_2 q h⟩
def nb_tH (g : Nat → Bool) (t H : Nat → Int32) : Nat → Nat → Int32
  | 0 => H
  | n + 1 => if g n = true then upd (nb_tH g t H n) n (t n) else nb_tH g t H n
def nb_tS (g : Nat → Bool) (t H : Nat → Int32) : Nat → Int32
  | 0 => 0
  | n + 1 => if g n = true then nb_tS g t H n + nb_os (nb_tH g t H n n ^^^ t n) 6 else nb_tS g t H n
theorem nb_tH_t {g : Nat → Bool} {t H : Nat → Int32} {n : Nat} (h : g n = true) : nb_tH g t H (n + 1) = upd (nb_tH g t H n) n (t n) := by rw [nb_tH, if_pos h]
theorem nb_tH_f {g : Nat → Bool} {t H : Nat → Int32} {n : Nat} (h : ¬ g n = true) : nb_tH g t H (n + 1) = nb_tH g t H n := by rw [nb_tH, if_neg h]
theorem nb_tS_t {g : Nat → Bool} {t H : Nat → Int32} {n : Nat} (h : g n = true) : nb_tS g t H (n + 1) = nb_tS g t H n + nb_os (nb_tH g t H n n ^^^ t n) 6 := by rw [nb_tS, if_pos h]
theorem nb_tS_f {g : Nat → Bool} {t H : Nat → Int32} {n : Nat} (h : ¬ g n = true) : nb_tS g t H (n + 1) = nb_tS g t H n := by rw [nb_tS, if_neg h]
theorem nb_tH_R {g : Nat → Bool} {t H : Nat → Int32} {P : Nat → Int32 → Prop} {c : Nat} (h : ∀ j, j < c → P j (H j)) (ht : ∀ j, j < c → g j = true → P j (t j)) : ∀ n, n ≤ c → ∀ j, j < c → P j (nb_tH g t H n j) := by
  intro n
  induction n with
  | zero => intro _ j hj; exact h j hj
  | succ n ih =>
    intro hn j hj
    by_cases q : g n = true
    · rw [nb_tH_t q]
      by_cases e : j = n
      · subst e; rw [pk_us]; exact ht j hj q
      · rw [pk_un e]; exact ih (by omega) j hj
    · rw [nb_tH_f q]; exact ih (by omega) j hj
def nb_gm (pp pe : Int32) (C : Nat → Int32) : Bool := !decide (pp = -1) && decide (C pe.toNatClampNeg = 1)
def nb_tM (pp pd pe : Int32) (C mem : Nat → Int32) : Nat → Int32 := if nb_gm pp pe C = true then upd mem (C pp.toNatClampNeg).toNatClampNeg (C pd.toNatClampNeg) else mem
def nb_ts (pp pd pe : Int32) (C mem : Nat → Int32) : Int32 := if nb_gm pp pe C = true then nb_os (mem (C pp.toNatClampNeg).toNatClampNeg ^^^ C pd.toNatClampNeg) 6 else 0
theorem nb_gm_t {pp pe : Int32} {C : Nat → Int32} (h1 : ¬ pp = -1) (h2 : C pe.toNatClampNeg = 1) : nb_gm pp pe C = true := by
  unfold nb_gm
  rw [decide_eq_false h1, decide_eq_true h2]
  rfl
theorem nb_gm_1 {pp pe : Int32} {C : Nat → Int32} (h1 : pp = -1) : ¬ nb_gm pp pe C = true := by
  unfold nb_gm
  rw [decide_eq_true h1]
  exact Bool.noConfusion
theorem nb_gm_2 {pp pe : Int32} {C : Nat → Int32} (h2 : ¬ C pe.toNatClampNeg = 1) : ¬ nb_gm pp pe C = true := by
  unfold nb_gm
  rw [decide_eq_false h2, Bool.and_false]
  exact Bool.noConfusion
theorem nb_sol_un {F : (Nat → Int32) → Nat → Int32} {c : Nat} (L : nb_Loc F c) {U V : Nat → Int32} (hU : nb_Sol F c U) (hV : nb_Sol F c V) : ∀ n j, j < n → j < c → U j = V j := by
  intro n
  induction n with
  | zero => intro j h; omega
  | succ n ih =>
    intro j h hj
    rw [hU j hj, hV j hj]
    exact L j hj U V (fun i hi => ih i (by omega) (by omega))
/-- the port: none, or signals of the right widths -/
def nb_po (c : Nat) (wd : Nat → Nat) (pp pd pe : Int32) : Prop := pp = -1 ∨ ∃ p d e, p < c ∧ d < c ∧ e < c ∧ pp = nI p ∧ pd = nI d ∧ pe = nI e ∧ wd p = 2 ∧ wd d = 4
def nb_ne (c : Nat) (wd : Nat → Nat) (nx en : Nat → Int32) (j : Nat) : Prop := (nx j = -1 ∨ ∃ t, t < c ∧ nx j = nI t ∧ wd t = wd j) ∧ (en j = -1 ∨ ∃ t, t < c ∧ en j = nI t)
section
variable {c : Nat} {cs sw pp pd pe : Int32} {K W ox oy oz nums rch D nx en fo H nt mem nm vals tr ex ey ez nty va td mt : Nat → Int32} {kd wd xo yo zo dp : Nat → Nat}
theorem nx_en_t (post : Int32 → Prop) (hc : c ≤ 24) (hn : ∀ j, j < c → nb_ne c wd nx en j) {C : Nat → Int32} (hv : ∀ j, j < c → vals j = C j) {i : Nat} (hi : i < c) (g : en i = -1 ∨ C (en i).toNatClampNeg = 1) (h : post 1) : wpX_isEnabled post ((nI c), cs, sw, pp, pd, pe, K, W, ox, oy, oz, nums, rch, D, nx, en, fo, H, nt, mem, nm, vals, tr) (nI i) := by
  have x1 : vp_in (nI i) 24 := vp_in_nI (by omega) (by omega)
  have x2 : (nI i).toNatClampNeg = i := nI_clamp (by omega)
  unfold wpX_isEnabled
  refine ⟨x1, ?_⟩
  rw [x2]
  by_cases q : en i = -1
  · exact br_t q h
  · obtain ⟨t, ht, e⟩ := (hn i hi).2.resolve_left q
    have g2 := g.resolve_left q
    have e2 : (nI t).toNatClampNeg = t := nI_clamp (by omega)
    rw [e, e2] at g2
    refine br_f q ⟨x1, ?_⟩
    rw [e, e2]
    exact ⟨vp_in_nI (by omega) (by omega), br_t (by rw [hv t ht]; exact g2) h⟩
theorem nx_en_f (post : Int32 → Prop) (hc : c ≤ 24) (hn : ∀ j, j < c → nb_ne c wd nx en j) {C : Nat → Int32} (hv : ∀ j, j < c → vals j = C j) {i : Nat} (hi : i < c) (g : ¬ (en i = -1 ∨ C (en i).toNatClampNeg = 1)) (h : post 0) : wpX_isEnabled post ((nI c), cs, sw, pp, pd, pe, K, W, ox, oy, oz, nums, rch, D, nx, en, fo, H, nt, mem, nm, vals, tr) (nI i) := by
  have x1 : vp_in (nI i) 24 := vp_in_nI (by omega) (by omega)
  have x2 : (nI i).toNatClampNeg = i := nI_clamp (by omega)
  unfold wpX_isEnabled
  refine ⟨x1, ?_⟩
  rw [x2]
  have q : ¬ en i = -1 := fun q => g (Or.inl q)
  obtain ⟨t, ht, e⟩ := (hn i hi).2.resolve_left q
  have e2 : (nI t).toNatClampNeg = t := nI_clamp (by omega)
  refine br_f q ⟨x1, ?_⟩
  rw [e, e2]
  refine ⟨vp_in_nI (by omega) (by omega), br_f (fun w => g (Or.inr ?_)) h⟩
  rw [e, e2, ← hv t ht]
  exact w
theorem nx_tr (post : Int32 → SX → Prop) (hc : c ≤ 24) (hK : ∀ j, K j = nI (kd j)) (k18 : ∀ j, j < c → kd j ≤ 18) (hn : ∀ j, j < c → nb_ne c wd nx en j) {C : Nat → Int32} (hv : ∀ j, j < c → vals j = C j)
    (hp : post (nb_tS (nb_gt kd nx en C) (fun j => C (nx j).toNatClampNeg) H c) ((nI c), cs, sw, pp, pd, pe, K, W, ox, oy, oz, nums, rch, D, nx, en, fo, (nb_tH (nb_gt kd nx en C) (fun j => C (nx j).toNatClampNeg) H c), nt, mem, nm, vals, tr)) : wpX_tickRegisters post ((nI c), cs, sw, pp, pd, pe, K, W, ox, oy, oz, nums, rch, D, nx, en, fo, H, nt, mem, nm, vals, tr) := by
  have key : ∀ n i, i ≤ c → c < i + n → wX_tickRegisters_4 post (nI c) cs sw pp pd pe n (nb_tS (nb_gt kd nx en C) (fun j => C (nx j).toNatClampNeg) H i) (nI i) K W ox oy oz nums rch D nx en fo (nb_tH (nb_gt kd nx en C) (fun j => C (nx j).toNatClampNeg) H i) nt mem nm vals tr := by
    intro n
    induction n with
    | zero => intro i h1 h2; omega
    | succ n ih =>
      intro i h1 h2
      by_cases hi : i < c
      · have x1 : vp_in (nI i) 24 := vp_in_nI (by omega) (by omega)
        have x2 : (nI i).toNatClampNeg = i := nI_clamp (by omega)
        have kk := k18 i hi
        have nxt := ih (i + 1) (by omega) (by omega)
        refine br_f (nI_ge hi (by omega)) ⟨x1, ?_⟩
        rw [x2]
        by_cases k2 : kd i = 2
        · have e2 : K i = 2 := by rw [hK, k2]; rfl
          refine br_t e2 ⟨x1, ?_⟩
          by_cases n1 : nx i = -1
          · rw [nb_tS_f (nb_gt_2 n1), nb_tH_f (nb_gt_2 n1)] at nxt
            exact br_t n1 (nm_r (nI_1 i) nxt)
          · obtain ⟨t, ht, e, _⟩ := (hn i hi).1.resolve_left n1
            refine br_f n1 ?_
            by_cases g : en i = -1 ∨ C (en i).toNatClampNeg = 1
            · rw [nb_tS_t (nb_gt_t k2 n1 g), nb_tH_t (nb_gt_t k2 n1 g)] at nxt
              refine nx_en_t _ hc hn hv hi g (br_f (by decide) ⟨x1, ?_⟩)
              have e3 : (nx i).toNatClampNeg = t := by rw [e]; exact nI_clamp (by omega)
              have vt : vp_in (nx i) 24 := by rw [e]; exact vp_in_nI (by omega) (by omega)
              refine ⟨vt, ?_⟩
              rw [e3, hv t ht]
              rw [e3] at nxt
              refine nm_e ⟨x1, ?_⟩
              refine nx_ones _ _ (nm_e ⟨x1, nm_e (nm_r (nI_1 i) nxt)⟩)
            · rw [nb_tS_f (nb_gt_3 g), nb_tH_f (nb_gt_3 g)] at nxt
              exact nx_en_f _ hc hn hv hi g (br_t rfl (nm_r (nI_1 i) nxt))
        · have e2 : ¬ K i = 2 := by rw [hK]; exact fun q => k2 ((nI_eq (b := 2) (by omega) (by omega)).mp q)
          rw [nb_tS_f (nb_gt_1 k2), nb_tH_f (nb_gt_1 k2)] at nxt
          exact br_f e2 (nm_r (nI_1 i) nxt)
      · have : i = c := by omega
        subst this
        exact br_t (nI_le (Nat.le_refl _) (by omega)) hp
  exact ⟨c + 1, key (c + 1) 0 (by omega) (by omega)⟩
theorem nx_tm (post : Int32 → SX → Prop) (hc : c ≤ 24) (po : nb_po c wd pp pd pe) {C : Nat → Int32} (hv : ∀ j, j < c → vals j = C j) (hR : ∀ j, j < c → nb_R (wd j) (C j))
    (hp : post (nb_ts pp pd pe C mem) ((nI c), cs, sw, pp, pd, pe, K, W, ox, oy, oz, nums, rch, D, nx, en, fo, H, nt, (nb_tM pp pd pe C mem), nm, vals, tr)) : wpX_tickMemory post ((nI c), cs, sw, pp, pd, pe, K, W, ox, oy, oz, nums, rch, D, nx, en, fo, H, nt, mem, nm, vals, tr) := by
  unfold wpX_tickMemory
  by_cases q : pp = -1
  · rw [nb_ts, nb_tM, if_neg (nb_gm_1 q), if_neg (nb_gm_1 q)] at hp
    exact br_t q hp
  · obtain ⟨p, d, e, h1, h2, h3, e1, e2, e3, w1, w2⟩ := po.resolve_left q
    subst e1 e2 e3
    refine br_f q ⟨vp_in_nI (by omega) (by omega), ?_⟩
    have c1 : (nI p).toNatClampNeg = p := nI_clamp (by omega)
    have c2 : (nI d).toNatClampNeg = d := nI_clamp (by omega)
    have c3 : (nI e).toNatClampNeg = e := nI_clamp (by omega)
    by_cases g : C e = 1
    · have gt : nb_gm (nI p) (nI e) C = true := nb_gm_t q (by rw [c3]; exact g)
      rw [nb_ts, nb_tM, if_pos gt, if_pos gt, c1, c2] at hp
      have r := hR p h1
      rw [w1] at r
      obtain ⟨m, hm, em⟩ := r
      have hm4 : m < 4 := hm
      have e4 : vals p &&& 3 = nI m := by rw [hv p h1, em]; exact nb_and3 m hm4
      have c4 : (nI m).toNatClampNeg = m := nI_clamp (by omega)
      rw [em, c4] at hp
      rw [c1, c2, c3]
      refine br_t (by rw [hv e h3]; exact g) ⟨vp_in_nI (by omega) (by omega), ?_⟩
      rw [e4, hv d h2]
      refine nm_e ⟨vp_in_nI (by omega) (by omega), nm_e ⟨vp_in_nI (by omega) (by omega), ?_⟩⟩
      rw [c4]
      exact nx_ones _ _ ⟨vp_in_nI (by omega) (by omega), nm_e hp⟩
    · have gt : ¬ nb_gm (nI p) (nI e) C = true := nb_gm_2 (by rw [c3]; exact g)
      rw [nb_ts, nb_tM, if_neg gt, if_neg gt] at hp
      rw [c3]
      exact br_f (by rw [hv e h3]; exact g) hp
theorem ny_tk (post : Int32 → SY → Prop) (hc : c ≤ 24) (hK : ∀ j, K j = nI (kd j)) (k18 : ∀ j, j < c → kd j ≤ 18) (hn : ∀ j, j < c → nb_ne c wd nx en j) (po : nb_po c wd pp pd pe) {C : Nat → Int32} (hv : ∀ j, j < c → va j = C j) (hR : ∀ j, j < c → nb_R (wd j) (C j))
    (hp : post (nb_tS (nb_gt kd nx en C) (fun j => C (nx j).toNatClampNeg) H c + nb_ts pp pd pe C mem) ((nI c), cs, sw, pp, pd, pe, K, ex, ey, ez, W, (nb_tH (nb_gt kd nx en C) (fun j => C (nx j).toNatClampNeg) H c), nty, fo, va, nx, en, (nb_tM pp pd pe C mem), nm, td, mt)) :
    ∃ n, wY_tick_9 post (nI c) cs sw pp pd pe n 0 0 K ex ey ez W H nty fo va nx en mem nm td mt := by
  have key : ∀ n i, i ≤ c → c < i + n → wY_tick_9 post (nI c) cs sw pp pd pe n (nb_tS (nb_gt kd nx en C) (fun j => C (nx j).toNatClampNeg) H i) (nI i) K ex ey ez W (nb_tH (nb_gt kd nx en C) (fun j => C (nx j).toNatClampNeg) H i) nty fo va nx en mem nm td mt := by
    intro n
    induction n with
    | zero => intro i h1 h2; omega
    | succ n ih =>
      intro i h1 h2
      by_cases hi : i < c
      · have x1 : vp_in (nI i) 24 := vp_in_nI (by omega) (by omega)
        have x2 : (nI i).toNatClampNeg = i := nI_clamp (by omega)
        have kk := k18 i hi
        have nxt := ih (i + 1) (by omega) (by omega)
        refine br_f (nI_ge hi (by omega)) ⟨x1, ?_⟩
        rw [x2]
        by_cases k2 : kd i = 2
        · have e2 : K i = 2 := by rw [hK, k2]; rfl
          refine br_t e2 ⟨x1, ?_⟩
          by_cases n1 : nx i = -1
          · rw [nb_tS_f (nb_gt_2 n1), nb_tH_f (nb_gt_2 n1)] at nxt
            exact br_t (by rw [n1]; decide) (br_t rfl (br_t rfl (nm_r (nI_1 i) nxt)))
          · obtain ⟨t, ht, e, _⟩ := (hn i hi).1.resolve_left n1
            have e3 : (nx i).toNatClampNeg = t := by rw [e]; exact nI_clamp (by omega)
            have vt : vp_in (nx i) 24 := by rw [e]; exact vp_in_nI (by omega) (by omega)
            refine br_f (by rw [e]; exact nI_pos (by omega)) (br_f (by decide) ⟨x1, ?_⟩)
            rw [x2]
            by_cases g : en i = -1 ∨ C (en i).toNatClampNeg = 1
            · rw [nb_tS_t (nb_gt_t k2 n1 g), nb_tH_t (nb_gt_t k2 n1 g)] at nxt
              rw [e3] at nxt
              have fin : wY_tick_76 post (wY_tick_9 post (nI c) cs sw pp pd pe n) (nb_tS (nb_gt kd nx en C) (fun j => C (nx j).toNatClampNeg) H i) (nI i) 1 (nI c) cs sw pp pd pe K ex ey ez W (nb_tH (nb_gt kd nx en C) (fun j => C (nx j).toNatClampNeg) H i) nty fo va nx en mem nm td mt := by
                refine br_f (by decide) ⟨x1, x1, ?_⟩
                rw [x2, e3, hv t ht]
                refine ⟨vt, ny_ones _ _ (nm_e ⟨x1, vt, x1, nm_e (nm_r (nI_1 i) nxt)⟩)⟩
              by_cases q : en i = -1
              · exact br_t (by rw [q]; decide) fin
              · obtain ⟨s, hs, es⟩ := (hn i hi).2.resolve_left q
                have g2 := g.resolve_left q
                have es2 : (nI s).toNatClampNeg = s := nI_clamp (by omega)
                rw [es, es2] at g2
                rw [es, es2]
                exact br_f (nI_pos (by omega)) ⟨x1, vp_in_nI (by omega) (by omega), br_t (by rw [hv s hs]; exact g2) fin⟩
            · rw [nb_tS_f (nb_gt_3 g), nb_tH_f (nb_gt_3 g)] at nxt
              have q : ¬ en i = -1 := fun q => g (Or.inl q)
              obtain ⟨s, hs, es⟩ := (hn i hi).2.resolve_left q
              have es2 : (nI s).toNatClampNeg = s := nI_clamp (by omega)
              rw [es, es2] at g
              rw [es, es2]
              exact br_f (nI_pos (by omega)) ⟨x1, vp_in_nI (by omega) (by omega), br_f (by rw [hv s hs]; exact fun w => g (Or.inr w)) (br_t rfl (nm_r (nI_1 i) nxt))⟩
        · have e2 : ¬ K i = 2 := by rw [hK]; exact fun q => k2 ((nI_eq (b := 2) (by omega) (by omega)).mp q)
          rw [nb_tS_f (nb_gt_1 k2), nb_tH_f (nb_gt_1 k2)] at nxt
          exact br_f e2 (br_t rfl (br_t rfl (nm_r (nI_1 i) nxt)))
      · have : i = c := by omega
        subst this
        refine br_t (nI_le (Nat.le_refl _) (by omega)) ?_
        by_cases q : pp = -1
        · rw [nb_ts, nb_tM, if_neg (nb_gm_1 q), if_neg (nb_gm_1 q), Int32.add_zero] at hp
          exact br_t (by rw [q]; decide) hp
        · obtain ⟨p, d, e, h1, h2, h3, e1, e2, e3, w1, w2⟩ := po.resolve_left q
          subst e1 e2 e3
          have c1 : (nI p).toNatClampNeg = p := nI_clamp (by omega)
          have c2 : (nI d).toNatClampNeg = d := nI_clamp (by omega)
          have c3 : (nI e).toNatClampNeg = e := nI_clamp (by omega)
          refine br_f (nI_pos (by omega)) ⟨vp_in_nI (by omega) (by omega), ?_⟩
          by_cases g : C e = 1
          · have gt : nb_gm (nI p) (nI e) C = true := nb_gm_t q (by rw [c3]; exact g)
            rw [nb_ts, nb_tM, if_pos gt, if_pos gt, c1, c2] at hp
            have r := hR p h1
            rw [w1] at r
            obtain ⟨m, hm, em⟩ := r
            have hm4 : m < 4 := hm
            have c4 : (nI m).toNatClampNeg = m := nI_clamp (by omega)
            rw [em, c4] at hp
            rw [c1, c2, c3, hv p h1, hv d h2, em, c4]
            exact br_t (by rw [hv e h3]; exact g) ⟨vp_in_nI (by omega) (by omega), vp_in_nI (by omega) (by omega), vp_in_nI (by omega) (by omega), ny_ones _ _ (nm_e ⟨vp_in_nI (by omega) (by omega), vp_in_nI (by omega) (by omega), vp_in_nI (by omega) (by omega), nm_e hp⟩)⟩
          · have gt : ¬ nb_gm (nI p) (nI e) C = true := nb_gm_2 (by rw [c3]; exact g)
            rw [nb_ts, nb_tM, if_neg gt, if_neg gt, Int32.add_zero] at hp
            rw [c3]
            exact br_f (by rw [hv e h3]; exact g) hp
  exact ⟨c + 1, key (c + 1) 0 (by omega) (by omega)⟩
end
