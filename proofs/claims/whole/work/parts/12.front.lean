/-! signal: which operands fit, the width, the cost -/
def nb_fq (c : Nat) (wd : Nat → Nat) (k : Nat) (x y z : Int32) (a b d w : Nat) : Prop :=
  match k with
  | 0 => (x = nI w ∧ 1 ≤ w ∧ w < 7) ∧ a = 0 ∧ b = 0 ∧ d = 0
  | 1 => (x = nI w ∧ 1 ≤ w ∧ w < 7 ∧ nb_R w y) ∧ a = 0 ∧ b = 0 ∧ d = 0
  | 2 => (x = nI w ∧ 1 ≤ w ∧ w < 7 ∧ nb_R w y) ∧ a = 0 ∧ b = 0 ∧ d = 0
  | 3 => (a < c ∧ x = nI a) ∧ w = wd a ∧ b = 0 ∧ d = 0
  | 4 => (a < c ∧ b < c ∧ x = nI a ∧ y = nI b ∧ wd a = wd b) ∧ w = wd a ∧ d = 0
  | 5 => (a < c ∧ b < c ∧ x = nI a ∧ y = nI b ∧ wd a = wd b) ∧ w = wd a ∧ d = 0
  | 6 => (a < c ∧ b < c ∧ x = nI a ∧ y = nI b ∧ wd a = wd b) ∧ w = wd a ∧ d = 0
  | 7 => (a < c ∧ b < c ∧ x = nI a ∧ y = nI b ∧ wd a = wd b) ∧ w = wd a ∧ d = 0
  | 8 => (a < c ∧ b < c ∧ x = nI a ∧ y = nI b ∧ wd a = wd b) ∧ w = wd a ∧ d = 0
  | 9 => (a < c ∧ b < c ∧ x = nI a ∧ y = nI b ∧ wd a = wd b ∧ wd a ≤ 3) ∧ w = wd a ∧ d = 0
  | 10 => (a < c ∧ b < c ∧ x = nI a ∧ y = nI b ∧ wd a = wd b) ∧ w = 1 ∧ d = 0
  | 11 => (a < c ∧ b < c ∧ x = nI a ∧ y = nI b ∧ wd a = wd b) ∧ w = 1 ∧ d = 0
  | 12 => (a < c ∧ x = nI a ∧ wd a = 1) ∧ (b < c ∧ d < c ∧ y = nI b ∧ z = nI d ∧ wd b = wd d) ∧ w = wd b
  | 13 => (a < c ∧ x = nI a) ∧ (b < c ∧ y = nI b ∧ wd b = 2) ∧ w = wd a ∧ d = 0
  | 14 => (a < c ∧ x = nI a) ∧ (b < c ∧ y = nI b ∧ wd b = 2) ∧ w = wd a ∧ d = 0
  | 15 => (a < c ∧ x = nI a) ∧ (b < c ∧ y = nI b) ∧ w = wd a + wd b ∧ d = 0
  | 16 => (a < c ∧ x = nI a) ∧ (∃ s, y = nI s ∧ z = nI w ∧ 1 ≤ w ∧ s + w ≤ wd a) ∧ b = 0 ∧ d = 0
  | 17 => (a < c ∧ x = nI a) ∧ w = 3 ∧ b = 0 ∧ d = 0
  | 18 => (a < c ∧ x = nI a ∧ wd a = 2) ∧ w = 4 ∧ b = 0 ∧ d = 0
  | _ => False
def nb_co (k w wa : Nat) : Int32 :=
  match k with
  | 2 => 3 * nI w
  | 4 => nI w
  | 5 => nI w
  | 6 => 3 * nI w
  | 7 => 9 * nI w
  | 8 => 9 * nI w
  | 9 => 10 * nI w * nI w
  | 10 => 8 * nI wa
  | 11 => 4 * nI wa
  | 12 => 3 * nI w
  | 13 => 6 * nI w
  | 14 => 6 * nI w
  | 17 => 12 * nI wa
  | 18 => 40
  | _ => 0
theorem nb_sl {w s t : Nat} (hw : w < 7) (hs : s < 2 ^ 31) (ht : t < 2 ^ 31) : nI w - nI s < nI t ↔ w < s + t := by
  rw [Int32.lt_iff_toInt_lt, Int32.toInt_sub, nI_toInt (by omega), nI_toInt hs, nI_toInt ht, Int.bmod_eq_of_le (by omega) (by omega)]
  omega
section
variable {c : Nat} {cs sw pp pd pe : Int32} {K W ox oy oz nums rch D nx en fo H nt mem nm vals tr ex ey ez nty va td mt : Nat → Int32} {kd wd xo yo zo dp : Nat → Nat}
theorem nx_iw_t (post : Int32 → Prop) {w : Nat} (h1 : 1 ≤ w) (hw : w < 7) (h : post 1) : wpX_isWidth post (nI w) :=
  br_f (nI_nlt (b := 1) h1 (by omega)) (br_f (nI_nlt (a := 6) (by omega) (by omega)) h)
theorem nb_nw {x : Int32} (hx : ¬ ∃ w, 1 ≤ w ∧ w < 7 ∧ x = nI w) : x < 1 ∨ (¬ x < 1 ∧ 6 < x) := by
  by_cases q : x < 1
  · exact Or.inl q
  · refine Or.inr ⟨q, ?_⟩
    have q0 : ¬ x < 0 := fun z => q (Int32.lt_trans z (by decide))
    obtain ⟨j, hj, rfl⟩ := nI_of q0
    have j1 : 1 ≤ j := Nat.not_lt.mp (fun z => q (nI_lt (b := 1) z (by omega)))
    have j7 : ¬ j < 7 := fun z => hx ⟨j, j1, z, rfl⟩
    exact nI_lt (a := 6) (by omega) hj
theorem nx_iw_f (post : Int32 → Prop) {x : Int32} (hx : ¬ ∃ w, 1 ≤ w ∧ w < 7 ∧ x = nI w) (h : post 0) : wpX_isWidth post x := by
  rcases nb_nw hx with q | ⟨q, q6⟩
  · exact br_t q h
  · exact br_f q (br_t q6 h)
theorem ny_ir_w (post : Int32 → Prop) {x v : Int32} (hx : ¬ ∃ w, 1 ≤ w ∧ w < 7 ∧ x = nI w) (h : post 0) : wpY_inRange post ((nI c), cs, sw, pp, pd, pe, K, ex, ey, ez, W, H, nty, fo, va, nx, en, mem, nm, td, mt) v x := by
  rcases nb_nw hx with q | ⟨q, q6⟩
  · exact br_t q h
  · exact br_f q (br_t q6 h)
theorem nx_ft0 (post : Int32 → Prop) (hc : c ≤ 24) (hW : ∀ j, W j = nI (wd j)) (h7 : ∀ j, j < c → wd j < 7) {x y z : Int32} {a b d w : Nat} (q : nb_fq c wd 0 x y z a b d w) (h : post 1) : wpX_operandsFit post ((nI c), cs, sw, pp, pd, pe, K, W, ox, oy, oz, nums, rch, D, nx, en, fo, H, nt, mem, nm, vals, tr) 0 x y z := by
  obtain ⟨⟨rfl, h1, w7⟩, _, _, _⟩ := q
  refine br_f (by decide) (br_f (by decide) (br_t rfl (?_)))
  exact nx_iw_t _ h1 w7 ⟨rfl, h⟩
theorem nx_ft1 (post : Int32 → Prop) (hc : c ≤ 24) (hW : ∀ j, W j = nI (wd j)) (h7 : ∀ j, j < c → wd j < 7) {x y z : Int32} {a b d w : Nat} (q : nb_fq c wd 1 x y z a b d w) (h : post 1) : wpX_operandsFit post ((nI c), cs, sw, pp, pd, pe, K, W, ox, oy, oz, nums, rch, D, nx, en, fo, H, nt, mem, nm, vals, tr) 1 x y z := by
  obtain ⟨⟨rfl, h1, w7, r⟩, _, _, _⟩ := q
  refine br_f (by decide) (br_f (by decide) (br_f (by decide) (br_t rfl (?_))))
  unfold wX_operandsFit_97
  exact nx_iw_t _ h1 w7 (br_f (by decide) (nx_fw_t _ w7 r (br_f (by decide) h)))
theorem nx_ft2 (post : Int32 → Prop) (hc : c ≤ 24) (hW : ∀ j, W j = nI (wd j)) (h7 : ∀ j, j < c → wd j < 7) {x y z : Int32} {a b d w : Nat} (q : nb_fq c wd 2 x y z a b d w) (h : post 1) : wpX_operandsFit post ((nI c), cs, sw, pp, pd, pe, K, W, ox, oy, oz, nums, rch, D, nx, en, fo, H, nt, mem, nm, vals, tr) 2 x y z := by
  obtain ⟨⟨rfl, h1, w7, r⟩, _, _, _⟩ := q
  refine br_f (by decide) (br_f (by decide) (br_f (by decide) (br_f (by decide) (br_t rfl (?_)))))
  unfold wX_operandsFit_97
  exact nx_iw_t _ h1 w7 (br_f (by decide) (nx_fw_t _ w7 r (br_f (by decide) h)))
theorem nx_ft3 (post : Int32 → Prop) (hc : c ≤ 24) (hW : ∀ j, W j = nI (wd j)) (h7 : ∀ j, j < c → wd j < 7) {x y z : Int32} {a b d w : Nat} (q : nb_fq c wd 3 x y z a b d w) (h : post 1) : wpX_operandsFit post ((nI c), cs, sw, pp, pd, pe, K, W, ox, oy, oz, nums, rch, D, nx, en, fo, H, nt, mem, nm, vals, tr) 3 x y z := by
  obtain ⟨⟨ha, rfl⟩, _, _, _⟩ := q
  refine br_f (by decide) (br_f (by decide) (br_f (by decide) (br_f (by decide) (br_f (by decide) (br_t rfl (?_))))))
  unfold wX_operandsFit_118
  exact nx_isS_t _ hc ha ⟨rfl, h⟩
theorem nx_ft4 (post : Int32 → Prop) (hc : c ≤ 24) (hW : ∀ j, W j = nI (wd j)) (h7 : ∀ j, j < c → wd j < 7) {x y z : Int32} {a b d w : Nat} (q : nb_fq c wd 4 x y z a b d w) (h : post 1) : wpX_operandsFit post ((nI c), cs, sw, pp, pd, pe, K, W, ox, oy, oz, nums, rch, D, nx, en, fo, H, nt, mem, nm, vals, tr) 4 x y z := by
  obtain ⟨⟨ha, hb, rfl, rfl, e⟩, _, _⟩ := q
  refine br_f (by decide) (br_f (by decide) (br_f (by decide) (br_f (by decide) (br_f (by decide) (br_f (by decide) (br_t rfl (?_)))))))
  unfold wX_operandsFit_263
  exact nx_al_t _ hc hW ha hb e ⟨rfl, h⟩
theorem nx_ft5 (post : Int32 → Prop) (hc : c ≤ 24) (hW : ∀ j, W j = nI (wd j)) (h7 : ∀ j, j < c → wd j < 7) {x y z : Int32} {a b d w : Nat} (q : nb_fq c wd 5 x y z a b d w) (h : post 1) : wpX_operandsFit post ((nI c), cs, sw, pp, pd, pe, K, W, ox, oy, oz, nums, rch, D, nx, en, fo, H, nt, mem, nm, vals, tr) 5 x y z := by
  obtain ⟨⟨ha, hb, rfl, rfl, e⟩, _, _⟩ := q
  refine br_f (by decide) (br_f (by decide) (br_f (by decide) (br_f (by decide) (br_f (by decide) (br_f (by decide) (br_f (by decide) (br_t rfl (?_))))))))
  unfold wX_operandsFit_263
  exact nx_al_t _ hc hW ha hb e ⟨rfl, h⟩
theorem nx_ft6 (post : Int32 → Prop) (hc : c ≤ 24) (hW : ∀ j, W j = nI (wd j)) (h7 : ∀ j, j < c → wd j < 7) {x y z : Int32} {a b d w : Nat} (q : nb_fq c wd 6 x y z a b d w) (h : post 1) : wpX_operandsFit post ((nI c), cs, sw, pp, pd, pe, K, W, ox, oy, oz, nums, rch, D, nx, en, fo, H, nt, mem, nm, vals, tr) 6 x y z := by
  obtain ⟨⟨ha, hb, rfl, rfl, e⟩, _, _⟩ := q
  refine br_f (by decide) (br_f (by decide) (br_f (by decide) (br_f (by decide) (br_f (by decide) (br_f (by decide) (br_f (by decide) (br_f (by decide) (br_t rfl (?_)))))))))
  unfold wX_operandsFit_263
  exact nx_al_t _ hc hW ha hb e ⟨rfl, h⟩
theorem nx_ft7 (post : Int32 → Prop) (hc : c ≤ 24) (hW : ∀ j, W j = nI (wd j)) (h7 : ∀ j, j < c → wd j < 7) {x y z : Int32} {a b d w : Nat} (q : nb_fq c wd 7 x y z a b d w) (h : post 1) : wpX_operandsFit post ((nI c), cs, sw, pp, pd, pe, K, W, ox, oy, oz, nums, rch, D, nx, en, fo, H, nt, mem, nm, vals, tr) 7 x y z := by
  obtain ⟨⟨ha, hb, rfl, rfl, e⟩, _, _⟩ := q
  refine br_f (by decide) (br_f (by decide) (br_f (by decide) (br_f (by decide) (br_f (by decide) (br_f (by decide) (br_f (by decide) (br_f (by decide) (br_f (by decide) (br_t rfl (?_))))))))))
  unfold wX_operandsFit_263
  exact nx_al_t _ hc hW ha hb e ⟨rfl, h⟩
theorem nx_ft8 (post : Int32 → Prop) (hc : c ≤ 24) (hW : ∀ j, W j = nI (wd j)) (h7 : ∀ j, j < c → wd j < 7) {x y z : Int32} {a b d w : Nat} (q : nb_fq c wd 8 x y z a b d w) (h : post 1) : wpX_operandsFit post ((nI c), cs, sw, pp, pd, pe, K, W, ox, oy, oz, nums, rch, D, nx, en, fo, H, nt, mem, nm, vals, tr) 8 x y z := by
  obtain ⟨⟨ha, hb, rfl, rfl, e⟩, _, _⟩ := q
  refine br_f (by decide) (br_f (by decide) (br_f (by decide) (br_f (by decide) (br_f (by decide) (br_f (by decide) (br_f (by decide) (br_f (by decide) (br_f (by decide) (br_f (by decide) (br_t rfl (?_)))))))))))
  unfold wX_operandsFit_263
  exact nx_al_t _ hc hW ha hb e ⟨rfl, h⟩
theorem nx_ft9 (post : Int32 → Prop) (hc : c ≤ 24) (hW : ∀ j, W j = nI (wd j)) (h7 : ∀ j, j < c → wd j < 7) {x y z : Int32} {a b d w : Nat} (q : nb_fq c wd 9 x y z a b d w) (h : post 1) : wpX_operandsFit post ((nI c), cs, sw, pp, pd, pe, K, W, ox, oy, oz, nums, rch, D, nx, en, fo, H, nt, mem, nm, vals, tr) 9 x y z := by
  obtain ⟨⟨ha, hb, rfl, rfl, e, e3⟩, _, _⟩ := q
  have w7 := h7 a ha
  refine br_f (by decide) (br_f (by decide) (br_f (by decide) (br_f (by decide) (br_f (by decide) (br_f (by decide) (br_f (by decide) (br_f (by decide) (br_f (by decide) (br_f (by decide) (br_f (by decide) (br_t rfl (?_))))))))))))
  exact nx_al_t _ hc hW ha hb e (br_f (by decide) ⟨(vp_in_nI (by omega) (by omega)), by rw [nI_clamp (by omega), hW]; exact br_f (nI_nlt (a := 3) e3 (by omega)) h⟩)
theorem nx_ft10 (post : Int32 → Prop) (hc : c ≤ 24) (hW : ∀ j, W j = nI (wd j)) (h7 : ∀ j, j < c → wd j < 7) {x y z : Int32} {a b d w : Nat} (q : nb_fq c wd 10 x y z a b d w) (h : post 1) : wpX_operandsFit post ((nI c), cs, sw, pp, pd, pe, K, W, ox, oy, oz, nums, rch, D, nx, en, fo, H, nt, mem, nm, vals, tr) 10 x y z := by
  obtain ⟨⟨ha, hb, rfl, rfl, e⟩, _, _⟩ := q
  refine br_f (by decide) (br_f (by decide) (br_f (by decide) (br_f (by decide) (br_f (by decide) (br_f (by decide) (br_f (by decide) (br_f (by decide) (br_f (by decide) (br_f (by decide) (br_f (by decide) (br_f (by decide) (br_t rfl (?_)))))))))))))
  unfold wX_operandsFit_263
  exact nx_al_t _ hc hW ha hb e ⟨rfl, h⟩
theorem nx_ft11 (post : Int32 → Prop) (hc : c ≤ 24) (hW : ∀ j, W j = nI (wd j)) (h7 : ∀ j, j < c → wd j < 7) {x y z : Int32} {a b d w : Nat} (q : nb_fq c wd 11 x y z a b d w) (h : post 1) : wpX_operandsFit post ((nI c), cs, sw, pp, pd, pe, K, W, ox, oy, oz, nums, rch, D, nx, en, fo, H, nt, mem, nm, vals, tr) 11 x y z := by
  obtain ⟨⟨ha, hb, rfl, rfl, e⟩, _, _⟩ := q
  refine br_f (by decide) (br_f (by decide) (br_f (by decide) (br_f (by decide) (br_f (by decide) (br_f (by decide) (br_f (by decide) (br_f (by decide) (br_f (by decide) (br_f (by decide) (br_f (by decide) (br_f (by decide) (br_f (by decide) (br_t rfl (?_))))))))))))))
  unfold wX_operandsFit_263
  exact nx_al_t _ hc hW ha hb e ⟨rfl, h⟩
theorem nx_ft12 (post : Int32 → Prop) (hc : c ≤ 24) (hW : ∀ j, W j = nI (wd j)) (h7 : ∀ j, j < c → wd j < 7) {x y z : Int32} {a b d w : Nat} (q : nb_fq c wd 12 x y z a b d w) (h : post 1) : wpX_operandsFit post ((nI c), cs, sw, pp, pd, pe, K, W, ox, oy, oz, nums, rch, D, nx, en, fo, H, nt, mem, nm, vals, tr) 12 x y z := by
  obtain ⟨⟨ha, rfl, e1⟩, ⟨hb, hd, rfl, rfl, e⟩, _⟩ := q
  refine br_f (by decide) (br_f (by decide) (br_f (by decide) (br_f (by decide) (br_f (by decide) (br_f (by decide) (br_f (by decide) (br_f (by decide) (br_f (by decide) (br_f (by decide) (br_f (by decide) (br_f (by decide) (br_f (by decide) (br_f (by decide) (br_t rfl (?_)))))))))))))))
  exact nx_isW_t _ hc hW ha (by rw [e1]; rfl) (br_f (by decide) (nx_al_t _ hc hW hb hd e (br_f (by decide) h)))
theorem nx_ft13 (post : Int32 → Prop) (hc : c ≤ 24) (hW : ∀ j, W j = nI (wd j)) (h7 : ∀ j, j < c → wd j < 7) {x y z : Int32} {a b d w : Nat} (q : nb_fq c wd 13 x y z a b d w) (h : post 1) : wpX_operandsFit post ((nI c), cs, sw, pp, pd, pe, K, W, ox, oy, oz, nums, rch, D, nx, en, fo, H, nt, mem, nm, vals, tr) 13 x y z := by
  obtain ⟨⟨ha, rfl⟩, ⟨hb, rfl, e2⟩, _, _⟩ := q
  refine br_f (by decide) (br_f (by decide) (br_f (by decide) (br_f (by decide) (br_f (by decide) (br_f (by decide) (br_f (by decide) (br_f (by decide) (br_f (by decide) (br_f (by decide) (br_f (by decide) (br_f (by decide) (br_f (by decide) (br_f (by decide) (br_f (by decide) (br_t rfl (?_))))))))))))))))
  unfold wX_operandsFit_174
  exact nx_isS_t _ hc ha (br_f (by decide) (nx_isW_t _ hc hW hb (by rw [e2]; rfl) (br_f (by decide) h)))
theorem nx_ft14 (post : Int32 → Prop) (hc : c ≤ 24) (hW : ∀ j, W j = nI (wd j)) (h7 : ∀ j, j < c → wd j < 7) {x y z : Int32} {a b d w : Nat} (q : nb_fq c wd 14 x y z a b d w) (h : post 1) : wpX_operandsFit post ((nI c), cs, sw, pp, pd, pe, K, W, ox, oy, oz, nums, rch, D, nx, en, fo, H, nt, mem, nm, vals, tr) 14 x y z := by
  obtain ⟨⟨ha, rfl⟩, ⟨hb, rfl, e2⟩, _, _⟩ := q
  refine br_f (by decide) (br_f (by decide) (br_f (by decide) (br_f (by decide) (br_f (by decide) (br_f (by decide) (br_f (by decide) (br_f (by decide) (br_f (by decide) (br_f (by decide) (br_f (by decide) (br_f (by decide) (br_f (by decide) (br_f (by decide) (br_f (by decide) (br_f (by decide) (br_t rfl (?_)))))))))))))))))
  unfold wX_operandsFit_174
  exact nx_isS_t _ hc ha (br_f (by decide) (nx_isW_t _ hc hW hb (by rw [e2]; rfl) (br_f (by decide) h)))
theorem nx_ft15 (post : Int32 → Prop) (hc : c ≤ 24) (hW : ∀ j, W j = nI (wd j)) (h7 : ∀ j, j < c → wd j < 7) {x y z : Int32} {a b d w : Nat} (q : nb_fq c wd 15 x y z a b d w) (h : post 1) : wpX_operandsFit post ((nI c), cs, sw, pp, pd, pe, K, W, ox, oy, oz, nums, rch, D, nx, en, fo, H, nt, mem, nm, vals, tr) 15 x y z := by
  obtain ⟨⟨ha, rfl⟩, ⟨hb, rfl⟩, _, _⟩ := q
  refine br_f (by decide) (br_f (by decide) (br_f (by decide) (br_f (by decide) (br_f (by decide) (br_f (by decide) (br_f (by decide) (br_f (by decide) (br_f (by decide) (br_f (by decide) (br_f (by decide) (br_f (by decide) (br_f (by decide) (br_f (by decide) (br_f (by decide) (br_f (by decide) (br_f (by decide) (br_t rfl (?_))))))))))))))))))
  exact nx_isS_t _ hc ha (br_f (by decide) (nx_isS_t _ hc hb (br_f (by decide) h)))
theorem nx_ft16 (post : Int32 → Prop) (hc : c ≤ 24) (hW : ∀ j, W j = nI (wd j)) (h7 : ∀ j, j < c → wd j < 7) {x y z : Int32} {a b d w : Nat} (q : nb_fq c wd 16 x y z a b d w) (h : post 1) : wpX_operandsFit post ((nI c), cs, sw, pp, pd, pe, K, W, ox, oy, oz, nums, rch, D, nx, en, fo, H, nt, mem, nm, vals, tr) 16 x y z := by
  obtain ⟨⟨ha, rfl⟩, ⟨s, rfl, rfl, h1, hsw⟩, _, _⟩ := q
  have w7 := h7 a ha
  refine br_f (by decide) (br_f (by decide) (br_f (by decide) (br_f (by decide) (br_f (by decide) (br_f (by decide) (br_f (by decide) (br_f (by decide) (br_f (by decide) (br_f (by decide) (br_f (by decide) (br_f (by decide) (br_f (by decide) (br_f (by decide) (br_f (by decide) (br_f (by decide) (br_f (by decide) (br_f (by decide) (br_t rfl (?_)))))))))))))))))))
  exact nx_isS_t _ hc ha (br_f (by decide) (br_f (nI_pos (by omega)) (br_f (nI_nlt (b := 1) h1 (by omega)) ⟨(vp_in_nI (by omega) (by omega)), by rw [nI_clamp (by omega), hW]; exact br_f (fun q => absurd ((nb_sl w7 (by omega) (by omega)).mp q) (by omega)) h⟩)))
theorem nx_ft17 (post : Int32 → Prop) (hc : c ≤ 24) (hW : ∀ j, W j = nI (wd j)) (h7 : ∀ j, j < c → wd j < 7) {x y z : Int32} {a b d w : Nat} (q : nb_fq c wd 17 x y z a b d w) (h : post 1) : wpX_operandsFit post ((nI c), cs, sw, pp, pd, pe, K, W, ox, oy, oz, nums, rch, D, nx, en, fo, H, nt, mem, nm, vals, tr) 17 x y z := by
  obtain ⟨⟨ha, rfl⟩, _, _, _⟩ := q
  refine br_f (by decide) (br_f (by decide) (br_f (by decide) (br_f (by decide) (br_f (by decide) (br_f (by decide) (br_f (by decide) (br_f (by decide) (br_f (by decide) (br_f (by decide) (br_f (by decide) (br_f (by decide) (br_f (by decide) (br_f (by decide) (br_f (by decide) (br_f (by decide) (br_f (by decide) (br_f (by decide) (br_f (by decide) (br_t rfl (?_))))))))))))))))))))
  unfold wX_operandsFit_118
  exact nx_isS_t _ hc ha ⟨rfl, h⟩
theorem nx_ft18 (post : Int32 → Prop) (hc : c ≤ 24) (hW : ∀ j, W j = nI (wd j)) (h7 : ∀ j, j < c → wd j < 7) {x y z : Int32} {a b d w : Nat} (q : nb_fq c wd 18 x y z a b d w) (h : post 1) : wpX_operandsFit post ((nI c), cs, sw, pp, pd, pe, K, W, ox, oy, oz, nums, rch, D, nx, en, fo, H, nt, mem, nm, vals, tr) 18 x y z := by
  obtain ⟨⟨ha, rfl, e2⟩, _, _, _⟩ := q
  refine br_f (by decide) (br_f (by decide) (br_f (by decide) (br_f (by decide) (br_f (by decide) (br_f (by decide) (br_f (by decide) (br_f (by decide) (br_f (by decide) (br_f (by decide) (br_f (by decide) (br_f (by decide) (br_f (by decide) (br_f (by decide) (br_f (by decide) (br_f (by decide) (br_f (by decide) (br_f (by decide) (br_f (by decide) (br_f (by decide) (br_t rfl (?_)))))))))))))))))))))
  exact nx_isW_t _ hc hW ha (by rw [e2]; rfl) ⟨rfl, h⟩
theorem ny_ft1 (post : Int32 → Prop) (hc : c ≤ 24) (hW : ∀ j, W j = nI (wd j)) (h7 : ∀ j, j < c → wd j < 7) {x y z : Int32} {a b d w : Nat} (q : nb_fq c wd 1 x y z a b d w) (h : post 1) : wpY_operandsFit post ((nI c), cs, sw, pp, pd, pe, K, ex, ey, ez, W, H, nty, fo, va, nx, en, mem, nm, td, mt) 1 x y z := by
  obtain ⟨⟨rfl, h1, w7, r⟩, _, _, _⟩ := q
  refine br_f (by decide) (br_f (by decide) (?_))
  exact ny_ir_t _ h1 w7 r ⟨rfl, h⟩
theorem ny_ft2 (post : Int32 → Prop) (hc : c ≤ 24) (hW : ∀ j, W j = nI (wd j)) (h7 : ∀ j, j < c → wd j < 7) {x y z : Int32} {a b d w : Nat} (q : nb_fq c wd 2 x y z a b d w) (h : post 1) : wpY_operandsFit post ((nI c), cs, sw, pp, pd, pe, K, ex, ey, ez, W, H, nty, fo, va, nx, en, mem, nm, td, mt) 2 x y z := by
  obtain ⟨⟨rfl, h1, w7, r⟩, _, _, _⟩ := q
  refine br_f (by decide) (br_f (by decide) (?_))
  exact ny_ir_t _ h1 w7 r ⟨rfl, h⟩
theorem ny_ft3 (post : Int32 → Prop) (hc : c ≤ 24) (hW : ∀ j, W j = nI (wd j)) (h7 : ∀ j, j < c → wd j < 7) {x y z : Int32} {a b d w : Nat} (q : nb_fq c wd 3 x y z a b d w) (h : post 1) : wpY_operandsFit post ((nI c), cs, sw, pp, pd, pe, K, ex, ey, ez, W, H, nty, fo, va, nx, en, mem, nm, td, mt) 3 x y z := by
  obtain ⟨⟨ha, rfl⟩, _, _, _⟩ := q
  refine br_f (by decide) (br_t (by decide) (br_t rfl (?_)))
  unfold wY_operandsFit_29
  exact ny_isS_t _ hc ha ⟨rfl, h⟩
theorem ny_ft4 (post : Int32 → Prop) (hc : c ≤ 24) (hW : ∀ j, W j = nI (wd j)) (h7 : ∀ j, j < c → wd j < 7) {x y z : Int32} {a b d w : Nat} (q : nb_fq c wd 4 x y z a b d w) (h : post 1) : wpY_operandsFit post ((nI c), cs, sw, pp, pd, pe, K, ex, ey, ez, W, H, nty, fo, va, nx, en, mem, nm, td, mt) 4 x y z := by
  obtain ⟨⟨ha, hb, rfl, rfl, e⟩, _, _⟩ := q
  refine br_f (by decide) (br_t (by decide) (br_f (by decide) (br_f (by decide) (br_f (by decide) (?_)))))
  exact ny_al_t _ hc hW ha hb e (br_f (by decide) (br_f (by decide) h))
theorem ny_ft5 (post : Int32 → Prop) (hc : c ≤ 24) (hW : ∀ j, W j = nI (wd j)) (h7 : ∀ j, j < c → wd j < 7) {x y z : Int32} {a b d w : Nat} (q : nb_fq c wd 5 x y z a b d w) (h : post 1) : wpY_operandsFit post ((nI c), cs, sw, pp, pd, pe, K, ex, ey, ez, W, H, nty, fo, va, nx, en, mem, nm, td, mt) 5 x y z := by
  obtain ⟨⟨ha, hb, rfl, rfl, e⟩, _, _⟩ := q
  refine br_f (by decide) (br_t (by decide) (br_f (by decide) (br_f (by decide) (br_f (by decide) (?_)))))
  exact ny_al_t _ hc hW ha hb e (br_f (by decide) (br_f (by decide) h))
theorem ny_ft6 (post : Int32 → Prop) (hc : c ≤ 24) (hW : ∀ j, W j = nI (wd j)) (h7 : ∀ j, j < c → wd j < 7) {x y z : Int32} {a b d w : Nat} (q : nb_fq c wd 6 x y z a b d w) (h : post 1) : wpY_operandsFit post ((nI c), cs, sw, pp, pd, pe, K, ex, ey, ez, W, H, nty, fo, va, nx, en, mem, nm, td, mt) 6 x y z := by
  obtain ⟨⟨ha, hb, rfl, rfl, e⟩, _, _⟩ := q
  refine br_f (by decide) (br_t (by decide) (br_f (by decide) (br_f (by decide) (br_f (by decide) (?_)))))
  exact ny_al_t _ hc hW ha hb e (br_f (by decide) (br_f (by decide) h))
theorem ny_ft7 (post : Int32 → Prop) (hc : c ≤ 24) (hW : ∀ j, W j = nI (wd j)) (h7 : ∀ j, j < c → wd j < 7) {x y z : Int32} {a b d w : Nat} (q : nb_fq c wd 7 x y z a b d w) (h : post 1) : wpY_operandsFit post ((nI c), cs, sw, pp, pd, pe, K, ex, ey, ez, W, H, nty, fo, va, nx, en, mem, nm, td, mt) 7 x y z := by
  obtain ⟨⟨ha, hb, rfl, rfl, e⟩, _, _⟩ := q
  refine br_f (by decide) (br_t (by decide) (br_f (by decide) (br_f (by decide) (br_f (by decide) (?_)))))
  exact ny_al_t _ hc hW ha hb e (br_f (by decide) (br_f (by decide) h))
theorem ny_ft8 (post : Int32 → Prop) (hc : c ≤ 24) (hW : ∀ j, W j = nI (wd j)) (h7 : ∀ j, j < c → wd j < 7) {x y z : Int32} {a b d w : Nat} (q : nb_fq c wd 8 x y z a b d w) (h : post 1) : wpY_operandsFit post ((nI c), cs, sw, pp, pd, pe, K, ex, ey, ez, W, H, nty, fo, va, nx, en, mem, nm, td, mt) 8 x y z := by
  obtain ⟨⟨ha, hb, rfl, rfl, e⟩, _, _⟩ := q
  refine br_f (by decide) (br_t (by decide) (br_f (by decide) (br_f (by decide) (br_f (by decide) (?_)))))
  exact ny_al_t _ hc hW ha hb e (br_f (by decide) (br_f (by decide) h))
theorem ny_ft9 (post : Int32 → Prop) (hc : c ≤ 24) (hW : ∀ j, W j = nI (wd j)) (h7 : ∀ j, j < c → wd j < 7) {x y z : Int32} {a b d w : Nat} (q : nb_fq c wd 9 x y z a b d w) (h : post 1) : wpY_operandsFit post ((nI c), cs, sw, pp, pd, pe, K, ex, ey, ez, W, H, nty, fo, va, nx, en, mem, nm, td, mt) 9 x y z := by
  obtain ⟨⟨ha, hb, rfl, rfl, e, e3⟩, _, _⟩ := q
  have w7 := h7 a ha
  refine br_f (by decide) (br_t (by decide) (br_f (by decide) (br_f (by decide) (br_f (by decide) (?_)))))
  exact ny_al_t _ hc hW ha hb e (br_f (by decide) (br_t rfl ⟨(vp_in_nI (by omega) (by omega)), by rw [nI_clamp (by omega), hW]; exact br_f (nI_nlt (a := 3) e3 (by omega)) h⟩))
theorem ny_ft10 (post : Int32 → Prop) (hc : c ≤ 24) (hW : ∀ j, W j = nI (wd j)) (h7 : ∀ j, j < c → wd j < 7) {x y z : Int32} {a b d w : Nat} (q : nb_fq c wd 10 x y z a b d w) (h : post 1) : wpY_operandsFit post ((nI c), cs, sw, pp, pd, pe, K, ex, ey, ez, W, H, nty, fo, va, nx, en, mem, nm, td, mt) 10 x y z := by
  obtain ⟨⟨ha, hb, rfl, rfl, e⟩, _, _⟩ := q
  refine br_f (by decide) (br_t (by decide) (br_f (by decide) (br_f (by decide) (br_f (by decide) (?_)))))
  exact ny_al_t _ hc hW ha hb e (br_f (by decide) (br_f (by decide) h))
theorem ny_ft11 (post : Int32 → Prop) (hc : c ≤ 24) (hW : ∀ j, W j = nI (wd j)) (h7 : ∀ j, j < c → wd j < 7) {x y z : Int32} {a b d w : Nat} (q : nb_fq c wd 11 x y z a b d w) (h : post 1) : wpY_operandsFit post ((nI c), cs, sw, pp, pd, pe, K, ex, ey, ez, W, H, nty, fo, va, nx, en, mem, nm, td, mt) 11 x y z := by
  obtain ⟨⟨ha, hb, rfl, rfl, e⟩, _, _⟩ := q
  refine br_f (by decide) (br_t (by decide) (br_f (by decide) (br_f (by decide) (br_f (by decide) (?_)))))
  exact ny_al_t _ hc hW ha hb e (br_f (by decide) (br_f (by decide) h))
theorem ny_ft12 (post : Int32 → Prop) (hc : c ≤ 24) (hW : ∀ j, W j = nI (wd j)) (h7 : ∀ j, j < c → wd j < 7) {x y z : Int32} {a b d w : Nat} (q : nb_fq c wd 12 x y z a b d w) (h : post 1) : wpY_operandsFit post ((nI c), cs, sw, pp, pd, pe, K, ex, ey, ez, W, H, nty, fo, va, nx, en, mem, nm, td, mt) 12 x y z := by
  obtain ⟨⟨ha, rfl, e1⟩, ⟨hb, hd, rfl, rfl, e⟩, _⟩ := q
  refine br_f (by decide) (br_t (by decide) (br_f (by decide) (br_f (by decide) (br_t (by decide) (br_t rfl (?_))))))
  exact ny_isW_t _ hc hW ha (by rw [e1]; rfl) (br_f (by decide) (ny_al_t _ hc hW hb hd e (br_f (by decide) h)))
theorem ny_ft13 (post : Int32 → Prop) (hc : c ≤ 24) (hW : ∀ j, W j = nI (wd j)) (h7 : ∀ j, j < c → wd j < 7) {x y z : Int32} {a b d w : Nat} (q : nb_fq c wd 13 x y z a b d w) (h : post 1) : wpY_operandsFit post ((nI c), cs, sw, pp, pd, pe, K, ex, ey, ez, W, H, nty, fo, va, nx, en, mem, nm, td, mt) 13 x y z := by
  obtain ⟨⟨ha, rfl⟩, ⟨hb, rfl, e2⟩, _, _⟩ := q
  refine br_f (by decide) (br_t (by decide) (br_f (by decide) (br_f (by decide) (br_t (by decide) (br_f (by decide) (br_f (by decide) (?_)))))))
  exact ny_isS_t _ hc ha (br_f (by decide) (ny_isW_t _ hc hW hb (by rw [e2]; rfl) (br_f (by decide) h)))
theorem ny_ft14 (post : Int32 → Prop) (hc : c ≤ 24) (hW : ∀ j, W j = nI (wd j)) (h7 : ∀ j, j < c → wd j < 7) {x y z : Int32} {a b d w : Nat} (q : nb_fq c wd 14 x y z a b d w) (h : post 1) : wpY_operandsFit post ((nI c), cs, sw, pp, pd, pe, K, ex, ey, ez, W, H, nty, fo, va, nx, en, mem, nm, td, mt) 14 x y z := by
  obtain ⟨⟨ha, rfl⟩, ⟨hb, rfl, e2⟩, _, _⟩ := q
  refine br_f (by decide) (br_t (by decide) (br_f (by decide) (br_f (by decide) (br_t (by decide) (br_f (by decide) (br_f (by decide) (?_)))))))
  exact ny_isS_t _ hc ha (br_f (by decide) (ny_isW_t _ hc hW hb (by rw [e2]; rfl) (br_f (by decide) h)))
theorem ny_ft15 (post : Int32 → Prop) (hc : c ≤ 24) (hW : ∀ j, W j = nI (wd j)) (h7 : ∀ j, j < c → wd j < 7) {x y z : Int32} {a b d w : Nat} (q : nb_fq c wd 15 x y z a b d w) (h : post 1) : wpY_operandsFit post ((nI c), cs, sw, pp, pd, pe, K, ex, ey, ez, W, H, nty, fo, va, nx, en, mem, nm, td, mt) 15 x y z := by
  obtain ⟨⟨ha, rfl⟩, ⟨hb, rfl⟩, _, _⟩ := q
  refine br_f (by decide) (br_t (by decide) (br_f (by decide) (br_f (by decide) (br_t (by decide) (br_f (by decide) (br_t (by decide) (br_t rfl (?_))))))))
  exact ny_isS_t _ hc ha (br_f (by decide) (ny_isS_t _ hc hb (br_f (by decide) h)))
theorem ny_ft16 (post : Int32 → Prop) (hc : c ≤ 24) (hW : ∀ j, W j = nI (wd j)) (h7 : ∀ j, j < c → wd j < 7) {x y z : Int32} {a b d w : Nat} (q : nb_fq c wd 16 x y z a b d w) (h : post 1) : wpY_operandsFit post ((nI c), cs, sw, pp, pd, pe, K, ex, ey, ez, W, H, nty, fo, va, nx, en, mem, nm, td, mt) 16 x y z := by
  obtain ⟨⟨ha, rfl⟩, ⟨s, rfl, rfl, h1, hsw⟩, _, _⟩ := q
  have w7 := h7 a ha
  refine br_f (by decide) (br_t (by decide) (br_f (by decide) (br_f (by decide) (br_t (by decide) (br_f (by decide) (br_t (by decide) (br_f (by decide) (br_t rfl (?_)))))))))
  exact ny_isS_t _ hc ha (br_f (by decide) (br_f (nI_pos (by omega)) (br_f (nI_nlt (b := 1) h1 (by omega)) ⟨(vp_in_nI (by omega) (by omega)), by rw [nI_clamp (by omega), hW]; exact br_f (nI_ge (by omega) (by omega)) ⟨(vp_in_nI (by omega) (by omega)), br_f (fun q => absurd ((nb_sl w7 (by omega) (by omega)).mp q) (by omega)) h⟩⟩)))
theorem ny_ft17 (post : Int32 → Prop) (hc : c ≤ 24) (hW : ∀ j, W j = nI (wd j)) (h7 : ∀ j, j < c → wd j < 7) {x y z : Int32} {a b d w : Nat} (q : nb_fq c wd 17 x y z a b d w) (h : post 1) : wpY_operandsFit post ((nI c), cs, sw, pp, pd, pe, K, ex, ey, ez, W, H, nty, fo, va, nx, en, mem, nm, td, mt) 17 x y z := by
  obtain ⟨⟨ha, rfl⟩, _, _, _⟩ := q
  refine br_f (by decide) (br_t (by decide) (br_f (by decide) (br_t rfl (?_))))
  unfold wY_operandsFit_29
  exact ny_isS_t _ hc ha ⟨rfl, h⟩
theorem ny_ft18 (post : Int32 → Prop) (hc : c ≤ 24) (hW : ∀ j, W j = nI (wd j)) (h7 : ∀ j, j < c → wd j < 7) {x y z : Int32} {a b d w : Nat} (q : nb_fq c wd 18 x y z a b d w) (h : post 1) : wpY_operandsFit post ((nI c), cs, sw, pp, pd, pe, K, ex, ey, ez, W, H, nty, fo, va, nx, en, mem, nm, td, mt) 18 x y z := by
  obtain ⟨⟨ha, rfl, e2⟩, _, _, _⟩ := q
  refine br_f (by decide) (br_t (by decide) (br_f (by decide) (br_f (by decide) (br_t (by decide) (br_f (by decide) (br_t (by decide) (br_f (by decide) (br_f (by decide) (?_)))))))))
  exact ny_isW_t _ hc hW ha (by rw [e2]; rfl) ⟨rfl, h⟩
theorem nx_ff0 (post : Int32 → Prop) (hc : c ≤ 24) (hW : ∀ j, W j = nI (wd j)) (h7 : ∀ j, j < c → wd j < 7) {x y z : Int32} (hn : ¬ ∃ a b d w, nb_fq c wd 0 x y z a b d w) (h : post 0) : wpX_operandsFit post ((nI c), cs, sw, pp, pd, pe, K, W, ox, oy, oz, nums, rch, D, nx, en, fo, H, nt, mem, nm, vals, tr) 0 x y z := by
  refine br_f (by decide) (br_f (by decide) (br_t rfl (?_)))
  exact nx_iw_f _ (fun ⟨w, h1, w7, e⟩ => hn ⟨0, 0, 0, w, ⟨e, h1, w7⟩, rfl, rfl, rfl⟩) ⟨rfl, h⟩
theorem nx_ff1 (post : Int32 → Prop) (hc : c ≤ 24) (hW : ∀ j, W j = nI (wd j)) (h7 : ∀ j, j < c → wd j < 7) {x y z : Int32} (hn : ¬ ∃ a b d w, nb_fq c wd 1 x y z a b d w) (h : post 0) : wpX_operandsFit post ((nI c), cs, sw, pp, pd, pe, K, W, ox, oy, oz, nums, rch, D, nx, en, fo, H, nt, mem, nm, vals, tr) 1 x y z := by
  refine br_f (by decide) (br_f (by decide) (br_f (by decide) (br_t rfl (?_))))
  unfold wX_operandsFit_97
  by_cases q : ∃ w, 1 ≤ w ∧ w < 7 ∧ x = nI w
  · obtain ⟨w, h1, w7, rfl⟩ := q
    exact nx_iw_t _ h1 w7 (br_f (by decide) (nx_fw_f _ w7 (fun r => hn ⟨0, 0, 0, w, ⟨rfl, h1, w7, r⟩, rfl, rfl, rfl⟩) (br_t rfl h)))
  · exact nx_iw_f _ q (br_t rfl h)
theorem nx_ff2 (post : Int32 → Prop) (hc : c ≤ 24) (hW : ∀ j, W j = nI (wd j)) (h7 : ∀ j, j < c → wd j < 7) {x y z : Int32} (hn : ¬ ∃ a b d w, nb_fq c wd 2 x y z a b d w) (h : post 0) : wpX_operandsFit post ((nI c), cs, sw, pp, pd, pe, K, W, ox, oy, oz, nums, rch, D, nx, en, fo, H, nt, mem, nm, vals, tr) 2 x y z := by
  refine br_f (by decide) (br_f (by decide) (br_f (by decide) (br_f (by decide) (br_t rfl (?_)))))
  unfold wX_operandsFit_97
  by_cases q : ∃ w, 1 ≤ w ∧ w < 7 ∧ x = nI w
  · obtain ⟨w, h1, w7, rfl⟩ := q
    exact nx_iw_t _ h1 w7 (br_f (by decide) (nx_fw_f _ w7 (fun r => hn ⟨0, 0, 0, w, ⟨rfl, h1, w7, r⟩, rfl, rfl, rfl⟩) (br_t rfl h)))
  · exact nx_iw_f _ q (br_t rfl h)
theorem nx_ff3 (post : Int32 → Prop) (hc : c ≤ 24) (hW : ∀ j, W j = nI (wd j)) (h7 : ∀ j, j < c → wd j < 7) {x y z : Int32} (hn : ¬ ∃ a b d w, nb_fq c wd 3 x y z a b d w) (h : post 0) : wpX_operandsFit post ((nI c), cs, sw, pp, pd, pe, K, W, ox, oy, oz, nums, rch, D, nx, en, fo, H, nt, mem, nm, vals, tr) 3 x y z := by
  refine br_f (by decide) (br_f (by decide) (br_f (by decide) (br_f (by decide) (br_f (by decide) (br_t rfl (?_))))))
  unfold wX_operandsFit_118
  exact nx_isS_f _ hc (fun ⟨a, ha, e⟩ => hn ⟨a, 0, 0, wd a, ⟨ha, e⟩, rfl, rfl, rfl⟩) ⟨rfl, h⟩
theorem nx_ff4 (post : Int32 → Prop) (hc : c ≤ 24) (hW : ∀ j, W j = nI (wd j)) (h7 : ∀ j, j < c → wd j < 7) {x y z : Int32} (hn : ¬ ∃ a b d w, nb_fq c wd 4 x y z a b d w) (h : post 0) : wpX_operandsFit post ((nI c), cs, sw, pp, pd, pe, K, W, ox, oy, oz, nums, rch, D, nx, en, fo, H, nt, mem, nm, vals, tr) 4 x y z := by
  refine br_f (by decide) (br_f (by decide) (br_f (by decide) (br_f (by decide) (br_f (by decide) (br_f (by decide) (br_t rfl (?_)))))))
  unfold wX_operandsFit_263
  exact nx_al_f _ hc hW h7 (fun ⟨a, b, ha, hb, ea, eb, e⟩ => hn ⟨a, b, 0, wd a, ⟨ha, hb, ea, eb, e⟩, rfl, rfl⟩) ⟨rfl, h⟩
theorem nx_ff5 (post : Int32 → Prop) (hc : c ≤ 24) (hW : ∀ j, W j = nI (wd j)) (h7 : ∀ j, j < c → wd j < 7) {x y z : Int32} (hn : ¬ ∃ a b d w, nb_fq c wd 5 x y z a b d w) (h : post 0) : wpX_operandsFit post ((nI c), cs, sw, pp, pd, pe, K, W, ox, oy, oz, nums, rch, D, nx, en, fo, H, nt, mem, nm, vals, tr) 5 x y z := by
  refine br_f (by decide) (br_f (by decide) (br_f (by decide) (br_f (by decide) (br_f (by decide) (br_f (by decide) (br_f (by decide) (br_t rfl (?_))))))))
  unfold wX_operandsFit_263
  exact nx_al_f _ hc hW h7 (fun ⟨a, b, ha, hb, ea, eb, e⟩ => hn ⟨a, b, 0, wd a, ⟨ha, hb, ea, eb, e⟩, rfl, rfl⟩) ⟨rfl, h⟩
theorem nx_ff6 (post : Int32 → Prop) (hc : c ≤ 24) (hW : ∀ j, W j = nI (wd j)) (h7 : ∀ j, j < c → wd j < 7) {x y z : Int32} (hn : ¬ ∃ a b d w, nb_fq c wd 6 x y z a b d w) (h : post 0) : wpX_operandsFit post ((nI c), cs, sw, pp, pd, pe, K, W, ox, oy, oz, nums, rch, D, nx, en, fo, H, nt, mem, nm, vals, tr) 6 x y z := by
  refine br_f (by decide) (br_f (by decide) (br_f (by decide) (br_f (by decide) (br_f (by decide) (br_f (by decide) (br_f (by decide) (br_f (by decide) (br_t rfl (?_)))))))))
  unfold wX_operandsFit_263
  exact nx_al_f _ hc hW h7 (fun ⟨a, b, ha, hb, ea, eb, e⟩ => hn ⟨a, b, 0, wd a, ⟨ha, hb, ea, eb, e⟩, rfl, rfl⟩) ⟨rfl, h⟩
theorem nx_ff7 (post : Int32 → Prop) (hc : c ≤ 24) (hW : ∀ j, W j = nI (wd j)) (h7 : ∀ j, j < c → wd j < 7) {x y z : Int32} (hn : ¬ ∃ a b d w, nb_fq c wd 7 x y z a b d w) (h : post 0) : wpX_operandsFit post ((nI c), cs, sw, pp, pd, pe, K, W, ox, oy, oz, nums, rch, D, nx, en, fo, H, nt, mem, nm, vals, tr) 7 x y z := by
  refine br_f (by decide) (br_f (by decide) (br_f (by decide) (br_f (by decide) (br_f (by decide) (br_f (by decide) (br_f (by decide) (br_f (by decide) (br_f (by decide) (br_t rfl (?_))))))))))
  unfold wX_operandsFit_263
  exact nx_al_f _ hc hW h7 (fun ⟨a, b, ha, hb, ea, eb, e⟩ => hn ⟨a, b, 0, wd a, ⟨ha, hb, ea, eb, e⟩, rfl, rfl⟩) ⟨rfl, h⟩
theorem nx_ff8 (post : Int32 → Prop) (hc : c ≤ 24) (hW : ∀ j, W j = nI (wd j)) (h7 : ∀ j, j < c → wd j < 7) {x y z : Int32} (hn : ¬ ∃ a b d w, nb_fq c wd 8 x y z a b d w) (h : post 0) : wpX_operandsFit post ((nI c), cs, sw, pp, pd, pe, K, W, ox, oy, oz, nums, rch, D, nx, en, fo, H, nt, mem, nm, vals, tr) 8 x y z := by
  refine br_f (by decide) (br_f (by decide) (br_f (by decide) (br_f (by decide) (br_f (by decide) (br_f (by decide) (br_f (by decide) (br_f (by decide) (br_f (by decide) (br_f (by decide) (br_t rfl (?_)))))))))))
  unfold wX_operandsFit_263
  exact nx_al_f _ hc hW h7 (fun ⟨a, b, ha, hb, ea, eb, e⟩ => hn ⟨a, b, 0, wd a, ⟨ha, hb, ea, eb, e⟩, rfl, rfl⟩) ⟨rfl, h⟩
theorem nx_ff9 (post : Int32 → Prop) (hc : c ≤ 24) (hW : ∀ j, W j = nI (wd j)) (h7 : ∀ j, j < c → wd j < 7) {x y z : Int32} (hn : ¬ ∃ a b d w, nb_fq c wd 9 x y z a b d w) (h : post 0) : wpX_operandsFit post ((nI c), cs, sw, pp, pd, pe, K, W, ox, oy, oz, nums, rch, D, nx, en, fo, H, nt, mem, nm, vals, tr) 9 x y z := by
  refine br_f (by decide) (br_f (by decide) (br_f (by decide) (br_f (by decide) (br_f (by decide) (br_f (by decide) (br_f (by decide) (br_f (by decide) (br_f (by decide) (br_f (by decide) (br_f (by decide) (br_t rfl (?_))))))))))))
  by_cases q : ∃ a b, a < c ∧ b < c ∧ x = nI a ∧ y = nI b ∧ wd a = wd b
  · obtain ⟨a, b, ha, hb, rfl, rfl, e⟩ := q
    have w7 := h7 a ha
    have g : 3 < wd a := Nat.not_le.mp (fun g => hn ⟨a, b, 0, wd a, ⟨ha, hb, rfl, rfl, e, g⟩, rfl, rfl⟩)
    exact nx_al_t _ hc hW ha hb e (br_f (by decide) ⟨(vp_in_nI (by omega) (by omega)), by rw [nI_clamp (by omega), hW]; exact br_t (nI_lt (a := 3) g (by omega)) h⟩)
  · exact nx_al_f _ hc hW h7 q (br_t rfl h)
theorem nx_ff10 (post : Int32 → Prop) (hc : c ≤ 24) (hW : ∀ j, W j = nI (wd j)) (h7 : ∀ j, j < c → wd j < 7) {x y z : Int32} (hn : ¬ ∃ a b d w, nb_fq c wd 10 x y z a b d w) (h : post 0) : wpX_operandsFit post ((nI c), cs, sw, pp, pd, pe, K, W, ox, oy, oz, nums, rch, D, nx, en, fo, H, nt, mem, nm, vals, tr) 10 x y z := by
  refine br_f (by decide) (br_f (by decide) (br_f (by decide) (br_f (by decide) (br_f (by decide) (br_f (by decide) (br_f (by decide) (br_f (by decide) (br_f (by decide) (br_f (by decide) (br_f (by decide) (br_f (by decide) (br_t rfl (?_)))))))))))))
  unfold wX_operandsFit_263
  exact nx_al_f _ hc hW h7 (fun ⟨a, b, ha, hb, ea, eb, e⟩ => hn ⟨a, b, 0, 1, ⟨ha, hb, ea, eb, e⟩, rfl, rfl⟩) ⟨rfl, h⟩
theorem nx_ff11 (post : Int32 → Prop) (hc : c ≤ 24) (hW : ∀ j, W j = nI (wd j)) (h7 : ∀ j, j < c → wd j < 7) {x y z : Int32} (hn : ¬ ∃ a b d w, nb_fq c wd 11 x y z a b d w) (h : post 0) : wpX_operandsFit post ((nI c), cs, sw, pp, pd, pe, K, W, ox, oy, oz, nums, rch, D, nx, en, fo, H, nt, mem, nm, vals, tr) 11 x y z := by
  refine br_f (by decide) (br_f (by decide) (br_f (by decide) (br_f (by decide) (br_f (by decide) (br_f (by decide) (br_f (by decide) (br_f (by decide) (br_f (by decide) (br_f (by decide) (br_f (by decide) (br_f (by decide) (br_f (by decide) (br_t rfl (?_))))))))))))))
  unfold wX_operandsFit_263
  exact nx_al_f _ hc hW h7 (fun ⟨a, b, ha, hb, ea, eb, e⟩ => hn ⟨a, b, 0, 1, ⟨ha, hb, ea, eb, e⟩, rfl, rfl⟩) ⟨rfl, h⟩
theorem nx_ff12 (post : Int32 → Prop) (hc : c ≤ 24) (hW : ∀ j, W j = nI (wd j)) (h7 : ∀ j, j < c → wd j < 7) {x y z : Int32} (hn : ¬ ∃ a b d w, nb_fq c wd 12 x y z a b d w) (h : post 0) : wpX_operandsFit post ((nI c), cs, sw, pp, pd, pe, K, W, ox, oy, oz, nums, rch, D, nx, en, fo, H, nt, mem, nm, vals, tr) 12 x y z := by
  refine br_f (by decide) (br_f (by decide) (br_f (by decide) (br_f (by decide) (br_f (by decide) (br_f (by decide) (br_f (by decide) (br_f (by decide) (br_f (by decide) (br_f (by decide) (br_f (by decide) (br_f (by decide) (br_f (by decide) (br_f (by decide) (br_t rfl (?_)))))))))))))))
  by_cases q : ∃ a, a < c ∧ x = nI a ∧ nI (wd a) = 1
  · obtain ⟨a, ha, rfl, e1⟩ := q
    have w7 := h7 a ha
    refine nx_isW_t _ hc hW ha e1 (br_f (by decide) (nx_al_f _ hc hW h7 ?_ (br_t rfl h)))
    exact fun ⟨b, d, hb, hd, eb, ed, e⟩ => hn ⟨a, b, d, wd b, ⟨ha, rfl, (nI_eq (b := 1) (by omega) (by omega)).mp e1⟩, ⟨hb, hd, eb, ed, e⟩, rfl⟩
  · exact nx_isW_f _ hc hW q (br_t rfl h)
theorem nx_ff13 (post : Int32 → Prop) (hc : c ≤ 24) (hW : ∀ j, W j = nI (wd j)) (h7 : ∀ j, j < c → wd j < 7) {x y z : Int32} (hn : ¬ ∃ a b d w, nb_fq c wd 13 x y z a b d w) (h : post 0) : wpX_operandsFit post ((nI c), cs, sw, pp, pd, pe, K, W, ox, oy, oz, nums, rch, D, nx, en, fo, H, nt, mem, nm, vals, tr) 13 x y z := by
  refine br_f (by decide) (br_f (by decide) (br_f (by decide) (br_f (by decide) (br_f (by decide) (br_f (by decide) (br_f (by decide) (br_f (by decide) (br_f (by decide) (br_f (by decide) (br_f (by decide) (br_f (by decide) (br_f (by decide) (br_f (by decide) (br_f (by decide) (br_t rfl (?_))))))))))))))))
  unfold wX_operandsFit_174
  by_cases q : nb_sg c x
  · obtain ⟨a, ha, rfl⟩ := q
    refine nx_isS_t _ hc ha (br_f (by decide) (nx_isW_f _ hc hW ?_ (br_t rfl h)))
    rintro ⟨b, hb, eb, e2⟩
    have w7 := h7 b hb
    exact hn ⟨a, b, 0, wd a, ⟨ha, rfl⟩, ⟨hb, eb, (nI_eq (b := 2) (by omega) (by omega)).mp e2⟩, rfl, rfl⟩
  · exact nx_isS_f _ hc q (br_t rfl h)
theorem nx_ff14 (post : Int32 → Prop) (hc : c ≤ 24) (hW : ∀ j, W j = nI (wd j)) (h7 : ∀ j, j < c → wd j < 7) {x y z : Int32} (hn : ¬ ∃ a b d w, nb_fq c wd 14 x y z a b d w) (h : post 0) : wpX_operandsFit post ((nI c), cs, sw, pp, pd, pe, K, W, ox, oy, oz, nums, rch, D, nx, en, fo, H, nt, mem, nm, vals, tr) 14 x y z := by
  refine br_f (by decide) (br_f (by decide) (br_f (by decide) (br_f (by decide) (br_f (by decide) (br_f (by decide) (br_f (by decide) (br_f (by decide) (br_f (by decide) (br_f (by decide) (br_f (by decide) (br_f (by decide) (br_f (by decide) (br_f (by decide) (br_f (by decide) (br_f (by decide) (br_t rfl (?_)))))))))))))))))
  unfold wX_operandsFit_174
  by_cases q : nb_sg c x
  · obtain ⟨a, ha, rfl⟩ := q
    refine nx_isS_t _ hc ha (br_f (by decide) (nx_isW_f _ hc hW ?_ (br_t rfl h)))
    rintro ⟨b, hb, eb, e2⟩
    have w7 := h7 b hb
    exact hn ⟨a, b, 0, wd a, ⟨ha, rfl⟩, ⟨hb, eb, (nI_eq (b := 2) (by omega) (by omega)).mp e2⟩, rfl, rfl⟩
  · exact nx_isS_f _ hc q (br_t rfl h)
theorem nx_ff15 (post : Int32 → Prop) (hc : c ≤ 24) (hW : ∀ j, W j = nI (wd j)) (h7 : ∀ j, j < c → wd j < 7) {x y z : Int32} (hn : ¬ ∃ a b d w, nb_fq c wd 15 x y z a b d w) (h : post 0) : wpX_operandsFit post ((nI c), cs, sw, pp, pd, pe, K, W, ox, oy, oz, nums, rch, D, nx, en, fo, H, nt, mem, nm, vals, tr) 15 x y z := by
  refine br_f (by decide) (br_f (by decide) (br_f (by decide) (br_f (by decide) (br_f (by decide) (br_f (by decide) (br_f (by decide) (br_f (by decide) (br_f (by decide) (br_f (by decide) (br_f (by decide) (br_f (by decide) (br_f (by decide) (br_f (by decide) (br_f (by decide) (br_f (by decide) (br_f (by decide) (br_t rfl (?_))))))))))))))))))
  by_cases q : nb_sg c x
  · obtain ⟨a, ha, rfl⟩ := q
    refine nx_isS_t _ hc ha (br_f (by decide) (nx_isS_f _ hc ?_ (br_t rfl h)))
    rintro ⟨b, hb, eb⟩
    exact hn ⟨a, b, 0, _, ⟨ha, rfl⟩, ⟨hb, eb⟩, rfl, rfl⟩
  · exact nx_isS_f _ hc q (br_t rfl h)
theorem nx_ff16 (post : Int32 → Prop) (hc : c ≤ 24) (hW : ∀ j, W j = nI (wd j)) (h7 : ∀ j, j < c → wd j < 7) {x y z : Int32} (hn : ¬ ∃ a b d w, nb_fq c wd 16 x y z a b d w) (h : post 0) : wpX_operandsFit post ((nI c), cs, sw, pp, pd, pe, K, W, ox, oy, oz, nums, rch, D, nx, en, fo, H, nt, mem, nm, vals, tr) 16 x y z := by
  refine br_f (by decide) (br_f (by decide) (br_f (by decide) (br_f (by decide) (br_f (by decide) (br_f (by decide) (br_f (by decide) (br_f (by decide) (br_f (by decide) (br_f (by decide) (br_f (by decide) (br_f (by decide) (br_f (by decide) (br_f (by decide) (br_f (by decide) (br_f (by decide) (br_f (by decide) (br_f (by decide) (br_t rfl (?_)))))))))))))))))))
  by_cases q : nb_sg c x
  · obtain ⟨a, ha, rfl⟩ := q
    have w7 := h7 a ha
    refine nx_isS_t _ hc ha (br_f (by decide) ?_)
    by_cases y0 : y < 0
    · exact br_t y0 h
    · refine br_f y0 ?_
      by_cases z1 : z < 1
      · exact br_t z1 h
      refine br_f z1 ⟨(vp_in_nI (by omega) (by omega)), ?_⟩
      obtain ⟨s, hs, rfl⟩ := nI_of y0
      have z0 : ¬ z < 0 := fun r => z1 (Int32.lt_trans r (by decide))
      obtain ⟨t, ht, rfl⟩ := nI_of z0
      have t1 : 1 ≤ t := Nat.not_lt.mp (fun r => z1 (nI_lt (b := 1) r (by omega)))
      have g : wd a < s + t := Nat.not_le.mp (fun g => hn ⟨a, 0, 0, t, ⟨ha, rfl⟩, ⟨s, rfl, rfl, t1, g⟩, rfl, rfl⟩)
      rw [nI_clamp (by omega), hW]
      exact br_t ((nb_sl w7 hs ht).mpr g) h
  · exact nx_isS_f _ hc q (br_t rfl h)
theorem nx_ff17 (post : Int32 → Prop) (hc : c ≤ 24) (hW : ∀ j, W j = nI (wd j)) (h7 : ∀ j, j < c → wd j < 7) {x y z : Int32} (hn : ¬ ∃ a b d w, nb_fq c wd 17 x y z a b d w) (h : post 0) : wpX_operandsFit post ((nI c), cs, sw, pp, pd, pe, K, W, ox, oy, oz, nums, rch, D, nx, en, fo, H, nt, mem, nm, vals, tr) 17 x y z := by
  refine br_f (by decide) (br_f (by decide) (br_f (by decide) (br_f (by decide) (br_f (by decide) (br_f (by decide) (br_f (by decide) (br_f (by decide) (br_f (by decide) (br_f (by decide) (br_f (by decide) (br_f (by decide) (br_f (by decide) (br_f (by decide) (br_f (by decide) (br_f (by decide) (br_f (by decide) (br_f (by decide) (br_f (by decide) (br_t rfl (?_))))))))))))))))))))
  unfold wX_operandsFit_118
  exact nx_isS_f _ hc (fun ⟨a, ha, e⟩ => hn ⟨a, 0, 0, 3, ⟨ha, e⟩, rfl, rfl, rfl⟩) ⟨rfl, h⟩
theorem nx_ff18 (post : Int32 → Prop) (hc : c ≤ 24) (hW : ∀ j, W j = nI (wd j)) (h7 : ∀ j, j < c → wd j < 7) {x y z : Int32} (hn : ¬ ∃ a b d w, nb_fq c wd 18 x y z a b d w) (h : post 0) : wpX_operandsFit post ((nI c), cs, sw, pp, pd, pe, K, W, ox, oy, oz, nums, rch, D, nx, en, fo, H, nt, mem, nm, vals, tr) 18 x y z := by
  refine br_f (by decide) (br_f (by decide) (br_f (by decide) (br_f (by decide) (br_f (by decide) (br_f (by decide) (br_f (by decide) (br_f (by decide) (br_f (by decide) (br_f (by decide) (br_f (by decide) (br_f (by decide) (br_f (by decide) (br_f (by decide) (br_f (by decide) (br_f (by decide) (br_f (by decide) (br_f (by decide) (br_f (by decide) (br_f (by decide) (br_t rfl (?_)))))))))))))))))))))
  refine nx_isW_f _ hc hW ?_ ⟨rfl, h⟩
  rintro ⟨a, ha, ea, e2⟩
  have w7 := h7 a ha
  exact hn ⟨a, 0, 0, 4, ⟨ha, ea, (nI_eq (b := 2) (by omega) (by omega)).mp e2⟩, rfl, rfl, rfl⟩
theorem ny_ff1 (post : Int32 → Prop) (hc : c ≤ 24) (hW : ∀ j, W j = nI (wd j)) (h7 : ∀ j, j < c → wd j < 7) {x y z : Int32} (hn : ¬ ∃ a b d w, nb_fq c wd 1 x y z a b d w) (h : post 0) : wpY_operandsFit post ((nI c), cs, sw, pp, pd, pe, K, ex, ey, ez, W, H, nty, fo, va, nx, en, mem, nm, td, mt) 1 x y z := by
  refine br_f (by decide) (br_f (by decide) (?_))
  by_cases q : ∃ w, 1 ≤ w ∧ w < 7 ∧ x = nI w
  · obtain ⟨w, h1, w7, rfl⟩ := q
    exact ny_ir_f _ h1 w7 (fun r => hn ⟨0, 0, 0, w, ⟨rfl, h1, w7, r⟩, rfl, rfl, rfl⟩) ⟨rfl, h⟩
  · exact ny_ir_w _ q ⟨rfl, h⟩
theorem ny_ff2 (post : Int32 → Prop) (hc : c ≤ 24) (hW : ∀ j, W j = nI (wd j)) (h7 : ∀ j, j < c → wd j < 7) {x y z : Int32} (hn : ¬ ∃ a b d w, nb_fq c wd 2 x y z a b d w) (h : post 0) : wpY_operandsFit post ((nI c), cs, sw, pp, pd, pe, K, ex, ey, ez, W, H, nty, fo, va, nx, en, mem, nm, td, mt) 2 x y z := by
  refine br_f (by decide) (br_f (by decide) (?_))
  by_cases q : ∃ w, 1 ≤ w ∧ w < 7 ∧ x = nI w
  · obtain ⟨w, h1, w7, rfl⟩ := q
    exact ny_ir_f _ h1 w7 (fun r => hn ⟨0, 0, 0, w, ⟨rfl, h1, w7, r⟩, rfl, rfl, rfl⟩) ⟨rfl, h⟩
  · exact ny_ir_w _ q ⟨rfl, h⟩
theorem ny_ff3 (post : Int32 → Prop) (hc : c ≤ 24) (hW : ∀ j, W j = nI (wd j)) (h7 : ∀ j, j < c → wd j < 7) {x y z : Int32} (hn : ¬ ∃ a b d w, nb_fq c wd 3 x y z a b d w) (h : post 0) : wpY_operandsFit post ((nI c), cs, sw, pp, pd, pe, K, ex, ey, ez, W, H, nty, fo, va, nx, en, mem, nm, td, mt) 3 x y z := by
  refine br_f (by decide) (br_t (by decide) (br_t rfl (?_)))
  unfold wY_operandsFit_29
  exact ny_isS_f _ hc (fun ⟨a, ha, e⟩ => hn ⟨a, 0, 0, wd a, ⟨ha, e⟩, rfl, rfl, rfl⟩) ⟨rfl, h⟩
theorem ny_ff4 (post : Int32 → Prop) (hc : c ≤ 24) (hW : ∀ j, W j = nI (wd j)) (h7 : ∀ j, j < c → wd j < 7) {x y z : Int32} (hn : ¬ ∃ a b d w, nb_fq c wd 4 x y z a b d w) (h : post 0) : wpY_operandsFit post ((nI c), cs, sw, pp, pd, pe, K, ex, ey, ez, W, H, nty, fo, va, nx, en, mem, nm, td, mt) 4 x y z := by
  refine br_f (by decide) (br_t (by decide) (br_f (by decide) (br_f (by decide) (br_f (by decide) (?_)))))
  exact ny_al_f _ hc hW h7 (fun ⟨a, b, ha, hb, ea, eb, e⟩ => hn ⟨a, b, 0, wd a, ⟨ha, hb, ea, eb, e⟩, rfl, rfl⟩) (br_t rfl h)
theorem ny_ff5 (post : Int32 → Prop) (hc : c ≤ 24) (hW : ∀ j, W j = nI (wd j)) (h7 : ∀ j, j < c → wd j < 7) {x y z : Int32} (hn : ¬ ∃ a b d w, nb_fq c wd 5 x y z a b d w) (h : post 0) : wpY_operandsFit post ((nI c), cs, sw, pp, pd, pe, K, ex, ey, ez, W, H, nty, fo, va, nx, en, mem, nm, td, mt) 5 x y z := by
  refine br_f (by decide) (br_t (by decide) (br_f (by decide) (br_f (by decide) (br_f (by decide) (?_)))))
  exact ny_al_f _ hc hW h7 (fun ⟨a, b, ha, hb, ea, eb, e⟩ => hn ⟨a, b, 0, wd a, ⟨ha, hb, ea, eb, e⟩, rfl, rfl⟩) (br_t rfl h)
theorem ny_ff6 (post : Int32 → Prop) (hc : c ≤ 24) (hW : ∀ j, W j = nI (wd j)) (h7 : ∀ j, j < c → wd j < 7) {x y z : Int32} (hn : ¬ ∃ a b d w, nb_fq c wd 6 x y z a b d w) (h : post 0) : wpY_operandsFit post ((nI c), cs, sw, pp, pd, pe, K, ex, ey, ez, W, H, nty, fo, va, nx, en, mem, nm, td, mt) 6 x y z := by
  refine br_f (by decide) (br_t (by decide) (br_f (by decide) (br_f (by decide) (br_f (by decide) (?_)))))
  exact ny_al_f _ hc hW h7 (fun ⟨a, b, ha, hb, ea, eb, e⟩ => hn ⟨a, b, 0, wd a, ⟨ha, hb, ea, eb, e⟩, rfl, rfl⟩) (br_t rfl h)
theorem ny_ff7 (post : Int32 → Prop) (hc : c ≤ 24) (hW : ∀ j, W j = nI (wd j)) (h7 : ∀ j, j < c → wd j < 7) {x y z : Int32} (hn : ¬ ∃ a b d w, nb_fq c wd 7 x y z a b d w) (h : post 0) : wpY_operandsFit post ((nI c), cs, sw, pp, pd, pe, K, ex, ey, ez, W, H, nty, fo, va, nx, en, mem, nm, td, mt) 7 x y z := by
  refine br_f (by decide) (br_t (by decide) (br_f (by decide) (br_f (by decide) (br_f (by decide) (?_)))))
  exact ny_al_f _ hc hW h7 (fun ⟨a, b, ha, hb, ea, eb, e⟩ => hn ⟨a, b, 0, wd a, ⟨ha, hb, ea, eb, e⟩, rfl, rfl⟩) (br_t rfl h)
theorem ny_ff8 (post : Int32 → Prop) (hc : c ≤ 24) (hW : ∀ j, W j = nI (wd j)) (h7 : ∀ j, j < c → wd j < 7) {x y z : Int32} (hn : ¬ ∃ a b d w, nb_fq c wd 8 x y z a b d w) (h : post 0) : wpY_operandsFit post ((nI c), cs, sw, pp, pd, pe, K, ex, ey, ez, W, H, nty, fo, va, nx, en, mem, nm, td, mt) 8 x y z := by
  refine br_f (by decide) (br_t (by decide) (br_f (by decide) (br_f (by decide) (br_f (by decide) (?_)))))
  exact ny_al_f _ hc hW h7 (fun ⟨a, b, ha, hb, ea, eb, e⟩ => hn ⟨a, b, 0, wd a, ⟨ha, hb, ea, eb, e⟩, rfl, rfl⟩) (br_t rfl h)
theorem ny_ff9 (post : Int32 → Prop) (hc : c ≤ 24) (hW : ∀ j, W j = nI (wd j)) (h7 : ∀ j, j < c → wd j < 7) {x y z : Int32} (hn : ¬ ∃ a b d w, nb_fq c wd 9 x y z a b d w) (h : post 0) : wpY_operandsFit post ((nI c), cs, sw, pp, pd, pe, K, ex, ey, ez, W, H, nty, fo, va, nx, en, mem, nm, td, mt) 9 x y z := by
  refine br_f (by decide) (br_t (by decide) (br_f (by decide) (br_f (by decide) (br_f (by decide) (?_)))))
  by_cases q : ∃ a b, a < c ∧ b < c ∧ x = nI a ∧ y = nI b ∧ wd a = wd b
  · obtain ⟨a, b, ha, hb, rfl, rfl, e⟩ := q
    have w7 := h7 a ha
    have g : 3 < wd a := Nat.not_le.mp (fun g => hn ⟨a, b, 0, wd a, ⟨ha, hb, rfl, rfl, e, g⟩, rfl, rfl⟩)
    exact ny_al_t _ hc hW ha hb e (br_f (by decide) (br_t rfl ⟨(vp_in_nI (by omega) (by omega)), by rw [nI_clamp (by omega), hW]; exact br_t (nI_lt (a := 3) g (by omega)) h⟩))
  · exact ny_al_f _ hc hW h7 q (br_t rfl h)
theorem ny_ff10 (post : Int32 → Prop) (hc : c ≤ 24) (hW : ∀ j, W j = nI (wd j)) (h7 : ∀ j, j < c → wd j < 7) {x y z : Int32} (hn : ¬ ∃ a b d w, nb_fq c wd 10 x y z a b d w) (h : post 0) : wpY_operandsFit post ((nI c), cs, sw, pp, pd, pe, K, ex, ey, ez, W, H, nty, fo, va, nx, en, mem, nm, td, mt) 10 x y z := by
  refine br_f (by decide) (br_t (by decide) (br_f (by decide) (br_f (by decide) (br_f (by decide) (?_)))))
  exact ny_al_f _ hc hW h7 (fun ⟨a, b, ha, hb, ea, eb, e⟩ => hn ⟨a, b, 0, 1, ⟨ha, hb, ea, eb, e⟩, rfl, rfl⟩) (br_t rfl h)
theorem ny_ff11 (post : Int32 → Prop) (hc : c ≤ 24) (hW : ∀ j, W j = nI (wd j)) (h7 : ∀ j, j < c → wd j < 7) {x y z : Int32} (hn : ¬ ∃ a b d w, nb_fq c wd 11 x y z a b d w) (h : post 0) : wpY_operandsFit post ((nI c), cs, sw, pp, pd, pe, K, ex, ey, ez, W, H, nty, fo, va, nx, en, mem, nm, td, mt) 11 x y z := by
  refine br_f (by decide) (br_t (by decide) (br_f (by decide) (br_f (by decide) (br_f (by decide) (?_)))))
  exact ny_al_f _ hc hW h7 (fun ⟨a, b, ha, hb, ea, eb, e⟩ => hn ⟨a, b, 0, 1, ⟨ha, hb, ea, eb, e⟩, rfl, rfl⟩) (br_t rfl h)
theorem ny_ff12 (post : Int32 → Prop) (hc : c ≤ 24) (hW : ∀ j, W j = nI (wd j)) (h7 : ∀ j, j < c → wd j < 7) {x y z : Int32} (hn : ¬ ∃ a b d w, nb_fq c wd 12 x y z a b d w) (h : post 0) : wpY_operandsFit post ((nI c), cs, sw, pp, pd, pe, K, ex, ey, ez, W, H, nty, fo, va, nx, en, mem, nm, td, mt) 12 x y z := by
  refine br_f (by decide) (br_t (by decide) (br_f (by decide) (br_f (by decide) (br_t (by decide) (br_t rfl (?_))))))
  by_cases q : ∃ a, a < c ∧ x = nI a ∧ nI (wd a) = 1
  · obtain ⟨a, ha, rfl, e1⟩ := q
    have w7 := h7 a ha
    refine ny_isW_t _ hc hW ha e1 (br_f (by decide) (ny_al_f _ hc hW h7 ?_ (br_t rfl h)))
    exact fun ⟨b, d, hb, hd, eb, ed, e⟩ => hn ⟨a, b, d, wd b, ⟨ha, rfl, (nI_eq (b := 1) (by omega) (by omega)).mp e1⟩, ⟨hb, hd, eb, ed, e⟩, rfl⟩
  · exact ny_isW_f _ hc hW q (br_t rfl h)
theorem ny_ff13 (post : Int32 → Prop) (hc : c ≤ 24) (hW : ∀ j, W j = nI (wd j)) (h7 : ∀ j, j < c → wd j < 7) {x y z : Int32} (hn : ¬ ∃ a b d w, nb_fq c wd 13 x y z a b d w) (h : post 0) : wpY_operandsFit post ((nI c), cs, sw, pp, pd, pe, K, ex, ey, ez, W, H, nty, fo, va, nx, en, mem, nm, td, mt) 13 x y z := by
  refine br_f (by decide) (br_t (by decide) (br_f (by decide) (br_f (by decide) (br_t (by decide) (br_f (by decide) (br_f (by decide) (?_)))))))
  by_cases q : nb_sg c x
  · obtain ⟨a, ha, rfl⟩ := q
    refine ny_isS_t _ hc ha (br_f (by decide) (ny_isW_f _ hc hW ?_ (br_t rfl h)))
    rintro ⟨b, hb, eb, e2⟩
    have w7 := h7 b hb
    exact hn ⟨a, b, 0, wd a, ⟨ha, rfl⟩, ⟨hb, eb, (nI_eq (b := 2) (by omega) (by omega)).mp e2⟩, rfl, rfl⟩
  · exact ny_isS_f _ hc q (br_t rfl h)
theorem ny_ff14 (post : Int32 → Prop) (hc : c ≤ 24) (hW : ∀ j, W j = nI (wd j)) (h7 : ∀ j, j < c → wd j < 7) {x y z : Int32} (hn : ¬ ∃ a b d w, nb_fq c wd 14 x y z a b d w) (h : post 0) : wpY_operandsFit post ((nI c), cs, sw, pp, pd, pe, K, ex, ey, ez, W, H, nty, fo, va, nx, en, mem, nm, td, mt) 14 x y z := by
  refine br_f (by decide) (br_t (by decide) (br_f (by decide) (br_f (by decide) (br_t (by decide) (br_f (by decide) (br_f (by decide) (?_)))))))
  by_cases q : nb_sg c x
  · obtain ⟨a, ha, rfl⟩ := q
    refine ny_isS_t _ hc ha (br_f (by decide) (ny_isW_f _ hc hW ?_ (br_t rfl h)))
    rintro ⟨b, hb, eb, e2⟩
    have w7 := h7 b hb
    exact hn ⟨a, b, 0, wd a, ⟨ha, rfl⟩, ⟨hb, eb, (nI_eq (b := 2) (by omega) (by omega)).mp e2⟩, rfl, rfl⟩
  · exact ny_isS_f _ hc q (br_t rfl h)
theorem ny_ff15 (post : Int32 → Prop) (hc : c ≤ 24) (hW : ∀ j, W j = nI (wd j)) (h7 : ∀ j, j < c → wd j < 7) {x y z : Int32} (hn : ¬ ∃ a b d w, nb_fq c wd 15 x y z a b d w) (h : post 0) : wpY_operandsFit post ((nI c), cs, sw, pp, pd, pe, K, ex, ey, ez, W, H, nty, fo, va, nx, en, mem, nm, td, mt) 15 x y z := by
  refine br_f (by decide) (br_t (by decide) (br_f (by decide) (br_f (by decide) (br_t (by decide) (br_f (by decide) (br_t (by decide) (br_t rfl (?_))))))))
  by_cases q : nb_sg c x
  · obtain ⟨a, ha, rfl⟩ := q
    refine ny_isS_t _ hc ha (br_f (by decide) (ny_isS_f _ hc ?_ (br_t rfl h)))
    rintro ⟨b, hb, eb⟩
    exact hn ⟨a, b, 0, _, ⟨ha, rfl⟩, ⟨hb, eb⟩, rfl, rfl⟩
  · exact ny_isS_f _ hc q (br_t rfl h)
theorem ny_ff16 (post : Int32 → Prop) (hc : c ≤ 24) (hW : ∀ j, W j = nI (wd j)) (h7 : ∀ j, j < c → wd j < 7) {x y z : Int32} (hn : ¬ ∃ a b d w, nb_fq c wd 16 x y z a b d w) (h : post 0) : wpY_operandsFit post ((nI c), cs, sw, pp, pd, pe, K, ex, ey, ez, W, H, nty, fo, va, nx, en, mem, nm, td, mt) 16 x y z := by
  refine br_f (by decide) (br_t (by decide) (br_f (by decide) (br_f (by decide) (br_t (by decide) (br_f (by decide) (br_t (by decide) (br_f (by decide) (br_t rfl (?_)))))))))
  by_cases q : nb_sg c x
  · obtain ⟨a, ha, rfl⟩ := q
    have w7 := h7 a ha
    refine ny_isS_t _ hc ha (br_f (by decide) ?_)
    by_cases y0 : y < 0
    · exact br_t y0 h
    · refine br_f y0 ?_
      by_cases z1 : z < 1
      · exact br_t z1 h
      refine br_f z1 ⟨(vp_in_nI (by omega) (by omega)), ?_⟩
      obtain ⟨s, hs, rfl⟩ := nI_of y0
      have z0 : ¬ z < 0 := fun r => z1 (Int32.lt_trans r (by decide))
      obtain ⟨t, ht, rfl⟩ := nI_of z0
      have t1 : 1 ≤ t := Nat.not_lt.mp (fun r => z1 (nI_lt (b := 1) r (by omega)))
      have g : wd a < s + t := Nat.not_le.mp (fun g => hn ⟨a, 0, 0, t, ⟨ha, rfl⟩, ⟨s, rfl, rfl, t1, g⟩, rfl, rfl⟩)
      rw [nI_clamp (by omega), hW]
      by_cases g2 : wd a ≤ s
      · exact br_t (nI_le g2 hs) h
      · exact br_f (fun z => g2 ((nI_leI (by omega) hs).mp z)) ⟨(vp_in_nI (by omega) (by omega)), br_t ((nb_sl w7 hs ht).mpr g) h⟩
  · exact ny_isS_f _ hc q (br_t rfl h)
theorem ny_ff17 (post : Int32 → Prop) (hc : c ≤ 24) (hW : ∀ j, W j = nI (wd j)) (h7 : ∀ j, j < c → wd j < 7) {x y z : Int32} (hn : ¬ ∃ a b d w, nb_fq c wd 17 x y z a b d w) (h : post 0) : wpY_operandsFit post ((nI c), cs, sw, pp, pd, pe, K, ex, ey, ez, W, H, nty, fo, va, nx, en, mem, nm, td, mt) 17 x y z := by
  refine br_f (by decide) (br_t (by decide) (br_f (by decide) (br_t rfl (?_))))
  unfold wY_operandsFit_29
  exact ny_isS_f _ hc (fun ⟨a, ha, e⟩ => hn ⟨a, 0, 0, 3, ⟨ha, e⟩, rfl, rfl, rfl⟩) ⟨rfl, h⟩
theorem ny_ff18 (post : Int32 → Prop) (hc : c ≤ 24) (hW : ∀ j, W j = nI (wd j)) (h7 : ∀ j, j < c → wd j < 7) {x y z : Int32} (hn : ¬ ∃ a b d w, nb_fq c wd 18 x y z a b d w) (h : post 0) : wpY_operandsFit post ((nI c), cs, sw, pp, pd, pe, K, ex, ey, ez, W, H, nty, fo, va, nx, en, mem, nm, td, mt) 18 x y z := by
  refine br_f (by decide) (br_t (by decide) (br_f (by decide) (br_f (by decide) (br_t (by decide) (br_f (by decide) (br_t (by decide) (br_f (by decide) (br_f (by decide) (?_)))))))))
  refine ny_isW_f _ hc hW ?_ ⟨rfl, h⟩
  rintro ⟨a, ha, ea, e2⟩
  have w7 := h7 a ha
  exact hn ⟨a, 0, 0, 4, ⟨ha, ea, (nI_eq (b := 2) (by omega) (by omega)).mp e2⟩, rfl, rfl, rfl⟩
theorem nx_rw0 (post : Int32 → Prop) (hc : c ≤ 24) (hW : ∀ j, W j = nI (wd j)) {x y z : Int32} {a b d w : Nat} (q : nb_fq c wd 0 x y z a b d w) (h : post (nI w)) : wpX_resultWidth post ((nI c), cs, sw, pp, pd, pe, K, W, ox, oy, oz, nums, rch, D, nx, en, fo, H, nt, mem, nm, vals, tr) 0 x y z := by
  obtain ⟨⟨rfl, _, _⟩, _, _, _⟩ := q
  exact br_f (by decide) (br_f (by decide) (br_t rfl (h)))
theorem nx_co0 (post : Int32 → Prop) (hc : c ≤ 24) (hW : ∀ j, W j = nI (wd j)) {x y z : Int32} {a b d w : Nat} (q : nb_fq c wd 0 x y z a b d w) (h : post (nb_co 0 w (wd a))) : wpX_costOf post ((nI c), cs, sw, pp, pd, pe, K, W, ox, oy, oz, nums, rch, D, nx, en, fo, H, nt, mem, nm, vals, tr) 0 x (nI w) := by
  exact br_t (by decide) (h)
theorem nx_rw1 (post : Int32 → Prop) (hc : c ≤ 24) (hW : ∀ j, W j = nI (wd j)) {x y z : Int32} {a b d w : Nat} (q : nb_fq c wd 1 x y z a b d w) (h : post (nI w)) : wpX_resultWidth post ((nI c), cs, sw, pp, pd, pe, K, W, ox, oy, oz, nums, rch, D, nx, en, fo, H, nt, mem, nm, vals, tr) 1 x y z := by
  obtain ⟨⟨rfl, _, _, _⟩, _, _, _⟩ := q
  exact br_f (by decide) (br_f (by decide) (br_f (by decide) (br_t rfl (h))))
theorem nx_co1 (post : Int32 → Prop) (hc : c ≤ 24) (hW : ∀ j, W j = nI (wd j)) {x y z : Int32} {a b d w : Nat} (q : nb_fq c wd 1 x y z a b d w) (h : post (nb_co 1 w (wd a))) : wpX_costOf post ((nI c), cs, sw, pp, pd, pe, K, W, ox, oy, oz, nums, rch, D, nx, en, fo, H, nt, mem, nm, vals, tr) 1 x (nI w) := by
  exact br_t (by decide) (h)
theorem nx_rw2 (post : Int32 → Prop) (hc : c ≤ 24) (hW : ∀ j, W j = nI (wd j)) {x y z : Int32} {a b d w : Nat} (q : nb_fq c wd 2 x y z a b d w) (h : post (nI w)) : wpX_resultWidth post ((nI c), cs, sw, pp, pd, pe, K, W, ox, oy, oz, nums, rch, D, nx, en, fo, H, nt, mem, nm, vals, tr) 2 x y z := by
  obtain ⟨⟨rfl, _, _, _⟩, _, _, _⟩ := q
  exact br_f (by decide) (br_f (by decide) (br_f (by decide) (br_f (by decide) (br_t rfl (h)))))
theorem nx_co2 (post : Int32 → Prop) (hc : c ≤ 24) (hW : ∀ j, W j = nI (wd j)) {x y z : Int32} {a b d w : Nat} (q : nb_fq c wd 2 x y z a b d w) (h : post (nb_co 2 w (wd a))) : wpX_costOf post ((nI c), cs, sw, pp, pd, pe, K, W, ox, oy, oz, nums, rch, D, nx, en, fo, H, nt, mem, nm, vals, tr) 2 x (nI w) := by
  exact br_f (by decide) (br_f (by decide) (br_t rfl (h)))
theorem nx_rw3 (post : Int32 → Prop) (hc : c ≤ 24) (hW : ∀ j, W j = nI (wd j)) {x y z : Int32} {a b d w : Nat} (q : nb_fq c wd 3 x y z a b d w) (h : post (nI w)) : wpX_resultWidth post ((nI c), cs, sw, pp, pd, pe, K, W, ox, oy, oz, nums, rch, D, nx, en, fo, H, nt, mem, nm, vals, tr) 3 x y z := by
  obtain ⟨⟨ha, rfl⟩, rfl, _, _⟩ := q
  exact br_f (by decide) (br_f (by decide) (br_f (by decide) (br_f (by decide) (br_f (by decide) (br_t rfl (⟨(vp_in_nI (by omega) (by omega)), by rw [nI_clamp (by omega), hW]; exact h⟩))))))
theorem nx_co3 (post : Int32 → Prop) (hc : c ≤ 24) (hW : ∀ j, W j = nI (wd j)) {x y z : Int32} {a b d w : Nat} (q : nb_fq c wd 3 x y z a b d w) (h : post (nb_co 3 w (wd a))) : wpX_costOf post ((nI c), cs, sw, pp, pd, pe, K, W, ox, oy, oz, nums, rch, D, nx, en, fo, H, nt, mem, nm, vals, tr) 3 x (nI w) := by
  exact br_f (by decide) (br_f (by decide) (br_f (by decide) (br_t rfl (h))))
theorem nx_rw4 (post : Int32 → Prop) (hc : c ≤ 24) (hW : ∀ j, W j = nI (wd j)) {x y z : Int32} {a b d w : Nat} (q : nb_fq c wd 4 x y z a b d w) (h : post (nI w)) : wpX_resultWidth post ((nI c), cs, sw, pp, pd, pe, K, W, ox, oy, oz, nums, rch, D, nx, en, fo, H, nt, mem, nm, vals, tr) 4 x y z := by
  obtain ⟨⟨ha, hb, rfl, rfl, e⟩, rfl, _⟩ := q
  exact br_f (by decide) (br_f (by decide) (br_f (by decide) (br_f (by decide) (br_f (by decide) (br_f (by decide) (br_t rfl (⟨(vp_in_nI (by omega) (by omega)), by rw [nI_clamp (by omega), hW]; exact h⟩)))))))
theorem nx_co4 (post : Int32 → Prop) (hc : c ≤ 24) (hW : ∀ j, W j = nI (wd j)) {x y z : Int32} {a b d w : Nat} (q : nb_fq c wd 4 x y z a b d w) (h : post (nb_co 4 w (wd a))) : wpX_costOf post ((nI c), cs, sw, pp, pd, pe, K, W, ox, oy, oz, nums, rch, D, nx, en, fo, H, nt, mem, nm, vals, tr) 4 x (nI w) := by
  exact br_f (by decide) (br_f (by decide) (br_f (by decide) (br_f (by decide) (br_t rfl (h)))))
theorem nx_rw5 (post : Int32 → Prop) (hc : c ≤ 24) (hW : ∀ j, W j = nI (wd j)) {x y z : Int32} {a b d w : Nat} (q : nb_fq c wd 5 x y z a b d w) (h : post (nI w)) : wpX_resultWidth post ((nI c), cs, sw, pp, pd, pe, K, W, ox, oy, oz, nums, rch, D, nx, en, fo, H, nt, mem, nm, vals, tr) 5 x y z := by
  obtain ⟨⟨ha, hb, rfl, rfl, e⟩, rfl, _⟩ := q
  exact br_f (by decide) (br_f (by decide) (br_f (by decide) (br_f (by decide) (br_f (by decide) (br_f (by decide) (br_f (by decide) (br_t rfl (⟨(vp_in_nI (by omega) (by omega)), by rw [nI_clamp (by omega), hW]; exact h⟩))))))))
theorem nx_co5 (post : Int32 → Prop) (hc : c ≤ 24) (hW : ∀ j, W j = nI (wd j)) {x y z : Int32} {a b d w : Nat} (q : nb_fq c wd 5 x y z a b d w) (h : post (nb_co 5 w (wd a))) : wpX_costOf post ((nI c), cs, sw, pp, pd, pe, K, W, ox, oy, oz, nums, rch, D, nx, en, fo, H, nt, mem, nm, vals, tr) 5 x (nI w) := by
  exact br_f (by decide) (br_f (by decide) (br_f (by decide) (br_f (by decide) (br_f (by decide) (br_t rfl (h))))))
theorem nx_rw6 (post : Int32 → Prop) (hc : c ≤ 24) (hW : ∀ j, W j = nI (wd j)) {x y z : Int32} {a b d w : Nat} (q : nb_fq c wd 6 x y z a b d w) (h : post (nI w)) : wpX_resultWidth post ((nI c), cs, sw, pp, pd, pe, K, W, ox, oy, oz, nums, rch, D, nx, en, fo, H, nt, mem, nm, vals, tr) 6 x y z := by
  obtain ⟨⟨ha, hb, rfl, rfl, e⟩, rfl, _⟩ := q
  exact br_f (by decide) (br_f (by decide) (br_f (by decide) (br_f (by decide) (br_f (by decide) (br_f (by decide) (br_f (by decide) (br_f (by decide) (br_t rfl (⟨(vp_in_nI (by omega) (by omega)), by rw [nI_clamp (by omega), hW]; exact h⟩)))))))))
theorem nx_co6 (post : Int32 → Prop) (hc : c ≤ 24) (hW : ∀ j, W j = nI (wd j)) {x y z : Int32} {a b d w : Nat} (q : nb_fq c wd 6 x y z a b d w) (h : post (nb_co 6 w (wd a))) : wpX_costOf post ((nI c), cs, sw, pp, pd, pe, K, W, ox, oy, oz, nums, rch, D, nx, en, fo, H, nt, mem, nm, vals, tr) 6 x (nI w) := by
  exact br_f (by decide) (br_f (by decide) (br_f (by decide) (br_f (by decide) (br_f (by decide) (br_f (by decide) (br_t rfl (h)))))))
theorem nx_rw7 (post : Int32 → Prop) (hc : c ≤ 24) (hW : ∀ j, W j = nI (wd j)) {x y z : Int32} {a b d w : Nat} (q : nb_fq c wd 7 x y z a b d w) (h : post (nI w)) : wpX_resultWidth post ((nI c), cs, sw, pp, pd, pe, K, W, ox, oy, oz, nums, rch, D, nx, en, fo, H, nt, mem, nm, vals, tr) 7 x y z := by
  obtain ⟨⟨ha, hb, rfl, rfl, e⟩, rfl, _⟩ := q
  exact br_f (by decide) (br_f (by decide) (br_f (by decide) (br_f (by decide) (br_f (by decide) (br_f (by decide) (br_f (by decide) (br_f (by decide) (br_f (by decide) (br_t rfl (⟨(vp_in_nI (by omega) (by omega)), by rw [nI_clamp (by omega), hW]; exact h⟩))))))))))
theorem nx_co7 (post : Int32 → Prop) (hc : c ≤ 24) (hW : ∀ j, W j = nI (wd j)) {x y z : Int32} {a b d w : Nat} (q : nb_fq c wd 7 x y z a b d w) (h : post (nb_co 7 w (wd a))) : wpX_costOf post ((nI c), cs, sw, pp, pd, pe, K, W, ox, oy, oz, nums, rch, D, nx, en, fo, H, nt, mem, nm, vals, tr) 7 x (nI w) := by
  exact br_f (by decide) (br_f (by decide) (br_f (by decide) (br_f (by decide) (br_f (by decide) (br_f (by decide) (br_f (by decide) (br_t rfl (h))))))))
theorem nx_rw8 (post : Int32 → Prop) (hc : c ≤ 24) (hW : ∀ j, W j = nI (wd j)) {x y z : Int32} {a b d w : Nat} (q : nb_fq c wd 8 x y z a b d w) (h : post (nI w)) : wpX_resultWidth post ((nI c), cs, sw, pp, pd, pe, K, W, ox, oy, oz, nums, rch, D, nx, en, fo, H, nt, mem, nm, vals, tr) 8 x y z := by
  obtain ⟨⟨ha, hb, rfl, rfl, e⟩, rfl, _⟩ := q
  exact br_f (by decide) (br_f (by decide) (br_f (by decide) (br_f (by decide) (br_f (by decide) (br_f (by decide) (br_f (by decide) (br_f (by decide) (br_f (by decide) (br_f (by decide) (br_t rfl (⟨(vp_in_nI (by omega) (by omega)), by rw [nI_clamp (by omega), hW]; exact h⟩)))))))))))
theorem nx_co8 (post : Int32 → Prop) (hc : c ≤ 24) (hW : ∀ j, W j = nI (wd j)) {x y z : Int32} {a b d w : Nat} (q : nb_fq c wd 8 x y z a b d w) (h : post (nb_co 8 w (wd a))) : wpX_costOf post ((nI c), cs, sw, pp, pd, pe, K, W, ox, oy, oz, nums, rch, D, nx, en, fo, H, nt, mem, nm, vals, tr) 8 x (nI w) := by
  exact br_f (by decide) (br_f (by decide) (br_f (by decide) (br_f (by decide) (br_f (by decide) (br_f (by decide) (br_f (by decide) (br_f (by decide) (br_t rfl (h)))))))))
theorem nx_rw9 (post : Int32 → Prop) (hc : c ≤ 24) (hW : ∀ j, W j = nI (wd j)) {x y z : Int32} {a b d w : Nat} (q : nb_fq c wd 9 x y z a b d w) (h : post (nI w)) : wpX_resultWidth post ((nI c), cs, sw, pp, pd, pe, K, W, ox, oy, oz, nums, rch, D, nx, en, fo, H, nt, mem, nm, vals, tr) 9 x y z := by
  obtain ⟨⟨ha, hb, rfl, rfl, e, e3⟩, rfl, _⟩ := q
  exact br_f (by decide) (br_f (by decide) (br_f (by decide) (br_f (by decide) (br_f (by decide) (br_f (by decide) (br_f (by decide) (br_f (by decide) (br_f (by decide) (br_f (by decide) (br_f (by decide) (br_t rfl (⟨(vp_in_nI (by omega) (by omega)), by rw [nI_clamp (by omega), hW]; exact h⟩))))))))))))
theorem nx_co9 (post : Int32 → Prop) (hc : c ≤ 24) (hW : ∀ j, W j = nI (wd j)) {x y z : Int32} {a b d w : Nat} (q : nb_fq c wd 9 x y z a b d w) (h : post (nb_co 9 w (wd a))) : wpX_costOf post ((nI c), cs, sw, pp, pd, pe, K, W, ox, oy, oz, nums, rch, D, nx, en, fo, H, nt, mem, nm, vals, tr) 9 x (nI w) := by
  exact br_f (by decide) (br_f (by decide) (br_f (by decide) (br_f (by decide) (br_f (by decide) (br_f (by decide) (br_f (by decide) (br_f (by decide) (br_f (by decide) (br_t rfl (h))))))))))
theorem nx_rw10 (post : Int32 → Prop) (hc : c ≤ 24) (hW : ∀ j, W j = nI (wd j)) {x y z : Int32} {a b d w : Nat} (q : nb_fq c wd 10 x y z a b d w) (h : post (nI w)) : wpX_resultWidth post ((nI c), cs, sw, pp, pd, pe, K, W, ox, oy, oz, nums, rch, D, nx, en, fo, H, nt, mem, nm, vals, tr) 10 x y z := by
  obtain ⟨⟨ha, hb, rfl, rfl, e⟩, rfl, _⟩ := q
  exact br_f (by decide) (br_f (by decide) (br_f (by decide) (br_f (by decide) (br_f (by decide) (br_f (by decide) (br_f (by decide) (br_f (by decide) (br_f (by decide) (br_f (by decide) (br_f (by decide) (br_f (by decide) (br_t rfl (h)))))))))))))
theorem nx_co10 (post : Int32 → Prop) (hc : c ≤ 24) (hW : ∀ j, W j = nI (wd j)) {x y z : Int32} {a b d w : Nat} (q : nb_fq c wd 10 x y z a b d w) (h : post (nb_co 10 w (wd a))) : wpX_costOf post ((nI c), cs, sw, pp, pd, pe, K, W, ox, oy, oz, nums, rch, D, nx, en, fo, H, nt, mem, nm, vals, tr) 10 x (nI w) := by
  obtain ⟨⟨ha, hb, rfl, rfl, e⟩, rfl, _⟩ := q
  exact br_f (by decide) (br_f (by decide) (br_f (by decide) (br_f (by decide) (br_f (by decide) (br_f (by decide) (br_f (by decide) (br_f (by decide) (br_f (by decide) (br_f (by decide) (br_t rfl (⟨(vp_in_nI (by omega) (by omega)), by rw [nI_clamp (by omega), hW]; exact h⟩)))))))))))
theorem nx_rw11 (post : Int32 → Prop) (hc : c ≤ 24) (hW : ∀ j, W j = nI (wd j)) {x y z : Int32} {a b d w : Nat} (q : nb_fq c wd 11 x y z a b d w) (h : post (nI w)) : wpX_resultWidth post ((nI c), cs, sw, pp, pd, pe, K, W, ox, oy, oz, nums, rch, D, nx, en, fo, H, nt, mem, nm, vals, tr) 11 x y z := by
  obtain ⟨⟨ha, hb, rfl, rfl, e⟩, rfl, _⟩ := q
  exact br_f (by decide) (br_f (by decide) (br_f (by decide) (br_f (by decide) (br_f (by decide) (br_f (by decide) (br_f (by decide) (br_f (by decide) (br_f (by decide) (br_f (by decide) (br_f (by decide) (br_f (by decide) (br_f (by decide) (br_t rfl (h))))))))))))))
theorem nx_co11 (post : Int32 → Prop) (hc : c ≤ 24) (hW : ∀ j, W j = nI (wd j)) {x y z : Int32} {a b d w : Nat} (q : nb_fq c wd 11 x y z a b d w) (h : post (nb_co 11 w (wd a))) : wpX_costOf post ((nI c), cs, sw, pp, pd, pe, K, W, ox, oy, oz, nums, rch, D, nx, en, fo, H, nt, mem, nm, vals, tr) 11 x (nI w) := by
  obtain ⟨⟨ha, hb, rfl, rfl, e⟩, rfl, _⟩ := q
  exact br_f (by decide) (br_f (by decide) (br_f (by decide) (br_f (by decide) (br_f (by decide) (br_f (by decide) (br_f (by decide) (br_f (by decide) (br_f (by decide) (br_f (by decide) (br_f (by decide) (br_t rfl (⟨(vp_in_nI (by omega) (by omega)), by rw [nI_clamp (by omega), hW]; exact h⟩))))))))))))
theorem nx_rw12 (post : Int32 → Prop) (hc : c ≤ 24) (hW : ∀ j, W j = nI (wd j)) {x y z : Int32} {a b d w : Nat} (q : nb_fq c wd 12 x y z a b d w) (h : post (nI w)) : wpX_resultWidth post ((nI c), cs, sw, pp, pd, pe, K, W, ox, oy, oz, nums, rch, D, nx, en, fo, H, nt, mem, nm, vals, tr) 12 x y z := by
  obtain ⟨⟨ha, rfl, e1⟩, ⟨hb, hd, rfl, rfl, e⟩, rfl⟩ := q
  exact br_f (by decide) (br_f (by decide) (br_f (by decide) (br_f (by decide) (br_f (by decide) (br_f (by decide) (br_f (by decide) (br_f (by decide) (br_f (by decide) (br_f (by decide) (br_f (by decide) (br_f (by decide) (br_f (by decide) (br_f (by decide) (br_t rfl (⟨(vp_in_nI (by omega) (by omega)), by rw [nI_clamp (by omega), hW]; exact h⟩)))))))))))))))
theorem nx_co12 (post : Int32 → Prop) (hc : c ≤ 24) (hW : ∀ j, W j = nI (wd j)) {x y z : Int32} {a b d w : Nat} (q : nb_fq c wd 12 x y z a b d w) (h : post (nb_co 12 w (wd a))) : wpX_costOf post ((nI c), cs, sw, pp, pd, pe, K, W, ox, oy, oz, nums, rch, D, nx, en, fo, H, nt, mem, nm, vals, tr) 12 x (nI w) := by
  exact br_f (by decide) (br_f (by decide) (br_f (by decide) (br_f (by decide) (br_f (by decide) (br_f (by decide) (br_f (by decide) (br_f (by decide) (br_f (by decide) (br_f (by decide) (br_f (by decide) (br_f (by decide) (br_t rfl (h)))))))))))))
theorem nx_rw13 (post : Int32 → Prop) (hc : c ≤ 24) (hW : ∀ j, W j = nI (wd j)) {x y z : Int32} {a b d w : Nat} (q : nb_fq c wd 13 x y z a b d w) (h : post (nI w)) : wpX_resultWidth post ((nI c), cs, sw, pp, pd, pe, K, W, ox, oy, oz, nums, rch, D, nx, en, fo, H, nt, mem, nm, vals, tr) 13 x y z := by
  obtain ⟨⟨ha, rfl⟩, ⟨hb, rfl, e2⟩, rfl, _⟩ := q
  exact br_f (by decide) (br_f (by decide) (br_f (by decide) (br_f (by decide) (br_f (by decide) (br_f (by decide) (br_f (by decide) (br_f (by decide) (br_f (by decide) (br_f (by decide) (br_f (by decide) (br_f (by decide) (br_f (by decide) (br_f (by decide) (br_f (by decide) (br_t rfl (⟨(vp_in_nI (by omega) (by omega)), by rw [nI_clamp (by omega), hW]; exact h⟩))))))))))))))))
theorem nx_co13 (post : Int32 → Prop) (hc : c ≤ 24) (hW : ∀ j, W j = nI (wd j)) {x y z : Int32} {a b d w : Nat} (q : nb_fq c wd 13 x y z a b d w) (h : post (nb_co 13 w (wd a))) : wpX_costOf post ((nI c), cs, sw, pp, pd, pe, K, W, ox, oy, oz, nums, rch, D, nx, en, fo, H, nt, mem, nm, vals, tr) 13 x (nI w) := by
  exact br_f (by decide) (br_f (by decide) (br_f (by decide) (br_f (by decide) (br_f (by decide) (br_f (by decide) (br_f (by decide) (br_f (by decide) (br_f (by decide) (br_f (by decide) (br_f (by decide) (br_f (by decide) (br_f (by decide) (br_t rfl (h))))))))))))))
theorem nx_rw14 (post : Int32 → Prop) (hc : c ≤ 24) (hW : ∀ j, W j = nI (wd j)) {x y z : Int32} {a b d w : Nat} (q : nb_fq c wd 14 x y z a b d w) (h : post (nI w)) : wpX_resultWidth post ((nI c), cs, sw, pp, pd, pe, K, W, ox, oy, oz, nums, rch, D, nx, en, fo, H, nt, mem, nm, vals, tr) 14 x y z := by
  obtain ⟨⟨ha, rfl⟩, ⟨hb, rfl, e2⟩, rfl, _⟩ := q
  exact br_f (by decide) (br_f (by decide) (br_f (by decide) (br_f (by decide) (br_f (by decide) (br_f (by decide) (br_f (by decide) (br_f (by decide) (br_f (by decide) (br_f (by decide) (br_f (by decide) (br_f (by decide) (br_f (by decide) (br_f (by decide) (br_f (by decide) (br_f (by decide) (br_t rfl (⟨(vp_in_nI (by omega) (by omega)), by rw [nI_clamp (by omega), hW]; exact h⟩)))))))))))))))))
theorem nx_co14 (post : Int32 → Prop) (hc : c ≤ 24) (hW : ∀ j, W j = nI (wd j)) {x y z : Int32} {a b d w : Nat} (q : nb_fq c wd 14 x y z a b d w) (h : post (nb_co 14 w (wd a))) : wpX_costOf post ((nI c), cs, sw, pp, pd, pe, K, W, ox, oy, oz, nums, rch, D, nx, en, fo, H, nt, mem, nm, vals, tr) 14 x (nI w) := by
  exact br_f (by decide) (br_f (by decide) (br_f (by decide) (br_f (by decide) (br_f (by decide) (br_f (by decide) (br_f (by decide) (br_f (by decide) (br_f (by decide) (br_f (by decide) (br_f (by decide) (br_f (by decide) (br_f (by decide) (br_f (by decide) (br_t rfl (h)))))))))))))))
theorem nx_rw15 (post : Int32 → Prop) (hc : c ≤ 24) (hW : ∀ j, W j = nI (wd j)) {x y z : Int32} {a b d w : Nat} (q : nb_fq c wd 15 x y z a b d w) (h : post (nI w)) : wpX_resultWidth post ((nI c), cs, sw, pp, pd, pe, K, W, ox, oy, oz, nums, rch, D, nx, en, fo, H, nt, mem, nm, vals, tr) 15 x y z := by
  obtain ⟨⟨ha, rfl⟩, ⟨hb, rfl⟩, rfl, _⟩ := q
  exact br_f (by decide) (br_f (by decide) (br_f (by decide) (br_f (by decide) (br_f (by decide) (br_f (by decide) (br_f (by decide) (br_f (by decide) (br_f (by decide) (br_f (by decide) (br_f (by decide) (br_f (by decide) (br_f (by decide) (br_f (by decide) (br_f (by decide) (br_f (by decide) (br_f (by decide) (br_t rfl (⟨(vp_in_nI (by omega) (by omega)), (vp_in_nI (by omega) (by omega)), by rw [nI_clamp (by omega), nI_clamp (by omega), hW, hW, nI_add]; exact h⟩))))))))))))))))))
theorem nx_co15 (post : Int32 → Prop) (hc : c ≤ 24) (hW : ∀ j, W j = nI (wd j)) {x y z : Int32} {a b d w : Nat} (q : nb_fq c wd 15 x y z a b d w) (h : post (nb_co 15 w (wd a))) : wpX_costOf post ((nI c), cs, sw, pp, pd, pe, K, W, ox, oy, oz, nums, rch, D, nx, en, fo, H, nt, mem, nm, vals, tr) 15 x (nI w) := by
  exact br_f (by decide) (br_f (by decide) (br_f (by decide) (br_f (by decide) (br_f (by decide) (br_f (by decide) (br_f (by decide) (br_f (by decide) (br_f (by decide) (br_f (by decide) (br_f (by decide) (br_f (by decide) (br_f (by decide) (br_f (by decide) (br_f (by decide) (br_t rfl (h))))))))))))))))
theorem nx_rw16 (post : Int32 → Prop) (hc : c ≤ 24) (hW : ∀ j, W j = nI (wd j)) {x y z : Int32} {a b d w : Nat} (q : nb_fq c wd 16 x y z a b d w) (h : post (nI w)) : wpX_resultWidth post ((nI c), cs, sw, pp, pd, pe, K, W, ox, oy, oz, nums, rch, D, nx, en, fo, H, nt, mem, nm, vals, tr) 16 x y z := by
  obtain ⟨⟨ha, rfl⟩, ⟨s, rfl, rfl, h1, hsw⟩, _, _⟩ := q
  exact br_f (by decide) (br_f (by decide) (br_f (by decide) (br_f (by decide) (br_f (by decide) (br_f (by decide) (br_f (by decide) (br_f (by decide) (br_f (by decide) (br_f (by decide) (br_f (by decide) (br_f (by decide) (br_f (by decide) (br_f (by decide) (br_f (by decide) (br_f (by decide) (br_f (by decide) (br_f (by decide) (br_t rfl (h)))))))))))))))))))
theorem nx_co16 (post : Int32 → Prop) (hc : c ≤ 24) (hW : ∀ j, W j = nI (wd j)) {x y z : Int32} {a b d w : Nat} (q : nb_fq c wd 16 x y z a b d w) (h : post (nb_co 16 w (wd a))) : wpX_costOf post ((nI c), cs, sw, pp, pd, pe, K, W, ox, oy, oz, nums, rch, D, nx, en, fo, H, nt, mem, nm, vals, tr) 16 x (nI w) := by
  exact br_f (by decide) (br_f (by decide) (br_f (by decide) (br_f (by decide) (br_f (by decide) (br_f (by decide) (br_f (by decide) (br_f (by decide) (br_f (by decide) (br_f (by decide) (br_f (by decide) (br_f (by decide) (br_f (by decide) (br_f (by decide) (br_f (by decide) (br_f (by decide) (br_t rfl (h)))))))))))))))))
theorem nx_rw17 (post : Int32 → Prop) (hc : c ≤ 24) (hW : ∀ j, W j = nI (wd j)) {x y z : Int32} {a b d w : Nat} (q : nb_fq c wd 17 x y z a b d w) (h : post (nI w)) : wpX_resultWidth post ((nI c), cs, sw, pp, pd, pe, K, W, ox, oy, oz, nums, rch, D, nx, en, fo, H, nt, mem, nm, vals, tr) 17 x y z := by
  obtain ⟨⟨ha, rfl⟩, rfl, _, _⟩ := q
  exact br_f (by decide) (br_f (by decide) (br_f (by decide) (br_f (by decide) (br_f (by decide) (br_f (by decide) (br_f (by decide) (br_f (by decide) (br_f (by decide) (br_f (by decide) (br_f (by decide) (br_f (by decide) (br_f (by decide) (br_f (by decide) (br_f (by decide) (br_f (by decide) (br_f (by decide) (br_f (by decide) (br_f (by decide) (br_t rfl (h))))))))))))))))))))
theorem nx_co17 (post : Int32 → Prop) (hc : c ≤ 24) (hW : ∀ j, W j = nI (wd j)) {x y z : Int32} {a b d w : Nat} (q : nb_fq c wd 17 x y z a b d w) (h : post (nb_co 17 w (wd a))) : wpX_costOf post ((nI c), cs, sw, pp, pd, pe, K, W, ox, oy, oz, nums, rch, D, nx, en, fo, H, nt, mem, nm, vals, tr) 17 x (nI w) := by
  obtain ⟨⟨ha, rfl⟩, rfl, _, _⟩ := q
  exact br_f (by decide) (br_f (by decide) (br_f (by decide) (br_f (by decide) (br_f (by decide) (br_f (by decide) (br_f (by decide) (br_f (by decide) (br_f (by decide) (br_f (by decide) (br_f (by decide) (br_f (by decide) (br_f (by decide) (br_f (by decide) (br_f (by decide) (br_f (by decide) (br_f (by decide) (br_t rfl (⟨(vp_in_nI (by omega) (by omega)), by rw [nI_clamp (by omega), hW]; exact h⟩))))))))))))))))))
theorem nx_rw18 (post : Int32 → Prop) (hc : c ≤ 24) (hW : ∀ j, W j = nI (wd j)) {x y z : Int32} {a b d w : Nat} (q : nb_fq c wd 18 x y z a b d w) (h : post (nI w)) : wpX_resultWidth post ((nI c), cs, sw, pp, pd, pe, K, W, ox, oy, oz, nums, rch, D, nx, en, fo, H, nt, mem, nm, vals, tr) 18 x y z := by
  obtain ⟨⟨ha, rfl, e2⟩, rfl, _, _⟩ := q
  exact br_f (by decide) (br_f (by decide) (br_f (by decide) (br_f (by decide) (br_f (by decide) (br_f (by decide) (br_f (by decide) (br_f (by decide) (br_f (by decide) (br_f (by decide) (br_f (by decide) (br_f (by decide) (br_f (by decide) (br_f (by decide) (br_f (by decide) (br_f (by decide) (br_f (by decide) (br_f (by decide) (br_f (by decide) (br_f (by decide) (br_t rfl (h)))))))))))))))))))))
theorem nx_co18 (post : Int32 → Prop) (hc : c ≤ 24) (hW : ∀ j, W j = nI (wd j)) {x y z : Int32} {a b d w : Nat} (q : nb_fq c wd 18 x y z a b d w) (h : post (nb_co 18 w (wd a))) : wpX_costOf post ((nI c), cs, sw, pp, pd, pe, K, W, ox, oy, oz, nums, rch, D, nx, en, fo, H, nt, mem, nm, vals, tr) 18 x (nI w) := by
  exact br_f (by decide) (br_f (by decide) (br_f (by decide) (br_f (by decide) (br_f (by decide) (br_f (by decide) (br_f (by decide) (br_f (by decide) (br_f (by decide) (br_f (by decide) (br_f (by decide) (br_f (by decide) (br_f (by decide) (br_f (by decide) (br_f (by decide) (br_f (by decide) (br_f (by decide) (br_f (by decide) (br_t rfl (h)))))))))))))))))))
theorem ny_rw0 (post : Int32 → Prop) (hc : c ≤ 24) (hW : ∀ j, W j = nI (wd j)) {x y z : Int32} {a b d w : Nat} (q : nb_fq c wd 0 x y z a b d w) (h : post (nI w)) : wpY_widthOf post ((nI c), cs, sw, pp, pd, pe, K, ex, ey, ez, W, H, nty, fo, va, nx, en, mem, nm, td, mt) 0 x y z := by
  obtain ⟨⟨rfl, _, _⟩, _, _, _⟩ := q
  exact br_f (by decide) (h)
theorem ny_co0 (post : Int32 → Prop) (hc : c ≤ 24) (hW : ∀ j, W j = nI (wd j)) {x y z : Int32} {a b d w : Nat} (q : nb_fq c wd 0 x y z a b d w) (h : post (nb_co 0 w (wd a))) : wpY_costOf post ((nI c), cs, sw, pp, pd, pe, K, ex, ey, ez, W, H, nty, fo, va, nx, en, mem, nm, td, mt) 0 x (nI w) := by
  exact br_f (by decide) (br_f (by decide) (br_f (by decide) (br_f (by decide) (br_f (by decide) (br_f (by decide) (br_f (by decide) (br_f (by decide) (br_f (by decide) (br_f (by decide) (br_f (by decide) (br_f (by decide) (br_f (by decide) (br_f (by decide) (h))))))))))))))
theorem ny_rw1 (post : Int32 → Prop) (hc : c ≤ 24) (hW : ∀ j, W j = nI (wd j)) {x y z : Int32} {a b d w : Nat} (q : nb_fq c wd 1 x y z a b d w) (h : post (nI w)) : wpY_widthOf post ((nI c), cs, sw, pp, pd, pe, K, ex, ey, ez, W, H, nty, fo, va, nx, en, mem, nm, td, mt) 1 x y z := by
  obtain ⟨⟨rfl, _, _, _⟩, _, _, _⟩ := q
  exact br_f (by decide) (h)
theorem ny_co1 (post : Int32 → Prop) (hc : c ≤ 24) (hW : ∀ j, W j = nI (wd j)) {x y z : Int32} {a b d w : Nat} (q : nb_fq c wd 1 x y z a b d w) (h : post (nb_co 1 w (wd a))) : wpY_costOf post ((nI c), cs, sw, pp, pd, pe, K, ex, ey, ez, W, H, nty, fo, va, nx, en, mem, nm, td, mt) 1 x (nI w) := by
  exact br_f (by decide) (br_f (by decide) (br_f (by decide) (br_f (by decide) (br_f (by decide) (br_f (by decide) (br_f (by decide) (br_f (by decide) (br_f (by decide) (br_f (by decide) (br_f (by decide) (br_f (by decide) (br_f (by decide) (br_f (by decide) (h))))))))))))))
theorem ny_rw2 (post : Int32 → Prop) (hc : c ≤ 24) (hW : ∀ j, W j = nI (wd j)) {x y z : Int32} {a b d w : Nat} (q : nb_fq c wd 2 x y z a b d w) (h : post (nI w)) : wpY_widthOf post ((nI c), cs, sw, pp, pd, pe, K, ex, ey, ez, W, H, nty, fo, va, nx, en, mem, nm, td, mt) 2 x y z := by
  obtain ⟨⟨rfl, _, _, _⟩, _, _, _⟩ := q
  exact br_f (by decide) (h)
theorem ny_co2 (post : Int32 → Prop) (hc : c ≤ 24) (hW : ∀ j, W j = nI (wd j)) {x y z : Int32} {a b d w : Nat} (q : nb_fq c wd 2 x y z a b d w) (h : post (nb_co 2 w (wd a))) : wpY_costOf post ((nI c), cs, sw, pp, pd, pe, K, ex, ey, ez, W, H, nty, fo, va, nx, en, mem, nm, td, mt) 2 x (nI w) := by
  exact br_t rfl (h)
theorem ny_rw3 (post : Int32 → Prop) (hc : c ≤ 24) (hW : ∀ j, W j = nI (wd j)) {x y z : Int32} {a b d w : Nat} (q : nb_fq c wd 3 x y z a b d w) (h : post (nI w)) : wpY_widthOf post ((nI c), cs, sw, pp, pd, pe, K, ex, ey, ez, W, H, nty, fo, va, nx, en, mem, nm, td, mt) 3 x y z := by
  obtain ⟨⟨ha, rfl⟩, rfl, _, _⟩ := q
  exact br_t (by decide) (br_f (by decide) (br_f (by decide) (br_f (by decide) (br_f (by decide) (br_f (by decide) (br_f (by decide) (br_f (by decide) (⟨(vp_in_nI (by omega) (by omega)), by rw [nI_clamp (by omega), hW]; exact h⟩))))))))
theorem ny_co3 (post : Int32 → Prop) (hc : c ≤ 24) (hW : ∀ j, W j = nI (wd j)) {x y z : Int32} {a b d w : Nat} (q : nb_fq c wd 3 x y z a b d w) (h : post (nb_co 3 w (wd a))) : wpY_costOf post ((nI c), cs, sw, pp, pd, pe, K, ex, ey, ez, W, H, nty, fo, va, nx, en, mem, nm, td, mt) 3 x (nI w) := by
  exact br_f (by decide) (br_f (by decide) (br_f (by decide) (br_f (by decide) (br_f (by decide) (br_f (by decide) (br_f (by decide) (br_f (by decide) (br_f (by decide) (br_f (by decide) (br_f (by decide) (br_f (by decide) (br_f (by decide) (br_f (by decide) (h))))))))))))))
theorem ny_rw4 (post : Int32 → Prop) (hc : c ≤ 24) (hW : ∀ j, W j = nI (wd j)) {x y z : Int32} {a b d w : Nat} (q : nb_fq c wd 4 x y z a b d w) (h : post (nI w)) : wpY_widthOf post ((nI c), cs, sw, pp, pd, pe, K, ex, ey, ez, W, H, nty, fo, va, nx, en, mem, nm, td, mt) 4 x y z := by
  obtain ⟨⟨ha, hb, rfl, rfl, e⟩, rfl, _⟩ := q
  exact br_t (by decide) (br_f (by decide) (br_f (by decide) (br_f (by decide) (br_f (by decide) (br_f (by decide) (br_f (by decide) (br_f (by decide) (⟨(vp_in_nI (by omega) (by omega)), by rw [nI_clamp (by omega), hW]; exact h⟩))))))))
theorem ny_co4 (post : Int32 → Prop) (hc : c ≤ 24) (hW : ∀ j, W j = nI (wd j)) {x y z : Int32} {a b d w : Nat} (q : nb_fq c wd 4 x y z a b d w) (h : post (nb_co 4 w (wd a))) : wpY_costOf post ((nI c), cs, sw, pp, pd, pe, K, ex, ey, ez, W, H, nty, fo, va, nx, en, mem, nm, td, mt) 4 x (nI w) := by
  exact br_f (by decide) (br_f (by decide) (br_f (by decide) (br_t rfl (h))))
theorem ny_rw5 (post : Int32 → Prop) (hc : c ≤ 24) (hW : ∀ j, W j = nI (wd j)) {x y z : Int32} {a b d w : Nat} (q : nb_fq c wd 5 x y z a b d w) (h : post (nI w)) : wpY_widthOf post ((nI c), cs, sw, pp, pd, pe, K, ex, ey, ez, W, H, nty, fo, va, nx, en, mem, nm, td, mt) 5 x y z := by
  obtain ⟨⟨ha, hb, rfl, rfl, e⟩, rfl, _⟩ := q
  exact br_t (by decide) (br_f (by decide) (br_f (by decide) (br_f (by decide) (br_f (by decide) (br_f (by decide) (br_f (by decide) (br_f (by decide) (⟨(vp_in_nI (by omega) (by omega)), by rw [nI_clamp (by omega), hW]; exact h⟩))))))))
theorem ny_co5 (post : Int32 → Prop) (hc : c ≤ 24) (hW : ∀ j, W j = nI (wd j)) {x y z : Int32} {a b d w : Nat} (q : nb_fq c wd 5 x y z a b d w) (h : post (nb_co 5 w (wd a))) : wpY_costOf post ((nI c), cs, sw, pp, pd, pe, K, ex, ey, ez, W, H, nty, fo, va, nx, en, mem, nm, td, mt) 5 x (nI w) := by
  exact br_f (by decide) (br_f (by decide) (br_f (by decide) (br_f (by decide) (br_t rfl (h)))))
theorem ny_rw6 (post : Int32 → Prop) (hc : c ≤ 24) (hW : ∀ j, W j = nI (wd j)) {x y z : Int32} {a b d w : Nat} (q : nb_fq c wd 6 x y z a b d w) (h : post (nI w)) : wpY_widthOf post ((nI c), cs, sw, pp, pd, pe, K, ex, ey, ez, W, H, nty, fo, va, nx, en, mem, nm, td, mt) 6 x y z := by
  obtain ⟨⟨ha, hb, rfl, rfl, e⟩, rfl, _⟩ := q
  exact br_t (by decide) (br_f (by decide) (br_f (by decide) (br_f (by decide) (br_f (by decide) (br_f (by decide) (br_f (by decide) (br_f (by decide) (⟨(vp_in_nI (by omega) (by omega)), by rw [nI_clamp (by omega), hW]; exact h⟩))))))))
theorem ny_co6 (post : Int32 → Prop) (hc : c ≤ 24) (hW : ∀ j, W j = nI (wd j)) {x y z : Int32} {a b d w : Nat} (q : nb_fq c wd 6 x y z a b d w) (h : post (nb_co 6 w (wd a))) : wpY_costOf post ((nI c), cs, sw, pp, pd, pe, K, ex, ey, ez, W, H, nty, fo, va, nx, en, mem, nm, td, mt) 6 x (nI w) := by
  exact br_f (by decide) (br_t rfl (h))
theorem ny_rw7 (post : Int32 → Prop) (hc : c ≤ 24) (hW : ∀ j, W j = nI (wd j)) {x y z : Int32} {a b d w : Nat} (q : nb_fq c wd 7 x y z a b d w) (h : post (nI w)) : wpY_widthOf post ((nI c), cs, sw, pp, pd, pe, K, ex, ey, ez, W, H, nty, fo, va, nx, en, mem, nm, td, mt) 7 x y z := by
  obtain ⟨⟨ha, hb, rfl, rfl, e⟩, rfl, _⟩ := q
  exact br_t (by decide) (br_f (by decide) (br_f (by decide) (br_f (by decide) (br_f (by decide) (br_f (by decide) (br_f (by decide) (br_f (by decide) (⟨(vp_in_nI (by omega) (by omega)), by rw [nI_clamp (by omega), hW]; exact h⟩))))))))
theorem ny_co7 (post : Int32 → Prop) (hc : c ≤ 24) (hW : ∀ j, W j = nI (wd j)) {x y z : Int32} {a b d w : Nat} (q : nb_fq c wd 7 x y z a b d w) (h : post (nb_co 7 w (wd a))) : wpY_costOf post ((nI c), cs, sw, pp, pd, pe, K, ex, ey, ez, W, H, nty, fo, va, nx, en, mem, nm, td, mt) 7 x (nI w) := by
  exact br_f (by decide) (br_f (by decide) (br_f (by decide) (br_f (by decide) (br_f (by decide) (br_t rfl (h))))))
theorem ny_rw8 (post : Int32 → Prop) (hc : c ≤ 24) (hW : ∀ j, W j = nI (wd j)) {x y z : Int32} {a b d w : Nat} (q : nb_fq c wd 8 x y z a b d w) (h : post (nI w)) : wpY_widthOf post ((nI c), cs, sw, pp, pd, pe, K, ex, ey, ez, W, H, nty, fo, va, nx, en, mem, nm, td, mt) 8 x y z := by
  obtain ⟨⟨ha, hb, rfl, rfl, e⟩, rfl, _⟩ := q
  exact br_t (by decide) (br_f (by decide) (br_f (by decide) (br_f (by decide) (br_f (by decide) (br_f (by decide) (br_f (by decide) (br_f (by decide) (⟨(vp_in_nI (by omega) (by omega)), by rw [nI_clamp (by omega), hW]; exact h⟩))))))))
theorem ny_co8 (post : Int32 → Prop) (hc : c ≤ 24) (hW : ∀ j, W j = nI (wd j)) {x y z : Int32} {a b d w : Nat} (q : nb_fq c wd 8 x y z a b d w) (h : post (nb_co 8 w (wd a))) : wpY_costOf post ((nI c), cs, sw, pp, pd, pe, K, ex, ey, ez, W, H, nty, fo, va, nx, en, mem, nm, td, mt) 8 x (nI w) := by
  exact br_f (by decide) (br_f (by decide) (br_f (by decide) (br_f (by decide) (br_f (by decide) (br_f (by decide) (br_t rfl (h)))))))
theorem ny_rw9 (post : Int32 → Prop) (hc : c ≤ 24) (hW : ∀ j, W j = nI (wd j)) {x y z : Int32} {a b d w : Nat} (q : nb_fq c wd 9 x y z a b d w) (h : post (nI w)) : wpY_widthOf post ((nI c), cs, sw, pp, pd, pe, K, ex, ey, ez, W, H, nty, fo, va, nx, en, mem, nm, td, mt) 9 x y z := by
  obtain ⟨⟨ha, hb, rfl, rfl, e, e3⟩, rfl, _⟩ := q
  exact br_t (by decide) (br_f (by decide) (br_f (by decide) (br_f (by decide) (br_f (by decide) (br_f (by decide) (br_f (by decide) (br_f (by decide) (⟨(vp_in_nI (by omega) (by omega)), by rw [nI_clamp (by omega), hW]; exact h⟩))))))))
theorem ny_co9 (post : Int32 → Prop) (hc : c ≤ 24) (hW : ∀ j, W j = nI (wd j)) {x y z : Int32} {a b d w : Nat} (q : nb_fq c wd 9 x y z a b d w) (h : post (nb_co 9 w (wd a))) : wpY_costOf post ((nI c), cs, sw, pp, pd, pe, K, ex, ey, ez, W, H, nty, fo, va, nx, en, mem, nm, td, mt) 9 x (nI w) := by
  exact br_f (by decide) (br_f (by decide) (br_f (by decide) (br_f (by decide) (br_f (by decide) (br_f (by decide) (br_f (by decide) (br_t rfl (h))))))))
theorem ny_rw10 (post : Int32 → Prop) (hc : c ≤ 24) (hW : ∀ j, W j = nI (wd j)) {x y z : Int32} {a b d w : Nat} (q : nb_fq c wd 10 x y z a b d w) (h : post (nI w)) : wpY_widthOf post ((nI c), cs, sw, pp, pd, pe, K, ex, ey, ez, W, H, nty, fo, va, nx, en, mem, nm, td, mt) 10 x y z := by
  obtain ⟨⟨ha, hb, rfl, rfl, e⟩, rfl, _⟩ := q
  exact br_t (by decide) (br_t rfl (h))
theorem ny_co10 (post : Int32 → Prop) (hc : c ≤ 24) (hW : ∀ j, W j = nI (wd j)) {x y z : Int32} {a b d w : Nat} (q : nb_fq c wd 10 x y z a b d w) (h : post (nb_co 10 w (wd a))) : wpY_costOf post ((nI c), cs, sw, pp, pd, pe, K, ex, ey, ez, W, H, nty, fo, va, nx, en, mem, nm, td, mt) 10 x (nI w) := by
  obtain ⟨⟨ha, hb, rfl, rfl, e⟩, rfl, _⟩ := q
  exact br_f (by decide) (br_f (by decide) (br_f (by decide) (br_f (by decide) (br_f (by decide) (br_f (by decide) (br_f (by decide) (br_f (by decide) (br_t rfl (⟨(vp_in_nI (by omega) (by omega)), by rw [nI_clamp (by omega), hW]; exact h⟩)))))))))
theorem ny_rw11 (post : Int32 → Prop) (hc : c ≤ 24) (hW : ∀ j, W j = nI (wd j)) {x y z : Int32} {a b d w : Nat} (q : nb_fq c wd 11 x y z a b d w) (h : post (nI w)) : wpY_widthOf post ((nI c), cs, sw, pp, pd, pe, K, ex, ey, ez, W, H, nty, fo, va, nx, en, mem, nm, td, mt) 11 x y z := by
  obtain ⟨⟨ha, hb, rfl, rfl, e⟩, rfl, _⟩ := q
  exact br_t (by decide) (br_f (by decide) (br_t rfl (h)))
theorem ny_co11 (post : Int32 → Prop) (hc : c ≤ 24) (hW : ∀ j, W j = nI (wd j)) {x y z : Int32} {a b d w : Nat} (q : nb_fq c wd 11 x y z a b d w) (h : post (nb_co 11 w (wd a))) : wpY_costOf post ((nI c), cs, sw, pp, pd, pe, K, ex, ey, ez, W, H, nty, fo, va, nx, en, mem, nm, td, mt) 11 x (nI w) := by
  obtain ⟨⟨ha, hb, rfl, rfl, e⟩, rfl, _⟩ := q
  exact br_f (by decide) (br_f (by decide) (br_f (by decide) (br_f (by decide) (br_f (by decide) (br_f (by decide) (br_f (by decide) (br_f (by decide) (br_f (by decide) (br_t rfl (⟨(vp_in_nI (by omega) (by omega)), by rw [nI_clamp (by omega), hW]; exact h⟩))))))))))
theorem ny_rw12 (post : Int32 → Prop) (hc : c ≤ 24) (hW : ∀ j, W j = nI (wd j)) {x y z : Int32} {a b d w : Nat} (q : nb_fq c wd 12 x y z a b d w) (h : post (nI w)) : wpY_widthOf post ((nI c), cs, sw, pp, pd, pe, K, ex, ey, ez, W, H, nty, fo, va, nx, en, mem, nm, td, mt) 12 x y z := by
  obtain ⟨⟨ha, rfl, e1⟩, ⟨hb, hd, rfl, rfl, e⟩, rfl⟩ := q
  exact br_t (by decide) (br_f (by decide) (br_f (by decide) (br_t rfl (⟨(vp_in_nI (by omega) (by omega)), by rw [nI_clamp (by omega), hW]; exact h⟩))))
theorem ny_co12 (post : Int32 → Prop) (hc : c ≤ 24) (hW : ∀ j, W j = nI (wd j)) {x y z : Int32} {a b d w : Nat} (q : nb_fq c wd 12 x y z a b d w) (h : post (nb_co 12 w (wd a))) : wpY_costOf post ((nI c), cs, sw, pp, pd, pe, K, ex, ey, ez, W, H, nty, fo, va, nx, en, mem, nm, td, mt) 12 x (nI w) := by
  exact br_f (by decide) (br_f (by decide) (br_t rfl (h)))
theorem ny_rw13 (post : Int32 → Prop) (hc : c ≤ 24) (hW : ∀ j, W j = nI (wd j)) {x y z : Int32} {a b d w : Nat} (q : nb_fq c wd 13 x y z a b d w) (h : post (nI w)) : wpY_widthOf post ((nI c), cs, sw, pp, pd, pe, K, ex, ey, ez, W, H, nty, fo, va, nx, en, mem, nm, td, mt) 13 x y z := by
  obtain ⟨⟨ha, rfl⟩, ⟨hb, rfl, e2⟩, rfl, _⟩ := q
  exact br_t (by decide) (br_f (by decide) (br_f (by decide) (br_f (by decide) (br_f (by decide) (br_f (by decide) (br_f (by decide) (br_f (by decide) (⟨(vp_in_nI (by omega) (by omega)), by rw [nI_clamp (by omega), hW]; exact h⟩))))))))
theorem ny_co13 (post : Int32 → Prop) (hc : c ≤ 24) (hW : ∀ j, W j = nI (wd j)) {x y z : Int32} {a b d w : Nat} (q : nb_fq c wd 13 x y z a b d w) (h : post (nb_co 13 w (wd a))) : wpY_costOf post ((nI c), cs, sw, pp, pd, pe, K, ex, ey, ez, W, H, nty, fo, va, nx, en, mem, nm, td, mt) 13 x (nI w) := by
  exact br_f (by decide) (br_f (by decide) (br_f (by decide) (br_f (by decide) (br_f (by decide) (br_f (by decide) (br_f (by decide) (br_f (by decide) (br_f (by decide) (br_f (by decide) (br_t rfl (h)))))))))))
theorem ny_rw14 (post : Int32 → Prop) (hc : c ≤ 24) (hW : ∀ j, W j = nI (wd j)) {x y z : Int32} {a b d w : Nat} (q : nb_fq c wd 14 x y z a b d w) (h : post (nI w)) : wpY_widthOf post ((nI c), cs, sw, pp, pd, pe, K, ex, ey, ez, W, H, nty, fo, va, nx, en, mem, nm, td, mt) 14 x y z := by
  obtain ⟨⟨ha, rfl⟩, ⟨hb, rfl, e2⟩, rfl, _⟩ := q
  exact br_t (by decide) (br_f (by decide) (br_f (by decide) (br_f (by decide) (br_f (by decide) (br_f (by decide) (br_f (by decide) (br_f (by decide) (⟨(vp_in_nI (by omega) (by omega)), by rw [nI_clamp (by omega), hW]; exact h⟩))))))))
theorem ny_co14 (post : Int32 → Prop) (hc : c ≤ 24) (hW : ∀ j, W j = nI (wd j)) {x y z : Int32} {a b d w : Nat} (q : nb_fq c wd 14 x y z a b d w) (h : post (nb_co 14 w (wd a))) : wpY_costOf post ((nI c), cs, sw, pp, pd, pe, K, ex, ey, ez, W, H, nty, fo, va, nx, en, mem, nm, td, mt) 14 x (nI w) := by
  exact br_f (by decide) (br_f (by decide) (br_f (by decide) (br_f (by decide) (br_f (by decide) (br_f (by decide) (br_f (by decide) (br_f (by decide) (br_f (by decide) (br_f (by decide) (br_f (by decide) (br_t rfl (h))))))))))))
theorem ny_rw15 (post : Int32 → Prop) (hc : c ≤ 24) (hW : ∀ j, W j = nI (wd j)) {x y z : Int32} {a b d w : Nat} (q : nb_fq c wd 15 x y z a b d w) (h : post (nI w)) : wpY_widthOf post ((nI c), cs, sw, pp, pd, pe, K, ex, ey, ez, W, H, nty, fo, va, nx, en, mem, nm, td, mt) 15 x y z := by
  obtain ⟨⟨ha, rfl⟩, ⟨hb, rfl⟩, rfl, _⟩ := q
  exact br_t (by decide) (br_f (by decide) (br_f (by decide) (br_f (by decide) (br_t rfl (⟨(vp_in_nI (by omega) (by omega)), (vp_in_nI (by omega) (by omega)), by rw [nI_clamp (by omega), nI_clamp (by omega), hW, hW, nI_add]; exact h⟩)))))
theorem ny_co15 (post : Int32 → Prop) (hc : c ≤ 24) (hW : ∀ j, W j = nI (wd j)) {x y z : Int32} {a b d w : Nat} (q : nb_fq c wd 15 x y z a b d w) (h : post (nb_co 15 w (wd a))) : wpY_costOf post ((nI c), cs, sw, pp, pd, pe, K, ex, ey, ez, W, H, nty, fo, va, nx, en, mem, nm, td, mt) 15 x (nI w) := by
  exact br_f (by decide) (br_f (by decide) (br_f (by decide) (br_f (by decide) (br_f (by decide) (br_f (by decide) (br_f (by decide) (br_f (by decide) (br_f (by decide) (br_f (by decide) (br_f (by decide) (br_f (by decide) (br_f (by decide) (br_f (by decide) (h))))))))))))))
theorem ny_rw16 (post : Int32 → Prop) (hc : c ≤ 24) (hW : ∀ j, W j = nI (wd j)) {x y z : Int32} {a b d w : Nat} (q : nb_fq c wd 16 x y z a b d w) (h : post (nI w)) : wpY_widthOf post ((nI c), cs, sw, pp, pd, pe, K, ex, ey, ez, W, H, nty, fo, va, nx, en, mem, nm, td, mt) 16 x y z := by
  obtain ⟨⟨ha, rfl⟩, ⟨s, rfl, rfl, h1, hsw⟩, _, _⟩ := q
  exact br_t (by decide) (br_f (by decide) (br_f (by decide) (br_f (by decide) (br_f (by decide) (br_t rfl (h))))))
theorem ny_co16 (post : Int32 → Prop) (hc : c ≤ 24) (hW : ∀ j, W j = nI (wd j)) {x y z : Int32} {a b d w : Nat} (q : nb_fq c wd 16 x y z a b d w) (h : post (nb_co 16 w (wd a))) : wpY_costOf post ((nI c), cs, sw, pp, pd, pe, K, ex, ey, ez, W, H, nty, fo, va, nx, en, mem, nm, td, mt) 16 x (nI w) := by
  exact br_f (by decide) (br_f (by decide) (br_f (by decide) (br_f (by decide) (br_f (by decide) (br_f (by decide) (br_f (by decide) (br_f (by decide) (br_f (by decide) (br_f (by decide) (br_f (by decide) (br_f (by decide) (br_f (by decide) (br_f (by decide) (h))))))))))))))
theorem ny_rw17 (post : Int32 → Prop) (hc : c ≤ 24) (hW : ∀ j, W j = nI (wd j)) {x y z : Int32} {a b d w : Nat} (q : nb_fq c wd 17 x y z a b d w) (h : post (nI w)) : wpY_widthOf post ((nI c), cs, sw, pp, pd, pe, K, ex, ey, ez, W, H, nty, fo, va, nx, en, mem, nm, td, mt) 17 x y z := by
  obtain ⟨⟨ha, rfl⟩, rfl, _, _⟩ := q
  exact br_t (by decide) (br_f (by decide) (br_f (by decide) (br_f (by decide) (br_f (by decide) (br_f (by decide) (br_t rfl (h)))))))
theorem ny_co17 (post : Int32 → Prop) (hc : c ≤ 24) (hW : ∀ j, W j = nI (wd j)) {x y z : Int32} {a b d w : Nat} (q : nb_fq c wd 17 x y z a b d w) (h : post (nb_co 17 w (wd a))) : wpY_costOf post ((nI c), cs, sw, pp, pd, pe, K, ex, ey, ez, W, H, nty, fo, va, nx, en, mem, nm, td, mt) 17 x (nI w) := by
  obtain ⟨⟨ha, rfl⟩, rfl, _, _⟩ := q
  exact br_f (by decide) (br_f (by decide) (br_f (by decide) (br_f (by decide) (br_f (by decide) (br_f (by decide) (br_f (by decide) (br_f (by decide) (br_f (by decide) (br_f (by decide) (br_f (by decide) (br_f (by decide) (br_t rfl (⟨(vp_in_nI (by omega) (by omega)), by rw [nI_clamp (by omega), hW]; exact h⟩)))))))))))))
theorem ny_rw18 (post : Int32 → Prop) (hc : c ≤ 24) (hW : ∀ j, W j = nI (wd j)) {x y z : Int32} {a b d w : Nat} (q : nb_fq c wd 18 x y z a b d w) (h : post (nI w)) : wpY_widthOf post ((nI c), cs, sw, pp, pd, pe, K, ex, ey, ez, W, H, nty, fo, va, nx, en, mem, nm, td, mt) 18 x y z := by
  obtain ⟨⟨ha, rfl, e2⟩, rfl, _, _⟩ := q
  exact br_t (by decide) (br_f (by decide) (br_f (by decide) (br_f (by decide) (br_f (by decide) (br_f (by decide) (br_f (by decide) (br_t rfl (h))))))))
theorem ny_co18 (post : Int32 → Prop) (hc : c ≤ 24) (hW : ∀ j, W j = nI (wd j)) {x y z : Int32} {a b d w : Nat} (q : nb_fq c wd 18 x y z a b d w) (h : post (nb_co 18 w (wd a))) : wpY_costOf post ((nI c), cs, sw, pp, pd, pe, K, ex, ey, ez, W, H, nty, fo, va, nx, en, mem, nm, td, mt) 18 x (nI w) := by
  exact br_f (by decide) (br_f (by decide) (br_f (by decide) (br_f (by decide) (br_f (by decide) (br_f (by decide) (br_f (by decide) (br_f (by decide) (br_f (by decide) (br_f (by decide) (br_f (by decide) (br_f (by decide) (br_f (by decide) (br_t rfl (h))))))))))))))
theorem nx_ft (post : Int32 → Prop) {k : Nat} (hk : k ≤ 18) (hc : c ≤ 24) (hW : ∀ j, W j = nI (wd j)) (h7 : ∀ j, j < c → wd j < 7) {x y z : Int32} {a b d w : Nat} (q : nb_fq c wd k x y z a b d w) (h : post 1) : wpX_operandsFit post ((nI c), cs, sw, pp, pd, pe, K, W, ox, oy, oz, nums, rch, D, nx, en, fo, H, nt, mem, nm, vals, tr) (nI k) x y z := by
  match k, hk, q with
  | 0, _, q => exact nx_ft0 post hc hW h7 q h
  | 1, _, q => exact nx_ft1 post hc hW h7 q h
  | 2, _, q => exact nx_ft2 post hc hW h7 q h
  | 3, _, q => exact nx_ft3 post hc hW h7 q h
  | 4, _, q => exact nx_ft4 post hc hW h7 q h
  | 5, _, q => exact nx_ft5 post hc hW h7 q h
  | 6, _, q => exact nx_ft6 post hc hW h7 q h
  | 7, _, q => exact nx_ft7 post hc hW h7 q h
  | 8, _, q => exact nx_ft8 post hc hW h7 q h
  | 9, _, q => exact nx_ft9 post hc hW h7 q h
  | 10, _, q => exact nx_ft10 post hc hW h7 q h
  | 11, _, q => exact nx_ft11 post hc hW h7 q h
  | 12, _, q => exact nx_ft12 post hc hW h7 q h
  | 13, _, q => exact nx_ft13 post hc hW h7 q h
  | 14, _, q => exact nx_ft14 post hc hW h7 q h
  | 15, _, q => exact nx_ft15 post hc hW h7 q h
  | 16, _, q => exact nx_ft16 post hc hW h7 q h
  | 17, _, q => exact nx_ft17 post hc hW h7 q h
  | 18, _, q => exact nx_ft18 post hc hW h7 q h
  | n + 19, hk, _ => exact absurd hk (by omega)
theorem nx_ff (post : Int32 → Prop) {k : Nat} (hk : k ≤ 18) (hc : c ≤ 24) (hW : ∀ j, W j = nI (wd j)) (h7 : ∀ j, j < c → wd j < 7) {x y z : Int32} (hn : ¬ ∃ a b d w, nb_fq c wd k x y z a b d w) (h : post 0) : wpX_operandsFit post ((nI c), cs, sw, pp, pd, pe, K, W, ox, oy, oz, nums, rch, D, nx, en, fo, H, nt, mem, nm, vals, tr) (nI k) x y z := by
  match k, hk, hn with
  | 0, _, hn => exact nx_ff0 post hc hW h7 hn h
  | 1, _, hn => exact nx_ff1 post hc hW h7 hn h
  | 2, _, hn => exact nx_ff2 post hc hW h7 hn h
  | 3, _, hn => exact nx_ff3 post hc hW h7 hn h
  | 4, _, hn => exact nx_ff4 post hc hW h7 hn h
  | 5, _, hn => exact nx_ff5 post hc hW h7 hn h
  | 6, _, hn => exact nx_ff6 post hc hW h7 hn h
  | 7, _, hn => exact nx_ff7 post hc hW h7 hn h
  | 8, _, hn => exact nx_ff8 post hc hW h7 hn h
  | 9, _, hn => exact nx_ff9 post hc hW h7 hn h
  | 10, _, hn => exact nx_ff10 post hc hW h7 hn h
  | 11, _, hn => exact nx_ff11 post hc hW h7 hn h
  | 12, _, hn => exact nx_ff12 post hc hW h7 hn h
  | 13, _, hn => exact nx_ff13 post hc hW h7 hn h
  | 14, _, hn => exact nx_ff14 post hc hW h7 hn h
  | 15, _, hn => exact nx_ff15 post hc hW h7 hn h
  | 16, _, hn => exact nx_ff16 post hc hW h7 hn h
  | 17, _, hn => exact nx_ff17 post hc hW h7 hn h
  | 18, _, hn => exact nx_ff18 post hc hW h7 hn h
  | n + 19, hk, _ => exact absurd hk (by omega)
theorem nx_rw (post : Int32 → Prop) {k : Nat} (hk : k ≤ 18) (hc : c ≤ 24) (hW : ∀ j, W j = nI (wd j)) {x y z : Int32} {a b d w : Nat} (q : nb_fq c wd k x y z a b d w) (h : post (nI w)) : wpX_resultWidth post ((nI c), cs, sw, pp, pd, pe, K, W, ox, oy, oz, nums, rch, D, nx, en, fo, H, nt, mem, nm, vals, tr) (nI k) x y z := by
  match k, hk, q with
  | 0, _, q => exact nx_rw0 post hc hW q h
  | 1, _, q => exact nx_rw1 post hc hW q h
  | 2, _, q => exact nx_rw2 post hc hW q h
  | 3, _, q => exact nx_rw3 post hc hW q h
  | 4, _, q => exact nx_rw4 post hc hW q h
  | 5, _, q => exact nx_rw5 post hc hW q h
  | 6, _, q => exact nx_rw6 post hc hW q h
  | 7, _, q => exact nx_rw7 post hc hW q h
  | 8, _, q => exact nx_rw8 post hc hW q h
  | 9, _, q => exact nx_rw9 post hc hW q h
  | 10, _, q => exact nx_rw10 post hc hW q h
  | 11, _, q => exact nx_rw11 post hc hW q h
  | 12, _, q => exact nx_rw12 post hc hW q h
  | 13, _, q => exact nx_rw13 post hc hW q h
  | 14, _, q => exact nx_rw14 post hc hW q h
  | 15, _, q => exact nx_rw15 post hc hW q h
  | 16, _, q => exact nx_rw16 post hc hW q h
  | 17, _, q => exact nx_rw17 post hc hW q h
  | 18, _, q => exact nx_rw18 post hc hW q h
  | n + 19, hk, _ => exact absurd hk (by omega)
theorem nx_co (post : Int32 → Prop) {k : Nat} (hk : k ≤ 18) (hc : c ≤ 24) (hW : ∀ j, W j = nI (wd j)) {x y z : Int32} {a b d w : Nat} (q : nb_fq c wd k x y z a b d w) (h : post (nb_co k w (wd a))) : wpX_costOf post ((nI c), cs, sw, pp, pd, pe, K, W, ox, oy, oz, nums, rch, D, nx, en, fo, H, nt, mem, nm, vals, tr) (nI k) x (nI w) := by
  match k, hk, q, h with
  | 0, _, q, h => exact nx_co0 post hc hW q h
  | 1, _, q, h => exact nx_co1 post hc hW q h
  | 2, _, q, h => exact nx_co2 post hc hW q h
  | 3, _, q, h => exact nx_co3 post hc hW q h
  | 4, _, q, h => exact nx_co4 post hc hW q h
  | 5, _, q, h => exact nx_co5 post hc hW q h
  | 6, _, q, h => exact nx_co6 post hc hW q h
  | 7, _, q, h => exact nx_co7 post hc hW q h
  | 8, _, q, h => exact nx_co8 post hc hW q h
  | 9, _, q, h => exact nx_co9 post hc hW q h
  | 10, _, q, h => exact nx_co10 post hc hW q h
  | 11, _, q, h => exact nx_co11 post hc hW q h
  | 12, _, q, h => exact nx_co12 post hc hW q h
  | 13, _, q, h => exact nx_co13 post hc hW q h
  | 14, _, q, h => exact nx_co14 post hc hW q h
  | 15, _, q, h => exact nx_co15 post hc hW q h
  | 16, _, q, h => exact nx_co16 post hc hW q h
  | 17, _, q, h => exact nx_co17 post hc hW q h
  | 18, _, q, h => exact nx_co18 post hc hW q h
  | n + 19, hk, _, _ => exact absurd hk (by omega)
theorem ny_ft (post : Int32 → Prop) {k : Nat} (hk : k ≤ 18) (k1 : k ≠ 0) (hc : c ≤ 24) (hW : ∀ j, W j = nI (wd j)) (h7 : ∀ j, j < c → wd j < 7) {x y z : Int32} {a b d w : Nat} (q : nb_fq c wd k x y z a b d w) (h : post 1) : wpY_operandsFit post ((nI c), cs, sw, pp, pd, pe, K, ex, ey, ez, W, H, nty, fo, va, nx, en, mem, nm, td, mt) (nI k) x y z := by
  match k, hk, k1, q with
  | 1, _, _, q => exact ny_ft1 post hc hW h7 q h
  | 2, _, _, q => exact ny_ft2 post hc hW h7 q h
  | 3, _, _, q => exact ny_ft3 post hc hW h7 q h
  | 4, _, _, q => exact ny_ft4 post hc hW h7 q h
  | 5, _, _, q => exact ny_ft5 post hc hW h7 q h
  | 6, _, _, q => exact ny_ft6 post hc hW h7 q h
  | 7, _, _, q => exact ny_ft7 post hc hW h7 q h
  | 8, _, _, q => exact ny_ft8 post hc hW h7 q h
  | 9, _, _, q => exact ny_ft9 post hc hW h7 q h
  | 10, _, _, q => exact ny_ft10 post hc hW h7 q h
  | 11, _, _, q => exact ny_ft11 post hc hW h7 q h
  | 12, _, _, q => exact ny_ft12 post hc hW h7 q h
  | 13, _, _, q => exact ny_ft13 post hc hW h7 q h
  | 14, _, _, q => exact ny_ft14 post hc hW h7 q h
  | 15, _, _, q => exact ny_ft15 post hc hW h7 q h
  | 16, _, _, q => exact ny_ft16 post hc hW h7 q h
  | 17, _, _, q => exact ny_ft17 post hc hW h7 q h
  | 18, _, _, q => exact ny_ft18 post hc hW h7 q h
  | 0, _, k1, _ => exact absurd rfl k1
  | n + 19, hk, _, _ => exact absurd hk (by omega)
theorem ny_ff (post : Int32 → Prop) {k : Nat} (hk : k ≤ 18) (k1 : k ≠ 0) (hc : c ≤ 24) (hW : ∀ j, W j = nI (wd j)) (h7 : ∀ j, j < c → wd j < 7) {x y z : Int32} (hn : ¬ ∃ a b d w, nb_fq c wd k x y z a b d w) (h : post 0) : wpY_operandsFit post ((nI c), cs, sw, pp, pd, pe, K, ex, ey, ez, W, H, nty, fo, va, nx, en, mem, nm, td, mt) (nI k) x y z := by
  match k, hk, k1, hn with
  | 1, _, _, hn => exact ny_ff1 post hc hW h7 hn h
  | 2, _, _, hn => exact ny_ff2 post hc hW h7 hn h
  | 3, _, _, hn => exact ny_ff3 post hc hW h7 hn h
  | 4, _, _, hn => exact ny_ff4 post hc hW h7 hn h
  | 5, _, _, hn => exact ny_ff5 post hc hW h7 hn h
  | 6, _, _, hn => exact ny_ff6 post hc hW h7 hn h
  | 7, _, _, hn => exact ny_ff7 post hc hW h7 hn h
  | 8, _, _, hn => exact ny_ff8 post hc hW h7 hn h
  | 9, _, _, hn => exact ny_ff9 post hc hW h7 hn h
  | 10, _, _, hn => exact ny_ff10 post hc hW h7 hn h
  | 11, _, _, hn => exact ny_ff11 post hc hW h7 hn h
  | 12, _, _, hn => exact ny_ff12 post hc hW h7 hn h
  | 13, _, _, hn => exact ny_ff13 post hc hW h7 hn h
  | 14, _, _, hn => exact ny_ff14 post hc hW h7 hn h
  | 15, _, _, hn => exact ny_ff15 post hc hW h7 hn h
  | 16, _, _, hn => exact ny_ff16 post hc hW h7 hn h
  | 17, _, _, hn => exact ny_ff17 post hc hW h7 hn h
  | 18, _, _, hn => exact ny_ff18 post hc hW h7 hn h
  | 0, _, k1, _ => exact absurd rfl k1
  | n + 19, hk, _, _ => exact absurd hk (by omega)
theorem ny_rw (post : Int32 → Prop) {k : Nat} (hk : k ≤ 18) (hc : c ≤ 24) (hW : ∀ j, W j = nI (wd j)) {x y z : Int32} {a b d w : Nat} (q : nb_fq c wd k x y z a b d w) (h : post (nI w)) : wpY_widthOf post ((nI c), cs, sw, pp, pd, pe, K, ex, ey, ez, W, H, nty, fo, va, nx, en, mem, nm, td, mt) (nI k) x y z := by
  match k, hk, q with
  | 0, _, q => exact ny_rw0 post hc hW q h
  | 1, _, q => exact ny_rw1 post hc hW q h
  | 2, _, q => exact ny_rw2 post hc hW q h
  | 3, _, q => exact ny_rw3 post hc hW q h
  | 4, _, q => exact ny_rw4 post hc hW q h
  | 5, _, q => exact ny_rw5 post hc hW q h
  | 6, _, q => exact ny_rw6 post hc hW q h
  | 7, _, q => exact ny_rw7 post hc hW q h
  | 8, _, q => exact ny_rw8 post hc hW q h
  | 9, _, q => exact ny_rw9 post hc hW q h
  | 10, _, q => exact ny_rw10 post hc hW q h
  | 11, _, q => exact ny_rw11 post hc hW q h
  | 12, _, q => exact ny_rw12 post hc hW q h
  | 13, _, q => exact ny_rw13 post hc hW q h
  | 14, _, q => exact ny_rw14 post hc hW q h
  | 15, _, q => exact ny_rw15 post hc hW q h
  | 16, _, q => exact ny_rw16 post hc hW q h
  | 17, _, q => exact ny_rw17 post hc hW q h
  | 18, _, q => exact ny_rw18 post hc hW q h
  | n + 19, hk, _ => exact absurd hk (by omega)
theorem ny_co (post : Int32 → Prop) {k : Nat} (hk : k ≤ 18) (hc : c ≤ 24) (hW : ∀ j, W j = nI (wd j)) {x y z : Int32} {a b d w : Nat} (q : nb_fq c wd k x y z a b d w) (h : post (nb_co k w (wd a))) : wpY_costOf post ((nI c), cs, sw, pp, pd, pe, K, ex, ey, ez, W, H, nty, fo, va, nx, en, mem, nm, td, mt) (nI k) x (nI w) := by
  match k, hk, q, h with
  | 0, _, q, h => exact ny_co0 post hc hW q h
  | 1, _, q, h => exact ny_co1 post hc hW q h
  | 2, _, q, h => exact ny_co2 post hc hW q h
  | 3, _, q, h => exact ny_co3 post hc hW q h
  | 4, _, q, h => exact ny_co4 post hc hW q h
  | 5, _, q, h => exact ny_co5 post hc hW q h
  | 6, _, q, h => exact ny_co6 post hc hW q h
  | 7, _, q, h => exact ny_co7 post hc hW q h
  | 8, _, q, h => exact ny_co8 post hc hW q h
  | 9, _, q, h => exact ny_co9 post hc hW q h
  | 10, _, q, h => exact ny_co10 post hc hW q h
  | 11, _, q, h => exact ny_co11 post hc hW q h
  | 12, _, q, h => exact ny_co12 post hc hW q h
  | 13, _, q, h => exact ny_co13 post hc hW q h
  | 14, _, q, h => exact ny_co14 post hc hW q h
  | 15, _, q, h => exact ny_co15 post hc hW q h
  | 16, _, q, h => exact ny_co16 post hc hW q h
  | 17, _, q, h => exact ny_co17 post hc hW q h
  | 18, _, q, h => exact ny_co18 post hc hW q h
  | n + 19, hk, _, _ => exact absurd hk (by omega)
end
