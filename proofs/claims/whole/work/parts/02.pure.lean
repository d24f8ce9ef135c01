/-! ranges, masks, the values of both sides as solutions of one local equation -/
def nb_R (w : Nat) (v : Int32) : Prop := ∃ n : Nat, n < 2 ^ w ∧ v = nI n
def nb_m (w : Nat) : Int32 := ((1 : Int32) <<< (nI w &&& 31)) - 1
theorem nb_sh1 : ∀ w, w < 24 → (1 : Int32) <<< (nI w &&& 31) = nI (2 ^ w) := by decide +kernel
theorem nb_mn : ∀ w, w < 7 → (nb_m w).toBitVec.toNat = 2 ^ w - 1 := by decide +kernel
theorem nb_pw {w : Nat} (hw : w < 7) : 2 ^ w ≤ 64 := Nat.le_trans (Nat.pow_le_pow_right (by decide) (show w ≤ 6 by omega)) (by decide)
theorem nb_mR {w : Nat} (hw : w < 7) (v : Int32) : nb_R w (v &&& nb_m w) := by
  obtain ⟨j, h1, h2⟩ := pk_andE v w (nb_mn w hw)
  exact ⟨j, h1, h2⟩
theorem nb_mk {w : Nat} (hw : w < 7) {v : Int32} (h : nb_R w v) : v &&& nb_m w = v := by
  obtain ⟨n, hn, rfl⟩ := h
  have hp := nb_pw hw
  rw [pk_andN (by omega) w (nb_mn w hw), Nat.mod_eq_of_lt hn]
theorem nb_fit {w : Nat} (hw : w < 7) {v : Int32} : (¬ v < 0 ∧ v < (1 : Int32) <<< (nI w &&& 31)) ↔ nb_R w v := by
  have hp := nb_pw hw
  rw [nb_sh1 w (by omega)]
  constructor
  · rintro ⟨h0, h⟩
    obtain ⟨j, hj, rfl⟩ := nI_of h0
    rw [nI_ltI hj (by omega)] at h
    exact ⟨j, h, rfl⟩
  · rintro ⟨n, hn, rfl⟩
    exact ⟨nI_pos (by omega), (nI_ltI (by omega) (by omega)).mpr hn⟩
theorem nb_of (v : Int32) {w : Nat} (h : v.toBitVec.toNat < 2 ^ w) : nb_R w v := by
  refine ⟨_, h, Int32.toBitVec_inj.mp ?_⟩
  show _ = BitVec.ofNat 32 _
  simp
def nb_os (v : Int32) : Nat → Int32
  | 0 => 0
  | n + 1 => nb_os v n + ((v >>> (nI n &&& 31)) &&& 1)
theorem nb_os6 : ∀ n, n < 64 → (nb_os (nI n) 6).toBitVec.toNat < 8 := by decide +kernel
theorem nb_and3 : ∀ n, n < 4 → nI n &&& 3 = nI n := by decide +kernel
/-- the component's value of a signal of kind k, neither forced nor held -/
def nb_wX (k w wy : Nat) (num : Int32) (mem : Nat → Int32) (x y z : Int32) : Int32 :=
  match k with
  | 1 => num
  | 3 => (x ^^^ (-1)) &&& nb_m w
  | 4 => x &&& y
  | 5 => x ||| y
  | 6 => x ^^^ y
  | 7 => (x + y) &&& nb_m w
  | 8 => (x - y) &&& nb_m w
  | 9 => (x * y) &&& nb_m w
  | 10 => if x < y then 1 else 0
  | 11 => if x = y then 1 else 0
  | 12 => if x = 1 then y else z
  | 13 => (x <<< (y &&& 31)) &&& nb_m w
  | 14 => x >>> (y &&& 31)
  | 15 => (x <<< (nI wy &&& 31)) ||| y
  | 16 => (x >>> (num &&& 31)) &&& nb_m w
  | 17 => nb_os x 6
  | 18 => mem (x &&& 3).toNatClampNeg
  | _ => 0
/-- the reference's, before its mask -/
def nb_wY (k wy : Nat) (num : Int32) (mem : Nat → Int32) (x y z : Int32) : Int32 :=
  match k with
  | 1 => num
  | 3 => x ^^^ (-1)
  | 4 => x &&& y
  | 5 => x ||| y
  | 6 => x ^^^ y
  | 7 => x + y
  | 8 => x - y
  | 9 => x * y
  | 10 => if x < y then 1 else 0
  | 11 => if x = y then 1 else 0
  | 12 => if x = 1 then y else z
  | 13 => x <<< ((y &&& 3) &&& 31)
  | 14 => x >>> ((y &&& 3) &&& 31)
  | 15 => (x <<< (nI wy &&& 31)) ||| y
  | 16 => x >>> (num &&& 31)
  | 17 => nb_os x 6
  | 18 => mem (x &&& 3).toNatClampNeg
  | _ => 0
/-- what the widths of a signal and of its operands have to do with each other -/
def nb_wf (k w wx wy wz : Nat) : Prop :=
  match k with
  | 3 => wx = w
  | 4 => wx = w ∧ wy = w
  | 5 => wx = w ∧ wy = w
  | 6 => wx = w ∧ wy = w
  | 7 => wx = w ∧ wy = w
  | 8 => wx = w ∧ wy = w
  | 9 => wx = w ∧ wy = w
  | 10 => w = 1
  | 11 => w = 1
  | 12 => wy = w ∧ wz = w
  | 13 => wx = w ∧ wy = 2
  | 14 => wx = w ∧ wy = 2
  | 15 => w = wx + wy
  | 17 => w = 3
  | 18 => w = 4
  | _ => True
theorem nb_wXc (k w wy : Nat) (num : Int32) (mem : Nat → Int32) (x y z x' y' z' : Int32) (hx : 3 ≤ k → x = x') (hy : 4 ≤ k → k ≤ 15 → y = y') (hz : k = 12 → z = z') : nb_wX k w wy num mem x y z = nb_wX k w wy num mem x' y' z' := by
  unfold nb_wX
  split <;> first | rfl | rw [hx (by decide), hy (by decide) (by decide), hz rfl] | rw [hx (by decide), hy (by decide) (by decide)] | rw [hx (by decide)]
theorem nb_wYc (k wy : Nat) (num : Int32) (mem : Nat → Int32) (x y z x' y' z' : Int32) (hx : 3 ≤ k → x = x') (hy : 4 ≤ k → k ≤ 15 → y = y') (hz : k = 12 → z = z') : nb_wY k wy num mem x y z = nb_wY k wy num mem x' y' z' := by
  unfold nb_wY
  split <;> first | rfl | rw [hx (by decide), hy (by decide) (by decide), hz rfl] | rw [hx (by decide), hy (by decide) (by decide)] | rw [hx (by decide)]
theorem nb_R01 (c : Prop) [Decidable c] : nb_R 1 (if c then 1 else 0) := by
  by_cases h : c
  · rw [if_pos h]; exact ⟨1, by decide, rfl⟩
  · rw [if_neg h]; exact ⟨0, by decide, rfl⟩
theorem nb_Rand {w : Nat} {x y : Int32} (hx : nb_R w x) (hy : nb_R w y) : nb_R w (x &&& y) := by
  obtain ⟨a, ha, rfl⟩ := hx
  obtain ⟨b, hb, rfl⟩ := hy
  exact ⟨a &&& b, Nat.and_lt_two_pow _ hb, nx_and a b⟩
theorem nb_or (a b : Nat) : nI a ||| nI b = nI (a ||| b) := by
  apply Int32.toBitVec_inj.1
  show BitVec.ofNat 32 a ||| BitVec.ofNat 32 b = BitVec.ofNat 32 (a ||| b)
  apply BitVec.eq_of_getLsbD_eq
  intro i hi
  simp [hi]
theorem nb_Ror {w : Nat} {x y : Int32} (hx : nb_R w x) (hy : nb_R w y) : nb_R w (x ||| y) := by
  obtain ⟨a, ha, rfl⟩ := hx
  obtain ⟨b, hb, rfl⟩ := hy
  exact ⟨a ||| b, Nat.or_lt_two_pow ha hb, nb_or a b⟩
theorem nb_Rxor {w : Nat} {x y : Int32} (hx : nb_R w x) (hy : nb_R w y) : nb_R w (x ^^^ y) := by
  obtain ⟨a, ha, rfl⟩ := hx
  obtain ⟨b, hb, rfl⟩ := hy
  exact ⟨a ^^^ b, Nat.xor_lt_two_pow ha hb, nx_xor a b⟩
theorem nb_Rshr {w : Nat} (hw : w < 7) {x y : Int32} (hx : nb_R w x) (hy : nb_R 2 y) : nb_R w (x >>> (y &&& 31)) := by
  obtain ⟨a, ha, rfl⟩ := hx
  obtain ⟨b, hb, rfl⟩ := hy
  have hp := nb_pw hw
  have hb4 : b < 4 := hb
  refine ⟨a / 2 ^ b, Nat.lt_of_le_of_lt (Nat.div_le_self _ _) ha, ?_⟩
  exact pk_shrN (by omega) _ b (s_l b (by omega))
theorem nb_Rjoin {w wx wy : Nat} (hx7 : wx < 7) (hy7 : wy < 7) {x y : Int32} (e : w = wx + wy) (hx : nb_R wx x) (hy : nb_R wy y) : nb_R w ((x <<< (nI wy &&& 31)) ||| y) := by
  obtain ⟨a, ha, rfl⟩ := hx
  obtain ⟨b, hb, rfl⟩ := hy
  subst e
  have hpx := nb_pw hx7
  have hpy := nb_pw hy7
  have h1 : a * 2 ^ wy < 2 ^ (wx + wy) := by
    rw [Nat.pow_add]
    exact Nat.mul_lt_mul_of_pos_right ha (Nat.two_pow_pos wy)
  have h2 : b < 2 ^ (wx + wy) := Nat.lt_of_lt_of_le hb (Nat.pow_le_pow_right (by decide) (by omega))
  have h3 : a * 2 ^ wy < 2 ^ 32 := Nat.lt_of_lt_of_le h1 (Nat.pow_le_pow_right (by decide) (by omega))
  rw [pk_shlN _ wy (s_l wy (by omega)) h3, nb_or]
  exact ⟨_, Nat.or_lt_two_pow h1 h2, rfl⟩
theorem nb_y3 {y : Int32} (hy : nb_R 2 y) : y &&& 3 = y := by
  obtain ⟨b, hb, rfl⟩ := hy
  exact nb_and3 b hb
/-- the heart: a signal's value is within its width, and the reference's mask gives the component's value -/
theorem nb_step (k w wx wy wz : Nat) (hw : w < 7) (hx7 : wx < 7) (hy7 : wy < 7) (wf : nb_wf k w wx wy wz) (num : Int32) (hn : k = 1 → nb_R w num) (mem : Nat → Int32) (hm : ∀ i, i < 4 → nb_R 4 (mem i)) (x y z : Int32) (hx : 3 ≤ k → nb_R wx x) (hy : 4 ≤ k → k ≤ 15 → nb_R wy y) (hz : k = 12 → nb_R wz z) (hk : k ≤ 18) (h0 : k ≠ 0) (h2 : k ≠ 2) :
    nb_R w (nb_wX k w wy num mem x y z) ∧ nb_wY k wy num mem x y z &&& nb_m w = nb_wX k w wy num mem x y z := by
  have key : ∀ v : Int32, nb_R w v → nb_R w v ∧ v &&& nb_m w = v := fun v h => ⟨h, nb_mk hw h⟩
  have kem : ∀ v : Int32, nb_R w (v &&& nb_m w) ∧ v &&& nb_m w = v &&& nb_m w := fun v => ⟨nb_mR hw v, rfl⟩
  match k, wf, hn, hx, hy, hz, hk, h0, h2 with
  | 1, _, hn, _, _, _, _, _, _ => exact key _ (hn rfl)
  | 3, _, _, _, _, _, _, _, _ => exact kem _
  | 4, wf, _, hx, hy, _, _, _, _ =>
    obtain ⟨rfl, rfl⟩ := wf
    exact key _ (nb_Rand (hx (by decide)) (hy (by decide) (by decide)))
  | 5, wf, _, hx, hy, _, _, _, _ =>
    obtain ⟨rfl, rfl⟩ := wf
    exact key _ (nb_Ror (hx (by decide)) (hy (by decide) (by decide)))
  | 6, wf, _, hx, hy, _, _, _, _ =>
    obtain ⟨rfl, rfl⟩ := wf
    exact key _ (nb_Rxor (hx (by decide)) (hy (by decide) (by decide)))
  | 7, _, _, _, _, _, _, _, _ => exact kem _
  | 8, _, _, _, _, _, _, _, _ => exact kem _
  | 9, _, _, _, _, _, _, _, _ => exact kem _
  | 10, wf, _, _, _, _, _, _, _ =>
    cases (show w = 1 from wf)
    exact key _ (nb_R01 _)
  | 11, wf, _, _, _, _, _, _, _ =>
    cases (show w = 1 from wf)
    exact key _ (nb_R01 _)
  | 12, wf, _, _, hy, hz, _, _, _ =>
    obtain ⟨e1, e2⟩ := wf
    refine key _ ?_
    show nb_R w (if x = 1 then y else z)
    by_cases q : x = 1
    · rw [if_pos q, ← e1]; exact hy (by decide) (by decide)
    · rw [if_neg q, ← e2]; exact hz rfl
  | 13, wf, _, _, hy, _, _, _, _ =>
    obtain ⟨_, e2⟩ := wf
    have hy2 : nb_R 2 y := e2 ▸ hy (by decide) (by decide)
    refine ⟨nb_mR hw _, ?_⟩
    show (x <<< ((y &&& 3) &&& 31)) &&& nb_m w = (x <<< (y &&& 31)) &&& nb_m w
    rw [nb_y3 hy2]
  | 14, wf, _, hx, hy, _, _, _, _ =>
    obtain ⟨e1, e2⟩ := wf
    have hy2 : nb_R 2 y := e2 ▸ hy (by decide) (by decide)
    have hx2 : nb_R w x := e1 ▸ hx (by decide)
    have t := key _ (nb_Rshr hw hx2 hy2)
    refine ⟨t.1, ?_⟩
    show (x >>> ((y &&& 3) &&& 31)) &&& nb_m w = x >>> (y &&& 31)
    rw [nb_y3 hy2]
    exact t.2
  | 15, wf, _, hx, hy, _, _, _, _ => exact key _ (nb_Rjoin hx7 hy7 wf (hx (by decide)) (hy (by decide) (by decide)))
  | 16, _, _, _, _, _, _, _, _ => exact kem _
  | 17, wf, _, hx, _, _, _, _, _ =>
    cases (show w = 3 from wf)
    obtain ⟨a, ha, rfl⟩ := hx (by decide)
    have hp := nb_pw hx7
    exact key _ (nb_of _ (nb_os6 a (by omega)))
  | 18, wf, _, _, _, _, _, _, _ =>
    cases (show w = 4 from wf)
    refine key _ ?_
    show nb_R 4 (mem (x &&& 3).toNatClampNeg)
    obtain ⟨j, hj, e⟩ := pk_andE x (m := 3) 2 (by decide)
    rw [e, nI_clamp (by omega)]
    exact hm j hj
  | n + 19, _, _, _, _, _, hk, _, _ => exact absurd hk (by omega)
def nb_Loc (F : (Nat → Int32) → Nat → Int32) (c : Nat) : Prop := ∀ j, j < c → ∀ U V : Nat → Int32, (∀ i, i < j → U i = V i) → F U j = F V j
def nb_Sol (F : (Nat → Int32) → Nat → Int32) (n : Nat) (U : Nat → Int32) : Prop := ∀ j, j < n → U j = F U j
theorem nb_sol_step {F : (Nat → Int32) → Nat → Int32} {c i : Nat} {U : Nat → Int32} (L : nb_Loc F c) (hi : i < c) (h : nb_Sol F i U) : nb_Sol F (i + 1) (upd U i (F U i)) := by
  intro j hj
  have e : ∀ m, m < i → upd U i (F U i) m = U m := fun m hm => pk_un (by omega)
  have g : F (upd U i (F U i)) j = F U j := L j (by omega) _ _ (fun m hm => e m (by omega))
  rw [g]
  by_cases q : j = i
  · subst q; exact pk_us
  · rw [e j (by omega)]; exact h j (by omega)
theorem nb_sol_ex {F : (Nat → Int32) → Nat → Int32} {c : Nat} (L : nb_Loc F c) : ∃ U, nb_Sol F c U := by
  have : ∀ n, n ≤ c → ∃ U, nb_Sol F n U := by
    intro n
    induction n with
    | zero => exact fun _ => ⟨fun _ => 0, fun j hj => absurd hj (Nat.not_lt_zero j)⟩
    | succ n ih =>
      intro hn
      obtain ⟨U, hU⟩ := ih (by omega)
      exact ⟨_, nb_sol_step L (by omega) hU⟩
  exact this c (Nat.le_refl c)
/-- a signal as signal leaves it: its kind, its width, its operands earlier signals -/
def nb_ok (kd wd xo yo zo : Nat → Nat) (nums : Nat → Int32) (j : Nat) : Prop :=
  kd j ≤ 18 ∧ 1 ≤ wd j ∧ wd j < 7 ∧ xo j ≤ j ∧ yo j ≤ j ∧ zo j ≤ j ∧ (3 ≤ kd j → xo j < j) ∧ (4 ≤ kd j → kd j ≤ 15 → yo j < j) ∧ (kd j = 12 → zo j < j)
    ∧ (kd j = 1 ∨ kd j = 2 → nb_R (wd j) (nums j)) ∧ nb_wf (kd j) (wd j) (wd (xo j)) (wd (yo j)) (wd (zo j))
def nb_FX (kd wd xo yo zo : Nat → Nat) (nums fo mem base : Nat → Int32) (U : Nat → Int32) (j : Nat) : Int32 :=
  if fo j = -1 then (if kd j = 0 ∨ kd j = 2 then base j else nb_wX (kd j) (wd j) (wd (yo j)) (nums j) mem (U (xo j)) (U (yo j)) (U (zo j))) else fo j
def nb_FY (kd wd xo yo zo : Nat → Nat) (nums fo mem base : Nat → Int32) (U : Nat → Int32) (j : Nat) : Int32 :=
  (if fo j = -1 then (if kd j = 0 ∨ kd j = 2 then base j else nb_wY (kd j) (wd (yo j)) (nums j) mem (U (xo j)) (U (yo j)) (U (zo j))) else fo j) &&& nb_m (wd j)
section
variable {c : Nat} {kd wd xo yo zo : Nat → Nat} {nums fo mem base b1 b2 : Nat → Int32}
theorem nb_locX (ok : ∀ j, j < c → nb_ok kd wd xo yo zo nums j) : nb_Loc (nb_FX kd wd xo yo zo nums fo mem base) c := by
  intro j hj U V e
  obtain ⟨_, _, _, _, _, _, a1, a2, a3, _, _⟩ := ok j hj
  unfold nb_FX
  rw [nb_wXc (kd j) (wd j) (wd (yo j)) (nums j) mem _ _ _ _ _ _ (fun h => e _ (a1 h)) (fun h h' => e _ (a2 h h')) (fun h => e _ (a3 h))]
theorem nb_locY (ok : ∀ j, j < c → nb_ok kd wd xo yo zo nums j) : nb_Loc (nb_FY kd wd xo yo zo nums fo mem base) c := by
  intro j hj U V e
  obtain ⟨_, _, _, _, _, _, a1, a2, a3, _, _⟩ := ok j hj
  unfold nb_FY
  rw [nb_wYc (kd j) (wd (yo j)) (nums j) mem _ _ _ _ _ _ (fun h => e _ (a1 h)) (fun h h' => e _ (a2 h h')) (fun h => e _ (a3 h))]
def nb_Cl (c : Nat) (kd xo yo zo : Nat → Nat) (S : Nat → Prop) : Prop := ∀ j, j < c → S j → (3 ≤ kd j → S (xo j)) ∧ (4 ≤ kd j → kd j ≤ 15 → S (yo j)) ∧ (kd j = 12 → S (zo j))
theorem nb_agree (ok : ∀ j, j < c → nb_ok kd wd xo yo zo nums j) (hf : ∀ j, j < c → fo j = -1 ∨ nb_R (wd j) (fo j)) (hm : ∀ i, i < 4 → nb_R 4 (mem i))
    (S : Nat → Prop) (cl : nb_Cl c kd xo yo zo S) (hb : ∀ j, j < c → S j → kd j = 0 ∨ kd j = 2 → b1 j = b2 j ∧ nb_R (wd j) (b2 j)) {U V : Nat → Int32}
    (hU : nb_Sol (nb_FX kd wd xo yo zo nums fo mem b1) c U) (hV : nb_Sol (nb_FY kd wd xo yo zo nums fo mem b2) c V) :
    ∀ n j, j < n → j < c → S j → U j = V j ∧ nb_R (wd j) (U j) := by
  intro n
  induction n with
  | zero => intro j h; omega
  | succ n ih =>
    intro j hjn hj hS
    obtain ⟨k18, w1, w7, x0, y0, z0, a1, a2, a3, an, wf⟩ := ok j hj
    obtain ⟨c1, c2, c3⟩ := cl j hj hS
    rw [hU j hj, hV j hj]
    unfold nb_FX nb_FY
    by_cases hfo : fo j = -1
    · rw [if_pos hfo, if_pos hfo]
      by_cases hb0 : kd j = 0 ∨ kd j = 2
      · rw [if_pos hb0, if_pos hb0]
        obtain ⟨e, r⟩ := hb j hj hS hb0
        rw [e, nb_mk w7 r]
        exact ⟨rfl, r⟩
      · rw [if_neg hb0, if_neg hb0]
        have gx : 3 ≤ kd j → U (xo j) = V (xo j) ∧ nb_R (wd (xo j)) (U (xo j)) := fun h => ih _ (by have := a1 h; omega) (by have := a1 h; omega) (c1 h)
        have gy : 4 ≤ kd j → kd j ≤ 15 → U (yo j) = V (yo j) ∧ nb_R (wd (yo j)) (U (yo j)) := fun h h' => ih _ (by have := a2 h h'; omega) (by have := a2 h h'; omega) (c2 h h')
        have gz : kd j = 12 → U (zo j) = V (zo j) ∧ nb_R (wd (zo j)) (U (zo j)) := fun h => ih _ (by have := a3 h; omega) (by have := a3 h; omega) (c3 h)
        have o := nb_step (kd j) (wd j) (wd (xo j)) (wd (yo j)) (wd (zo j)) w7 (ok _ (by omega)).2.2.1 (ok _ (by omega)).2.2.1 wf (nums j) (fun h => an (Or.inl h)) mem hm (U (xo j)) (U (yo j)) (U (zo j)) (fun h => (gx h).2) (fun h h' => (gy h h').2) (fun h => (gz h).2) k18 (fun h => hb0 (Or.inl h)) (fun h => hb0 (Or.inr h))
        rw [← nb_wYc (kd j) (wd (yo j)) (nums j) mem _ _ _ _ _ _ (fun h => (gx h).1) (fun h h' => (gy h h').1) (fun h => (gz h).1), o.2]
        exact ⟨rfl, o.1⟩
    · rw [if_neg hfo, if_neg hfo]
      have r : nb_R (wd j) (fo j) := (hf j hj).resolve_left hfo
      rw [nb_mk w7 r]
      exact ⟨rfl, r⟩
end
