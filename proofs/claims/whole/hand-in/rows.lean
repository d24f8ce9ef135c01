section
/-! rows of kit/rows, pasted -/
theorem pk_us {f : Nat → Int32} {k : Nat} {x : Int32} : upd f k x k = x := if_pos rfl
theorem pk_un {f : Nat → Int32} {k j : Nat} {x : Int32} (h : j ≠ k) : upd f k x j = f j := if_neg h
theorem pk_sub {a b : Nat} (h : b ≤ a) : nI a - nI b = nI (a - b) := by
  obtain ⟨c, rfl⟩ : ∃ c, a = c + b := ⟨a - b, by omega⟩
  rw [← nI_add, Int32.add_sub_cancel, Nat.add_sub_cancel]
theorem pk_m1 (n : Nat) : nI (n + 1) + (-1) = nI n := by
  rw [← nI_1, Int32.add_assoc, show (1 : Int32) + (-1) = 0 from rfl, Int32.add_zero]
theorem pk_mul (a b : Nat) : nI a * nI b = nI (a * b) := (Int32.ofNat_mul a b).symm
theorem pk_ix (x : Int32) {n : Nat} (hn : n < 2 ^ 31) : x < 0 ∨ nI n ≤ x ∨ ∃ j : Nat, j < n ∧ x = nI j := by
  by_cases h : x < 0
  · exact Or.inl h
  · obtain ⟨j, hj, rfl⟩ := nI_of h
    by_cases h2 : j < n
    · exact Or.inr (Or.inr ⟨j, h2, rfl⟩)
    · exact Or.inr (Or.inl (nI_le (by omega) hj))
theorem pk_le {x y : Int32} {A B : Prop} (a b : Nat) (f : a ≤ b → A) (g : b < a → B) (hx : x = nI a := by rfl) (hy : y = nI b := by rfl) (ha : a < 2 ^ 31 := by omega) (hb : b < 2 ^ 31 := by omega) : (x ≤ y → A) ∧ (¬ x ≤ y → B) := by
  subst hx hy
  rw [nI_leI ha hb]
  exact ⟨f, fun z => g (by omega)⟩
theorem pk_lt {x y : Int32} {A B : Prop} (a b : Nat) (f : a < b → A) (g : b ≤ a → B) (hx : x = nI a := by rfl) (hy : y = nI b := by rfl) (ha : a < 2 ^ 31 := by omega) (hb : b < 2 ^ 31 := by omega) : (x < y → A) ∧ (¬ x < y → B) := by
  subst hx hy
  rw [nI_ltI ha hb]
  exact ⟨f, fun z => g (by omega)⟩
theorem pk_eq {x y : Int32} {A B : Prop} (a b : Nat) (f : a = b → A) (g : a ≠ b → B) (hx : x = nI a := by rfl) (hy : y = nI b := by rfl) (ha : a < 2 ^ 31 := by omega) (hb : b < 2 ^ 31 := by omega) : (x = y → A) ∧ (¬ x = y → B) := by
  subst hx hy
  rw [nI_eq ha hb]
  exact ⟨f, g⟩
theorem pk_in {x : Int32} (n N : Nat) (h : n < N) (hx : x = nI n := by rfl) (hN : N < 2 ^ 31 := by omega) : vp_in x N := by
  subst hx
  exact vp_in_nI h hN
theorem pk_cl {x : Int32} (n : Nat) (hx : x = nI n := by rfl) (h : n < 2 ^ 31 := by omega) : x.toNatClampNeg = n := by
  subst hx
  exact nI_clamp h
theorem pk_tn {n : Nat} (h : n < 2 ^ 32) : (nI n).toBitVec.toNat = n := Nat.mod_eq_of_lt h
theorem pk_and (x : Int32) {m : Int32} (k : Nat) (hm : m.toBitVec.toNat = 2 ^ k - 1) : x &&& m = nI (x.toBitVec.toNat % 2 ^ k) := by
  apply Int32.toBitVec_inj.mp
  apply BitVec.eq_of_toNat_eq
  rw [Int32.toBitVec_and, BitVec.toNat_and, hm, Nat.and_two_pow_sub_one_eq_mod]
  show _ = (BitVec.ofNat 32 _).toNat
  rw [BitVec.toNat_ofNat]
  exact (Nat.mod_eq_of_lt (Nat.lt_of_le_of_lt (Nat.mod_le _ _) x.toBitVec.isLt)).symm
theorem pk_andN {n : Nat} (h : n < 2 ^ 32) {m : Int32} (k : Nat) (hm : m.toBitVec.toNat = 2 ^ k - 1) : nI n &&& m = nI (n % 2 ^ k) := by
  rw [pk_and _ k hm, pk_tn h]
theorem pk_andE (x : Int32) {m : Int32} (k : Nat) (hm : m.toBitVec.toNat = 2 ^ k - 1) : ∃ j : Nat, j < 2 ^ k ∧ x &&& m = nI j := ⟨_, Nat.mod_lt _ (Nat.two_pow_pos k), pk_and x k hm⟩
theorem pk_andIn (x : Int32) {m : Int32} (k : Nat) (hm : m.toBitVec.toNat = 2 ^ k - 1) (hk : k ≤ 30) : vp_in (x &&& m) (2 ^ k) := by
  obtain ⟨j, hj, e⟩ := pk_andE x k hm
  rw [e]
  exact vp_in_nI hj (Nat.lt_of_le_of_lt (Nat.pow_le_pow_right (by decide) hk) (by decide))
theorem pk_shl (a s : Int32) (k : Nat) (hs : (s.toBitVec.smod 32).toNat = k) : (a <<< s).toBitVec.toNat = a.toBitVec.toNat * 2 ^ k % 2 ^ 32 := by
  show (a.toBitVec <<< (s.toBitVec.smod 32).toNat).toNat = _
  rw [hs, BitVec.toNat_shiftLeft, Nat.shiftLeft_eq]
theorem pk_shlN {n : Nat} (s : Int32) (k : Nat) (hs : (s.toBitVec.smod 32).toNat = k) (h : n * 2 ^ k < 2 ^ 32) : nI n <<< s = nI (n * 2 ^ k) := by
  apply Int32.toBitVec_inj.mp
  apply BitVec.eq_of_toNat_eq
  have hn : n < 2 ^ 32 := Nat.lt_of_le_of_lt (Nat.le_mul_of_pos_right n (Nat.two_pow_pos k)) h
  rw [pk_shl _ _ k hs, pk_tn hn, pk_tn h, Nat.mod_eq_of_lt h]
theorem pk_shr (a s : Int32) (k : Nat) (hs : (s.toBitVec.smod 32).toNat = k) : (a >>> s).toInt = a.toInt >>> k := by
  show (a.toBitVec.sshiftRight (s.toBitVec.smod 32).toNat).toInt = _
  rw [hs, BitVec.toInt_sshiftRight]
  rfl
theorem pk_shrN {n : Nat} (h : n < 2 ^ 31) (s : Int32) (k : Nat) (hs : (s.toBitVec.smod 32).toNat = k) : nI n >>> s = nI (n / 2 ^ k) := by
  apply Int32.toInt_inj.mp
  have h2 : n / 2 ^ k ≤ n := Nat.div_le_self _ _
  rw [pk_shr _ _ k hs, nI_toInt h, nI_toInt (by omega), Int.shiftRight_eq_div_pow]
  rfl
theorem ek_if {c d A B : Prop} (e : c ↔ d) (f : d → A) (g : ¬ d → B) : (c → A) ∧ (¬ c → B) :=
  ⟨fun z => f (e.mp z), fun z => g (fun y => z (e.mpr y))⟩
theorem ek_v {α : Sort _} {P : α → Prop} {a b : α} (e : a = b) (h : P b) : P a := e ▸ h
def bt (x : Int32) (i : Nat) : Bool := x.toBitVec.getLsbD i
theorem b_ext {x y : Int32} (h : ∀ i, i < 32 → bt x i = bt y i) : x = y := Int32.toBitVec_inj.mp (BitVec.eq_of_getLsbD_eq (fun i hi => h i hi))
theorem b_or (x y : Int32) (i : Nat) : bt (x ||| y) i = (bt x i || bt y i) := by unfold bt; rw [Int32.toBitVec_or, BitVec.getLsbD_or]
theorem b_and (x y : Int32) (i : Nat) : bt (x &&& y) i = (bt x i && bt y i) := by unfold bt; rw [Int32.toBitVec_and, BitVec.getLsbD_and]
theorem b_big {x : Int32} {i : Nat} (h : 32 ≤ i) : bt x i = false := BitVec.getLsbD_of_ge _ _ h
theorem s_l : ∀ n, n < 32 → ((nI n &&& 31).toBitVec.smod 32).toNat = n := by decide +kernel
theorem b_shl (n : Nat) (hn : n < 32) (x : Int32) {i : Nat} (hi : i < 32) : bt (x <<< (nI n &&& 31)) i = (decide (n ≤ i) && bt x (i - n)) := by
  unfold bt
  rw [Int32.toBitVec_shiftLeft]
  show (x.toBitVec <<< ((nI n &&& 31).toBitVec.smod 32).toNat).getLsbD i = _
  rw [s_l n hn, BitVec.getLsbD_shiftLeft]
  rcases Nat.lt_or_ge i n with h | h
  · simp [h, Nat.not_le.mpr h]
  · simp [hi, h, Nat.not_lt.mpr h]
theorem b_sshr (n : Nat) (hn : n < 32) (x : Int32) {i : Nat} (hi : i < 32) : bt (x >>> (nI n &&& 31)) i = if n + i < 32 then bt x (n + i) else bt x 31 := by
  unfold bt
  rw [Int32.toBitVec_shiftRight]
  show (x.toBitVec.sshiftRight ((nI n &&& 31).toBitVec.smod 32).toNat).getLsbD i = _
  rw [s_l n hn, BitVec.getLsbD_sshiftRight, BitVec.msb_eq_getLsbD_last]
  simp [hi]
theorem nx_and (a b : Nat) : nI a &&& nI b = nI (a &&& b) := by
  apply Int32.toBitVec_inj.1
  show BitVec.ofNat 32 a &&& BitVec.ofNat 32 b = BitVec.ofNat 32 (a &&& b)
  apply BitVec.eq_of_getLsbD_eq
  intro i hi
  simp [hi]
theorem nx_xor (a b : Nat) : nI a ^^^ nI b = nI (a ^^^ b) := by
  apply Int32.toBitVec_inj.1
  show BitVec.ofNat 32 a ^^^ BitVec.ofNat 32 b = BitVec.ofNat 32 (a ^^^ b)
  apply BitVec.eq_of_getLsbD_eq
  intro i hi
  simp [hi]
end
section
/-! ranges, masks, the values of both sides as solutions of one local equation -/
def nb_R (w : Nat) (v : Int32) : Prop := ∃ n : Nat, n < 2 ^ w ∧ v = nI n
def nb_m (w : Nat) : Int32 := ((1 : Int32) <<< (nI w &&& 31)) - 1
theorem nb_sh1 : ∀ w, w < 24 → (1 : Int32) <<< (nI w &&& 31) = nI (2 ^ w) := by decide +kernel
theorem nb_mn : ∀ w, w < 7 → (nb_m w).toBitVec.toNat = 2 ^ w - 1 := by decide +kernel
theorem nb_pw {w : Nat} (hw : w < 7) : 2 ^ w ≤ 64 := Nat.le_trans (Nat.pow_le_pow_right (by decide) (show w ≤ 6 by omega)) (by decide)
theorem nb_mR {w : Nat} (hw : w < 7) (v : Int32) : nb_R w (v &&& nb_m w) := by
  obtain ⟨j, h1, h2⟩ := pk_andE v w (nb_mn w hw)
  exact ⟨j, h1, h2⟩
theorem nb_mk {w : Nat} (hw : w < 7) {v : Int32} (h : nb_R w v) : v &&& nb_m w = v := by
  obtain ⟨n, hn, rfl⟩ := h
  have hp := nb_pw hw
  rw [pk_andN (by omega) w (nb_mn w hw), Nat.mod_eq_of_lt hn]
theorem nb_fit {w : Nat} (hw : w < 7) {v : Int32} : (¬ v < 0 ∧ v < (1 : Int32) <<< (nI w &&& 31)) ↔ nb_R w v := by
  have hp := nb_pw hw
  rw [nb_sh1 w (by omega)]
  constructor
  · rintro ⟨h0, h⟩
    obtain ⟨j, hj, rfl⟩ := nI_of h0
    rw [nI_ltI hj (by omega)] at h
    exact ⟨j, h, rfl⟩
  · rintro ⟨n, hn, rfl⟩
    exact ⟨nI_pos (by omega), (nI_ltI (by omega) (by omega)).mpr hn⟩
theorem nb_of (v : Int32) {w : Nat} (h : v.toBitVec.toNat < 2 ^ w) : nb_R w v := by
  refine ⟨_, h, Int32.toBitVec_inj.mp ?_⟩
  show _ = BitVec.ofNat 32 _
  simp
def nb_os (v : Int32) : Nat → Int32
  | 0 => 0
  | n + 1 => nb_os v n + ((v >>> (nI n &&& 31)) &&& 1)
theorem nb_os6 : ∀ n, n < 64 → (nb_os (nI n) 6).toBitVec.toNat < 8 := by decide +kernel
theorem nb_and3 : ∀ n, n < 4 → nI n &&& 3 = nI n := by decide +kernel
/-- the component's value of a signal of kind k, neither forced nor held -/
def nb_wX (k w wy : Nat) (num : Int32) (mem : Nat → Int32) (x y z : Int32) : Int32 :=
  match k with
  | 1 => num
  | 3 => (x ^^^ (-1)) &&& nb_m w
  | 4 => x &&& y
  | 5 => x ||| y
  | 6 => x ^^^ y
  | 7 => (x + y) &&& nb_m w
  | 8 => (x - y) &&& nb_m w
  | 9 => (x * y) &&& nb_m w
  | 10 => if x < y then 1 else 0
  | 11 => if x = y then 1 else 0
  | 12 => if x = 1 then y else z
  | 13 => (x <<< (y &&& 31)) &&& nb_m w
  | 14 => x >>> (y &&& 31)
  | 15 => (x <<< (nI wy &&& 31)) ||| y
  | 16 => (x >>> (num &&& 31)) &&& nb_m w
  | 17 => nb_os x 6
  | 18 => mem (x &&& 3).toNatClampNeg
  | _ => 0
/-- the reference's, before its mask -/
def nb_wY (k wy : Nat) (num : Int32) (mem : Nat → Int32) (x y z : Int32) : Int32 :=
  match k with
  | 1 => num
  | 3 => x ^^^ (-1)
  | 4 => x &&& y
  | 5 => x ||| y
  | 6 => x ^^^ y
  | 7 => x + y
  | 8 => x - y
  | 9 => x * y
  | 10 => if x < y then 1 else 0
  | 11 => if x = y then 1 else 0
  | 12 => if x = 1 then y else z
  | 13 => x <<< ((y &&& 3) &&& 31)
  | 14 => x >>> ((y &&& 3) &&& 31)
  | 15 => (x <<< (nI wy &&& 31)) ||| y
  | 16 => x >>> (num &&& 31)
  | 17 => nb_os x 6
  | 18 => mem (x &&& 3).toNatClampNeg
  | _ => 0
/-- what the widths of a signal and of its operands have to do with each other -/
def nb_wf (k w wx wy wz : Nat) : Prop :=
  match k with
  | 3 => wx = w
  | 4 => wx = w ∧ wy = w
  | 5 => wx = w ∧ wy = w
  | 6 => wx = w ∧ wy = w
  | 7 => wx = w ∧ wy = w
  | 8 => wx = w ∧ wy = w
  | 9 => wx = w ∧ wy = w
  | 10 => w = 1
  | 11 => w = 1
  | 12 => wy = w ∧ wz = w
  | 13 => wx = w ∧ wy = 2
  | 14 => wx = w ∧ wy = 2
  | 15 => w = wx + wy
  | 17 => w = 3
  | 18 => w = 4
  | _ => True
theorem nb_wXc (k w wy : Nat) (num : Int32) (mem : Nat → Int32) (x y z x' y' z' : Int32) (hx : 3 ≤ k → x = x') (hy : 4 ≤ k → k ≤ 15 → y = y') (hz : k = 12 → z = z') : nb_wX k w wy num mem x y z = nb_wX k w wy num mem x' y' z' := by
  unfold nb_wX
  split <;> first | rfl | rw [hx (by decide), hy (by decide) (by decide), hz rfl] | rw [hx (by decide), hy (by decide) (by decide)] | rw [hx (by decide)]
theorem nb_wYc (k wy : Nat) (num : Int32) (mem : Nat → Int32) (x y z x' y' z' : Int32) (hx : 3 ≤ k → x = x') (hy : 4 ≤ k → k ≤ 15 → y = y') (hz : k = 12 → z = z') : nb_wY k wy num mem x y z = nb_wY k wy num mem x' y' z' := by
  unfold nb_wY
  split <;> first | rfl | rw [hx (by decide), hy (by decide) (by decide), hz rfl] | rw [hx (by decide), hy (by decide) (by decide)] | rw [hx (by decide)]
theorem nb_R01 (c : Prop) [Decidable c] : nb_R 1 (if c then 1 else 0) := by
  by_cases h : c
  · rw [if_pos h]; exact ⟨1, by decide, rfl⟩
  · rw [if_neg h]; exact ⟨0, by decide, rfl⟩
theorem nb_Rand {w : Nat} {x y : Int32} (hx : nb_R w x) (hy : nb_R w y) : nb_R w (x &&& y) := by
  obtain ⟨a, ha, rfl⟩ := hx
  obtain ⟨b, hb, rfl⟩ := hy
  exact ⟨a &&& b, Nat.and_lt_two_pow _ hb, nx_and a b⟩
theorem nb_or (a b : Nat) : nI a ||| nI b = nI (a ||| b) := by
  apply Int32.toBitVec_inj.1
  show BitVec.ofNat 32 a ||| BitVec.ofNat 32 b = BitVec.ofNat 32 (a ||| b)
  apply BitVec.eq_of_getLsbD_eq
  intro i hi
  simp [hi]
theorem nb_Ror {w : Nat} {x y : Int32} (hx : nb_R w x) (hy : nb_R w y) : nb_R w (x ||| y) := by
  obtain ⟨a, ha, rfl⟩ := hx
  obtain ⟨b, hb, rfl⟩ := hy
  exact ⟨a ||| b, Nat.or_lt_two_pow ha hb, nb_or a b⟩
theorem nb_Rxor {w : Nat} {x y : Int32} (hx : nb_R w x) (hy : nb_R w y) : nb_R w (x ^^^ y) := by
  obtain ⟨a, ha, rfl⟩ := hx
  obtain ⟨b, hb, rfl⟩ := hy
  exact ⟨a ^^^ b, Nat.xor_lt_two_pow ha hb, nx_xor a b⟩
theorem nb_Rshr {w : Nat} (hw : w < 7) {x y : Int32} (hx : nb_R w x) (hy : nb_R 2 y) : nb_R w (x >>> (y &&& 31)) := by
  obtain ⟨a, ha, rfl⟩ := hx
  obtain ⟨b, hb, rfl⟩ := hy
  have hp := nb_pw hw
  have hb4 : b < 4 := hb
  refine ⟨a / 2 ^ b, Nat.lt_of_le_of_lt (Nat.div_le_self _ _) ha, ?_⟩
  exact pk_shrN (by omega) _ b (s_l b (by omega))
theorem nb_Rjoin {w wx wy : Nat} (hx7 : wx < 7) (hy7 : wy < 7) {x y : Int32} (e : w = wx + wy) (hx : nb_R wx x) (hy : nb_R wy y) : nb_R w ((x <<< (nI wy &&& 31)) ||| y) := by
  obtain ⟨a, ha, rfl⟩ := hx
  obtain ⟨b, hb, rfl⟩ := hy
  subst e
  have hpx := nb_pw hx7
  have hpy := nb_pw hy7
  have h1 : a * 2 ^ wy < 2 ^ (wx + wy) := by
    rw [Nat.pow_add]
    exact Nat.mul_lt_mul_of_pos_right ha (Nat.two_pow_pos wy)
  have h2 : b < 2 ^ (wx + wy) := Nat.lt_of_lt_of_le hb (Nat.pow_le_pow_right (by decide) (by omega))
  have h3 : a * 2 ^ wy < 2 ^ 32 := Nat.lt_of_lt_of_le h1 (Nat.pow_le_pow_right (by decide) (by omega))
  rw [pk_shlN _ wy (s_l wy (by omega)) h3, nb_or]
  exact ⟨_, Nat.or_lt_two_pow h1 h2, rfl⟩
theorem nb_y3 {y : Int32} (hy : nb_R 2 y) : y &&& 3 = y := by
  obtain ⟨b, hb, rfl⟩ := hy
  exact nb_and3 b hb
/-- the heart: a signal's value is within its width, and the reference's mask gives the component's value -/
theorem nb_step (k w wx wy wz : Nat) (hw : w < 7) (hx7 : wx < 7) (hy7 : wy < 7) (wf : nb_wf k w wx wy wz) (num : Int32) (hn : k = 1 → nb_R w num) (mem : Nat → Int32) (hm : ∀ i, i < 4 → nb_R 4 (mem i)) (x y z : Int32) (hx : 3 ≤ k → nb_R wx x) (hy : 4 ≤ k → k ≤ 15 → nb_R wy y) (hz : k = 12 → nb_R wz z) (hk : k ≤ 18) (h0 : k ≠ 0) (h2 : k ≠ 2) :
    nb_R w (nb_wX k w wy num mem x y z) ∧ nb_wY k wy num mem x y z &&& nb_m w = nb_wX k w wy num mem x y z := by
  have key : ∀ v : Int32, nb_R w v → nb_R w v ∧ v &&& nb_m w = v := fun v h => ⟨h, nb_mk hw h⟩
  have kem : ∀ v : Int32, nb_R w (v &&& nb_m w) ∧ v &&& nb_m w = v &&& nb_m w := fun v => ⟨nb_mR hw v, rfl⟩
  match k, wf, hn, hx, hy, hz, hk, h0, h2 with
  | 1, _, hn, _, _, _, _, _, _ => exact key _ (hn rfl)
  | 3, _, _, _, _, _, _, _, _ => exact kem _
  | 4, wf, _, hx, hy, _, _, _, _ =>
    obtain ⟨rfl, rfl⟩ := wf
    exact key _ (nb_Rand (hx (by decide)) (hy (by decide) (by decide)))
  | 5, wf, _, hx, hy, _, _, _, _ =>
    obtain ⟨rfl, rfl⟩ := wf
    exact key _ (nb_Ror (hx (by decide)) (hy (by decide) (by decide)))
  | 6, wf, _, hx, hy, _, _, _, _ =>
    obtain ⟨rfl, rfl⟩ := wf
    exact key _ (nb_Rxor (hx (by decide)) (hy (by decide) (by decide)))
  | 7, _, _, _, _, _, _, _, _ => exact kem _
  | 8, _, _, _, _, _, _, _, _ => exact kem _
  | 9, _, _, _, _, _, _, _, _ => exact kem _
  | 10, wf, _, _, _, _, _, _, _ =>
    cases (show w = 1 from wf)
    exact key _ (nb_R01 _)
  | 11, wf, _, _, _, _, _, _, _ =>
    cases (show w = 1 from wf)
    exact key _ (nb_R01 _)
  | 12, wf, _, _, hy, hz, _, _, _ =>
    obtain ⟨e1, e2⟩ := wf
    refine key _ ?_
    show nb_R w (if x = 1 then y else z)
    by_cases q : x = 1
    · rw [if_pos q, ← e1]; exact hy (by decide) (by decide)
    · rw [if_neg q, ← e2]; exact hz rfl
  | 13, wf, _, _, hy, _, _, _, _ =>
    obtain ⟨_, e2⟩ := wf
    have hy2 : nb_R 2 y := e2 ▸ hy (by decide) (by decide)
    refine ⟨nb_mR hw _, ?_⟩
    show (x <<< ((y &&& 3) &&& 31)) &&& nb_m w = (x <<< (y &&& 31)) &&& nb_m w
    rw [nb_y3 hy2]
  | 14, wf, _, hx, hy, _, _, _, _ =>
    obtain ⟨e1, e2⟩ := wf
    have hy2 : nb_R 2 y := e2 ▸ hy (by decide) (by decide)
    have hx2 : nb_R w x := e1 ▸ hx (by decide)
    have t := key _ (nb_Rshr hw hx2 hy2)
    refine ⟨t.1, ?_⟩
    show (x >>> ((y &&& 3) &&& 31)) &&& nb_m w = x >>> (y &&& 31)
    rw [nb_y3 hy2]
    exact t.2
  | 15, wf, _, hx, hy, _, _, _, _ => exact key _ (nb_Rjoin hx7 hy7 wf (hx (by decide)) (hy (by decide) (by decide)))
  | 16, _, _, _, _, _, _, _, _ => exact kem _
  | 17, wf, _, hx, _, _, _, _, _ =>
    cases (show w = 3 from wf)
    obtain ⟨a, ha, rfl⟩ := hx (by decide)
    have hp := nb_pw hx7
    exact key _ (nb_of _ (nb_os6 a (by omega)))
  | 18, wf, _, _, _, _, _, _, _ =>
    cases (show w = 4 from wf)
    refine key _ ?_
    show nb_R 4 (mem (x &&& 3).toNatClampNeg)
    obtain ⟨j, hj, e⟩ := pk_andE x (m := 3) 2 (by decide)
    rw [e, nI_clamp (by omega)]
    exact hm j hj
  | n + 19, _, _, _, _, _, hk, _, _ => exact absurd hk (by omega)
def nb_Loc (F : (Nat → Int32) → Nat → Int32) (c : Nat) : Prop := ∀ j, j < c → ∀ U V : Nat → Int32, (∀ i, i < j → U i = V i) → F U j = F V j
def nb_Sol (F : (Nat → Int32) → Nat → Int32) (n : Nat) (U : Nat → Int32) : Prop := ∀ j, j < n → U j = F U j
theorem nb_sol_step {F : (Nat → Int32) → Nat → Int32} {c i : Nat} {U : Nat → Int32} (L : nb_Loc F c) (hi : i < c) (h : nb_Sol F i U) : nb_Sol F (i + 1) (upd U i (F U i)) := by
  intro j hj
  have e : ∀ m, m < i → upd U i (F U i) m = U m := fun m hm => pk_un (by omega)
  have g : F (upd U i (F U i)) j = F U j := L j (by omega) _ _ (fun m hm => e m (by omega))
  rw [g]
  by_cases q : j = i
  · subst q; exact pk_us
  · rw [e j (by omega)]; exact h j (by omega)
theorem nb_sol_ex {F : (Nat → Int32) → Nat → Int32} {c : Nat} (L : nb_Loc F c) : ∃ U, nb_Sol F c U := by
  have : ∀ n, n ≤ c → ∃ U, nb_Sol F n U := by
    intro n
    induction n with
    | zero => exact fun _ => ⟨fun _ => 0, fun j hj => absurd hj (Nat.not_lt_zero j)⟩
    | succ n ih =>
      intro hn
      obtain ⟨U, hU⟩ := ih (by omega)
      exact ⟨_, nb_sol_step L (by omega) hU⟩
  exact this c (Nat.le_refl c)
/-- a signal as signal leaves it: its kind, its width, its operands earlier signals -/
def nb_ok (kd wd xo yo zo : Nat → Nat) (nums : Nat → Int32) (j : Nat) : Prop :=
  kd j ≤ 18 ∧ 1 ≤ wd j ∧ wd j < 7 ∧ xo j ≤ j ∧ yo j ≤ j ∧ zo j ≤ j ∧ (3 ≤ kd j → xo j < j) ∧ (4 ≤ kd j → kd j ≤ 15 → yo j < j) ∧ (kd j = 12 → zo j < j)
    ∧ (kd j = 1 ∨ kd j = 2 → nb_R (wd j) (nums j)) ∧ nb_wf (kd j) (wd j) (wd (xo j)) (wd (yo j)) (wd (zo j))
def nb_FX (kd wd xo yo zo : Nat → Nat) (nums fo mem base : Nat → Int32) (U : Nat → Int32) (j : Nat) : Int32 :=
  if fo j = -1 then (if kd j = 0 ∨ kd j = 2 then base j else nb_wX (kd j) (wd j) (wd (yo j)) (nums j) mem (U (xo j)) (U (yo j)) (U (zo j))) else fo j
def nb_FY (kd wd xo yo zo : Nat → Nat) (nums fo mem base : Nat → Int32) (U : Nat → Int32) (j : Nat) : Int32 :=
  (if fo j = -1 then (if kd j = 0 ∨ kd j = 2 then base j else nb_wY (kd j) (wd (yo j)) (nums j) mem (U (xo j)) (U (yo j)) (U (zo j))) else fo j) &&& nb_m (wd j)
section
variable {c : Nat} {kd wd xo yo zo : Nat → Nat} {nums fo mem base b1 b2 : Nat → Int32}
theorem nb_locX (ok : ∀ j, j < c → nb_ok kd wd xo yo zo nums j) : nb_Loc (nb_FX kd wd xo yo zo nums fo mem base) c := by
  intro j hj U V e
  obtain ⟨_, _, _, _, _, _, a1, a2, a3, _, _⟩ := ok j hj
  unfold nb_FX
  rw [nb_wXc (kd j) (wd j) (wd (yo j)) (nums j) mem _ _ _ _ _ _ (fun h => e _ (a1 h)) (fun h h' => e _ (a2 h h')) (fun h => e _ (a3 h))]
theorem nb_locY (ok : ∀ j, j < c → nb_ok kd wd xo yo zo nums j) : nb_Loc (nb_FY kd wd xo yo zo nums fo mem base) c := by
  intro j hj U V e
  obtain ⟨_, _, _, _, _, _, a1, a2, a3, _, _⟩ := ok j hj
  unfold nb_FY
  rw [nb_wYc (kd j) (wd (yo j)) (nums j) mem _ _ _ _ _ _ (fun h => e _ (a1 h)) (fun h h' => e _ (a2 h h')) (fun h => e _ (a3 h))]
def nb_Cl (c : Nat) (kd xo yo zo : Nat → Nat) (S : Nat → Prop) : Prop := ∀ j, j < c → S j → (3 ≤ kd j → S (xo j)) ∧ (4 ≤ kd j → kd j ≤ 15 → S (yo j)) ∧ (kd j = 12 → S (zo j))
theorem nb_agree (ok : ∀ j, j < c → nb_ok kd wd xo yo zo nums j) (hf : ∀ j, j < c → fo j = -1 ∨ nb_R (wd j) (fo j)) (hm : ∀ i, i < 4 → nb_R 4 (mem i))
    (S : Nat → Prop) (cl : nb_Cl c kd xo yo zo S) (hb : ∀ j, j < c → S j → kd j = 0 ∨ kd j = 2 → b1 j = b2 j ∧ nb_R (wd j) (b2 j)) {U V : Nat → Int32}
    (hU : nb_Sol (nb_FX kd wd xo yo zo nums fo mem b1) c U) (hV : nb_Sol (nb_FY kd wd xo yo zo nums fo mem b2) c V) :
    ∀ n j, j < n → j < c → S j → U j = V j ∧ nb_R (wd j) (U j) := by
  intro n
  induction n with
  | zero => intro j h; omega
  | succ n ih =>
    intro j hjn hj hS
    obtain ⟨k18, w1, w7, x0, y0, z0, a1, a2, a3, an, wf⟩ := ok j hj
    obtain ⟨c1, c2, c3⟩ := cl j hj hS
    rw [hU j hj, hV j hj]
    unfold nb_FX nb_FY
    by_cases hfo : fo j = -1
    · rw [if_pos hfo, if_pos hfo]
      by_cases hb0 : kd j = 0 ∨ kd j = 2
      · rw [if_pos hb0, if_pos hb0]
        obtain ⟨e, r⟩ := hb j hj hS hb0
        rw [e, nb_mk w7 r]
        exact ⟨rfl, r⟩
      · rw [if_neg hb0, if_neg hb0]
        have gx : 3 ≤ kd j → U (xo j) = V (xo j) ∧ nb_R (wd (xo j)) (U (xo j)) := fun h => ih _ (by have := a1 h; omega) (by have := a1 h; omega) (c1 h)
        have gy : 4 ≤ kd j → kd j ≤ 15 → U (yo j) = V (yo j) ∧ nb_R (wd (yo j)) (U (yo j)) := fun h h' => ih _ (by have := a2 h h'; omega) (by have := a2 h h'; omega) (c2 h h')
        have gz : kd j = 12 → U (zo j) = V (zo j) ∧ nb_R (wd (zo j)) (U (zo j)) := fun h => ih _ (by have := a3 h; omega) (by have := a3 h; omega) (c3 h)
        have o := nb_step (kd j) (wd j) (wd (xo j)) (wd (yo j)) (wd (zo j)) w7 (ok _ (by omega)).2.2.1 (ok _ (by omega)).2.2.1 wf (nums j) (fun h => an (Or.inl h)) mem hm (U (xo j)) (U (yo j)) (U (zo j)) (fun h => (gx h).2) (fun h h' => (gy h h').2) (fun h => (gz h).2) k18 (fun h => hb0 (Or.inl h)) (fun h => hb0 (Or.inr h))
        rw [← nb_wYc (kd j) (wd (yo j)) (nums j) mem _ _ _ _ _ _ (fun h => (gx h).1) (fun h h' => (gy h h').1) (fun h => (gz h).1), o.2]
        exact ⟨rfl, o.1⟩
    · rw [if_neg hfo, if_neg hfo]
      have r : nb_R (wd j) (fo j) := (hf j hj).resolve_left hfo
      rw [nb_mk w7 r]
      exact ⟨rfl, r⟩
end
end
section
/-! the cone of a signal: the component's bits, the reference's marks -/
theorem nb_bit (x : Int32) (i : Nat) (hi : i < 32) : ((x >>> (nI i &&& 31)) &&& 1) = 1 ↔ bt x i = true := by
  have h := b_sshr i hi x (i := 0) (by decide)
  rw [if_pos (by omega), Nat.add_zero] at h
  rw [← h, pk_and _ (m := 1) 1 (by decide)]
  unfold bt
  rw [← BitVec.testBit_toNat, Nat.testBit_zero, show (1 : Int32) = nI 1 from rfl, nI_eq (by omega) (by omega), decide_eq_true_eq]
theorem nb_one : ∀ i, i < 32 → ∀ j, j < 32 → bt ((1 : Int32) <<< (nI i &&& 31)) j = decide (j = i) := by decide +kernel
def nb_rq (kd xo yo zo : Nat → Nat) (rch : Nat → Int32) (j : Nat) : Prop :=
  ∀ i, i < 24 → (bt (rch j) i = true ↔ i = j ∨ (3 ≤ kd j ∧ bt (rch (xo j)) i = true) ∨ ((4 ≤ kd j ∧ kd j ≤ 15) ∧ bt (rch (yo j)) i = true) ∨ (kd j = 12 ∧ bt (rch (zo j)) i = true))
section
variable {c : Nat} {kd wd xo yo zo : Nat → Nat} {nums rch : Nat → Int32}
theorem nb_self (hc : c ≤ 24) (rq : ∀ j, j < c → nb_rq kd xo yo zo rch j) {s : Nat} (hs : s < c) : bt (rch s) s = true := (rq s hs s (by omega)).mpr (Or.inl rfl)
theorem nb_rcl (hc : c ≤ 24) (ok : ∀ j, j < c → nb_ok kd wd xo yo zo nums j) (rq : ∀ j, j < c → nb_rq kd xo yo zo rch j) :
    ∀ n s, s < n → s < c → nb_Cl c kd xo yo zo (fun i => bt (rch s) i = true) := by
  intro n
  induction n with
  | zero => intro s h; omega
  | succ n ih =>
    intro s hsn hs j hj hb
    obtain ⟨_, _, _, _, _, _, a1, a2, a3, _, _⟩ := ok s hs
    obtain ⟨_, _, _, _, _, _, b1, b2, b3, _, _⟩ := ok j hj
    have R := rq s hs
    rcases (R j (by omega)).mp hb with e | ⟨h, hb'⟩ | ⟨h, hb'⟩ | ⟨h, hb'⟩
    · subst e
      refine ⟨fun h => ?_, fun h h' => ?_, fun h => ?_⟩
      · exact (R _ (by have := a1 h; omega)).mpr (Or.inr (Or.inl ⟨h, nb_self hc rq (by have := a1 h; omega)⟩))
      · exact (R _ (by have := a2 h h'; omega)).mpr (Or.inr (Or.inr (Or.inl ⟨⟨h, h'⟩, nb_self hc rq (by have := a2 h h'; omega)⟩)))
      · exact (R _ (by have := a3 h; omega)).mpr (Or.inr (Or.inr (Or.inr ⟨h, nb_self hc rq (by have := a3 h; omega)⟩)))
    · have q := ih (xo s) (by have := a1 h; omega) (by have := a1 h; omega) j hj hb'
      refine ⟨fun g => ?_, fun g g' => ?_, fun g => ?_⟩
      · exact (R _ (by have := b1 g; omega)).mpr (Or.inr (Or.inl ⟨h, q.1 g⟩))
      · exact (R _ (by have := b2 g g'; omega)).mpr (Or.inr (Or.inl ⟨h, q.2.1 g g'⟩))
      · exact (R _ (by have := b3 g; omega)).mpr (Or.inr (Or.inl ⟨h, q.2.2 g⟩))
    · have q := ih (yo s) (by have := a2 h.1 h.2; omega) (by have := a2 h.1 h.2; omega) j hj hb'
      refine ⟨fun g => ?_, fun g g' => ?_, fun g => ?_⟩
      · exact (R _ (by have := b1 g; omega)).mpr (Or.inr (Or.inr (Or.inl ⟨h, q.1 g⟩)))
      · exact (R _ (by have := b2 g g'; omega)).mpr (Or.inr (Or.inr (Or.inl ⟨h, q.2.1 g g'⟩)))
      · exact (R _ (by have := b3 g; omega)).mpr (Or.inr (Or.inr (Or.inl ⟨h, q.2.2 g⟩)))
    · have q := ih (zo s) (by have := a3 h; omega) (by have := a3 h; omega) j hj hb'
      refine ⟨fun g => ?_, fun g g' => ?_, fun g => ?_⟩
      · exact (R _ (by have := b1 g; omega)).mpr (Or.inr (Or.inr (Or.inr ⟨h, q.1 g⟩)))
      · exact (R _ (by have := b2 g g'; omega)).mpr (Or.inr (Or.inr (Or.inr ⟨h, q.2.1 g g'⟩)))
      · exact (R _ (by have := b3 g; omega)).mpr (Or.inr (Or.inr (Or.inr ⟨h, q.2.2 g⟩)))
theorem nb_rup (hc : c ≤ 24) (ok : ∀ j, j < c → nb_ok kd wd xo yo zo nums j) (rq : ∀ j, j < c → nb_rq kd xo yo zo rch j) {M : Nat → Prop} (cl : nb_Cl c kd xo yo zo M) :
    ∀ n s, s < n → s < c → M s → ∀ i, i < c → bt (rch s) i = true → M i := by
  intro n
  induction n with
  | zero => intro s h; omega
  | succ n ih =>
    intro s hsn hs hM i hi hb
    obtain ⟨_, _, _, _, _, _, a1, a2, a3, _, _⟩ := ok s hs
    obtain ⟨c1, c2, c3⟩ := cl s hs hM
    rcases (rq s hs i (by omega)).mp hb with e | ⟨h, hb'⟩ | ⟨h, hb'⟩ | ⟨h, hb'⟩
    · exact e ▸ hM
    · exact ih (xo s) (by have := a1 h; omega) (by have := a1 h; omega) (c1 h) i hi hb'
    · exact ih (yo s) (by have := a2 h.1 h.2; omega) (by have := a2 h.1 h.2; omega) (c2 h.1 h.2) i hi hb'
    · exact ih (zo s) (by have := a3 h; omega) (by have := a3 h; omega) (c3 h) i hi hb'
/-- the cone of two signals is closed, holds both, and lies in every closed set that holds both -/
theorem nb_cone (hc : c ≤ 24) (ok : ∀ j, j < c → nb_ok kd wd xo yo zo nums j) (rq : ∀ j, j < c → nb_rq kd xo yo zo rch j) {s t : Nat} (hs : s < c) (ht : t < c) :
    nb_Cl c kd xo yo zo (fun i => bt (rch s ||| rch t) i = true) ∧ bt (rch s ||| rch t) s = true ∧ bt (rch s ||| rch t) t = true
      ∧ ∀ M : Nat → Prop, nb_Cl c kd xo yo zo M → M s → M t → ∀ i, i < c → bt (rch s ||| rch t) i = true → M i := by
  refine ⟨?_, ?_, ?_, ?_⟩
  · intro j hj hb
    have hb2 : (bt (rch s) j || bt (rch t) j) = true := by rw [← b_or]; exact hb
    rw [Bool.or_eq_true] at hb2
    have lift : ∀ a, bt (rch s) a = true ∨ bt (rch t) a = true → bt (rch s ||| rch t) a = true := fun a h => by rw [b_or, Bool.or_eq_true]; exact h
    rcases hb2 with h | h
    · have q := nb_rcl hc ok rq (s + 1) s (by omega) hs j hj h
      exact ⟨fun g => lift _ (Or.inl (q.1 g)), fun g g' => lift _ (Or.inl (q.2.1 g g')), fun g => lift _ (Or.inl (q.2.2 g))⟩
    · have q := nb_rcl hc ok rq (t + 1) t (by omega) ht j hj h
      exact ⟨fun g => lift _ (Or.inr (q.1 g)), fun g g' => lift _ (Or.inr (q.2.1 g g')), fun g => lift _ (Or.inr (q.2.2 g))⟩
  · rw [b_or, nb_self hc rq hs, Bool.true_or]
  · rw [b_or, nb_self hc rq ht, Bool.or_true]
  · intro M cl ms mt i hi hb
    rw [b_or, Bool.or_eq_true] at hb
    rcases hb with h | h
    · exact nb_rup hc ok rq cl (s + 1) s (by omega) hs ms i hi h
    · exact nb_rup hc ok rq cl (t + 1) t (by omega) ht mt i hi h
end
/-- a signal of the support -/
def nb_sp (cone : Int32) (kd : Nat → Nat) (j : Nat) : Bool := bt cone j && (decide (kd j = 0) || decide (kd j = 2))
theorem nb_sp_iff {cone : Int32} {kd : Nat → Nat} {j : Nat} : nb_sp cone kd j = true ↔ bt cone j = true ∧ (kd j = 0 ∨ kd j = 2) := by
  unfold nb_sp
  rw [Bool.and_eq_true, Bool.or_eq_true, decide_eq_true_eq, decide_eq_true_eq]
def nb_sw (P : Nat → Bool) (wd : Nat → Nat) : Nat → Nat
  | 0 => 0
  | n + 1 => nb_sw P wd n + (if P n = true then wd n else 0)
theorem nb_sw_t {P : Nat → Bool} {wd : Nat → Nat} {n : Nat} (h : P n = true) : nb_sw P wd (n + 1) = nb_sw P wd n + wd n := by
  rw [nb_sw, if_pos h]
theorem nb_sw_f {P : Nat → Bool} {wd : Nat → Nat} {n : Nat} (h : ¬ P n = true) : nb_sw P wd (n + 1) = nb_sw P wd n := by
  rw [nb_sw, if_neg h, Nat.add_zero]
theorem nb_sw_le {P : Nat → Bool} {wd : Nat → Nat} {c : Nat} (h : ∀ j, j < c → wd j < 7) : ∀ n, n ≤ c → nb_sw P wd n ≤ 6 * n := by
  intro n
  induction n with
  | zero => intro _; exact Nat.le_refl 0
  | succ n ih =>
    intro hn
    have h1 := ih (by omega)
    have h2 := h n (by omega)
    by_cases q : P n = true
    · rw [nb_sw_t q]; omega
    · rw [nb_sw_f q]; omega
/-- what is left of a way's bits before signal n, and the value that signal j is given -/
def nb_rs (P : Nat → Bool) (wd : Nat → Nat) (way : Int32) : Nat → Int32
  | 0 => way
  | n + 1 => if P n = true then nb_rs P wd way n >>> (nI (wd n) &&& 31) else nb_rs P wd way n
theorem nb_rs_t {P : Nat → Bool} {wd : Nat → Nat} {way : Int32} {n : Nat} (h : P n = true) : nb_rs P wd way (n + 1) = nb_rs P wd way n >>> (nI (wd n) &&& 31) := by
  rw [nb_rs, if_pos h]
theorem nb_rs_f {P : Nat → Bool} {wd : Nat → Nat} {way : Int32} {n : Nat} (h : ¬ P n = true) : nb_rs P wd way (n + 1) = nb_rs P wd way n := by
  rw [nb_rs, if_neg h]
def nb_tv (P : Nat → Bool) (wd : Nat → Nat) (way : Int32) (j : Nat) : Int32 := nb_rs P wd way j &&& nb_m (wd j)
end
section
/-! the small methods of both sides: what they ask of their caller -/
def nb_sg (c : Nat) (s : Int32) : Prop := ∃ a, a < c ∧ s = nI a
section
variable {c : Nat} {cs sw pp pd pe : Int32} {K W ox oy oz nums rch D nx en fo H nt mem nm vals tr ex ey ez nty va td mt : Nat → Int32} {kd wd xo yo zo dp : Nat → Nat}
theorem nx_isS_t (post : Int32 → Prop) (hc : c ≤ 24) {a : Nat} (ha : a < c) (h : post 1) : wpX_isSignal post ((nI c), cs, sw, pp, pd, pe, K, W, ox, oy, oz, nums, rch, D, nx, en, fo, H, nt, mem, nm, vals, tr) (nI a) :=
  br_f (nI_pos (by omega)) (br_f (nI_ge ha (by omega)) h)
theorem nx_isS_f (post : Int32 → Prop) (hc : c ≤ 24) {s : Int32} (hs : ¬ nb_sg c s) (h : post 0) : wpX_isSignal post ((nI c), cs, sw, pp, pd, pe, K, W, ox, oy, oz, nums, rch, D, nx, en, fo, H, nt, mem, nm, vals, tr) s := by
  by_cases q0 : s < 0
  · exact br_t q0 h
  · rcases pk_ix s (n := c) (by omega) with q | q | ⟨j, hj, q⟩
    · exact absurd q q0
    · exact br_f q0 (br_t q h)
    · exact absurd ⟨j, hj, q⟩ hs
theorem nx_isW_t (post : Int32 → Prop) (hc : c ≤ 24) (hW : ∀ j, W j = nI (wd j)) {a : Nat} (ha : a < c) {p : Int32} (e : nI (wd a) = p) (h : post 1) : wpX_isOfWidth post ((nI c), cs, sw, pp, pd, pe, K, W, ox, oy, oz, nums, rch, D, nx, en, fo, H, nt, mem, nm, vals, tr) (nI a) p := by
  unfold wpX_isOfWidth
  refine nx_isS_t _ hc ha ?_
  refine br_f (by decide) ⟨vp_in_nI (by omega) (by omega), ?_⟩
  rw [nI_clamp (by omega), hW]
  exact br_t e h
theorem nx_isW_f (post : Int32 → Prop) (hc : c ≤ 24) (hW : ∀ j, W j = nI (wd j)) {s p : Int32} (hs : ¬ ∃ a, a < c ∧ s = nI a ∧ nI (wd a) = p) (h : post 0) : wpX_isOfWidth post ((nI c), cs, sw, pp, pd, pe, K, W, ox, oy, oz, nums, rch, D, nx, en, fo, H, nt, mem, nm, vals, tr) s p := by
  unfold wpX_isOfWidth
  by_cases q : nb_sg c s
  · obtain ⟨a, ha, rfl⟩ := q
    refine nx_isS_t _ hc ha ?_
    refine br_f (by decide) ⟨vp_in_nI (by omega) (by omega), ?_⟩
    rw [nI_clamp (by omega), hW]
    exact br_f (fun e => hs ⟨a, ha, rfl, e⟩) h
  · exact nx_isS_f _ hc q (br_t rfl h)
theorem nx_al_t (post : Int32 → Prop) (hc : c ≤ 24) (hW : ∀ j, W j = nI (wd j)) {a b : Nat} (ha : a < c) (hb : b < c) (e : wd a = wd b) (h : post 1) : wpX_areOfSameWidth post ((nI c), cs, sw, pp, pd, pe, K, W, ox, oy, oz, nums, rch, D, nx, en, fo, H, nt, mem, nm, vals, tr) (nI a) (nI b) := by
  unfold wpX_areOfSameWidth
  refine nx_isS_t _ hc ha ?_
  refine br_f (by decide) ?_
  refine nx_isS_t _ hc hb ?_
  refine br_f (by decide) ⟨vp_in_nI (by omega) (by omega), vp_in_nI (by omega) (by omega), ?_⟩
  rw [nI_clamp (by omega), nI_clamp (by omega), hW, hW, e]
  exact br_t rfl h
theorem nx_al_f (post : Int32 → Prop) (hc : c ≤ 24) (hW : ∀ j, W j = nI (wd j)) (h7 : ∀ j, j < c → wd j < 7) {s t : Int32} (hs : ¬ ∃ a b, a < c ∧ b < c ∧ s = nI a ∧ t = nI b ∧ wd a = wd b) (h : post 0) : wpX_areOfSameWidth post ((nI c), cs, sw, pp, pd, pe, K, W, ox, oy, oz, nums, rch, D, nx, en, fo, H, nt, mem, nm, vals, tr) s t := by
  unfold wpX_areOfSameWidth
  by_cases q : nb_sg c s
  · obtain ⟨a, ha, rfl⟩ := q
    refine nx_isS_t _ hc ha ?_
    refine br_f (by decide) ?_
    by_cases q2 : nb_sg c t
    · obtain ⟨b, hb, rfl⟩ := q2
      refine nx_isS_t _ hc hb ?_
      refine br_f (by decide) ⟨vp_in_nI (by omega) (by omega), vp_in_nI (by omega) (by omega), ?_⟩
      rw [nI_clamp (by omega), nI_clamp (by omega), hW, hW]
      refine br_f (fun e => hs ⟨a, b, ha, hb, rfl, rfl, ?_⟩) h
      have := h7 a ha
      have := h7 b hb
      exact (nI_eq (by omega) (by omega)).mp e
    · exact nx_isS_f _ hc q2 (br_t rfl h)
  · exact nx_isS_f _ hc q (br_t rfl h)
theorem ny_isS_t (post : Int32 → Prop) (hc : c ≤ 24) {a : Nat} (ha : a < c) (h : post 1) : wpY_isSignal post ((nI c), cs, sw, pp, pd, pe, K, ex, ey, ez, W, H, nty, fo, va, nx, en, mem, nm, td, mt) (nI a) :=
  br_f (nI_pos (by omega)) (br_f (nI_ge ha (by omega)) h)
theorem ny_isS_f (post : Int32 → Prop) (hc : c ≤ 24) {s : Int32} (hs : ¬ nb_sg c s) (h : post 0) : wpY_isSignal post ((nI c), cs, sw, pp, pd, pe, K, ex, ey, ez, W, H, nty, fo, va, nx, en, mem, nm, td, mt) s := by
  by_cases q0 : s < 0
  · exact br_t q0 h
  · rcases pk_ix s (n := c) (by omega) with q | q | ⟨j, hj, q⟩
    · exact absurd q q0
    · exact br_f q0 (br_t q h)
    · exact absurd ⟨j, hj, q⟩ hs
theorem ny_isW_t (post : Int32 → Prop) (hc : c ≤ 24) (hW : ∀ j, W j = nI (wd j)) {a : Nat} (ha : a < c) {p : Int32} (e : nI (wd a) = p) (h : post 1) : wpY_isWide post ((nI c), cs, sw, pp, pd, pe, K, ex, ey, ez, W, H, nty, fo, va, nx, en, mem, nm, td, mt) (nI a) p := by
  unfold wpY_isWide
  refine ny_isS_t _ hc ha ?_
  refine br_f (by decide) ⟨vp_in_nI (by omega) (by omega), ?_⟩
  rw [nI_clamp (by omega), hW]
  exact br_t e h
theorem ny_isW_f (post : Int32 → Prop) (hc : c ≤ 24) (hW : ∀ j, W j = nI (wd j)) {s p : Int32} (hs : ¬ ∃ a, a < c ∧ s = nI a ∧ nI (wd a) = p) (h : post 0) : wpY_isWide post ((nI c), cs, sw, pp, pd, pe, K, ex, ey, ez, W, H, nty, fo, va, nx, en, mem, nm, td, mt) s p := by
  unfold wpY_isWide
  by_cases q : nb_sg c s
  · obtain ⟨a, ha, rfl⟩ := q
    refine ny_isS_t _ hc ha ?_
    refine br_f (by decide) ⟨vp_in_nI (by omega) (by omega), ?_⟩
    rw [nI_clamp (by omega), hW]
    exact br_f (fun e => hs ⟨a, ha, rfl, e⟩) h
  · exact ny_isS_f _ hc q (br_t rfl h)
theorem ny_al_t (post : Int32 → Prop) (hc : c ≤ 24) (hW : ∀ j, W j = nI (wd j)) {a b : Nat} (ha : a < c) (hb : b < c) (e : wd a = wd b) (h : post 1) : wpY_alike post ((nI c), cs, sw, pp, pd, pe, K, ex, ey, ez, W, H, nty, fo, va, nx, en, mem, nm, td, mt) (nI a) (nI b) := by
  unfold wpY_alike
  refine ny_isS_t _ hc ha ?_
  refine br_f (by decide) ?_
  refine ny_isS_t _ hc hb ?_
  refine br_f (by decide) ⟨vp_in_nI (by omega) (by omega), vp_in_nI (by omega) (by omega), ?_⟩
  rw [nI_clamp (by omega), nI_clamp (by omega), hW, hW, e]
  exact br_t rfl h
theorem ny_al_f (post : Int32 → Prop) (hc : c ≤ 24) (hW : ∀ j, W j = nI (wd j)) (h7 : ∀ j, j < c → wd j < 7) {s t : Int32} (hs : ¬ ∃ a b, a < c ∧ b < c ∧ s = nI a ∧ t = nI b ∧ wd a = wd b) (h : post 0) : wpY_alike post ((nI c), cs, sw, pp, pd, pe, K, ex, ey, ez, W, H, nty, fo, va, nx, en, mem, nm, td, mt) s t := by
  unfold wpY_alike
  by_cases q : nb_sg c s
  · obtain ⟨a, ha, rfl⟩ := q
    refine ny_isS_t _ hc ha ?_
    refine br_f (by decide) ?_
    by_cases q2 : nb_sg c t
    · obtain ⟨b, hb, rfl⟩ := q2
      refine ny_isS_t _ hc hb ?_
      refine br_f (by decide) ⟨vp_in_nI (by omega) (by omega), vp_in_nI (by omega) (by omega), ?_⟩
      rw [nI_clamp (by omega), nI_clamp (by omega), hW, hW]
      refine br_f (fun e => hs ⟨a, b, ha, hb, rfl, rfl, ?_⟩) h
      have := h7 a ha
      have := h7 b hb
      exact (nI_eq (by omega) (by omega)).mp e
    · exact ny_isS_f _ hc q2 (br_t rfl h)
  · exact ny_isS_f _ hc q (br_t rfl h)
theorem nx_isK_t (post : Int32 → Prop) (hc : c ≤ 24) (hK : ∀ j, K j = nI (kd j)) {a : Nat} (ha : a < c) {p : Int32} (e : nI (kd a) = p) (h : post 1) : wpX_isOfKind post ((nI c), cs, sw, pp, pd, pe, K, W, ox, oy, oz, nums, rch, D, nx, en, fo, H, nt, mem, nm, vals, tr) (nI a) p := by
  unfold wpX_isOfKind
  refine nx_isS_t _ hc ha ?_
  refine br_f (by decide) ⟨vp_in_nI (by omega) (by omega), ?_⟩
  rw [nI_clamp (by omega), hK]
  exact br_t e h
theorem nx_isK_f (post : Int32 → Prop) (hc : c ≤ 24) (hK : ∀ j, K j = nI (kd j)) {s p : Int32} (hs : ¬ ∃ a, a < c ∧ s = nI a ∧ nI (kd a) = p) (h : post 0) : wpX_isOfKind post ((nI c), cs, sw, pp, pd, pe, K, W, ox, oy, oz, nums, rch, D, nx, en, fo, H, nt, mem, nm, vals, tr) s p := by
  unfold wpX_isOfKind
  by_cases q : nb_sg c s
  · obtain ⟨a, ha, rfl⟩ := q
    refine nx_isS_t _ hc ha ?_
    refine br_f (by decide) ⟨vp_in_nI (by omega) (by omega), ?_⟩
    rw [nI_clamp (by omega), hK]
    exact br_f (fun e => hs ⟨a, ha, rfl, e⟩) h
  · exact nx_isS_f _ hc q (br_t rfl h)
theorem nx_fw_t (post : Int32 → Prop) {w : Nat} (hw : w < 7) {v : Int32} (r : nb_R w v) (h : post 1) : wpX_fitsWidth post v (nI w) := by
  have q := (nb_fit hw).mpr r
  exact br_f q.1 (br_f (Int32.not_le.mpr q.2) h)
theorem nx_fw_f (post : Int32 → Prop) {w : Nat} (hw : w < 7) {v : Int32} (r : ¬ nb_R w v) (h : post 0) : wpX_fitsWidth post v (nI w) := by
  by_cases q0 : v < 0
  · exact br_t q0 h
  · refine br_f q0 (br_t ?_ h)
    rcases Classical.em ((1 : Int32) <<< (nI w &&& 31) ≤ v) with q | q
    · exact q
    · exact absurd ((nb_fit hw).mp ⟨q0, Int32.not_le.mp q⟩) r
theorem nb_a7 : ∀ w, w < 7 → (nI w &&& 7) = nI w := by decide +kernel
theorem ny_ir_t (post : Int32 → Prop) {w : Nat} (h1 : 1 ≤ w) (hw : w < 7) {v : Int32} (r : nb_R w v) (h : post 1) : wpY_inRange post ((nI c), cs, sw, pp, pd, pe, K, ex, ey, ez, W, H, nty, fo, va, nx, en, mem, nm, td, mt) v (nI w) := by
  have q := (nb_fit hw).mpr r
  refine br_f (nI_nlt (b := 1) h1 (by omega)) (br_f (nI_nlt (a := 6) (by omega) (by omega)) (br_f q.1 (br_f ?_ h)))
  rw [nb_a7 w hw]
  exact Int32.not_le.mpr q.2
theorem ny_ir_f (post : Int32 → Prop) {w : Nat} (h1 : 1 ≤ w) (hw : w < 7) {v : Int32} (r : ¬ nb_R w v) (h : post 0) : wpY_inRange post ((nI c), cs, sw, pp, pd, pe, K, ex, ey, ez, W, H, nty, fo, va, nx, en, mem, nm, td, mt) v (nI w) := by
  refine br_f (nI_nlt (b := 1) h1 (by omega)) (br_f (nI_nlt (a := 6) (by omega) (by omega)) ?_)
  by_cases q0 : v < 0
  · exact br_t q0 h
  · refine br_f q0 (br_t ?_ h)
    rw [nb_a7 w hw]
    rcases Classical.em ((1 : Int32) <<< (nI w &&& 31) ≤ v) with q | q
    · exact q
    · exact absurd ((nb_fit hw).mp ⟨q0, Int32.not_le.mp q⟩) r
theorem nx_ones (post : Int32 → Prop) (v : Int32) (h : post (nb_os v 6)) : wpX_countOnes post v := by
  have key : ∀ d i, i + d = 6 → wX_countOnes_4 post v (d + 1) (nb_os v i) (nI i) := by
    intro d
    induction d with
    | zero =>
      intro i hi
      have : i = 6 := by omega
      subst this
      exact br_t (by decide) h
    | succ d ih =>
      intro i hi
      refine br_f (nI_ge (b := 6) (by omega) (by omega)) (nm_e (nm_r (nI_1 i) (ih (i + 1) (by omega))))
  exact ⟨7, key 6 0 rfl⟩
theorem ny_ones (post : Int32 → Prop) (v : Int32) (h : post (nb_os v 6)) : wpY_ones post ((nI c), cs, sw, pp, pd, pe, K, ex, ey, ez, W, H, nty, fo, va, nx, en, mem, nm, td, mt) v := by
  have key : ∀ d i, i + d = 6 → wY_ones_4 post v (nI c) cs sw pp pd pe K ex ey ez W H nty fo va nx en mem nm td mt (d + 1) (nb_os v i) (nI i) := by
    intro d
    induction d with
    | zero =>
      intro i hi
      have : i = 6 := by omega
      subst this
      exact br_t (by decide) h
    | succ d ih =>
      intro i hi
      refine br_f (nI_ge (b := 6) (by omega) (by omega)) (nm_e (nm_r (nI_1 i) (ih (i + 1) (by omega))))
  exact ⟨7, key 6 0 rfl⟩
end
end
section
/-! settle and work: the values are a solution -/
section
variable {c : Nat} {cs sw pp pd pe : Int32} {K W ox oy oz nums rch D nx en fo H nt mem nm vals tr ex ey ez nty va td mt : Nat → Int32} {kd wd xo yo zo dp : Nat → Nat}
theorem nx_wo (post : Int32 → Prop) (hc : c ≤ 24) (hK : ∀ j, K j = nI (kd j)) (hW : ∀ j, W j = nI (wd j)) (hx : ∀ j, ox j = nI (xo j)) (hy : ∀ j, oy j = nI (yo j)) (hz : ∀ j, oz j = nI (zo j)) (ok : ∀ j, j < c → nb_ok kd wd xo yo zo nums j) {i : Nat} (hi : i < c) (h0 : kd i ≠ 0) (h2 : kd i ≠ 2)
    (h : post (nb_wX (kd i) (wd i) (wd (yo i)) (nums i) mem (vals (xo i)) (vals (yo i)) (vals (zo i)))) : wpX_workOut post ((nI c), cs, sw, pp, pd, pe, K, W, ox, oy, oz, nums, rch, D, nx, en, fo, H, nt, mem, nm, vals, tr) (nI i) := by
  obtain ⟨k18, w1, w7, x0, y0, z0, _⟩ := ok i hi
  have x1 : vp_in (nI i) 24 := vp_in_nI (by omega) (by omega)
  have x2 : (nI i).toNatClampNeg = i := nI_clamp (by omega)
  have a1 : vp_in (ox i) 24 := by rw [hx]; exact vp_in_nI (by omega) (by omega)
  have a2 : (ox i).toNatClampNeg = xo i := by rw [hx]; exact nI_clamp (by omega)
  have b1 : vp_in (oy i) 24 := by rw [hy]; exact vp_in_nI (by omega) (by omega)
  have b2 : (oy i).toNatClampNeg = yo i := by rw [hy]; exact nI_clamp (by omega)
  have c1 : vp_in (oz i) 24 := by rw [hz]; exact vp_in_nI (by omega) (by omega)
  have c2 : (oz i).toNatClampNeg = zo i := by rw [hz]; exact nI_clamp (by omega)
  have m : ((1 : Int32) <<< (W i &&& 31)) - 1 = nb_m (wd i) := by rw [hW]; rfl
  have wy : W (yo i) = nI (wd (yo i)) := hW _
  have kk : K i = nI (kd i) := hK i
  unfold wpX_workOut
  simp only [x1, x2, a1, a2, b1, b2, c1, c2, m, wy, true_and, forall_eq]
  generalize vals (xo i) = x at *
  generalize vals (yo i) = y at *
  generalize vals (zo i) = z at *
  generalize kd i = k at *
  match k, k18, h0, h2, kk, h with
  | 0, _, h0, _, _, _ => exact absurd rfl h0
  | 2, _, _, h2, _, _ => exact absurd rfl h2
  | n + 19, k18, _, _, _, _ => exact absurd k18 (by omega)
  | 1, _, _, _, kk, h =>
    have e : K i = 1 := kk
    rw [e]
    exact br_f (by decide) (br_f (by decide) (br_t rfl h))
  | 3, _, _, _, kk, h =>
    have e : K i = 3 := kk
    rw [e]
    exact br_f (by decide) (br_f (by decide) (br_f (by decide) (br_f (by decide) (br_t rfl h))))
  | 4, _, _, _, kk, h =>
    have e : K i = 4 := kk
    rw [e]
    exact br_f (by decide) (br_f (by decide) (br_f (by decide) (br_f (by decide) (br_f (by decide) (br_t rfl h)))))
  | 5, _, _, _, kk, h =>
    have e : K i = 5 := kk
    rw [e]
    exact br_f (by decide) (br_f (by decide) (br_f (by decide) (br_f (by decide) (br_f (by decide) (br_f (by decide) (br_t rfl h))))))
  | 6, _, _, _, kk, h =>
    have e : K i = 6 := kk
    rw [e]
    exact br_f (by decide) (br_f (by decide) (br_f (by decide) (br_f (by decide) (br_f (by decide) (br_f (by decide) (br_f (by decide) (br_t rfl h)))))))
  | 7, _, _, _, kk, h =>
    have e : K i = 7 := kk
    rw [e]
    exact br_f (by decide) (br_f (by decide) (br_f (by decide) (br_f (by decide) (br_f (by decide) (br_f (by decide) (br_f (by decide) (br_f (by decide) (br_t rfl h))))))))
  | 8, _, _, _, kk, h =>
    have e : K i = 8 := kk
    rw [e]
    exact br_f (by decide) (br_f (by decide) (br_f (by decide) (br_f (by decide) (br_f (by decide) (br_f (by decide) (br_f (by decide) (br_f (by decide) (br_f (by decide) (br_t rfl h)))))))))
  | 9, _, _, _, kk, h =>
    have e : K i = 9 := kk
    rw [e]
    exact br_f (by decide) (br_f (by decide) (br_f (by decide) (br_f (by decide) (br_f (by decide) (br_f (by decide) (br_f (by decide) (br_f (by decide) (br_f (by decide) (br_f (by decide) (br_t rfl h))))))))))
  | 10, _, _, _, kk, h =>
    have e : K i = 10 := kk
    rw [e]
    have h' : post (if x < y then 1 else 0) := h
    refine br_f (by decide) (br_f (by decide) (br_f (by decide) (br_f (by decide) (br_f (by decide) (br_f (by decide) (br_f (by decide) (br_f (by decide) (br_f (by decide) (br_f (by decide) (br_f (by decide) (br_t rfl ?_)))))))))))
    by_cases q : y ≤ x
    · rw [if_neg (Int32.not_lt.mpr q)] at h'; exact br_t q h'
    · rw [if_pos (Int32.not_le.mp q)] at h'; exact br_f q h'
  | 11, _, _, _, kk, h =>
    have e : K i = 11 := kk
    rw [e]
    have h' : post (if x = y then 1 else 0) := h
    refine br_f (by decide) (br_f (by decide) (br_f (by decide) (br_f (by decide) (br_f (by decide) (br_f (by decide) (br_f (by decide) (br_f (by decide) (br_f (by decide) (br_f (by decide) (br_f (by decide) (br_f (by decide) (br_t rfl ?_))))))))))))
    by_cases q : x = y
    · rw [if_pos q] at h'; exact br_t q h'
    · rw [if_neg q] at h'; exact br_f q h'
  | 12, _, _, _, kk, h =>
    have e : K i = 12 := kk
    rw [e]
    have h' : post (if x = 1 then y else z) := h
    refine br_f (by decide) (br_f (by decide) (br_f (by decide) (br_f (by decide) (br_f (by decide) (br_f (by decide) (br_f (by decide) (br_f (by decide) (br_f (by decide) (br_f (by decide) (br_f (by decide) (br_f (by decide) (br_f (by decide) (br_t rfl ?_)))))))))))))
    by_cases q : x = 1
    · rw [if_pos q] at h'; exact br_t q h'
    · rw [if_neg q] at h'; exact br_f q h'
  | 13, _, _, _, kk, h =>
    have e : K i = 13 := kk
    rw [e]
    exact br_f (by decide) (br_f (by decide) (br_f (by decide) (br_f (by decide) (br_f (by decide) (br_f (by decide) (br_f (by decide) (br_f (by decide) (br_f (by decide) (br_f (by decide) (br_f (by decide) (br_f (by decide) (br_f (by decide) (br_f (by decide) (br_t rfl h))))))))))))))
  | 14, _, _, _, kk, h =>
    have e : K i = 14 := kk
    rw [e]
    exact br_f (by decide) (br_f (by decide) (br_f (by decide) (br_f (by decide) (br_f (by decide) (br_f (by decide) (br_f (by decide) (br_f (by decide) (br_f (by decide) (br_f (by decide) (br_f (by decide) (br_f (by decide) (br_f (by decide) (br_f (by decide) (br_f (by decide) (br_t rfl h)))))))))))))))
  | 15, _, _, _, kk, h =>
    have e : K i = 15 := kk
    rw [e]
    exact br_f (by decide) (br_f (by decide) (br_f (by decide) (br_f (by decide) (br_f (by decide) (br_f (by decide) (br_f (by decide) (br_f (by decide) (br_f (by decide) (br_f (by decide) (br_f (by decide) (br_f (by decide) (br_f (by decide) (br_f (by decide) (br_f (by decide) (br_f (by decide) (br_t rfl h))))))))))))))))
  | 16, _, _, _, kk, h =>
    have e : K i = 16 := kk
    rw [e]
    exact br_f (by decide) (br_f (by decide) (br_f (by decide) (br_f (by decide) (br_f (by decide) (br_f (by decide) (br_f (by decide) (br_f (by decide) (br_f (by decide) (br_f (by decide) (br_f (by decide) (br_f (by decide) (br_f (by decide) (br_f (by decide) (br_f (by decide) (br_f (by decide) (br_f (by decide) (br_t rfl h)))))))))))))))))
  | 17, _, _, _, kk, h =>
    have e : K i = 17 := kk
    rw [e]
    exact br_f (by decide) (br_f (by decide) (br_f (by decide) (br_f (by decide) (br_f (by decide) (br_f (by decide) (br_f (by decide) (br_f (by decide) (br_f (by decide) (br_f (by decide) (br_f (by decide) (br_f (by decide) (br_f (by decide) (br_f (by decide) (br_f (by decide) (br_f (by decide) (br_f (by decide) (br_f (by decide) (br_t rfl (nx_ones _ _ h)))))))))))))))))))
  | 18, _, _, _, kk, h =>
    have e : K i = 18 := kk
    rw [e]
    exact br_f (by decide) (br_f (by decide) (br_f (by decide) (br_f (by decide) (br_f (by decide) (br_f (by decide) (br_f (by decide) (br_f (by decide) (br_f (by decide) (br_f (by decide) (br_f (by decide) (br_f (by decide) (br_f (by decide) (br_f (by decide) (br_f (by decide) (br_f (by decide) (br_f (by decide) (br_f (by decide) (br_f (by decide) (br_t rfl ⟨pk_andIn x (m := 3) 2 (by decide) (by decide), h⟩)))))))))))))))))))
theorem nx_set_held (post : SX → Prop) (hc : c ≤ 24) (hK : ∀ j, K j = nI (kd j)) (hW : ∀ j, W j = nI (wd j)) (hx : ∀ j, ox j = nI (xo j)) (hy : ∀ j, oy j = nI (yo j)) (hz : ∀ j, oz j = nI (zo j)) (ok : ∀ j, j < c → nb_ok kd wd xo yo zo nums j)
    (hp : ∀ V, nb_Sol (nb_FX kd wd xo yo zo nums fo mem H) c V → post ((nI c), cs, sw, pp, pd, pe, K, W, ox, oy, oz, nums, rch, D, nx, en, fo, H, nt, mem, nm, V, tr)) : wpX_settle__held post ((nI c), cs, sw, pp, pd, pe, K, W, ox, oy, oz, nums, rch, D, nx, en, fo, H, nt, mem, nm, vals, tr) := by
  have key : ∀ n i vals, i ≤ c → c < i + n → nb_Sol (nb_FX kd wd xo yo zo nums fo mem H) i vals → wX_settle__held_2 post (nI c) cs sw pp pd pe n (nI i) K W ox oy oz nums rch D nx en fo H nt mem nm vals tr := by
    intro n
    induction n with
    | zero => intro i vals h1 h2; omega
    | succ n ih =>
      intro i vals h1 h2 hs
      by_cases hi : i < c
      · have x1 : vp_in (nI i) 24 := vp_in_nI (by omega) (by omega)
        have x2 : (nI i).toNatClampNeg = i := nI_clamp (by omega)
        have k18 := (ok i hi).1
        have nxt : ∀ v, v = nb_FX kd wd xo yo zo nums fo mem H vals i → wX_settle__held_2 post (nI c) cs sw pp pd pe n (nI (i + 1)) K W ox oy oz nums rch D nx en fo H nt mem nm (upd vals i v) tr := fun v e => ih (i + 1) _ (by omega) (by omega) (e ▸ nb_sol_step (nb_locX ok) hi hs)
        refine br_f (nI_ge hi (by omega)) ⟨x1, ?_⟩
        rw [x2]
        by_cases hf : fo i = -1
        · refine br_t hf ⟨x1, ?_⟩
          by_cases k0 : kd i = 0
          · have e : K i = 0 := by rw [hK, k0]; rfl
            refine br_t e ⟨x1, x1, ?_⟩
            refine nm_e (nm_r (nI_1 i) ?_)
            rw [x2]
            exact nxt _ (by rw [nb_FX, if_pos hf, if_pos (Or.inl k0)])
          · have e : ¬ K i = 0 := by rw [hK]; exact fun q => k0 ((nI_eq (b := 0) (by omega) (by omega)).mp q)
            refine br_f e ⟨x1, ?_⟩
            by_cases k2 : kd i = 2
            · have e2 : K i = 2 := by rw [hK, k2]; rfl
              refine br_t e2 ⟨x1, x1, ?_⟩
              refine nm_e (nm_r (nI_1 i) ?_)
              rw [x2]
              exact nxt _ (by rw [nb_FX, if_pos hf, if_pos (Or.inr k2)])
            · have e2 : ¬ K i = 2 := by rw [hK]; exact fun q => k2 ((nI_eq (b := 2) (by omega) (by omega)).mp q)
              refine br_f e2 ?_
              refine nx_wo _ hc hK hW hx hy hz ok hi k0 k2 ⟨x1, nm_e (nm_r (nI_1 i) ?_)⟩
              exact nxt _ (by rw [nb_FX, if_pos hf, if_neg (by omega)])
        · refine br_f hf ⟨x1, x1, nm_e (nm_r (nI_1 i) ?_)⟩
          exact nxt _ (by rw [nb_FX, if_neg hf])
      · have : i = c := by omega
        subst this
        exact br_t (nI_le (Nat.le_refl _) (by omega)) (hp vals hs)
  exact ⟨c + 1, key (c + 1) 0 vals (by omega) (by omega) (fun j hj => absurd hj (Nat.not_lt_zero j))⟩
theorem nx_set_trial (post : SX → Prop) (hc : c ≤ 24) (hK : ∀ j, K j = nI (kd j)) (hW : ∀ j, W j = nI (wd j)) (hx : ∀ j, ox j = nI (xo j)) (hy : ∀ j, oy j = nI (yo j)) (hz : ∀ j, oz j = nI (zo j)) (ok : ∀ j, j < c → nb_ok kd wd xo yo zo nums j)
    (hp : ∀ V, nb_Sol (nb_FX kd wd xo yo zo nums fo mem tr) c V → post ((nI c), cs, sw, pp, pd, pe, K, W, ox, oy, oz, nums, rch, D, nx, en, fo, H, nt, mem, nm, V, tr)) : wpX_settle__trial post ((nI c), cs, sw, pp, pd, pe, K, W, ox, oy, oz, nums, rch, D, nx, en, fo, H, nt, mem, nm, vals, tr) := by
  have key : ∀ n i vals, i ≤ c → c < i + n → nb_Sol (nb_FX kd wd xo yo zo nums fo mem tr) i vals → wX_settle__trial_2 post (nI c) cs sw pp pd pe n (nI i) K W ox oy oz nums rch D nx en fo H nt mem nm vals tr := by
    intro n
    induction n with
    | zero => intro i vals h1 h2; omega
    | succ n ih =>
      intro i vals h1 h2 hs
      by_cases hi : i < c
      · have x1 : vp_in (nI i) 24 := vp_in_nI (by omega) (by omega)
        have x2 : (nI i).toNatClampNeg = i := nI_clamp (by omega)
        have k18 := (ok i hi).1
        have nxt : ∀ v, v = nb_FX kd wd xo yo zo nums fo mem tr vals i → wX_settle__trial_2 post (nI c) cs sw pp pd pe n (nI (i + 1)) K W ox oy oz nums rch D nx en fo H nt mem nm (upd vals i v) tr := fun v e => ih (i + 1) _ (by omega) (by omega) (e ▸ nb_sol_step (nb_locX ok) hi hs)
        refine br_f (nI_ge hi (by omega)) ⟨x1, ?_⟩
        rw [x2]
        by_cases hf : fo i = -1
        · refine br_t hf ⟨x1, ?_⟩
          by_cases k0 : kd i = 0
          · have e : K i = 0 := by rw [hK, k0]; rfl
            refine br_t e ⟨x1, x1, ?_⟩
            refine nm_e (nm_r (nI_1 i) ?_)
            rw [x2]
            exact nxt _ (by rw [nb_FX, if_pos hf, if_pos (Or.inl k0)])
          · have e : ¬ K i = 0 := by rw [hK]; exact fun q => k0 ((nI_eq (b := 0) (by omega) (by omega)).mp q)
            refine br_f e ⟨x1, ?_⟩
            by_cases k2 : kd i = 2
            · have e2 : K i = 2 := by rw [hK, k2]; rfl
              refine br_t e2 ⟨x1, x1, ?_⟩
              refine nm_e (nm_r (nI_1 i) ?_)
              rw [x2]
              exact nxt _ (by rw [nb_FX, if_pos hf, if_pos (Or.inr k2)])
            · have e2 : ¬ K i = 2 := by rw [hK]; exact fun q => k2 ((nI_eq (b := 2) (by omega) (by omega)).mp q)
              refine br_f e2 ?_
              refine nx_wo _ hc hK hW hx hy hz ok hi k0 k2 ⟨x1, nm_e (nm_r (nI_1 i) ?_)⟩
              exact nxt _ (by rw [nb_FX, if_pos hf, if_neg (by omega)])
        · refine br_f hf ⟨x1, x1, nm_e (nm_r (nI_1 i) ?_)⟩
          exact nxt _ (by rw [nb_FX, if_neg hf])
      · have : i = c := by omega
        subst this
        exact br_t (nI_le (Nat.le_refl _) (by omega)) (hp vals hs)
  exact ⟨c + 1, key (c + 1) 0 vals (by omega) (by omega) (fun j hj => absurd hj (Nat.not_lt_zero j))⟩
/-- what the reference keeps of a signal's operands -/
def nb_ye (kd xo yo zo : Nat → Nat) (nums ex ey ez : Nat → Int32) (j : Nat) : Prop :=
  (3 ≤ kd j → ex j = nI (xo j)) ∧ (4 ≤ kd j → kd j ≤ 15 → ey j = nI (yo j)) ∧ (kd j = 12 → ez j = nI (zo j)) ∧ (kd j = 1 ∨ kd j = 2 ∨ kd j = 16 → ey j = nums j)
theorem ny_wo (post : Int32 → Prop) (hc : c ≤ 24) (hK : ∀ j, K j = nI (kd j)) (hW : ∀ j, W j = nI (wd j)) (ok : ∀ j, j < c → nb_ok kd wd xo yo zo nums j) (ye : ∀ j, j < c → nb_ye kd xo yo zo nums ex ey ez j) {i : Nat} (hi : i < c) (h0 : kd i ≠ 0) (h2 : kd i ≠ 2)
    (h : post (nb_wY (kd i) (wd (yo i)) (nums i) mem (va (xo i)) (va (yo i)) (va (zo i)))) : wpY_worked post ((nI c), cs, sw, pp, pd, pe, K, ex, ey, ez, W, H, nty, fo, va, nx, en, mem, nm, td, mt) (nI i) := by
  obtain ⟨k18, w1, w7, x0, y0, z0, _⟩ := ok i hi
  obtain ⟨ye1, ye2, ye3, ye4⟩ := ye i hi
  have x1 : vp_in (nI i) 24 := vp_in_nI (by omega) (by omega)
  have x2 : (nI i).toNatClampNeg = i := nI_clamp (by omega)
  have wy : W (yo i) = nI (wd (yo i)) := hW _
  have vx : vp_in (nI (xo i)) 24 := vp_in_nI (by omega) (by omega)
  have vy : vp_in (nI (yo i)) 24 := vp_in_nI (by omega) (by omega)
  have vz : vp_in (nI (zo i)) 24 := vp_in_nI (by omega) (by omega)
  have cx : (nI (xo i)).toNatClampNeg = xo i := nI_clamp (by omega)
  have cy : (nI (yo i)).toNatClampNeg = yo i := nI_clamp (by omega)
  have cz : (nI (zo i)).toNatClampNeg = zo i := nI_clamp (by omega)
  have kk : K i = nI (kd i) := hK i
  unfold wpY_worked
  simp only [x1, x2, true_and, forall_eq]
  generalize kd i = k at *
  match k, k18, h0, h2, kk, h, ye1, ye2, ye3, ye4 with
  | 0, _, h0, _, _, _, _, _, _, _ => exact absurd rfl h0
  | 2, _, _, h2, _, _, _, _, _, _ => exact absurd rfl h2
  | n + 19, k18, _, _, _, _, _, _, _, _ => exact absurd k18 (by omega)
  | 1, _, _, _, kk, h, ye1, ye2, ye3, ye4 =>
    have e : K i = 1 := kk
    rw [e, ye4 (by decide)]
    exact br_t rfl h
  | 3, _, _, _, kk, h, ye1, ye2, ye3, ye4 =>
    have e : K i = 3 := kk
    rw [e, ye1 (by decide), cx]
    exact br_f (by decide) ⟨vx, br_t rfl h⟩
  | 4, _, _, _, kk, h, ye1, ye2, ye3, ye4 =>
    have e : K i = 4 := kk
    rw [e, ye1 (by decide), cx, ye2 (by decide) (by decide), cy]
    refine br_f (by decide) ⟨vx, br_f (by decide) (br_f (by decide) (br_f (by decide) (br_f (by decide) ⟨vy, br_f (by decide) (br_f (by decide) ?_)⟩)))⟩
    unfold wpY_joined
    exact br_t rfl h
  | 5, _, _, _, kk, h, ye1, ye2, ye3, ye4 =>
    have e : K i = 5 := kk
    rw [e, ye1 (by decide), cx, ye2 (by decide) (by decide), cy]
    refine br_f (by decide) ⟨vx, br_f (by decide) (br_f (by decide) (br_f (by decide) (br_f (by decide) ⟨vy, br_f (by decide) (br_f (by decide) ?_)⟩)))⟩
    unfold wpY_joined
    exact br_f (by decide) (br_t rfl h)
  | 6, _, _, _, kk, h, ye1, ye2, ye3, ye4 =>
    have e : K i = 6 := kk
    rw [e, ye1 (by decide), cx, ye2 (by decide) (by decide), cy]
    refine br_f (by decide) ⟨vx, br_f (by decide) (br_f (by decide) (br_f (by decide) (br_f (by decide) ⟨vy, br_f (by decide) (br_f (by decide) ?_)⟩)))⟩
    unfold wpY_joined
    exact br_f (by decide) (br_f (by decide) (br_t rfl h))
  | 7, _, _, _, kk, h, ye1, ye2, ye3, ye4 =>
    have e : K i = 7 := kk
    rw [e, ye1 (by decide), cx, ye2 (by decide) (by decide), cy]
    refine br_f (by decide) ⟨vx, br_f (by decide) (br_f (by decide) (br_f (by decide) (br_f (by decide) ⟨vy, br_f (by decide) (br_f (by decide) ?_)⟩)))⟩
    unfold wpY_joined
    exact br_f (by decide) (br_f (by decide) (br_f (by decide) (br_t rfl h)))
  | 8, _, _, _, kk, h, ye1, ye2, ye3, ye4 =>
    have e : K i = 8 := kk
    rw [e, ye1 (by decide), cx, ye2 (by decide) (by decide), cy]
    refine br_f (by decide) ⟨vx, br_f (by decide) (br_f (by decide) (br_f (by decide) (br_f (by decide) ⟨vy, br_f (by decide) (br_f (by decide) ?_)⟩)))⟩
    unfold wpY_joined
    exact br_f (by decide) (br_f (by decide) (br_f (by decide) (br_f (by decide) (br_t rfl h))))
  | 9, _, _, _, kk, h, ye1, ye2, ye3, ye4 =>
    have e : K i = 9 := kk
    rw [e, ye1 (by decide), cx, ye2 (by decide) (by decide), cy]
    refine br_f (by decide) ⟨vx, br_f (by decide) (br_f (by decide) (br_f (by decide) (br_f (by decide) ⟨vy, br_f (by decide) (br_f (by decide) ?_)⟩)))⟩
    unfold wpY_joined
    exact br_f (by decide) (br_f (by decide) (br_f (by decide) (br_f (by decide) (br_f (by decide) (br_t rfl h)))))
  | 10, _, _, _, kk, h, ye1, ye2, ye3, ye4 =>
    have e : K i = 10 := kk
    rw [e, ye1 (by decide), cx, ye2 (by decide) (by decide), cy]
    refine br_f (by decide) ⟨vx, br_f (by decide) (br_f (by decide) (br_f (by decide) (br_f (by decide) ⟨vy, br_f (by decide) (br_f (by decide) ?_)⟩)))⟩
    unfold wpY_joined
    have h' : post (if va (xo i) < va (yo i) then 1 else 0) := h
    refine br_f (by decide) (br_f (by decide) (br_f (by decide) (br_f (by decide) (br_f (by decide) (br_f (by decide) (br_t rfl ?_))))))
    by_cases q : va (yo i) ≤ va (xo i)
    · rw [if_neg (Int32.not_lt.mpr q)] at h'; exact br_t q h'
    · rw [if_pos (Int32.not_le.mp q)] at h'; exact br_f q h'
  | 11, _, _, _, kk, h, ye1, ye2, ye3, ye4 =>
    have e : K i = 11 := kk
    rw [e, ye1 (by decide), cx, ye2 (by decide) (by decide), cy]
    refine br_f (by decide) ⟨vx, br_f (by decide) (br_f (by decide) (br_f (by decide) (br_f (by decide) ⟨vy, br_f (by decide) (br_f (by decide) ?_)⟩)))⟩
    unfold wpY_joined
    have h' : post (if va (xo i) = va (yo i) then 1 else 0) := h
    refine br_f (by decide) (br_f (by decide) (br_f (by decide) (br_f (by decide) (br_f (by decide) (br_f (by decide) (br_f (by decide) (br_t rfl ?_)))))))
    by_cases q : va (xo i) = va (yo i)
    · rw [if_pos q] at h'; exact br_t q h'
    · rw [if_neg q] at h'; exact br_f q h'
  | 12, _, _, _, kk, h, ye1, ye2, ye3, ye4 =>
    have e : K i = 12 := kk
    rw [e, ye1 (by decide), cx, ye2 (by decide) (by decide), cy, ye3 rfl, cz]
    have h' : post (if va (xo i) = 1 then va (yo i) else va (zo i)) := h
    refine br_f (by decide) ⟨vx, br_f (by decide) (br_f (by decide) (br_f (by decide) (br_f (by decide) ⟨vy, br_t rfl ?_⟩)))⟩
    by_cases q : va (xo i) = 1
    · rw [if_pos q] at h'; exact br_t q h'
    · rw [if_neg q] at h'; exact br_f q ⟨vz, h'⟩
  | 13, _, _, _, kk, h, ye1, ye2, ye3, ye4 =>
    have e : K i = 13 := kk
    rw [e, ye1 (by decide), cx, ye2 (by decide) (by decide), cy]
    refine br_f (by decide) ⟨vx, br_f (by decide) (br_f (by decide) (br_f (by decide) (br_f (by decide) ⟨vy, br_f (by decide) (br_f (by decide) ?_)⟩)))⟩
    unfold wpY_joined
    exact br_f (by decide) (br_f (by decide) (br_f (by decide) (br_f (by decide) (br_f (by decide) (br_f (by decide) (br_f (by decide) (br_f (by decide) (br_t rfl h))))))))
  | 14, _, _, _, kk, h, ye1, ye2, ye3, ye4 =>
    have e : K i = 14 := kk
    rw [e, ye1 (by decide), cx, ye2 (by decide) (by decide), cy]
    refine br_f (by decide) ⟨vx, br_f (by decide) (br_f (by decide) (br_f (by decide) (br_f (by decide) ⟨vy, br_f (by decide) (br_f (by decide) ?_)⟩)))⟩
    unfold wpY_joined
    exact br_f (by decide) (br_f (by decide) (br_f (by decide) (br_f (by decide) (br_f (by decide) (br_f (by decide) (br_f (by decide) (br_f (by decide) (br_f (by decide) (h)))))))))
  | 15, _, _, _, kk, h, ye1, ye2, ye3, ye4 =>
    have e : K i = 15 := kk
    rw [e, ye1 (by decide), cx, ye2 (by decide) (by decide), cy, wy]
    exact br_f (by decide) ⟨vx, br_f (by decide) (br_f (by decide) (br_f (by decide) (br_f (by decide) ⟨vy, br_f (by decide) (br_t rfl ⟨vy, h⟩)⟩)))⟩
  | 16, _, _, _, kk, h, ye1, ye2, ye3, ye4 =>
    have e : K i = 16 := kk
    rw [e, ye1 (by decide), cx, ye4 (by decide)]
    exact br_f (by decide) ⟨vx, br_f (by decide) (br_t rfl h)⟩
  | 17, _, _, _, kk, h, ye1, ye2, ye3, ye4 =>
    have e : K i = 17 := kk
    rw [e, ye1 (by decide), cx]
    exact br_f (by decide) ⟨vx, br_f (by decide) (br_f (by decide) (br_t rfl (ny_ones _ _ h)))⟩
  | 18, _, _, _, kk, h, ye1, ye2, ye3, ye4 =>
    have e : K i = 18 := kk
    rw [e, ye1 (by decide), cx]
    exact br_f (by decide) ⟨vx, br_f (by decide) (br_f (by decide) (br_f (by decide) (br_t rfl ⟨pk_andIn _ (m := 3) 2 (by decide) (by decide), h⟩)))⟩
theorem ny_work_held (post : SY → Prop) (hc : c ≤ 24) (hK : ∀ j, K j = nI (kd j)) (hW : ∀ j, W j = nI (wd j)) (ok : ∀ j, j < c → nb_ok kd wd xo yo zo nums j) (ye : ∀ j, j < c → nb_ye kd xo yo zo nums ex ey ez j) (hf0 : ∀ j, j < c → fo j = -1 ∨ nb_R (wd j) (fo j))
    (hp : ∀ V, nb_Sol (nb_FY kd wd xo yo zo nums fo mem H) c V → post ((nI c), cs, sw, pp, pd, pe, K, ex, ey, ez, W, H, nty, fo, V, nx, en, mem, nm, td, mt)) : wpY_work post ((nI c), cs, sw, pp, pd, pe, K, ex, ey, ez, W, H, nty, fo, va, nx, en, mem, nm, td, mt) 0 := by
  have key : ∀ n i va, i ≤ c → c < i + n → nb_Sol (nb_FY kd wd xo yo zo nums fo mem H) i va → wY_work_2 post 0 (nI c) cs sw pp pd pe n (nI i) K ex ey ez W H nty fo va nx en mem nm td mt := by
    intro n
    induction n with
    | zero => intro i va h1 h2; omega
    | succ n ih =>
      intro i va h1 h2 hs
      by_cases hi : i < c
      · have x1 : vp_in (nI i) 24 := vp_in_nI (by omega) (by omega)
        have x2 : (nI i).toNatClampNeg = i := nI_clamp (by omega)
        have k18 := (ok i hi).1
        have w7 := (ok i hi).2.2.1
        have m : ((1 : Int32) <<< (W i &&& 31)) - 1 = nb_m (wd i) := by rw [hW]; rfl
        have nxt : ∀ v, v &&& nb_m (wd i) = nb_FY kd wd xo yo zo nums fo mem H va i → wY_work_77 post (wY_work_2 post 0 (nI c) cs sw pp pd pe n) 0 (nI i) v (nI c) cs sw pp pd pe K ex ey ez W H nty fo va nx en mem nm td mt := fun v e => by
          refine ⟨x1, x1, nm_e (nm_r (nI_1 i) ?_)⟩
          rw [x2, m]
          exact ih (i + 1) _ (by omega) (by omega) (e ▸ nb_sol_step (nb_locY ok) hi hs)
        refine br_f (nI_ge hi (by omega)) ⟨x1, ?_⟩
        rw [x2]
        by_cases hf : fo i = -1
        · refine br_t (by rw [hf]; decide) ⟨x1, ?_⟩
          by_cases k0 : kd i = 0
          · have e : K i = 0 := by rw [hK, k0]; rfl
            refine br_t e (br_t rfl ⟨x1, ?_⟩)
            rw [x2]
            exact nxt _ (by rw [nb_FY, if_pos hf, if_pos (Or.inl k0)])
          · have e : ¬ K i = 0 := by rw [hK]; exact fun q => k0 ((nI_eq (b := 0) (by omega) (by omega)).mp q)
            refine br_f e ⟨x1, ?_⟩
            by_cases k2 : kd i = 2
            · have e2 : K i = 2 := by rw [hK, k2]; rfl
              refine br_t e2 (br_t rfl ⟨x1, ?_⟩)
              rw [x2]
              exact nxt _ (by rw [nb_FY, if_pos hf, if_pos (Or.inr k2)])
            · have e2 : ¬ K i = 2 := by rw [hK]; exact fun q => k2 ((nI_eq (b := 2) (by omega) (by omega)).mp q)
              refine br_f e2 ?_
              refine ny_wo _ hc hK hW ok ye hi k0 k2 ?_
              exact nxt _ (by rw [nb_FY, if_pos hf, if_neg (by omega)])
        · have hp0 : ¬ fo i < 0 := by
            obtain ⟨v, hv, e⟩ := (hf0 i hi).resolve_left hf
            have := nb_pw w7
            rw [e]
            exact nI_pos (by omega)
          refine br_f hp0 ⟨x1, nm_e ?_⟩
          exact nxt _ (by rw [nb_FY, if_neg hf])
      · have : i = c := by omega
        subst this
        exact br_t (nI_le (Nat.le_refl _) (by omega)) (hp va hs)
  exact ⟨c + 1, key (c + 1) 0 va (by omega) (by omega) (fun j hj => absurd hj (Nat.not_lt_zero j))⟩
theorem ny_work_tried (post : SY → Prop) (hc : c ≤ 24) (hK : ∀ j, K j = nI (kd j)) (hW : ∀ j, W j = nI (wd j)) (ok : ∀ j, j < c → nb_ok kd wd xo yo zo nums j) (ye : ∀ j, j < c → nb_ye kd xo yo zo nums ex ey ez j) (hf0 : ∀ j, j < c → fo j = -1 ∨ nb_R (wd j) (fo j))
    (hp : ∀ V, nb_Sol (nb_FY kd wd xo yo zo nums fo mem td) c V → post ((nI c), cs, sw, pp, pd, pe, K, ex, ey, ez, W, H, nty, fo, V, nx, en, mem, nm, td, mt)) : wpY_work post ((nI c), cs, sw, pp, pd, pe, K, ex, ey, ez, W, H, nty, fo, va, nx, en, mem, nm, td, mt) 1 := by
  have key : ∀ n i va, i ≤ c → c < i + n → nb_Sol (nb_FY kd wd xo yo zo nums fo mem td) i va → wY_work_2 post 1 (nI c) cs sw pp pd pe n (nI i) K ex ey ez W H nty fo va nx en mem nm td mt := by
    intro n
    induction n with
    | zero => intro i va h1 h2; omega
    | succ n ih =>
      intro i va h1 h2 hs
      by_cases hi : i < c
      · have x1 : vp_in (nI i) 24 := vp_in_nI (by omega) (by omega)
        have x2 : (nI i).toNatClampNeg = i := nI_clamp (by omega)
        have k18 := (ok i hi).1
        have w7 := (ok i hi).2.2.1
        have m : ((1 : Int32) <<< (W i &&& 31)) - 1 = nb_m (wd i) := by rw [hW]; rfl
        have nxt : ∀ v, v &&& nb_m (wd i) = nb_FY kd wd xo yo zo nums fo mem td va i → wY_work_77 post (wY_work_2 post 1 (nI c) cs sw pp pd pe n) 1 (nI i) v (nI c) cs sw pp pd pe K ex ey ez W H nty fo va nx en mem nm td mt := fun v e => by
          refine ⟨x1, x1, nm_e (nm_r (nI_1 i) ?_)⟩
          rw [x2, m]
          exact ih (i + 1) _ (by omega) (by omega) (e ▸ nb_sol_step (nb_locY ok) hi hs)
        refine br_f (nI_ge hi (by omega)) ⟨x1, ?_⟩
        rw [x2]
        by_cases hf : fo i = -1
        · refine br_t (by rw [hf]; decide) ⟨x1, ?_⟩
          by_cases k0 : kd i = 0
          · have e : K i = 0 := by rw [hK, k0]; rfl
            refine br_t e (br_f (by decide) ⟨x1, ?_⟩)
            rw [x2]
            exact nxt _ (by rw [nb_FY, if_pos hf, if_pos (Or.inl k0)])
          · have e : ¬ K i = 0 := by rw [hK]; exact fun q => k0 ((nI_eq (b := 0) (by omega) (by omega)).mp q)
            refine br_f e ⟨x1, ?_⟩
            by_cases k2 : kd i = 2
            · have e2 : K i = 2 := by rw [hK, k2]; rfl
              refine br_t e2 (br_f (by decide) ⟨x1, ?_⟩)
              rw [x2]
              exact nxt _ (by rw [nb_FY, if_pos hf, if_pos (Or.inr k2)])
            · have e2 : ¬ K i = 2 := by rw [hK]; exact fun q => k2 ((nI_eq (b := 2) (by omega) (by omega)).mp q)
              refine br_f e2 ?_
              refine ny_wo _ hc hK hW ok ye hi k0 k2 ?_
              exact nxt _ (by rw [nb_FY, if_pos hf, if_neg (by omega)])
        · have hp0 : ¬ fo i < 0 := by
            obtain ⟨v, hv, e⟩ := (hf0 i hi).resolve_left hf
            have := nb_pw w7
            rw [e]
            exact nI_pos (by omega)
          refine br_f hp0 ⟨x1, nm_e ?_⟩
          exact nxt _ (by rw [nb_FY, if_neg hf])
      · have : i = c := by omega
        subst this
        exact br_t (nI_le (Nat.le_refl _) (by omega)) (hp va hs)
  exact ⟨c + 1, key (c + 1) 0 va (by omega) (by omega) (fun j hj => absurd hj (Nat.not_lt_zero j))⟩
end
end
section
/-! the clock: one tick as both sides make it -/
def nb_gt (kd : Nat → Nat) (nx en C : Nat → Int32) (j : Nat) : Bool := decide (kd j = 2) && (!decide (nx j = -1) && (decide (en j = -1) || decide (C (en j).toNatClampNeg = 1)))
theorem nb_gt_t {kd : Nat → Nat} {nx en C : Nat → Int32} {j : Nat} (h1 : kd j = 2) (h2 : ¬ nx j = -1) (h3 : en j = -1 ∨ C (en j).toNatClampNeg = 1) : nb_gt kd nx en C j = true := by
  unfold nb_gt
  rw [decide_eq_true h1, decide_eq_false h2]
  rcases h3 with h | h
  · rw [decide_eq_true h]; rfl
  · rw [decide_eq_true h, Bool.or_true]; rfl
theorem nb_gt_1 {kd : Nat → Nat} {nx en C : Nat → Int32} {j : Nat} (h1 : ¬ kd j = 2) : ¬ nb_gt kd nx en C j = true := by
  unfold nb_gt
  rw [decide_eq_false h1]
  exact Bool.noConfusion
theorem nb_gt_2 {kd : Nat → Nat} {nx en C : Nat → Int32} {j : Nat} (h1 : nx j = -1) : ¬ nb_gt kd nx en C j = true := by
  unfold nb_gt
  rw [decide_eq_true h1, Bool.not_true, Bool.false_and, Bool.and_false]
  exact Bool.noConfusion
theorem nb_gt_3 {kd : Nat → Nat} {nx en C : Nat → Int32} {j : Nat} (h1 : ¬ (en j = -1 ∨ C (en j).toNatClampNeg = 1)) : ¬ nb_gt kd nx en C j = true := by
  unfold nb_gt
  rw [decide_eq_false (fun h => h1 (Or.inl h)), decide_eq_false (fun h => h1 (Or.inr h)), Bool.or_false, Bool.and_false, Bool.and_false]
  exact Bool.noConfusion
theorem nb_gt_inv {kd : Nat → Nat} {nx en C : Nat → Int32} {j : Nat} (h : nb_gt kd nx en C j = true) : kd j = 2 ∧ ¬ nx j = -1 :=
  ⟨Classical.byContradiction fun q => nb_gt_1 q h, fun q => nb_gt_2 q h⟩
def nb_tH (g : Nat → Bool) (t H : Nat → Int32) : Nat → Nat → Int32
  | 0 => H
  | n + 1 => if g n = true then upd (nb_tH g t H n) n (t n) else nb_tH g t H n
def nb_tS (g : Nat → Bool) (t H : Nat → Int32) : Nat → Int32
  | 0 => 0
  | n + 1 => if g n = true then nb_tS g t H n + nb_os (nb_tH g t H n n ^^^ t n) 6 else nb_tS g t H n
theorem nb_tH_t {g : Nat → Bool} {t H : Nat → Int32} {n : Nat} (h : g n = true) : nb_tH g t H (n + 1) = upd (nb_tH g t H n) n (t n) := by rw [nb_tH, if_pos h]
theorem nb_tH_f {g : Nat → Bool} {t H : Nat → Int32} {n : Nat} (h : ¬ g n = true) : nb_tH g t H (n + 1) = nb_tH g t H n := by rw [nb_tH, if_neg h]
theorem nb_tS_t {g : Nat → Bool} {t H : Nat → Int32} {n : Nat} (h : g n = true) : nb_tS g t H (n + 1) = nb_tS g t H n + nb_os (nb_tH g t H n n ^^^ t n) 6 := by rw [nb_tS, if_pos h]
theorem nb_tS_f {g : Nat → Bool} {t H : Nat → Int32} {n : Nat} (h : ¬ g n = true) : nb_tS g t H (n + 1) = nb_tS g t H n := by rw [nb_tS, if_neg h]
theorem nb_tH_R {g : Nat → Bool} {t H : Nat → Int32} {P : Nat → Int32 → Prop} {c : Nat} (h : ∀ j, j < c → P j (H j)) (ht : ∀ j, j < c → g j = true → P j (t j)) : ∀ n, n ≤ c → ∀ j, j < c → P j (nb_tH g t H n j) := by
  intro n
  induction n with
  | zero => intro _ j hj; exact h j hj
  | succ n ih =>
    intro hn j hj
    by_cases q : g n = true
    · rw [nb_tH_t q]
      by_cases e : j = n
      · subst e; rw [pk_us]; exact ht j hj q
      · rw [pk_un e]; exact ih (by omega) j hj
    · rw [nb_tH_f q]; exact ih (by omega) j hj
def nb_gm (pp pe : Int32) (C : Nat → Int32) : Bool := !decide (pp = -1) && decide (C pe.toNatClampNeg = 1)
def nb_tM (pp pd pe : Int32) (C mem : Nat → Int32) : Nat → Int32 := if nb_gm pp pe C = true then upd mem (C pp.toNatClampNeg).toNatClampNeg (C pd.toNatClampNeg) else mem
def nb_ts (pp pd pe : Int32) (C mem : Nat → Int32) : Int32 := if nb_gm pp pe C = true then nb_os (mem (C pp.toNatClampNeg).toNatClampNeg ^^^ C pd.toNatClampNeg) 6 else 0
theorem nb_gm_t {pp pe : Int32} {C : Nat → Int32} (h1 : ¬ pp = -1) (h2 : C pe.toNatClampNeg = 1) : nb_gm pp pe C = true := by
  unfold nb_gm
  rw [decide_eq_false h1, decide_eq_true h2]
  rfl
theorem nb_gm_1 {pp pe : Int32} {C : Nat → Int32} (h1 : pp = -1) : ¬ nb_gm pp pe C = true := by
  unfold nb_gm
  rw [decide_eq_true h1]
  exact Bool.noConfusion
theorem nb_gm_2 {pp pe : Int32} {C : Nat → Int32} (h2 : ¬ C pe.toNatClampNeg = 1) : ¬ nb_gm pp pe C = true := by
  unfold nb_gm
  rw [decide_eq_false h2, Bool.and_false]
  exact Bool.noConfusion
theorem nb_sol_un {F : (Nat → Int32) → Nat → Int32} {c : Nat} (L : nb_Loc F c) {U V : Nat → Int32} (hU : nb_Sol F c U) (hV : nb_Sol F c V) : ∀ n j, j < n → j < c → U j = V j := by
  intro n
  induction n with
  | zero => intro j h; omega
  | succ n ih =>
    intro j h hj
    rw [hU j hj, hV j hj]
    exact L j hj U V (fun i hi => ih i (by omega) (by omega))
/-- the port: none, or signals of the right widths -/
def nb_po (c : Nat) (wd : Nat → Nat) (pp pd pe : Int32) : Prop := pp = -1 ∨ ∃ p d e, p < c ∧ d < c ∧ e < c ∧ pp = nI p ∧ pd = nI d ∧ pe = nI e ∧ wd p = 2 ∧ wd d = 4
def nb_ne (c : Nat) (wd : Nat → Nat) (nx en : Nat → Int32) (j : Nat) : Prop := (nx j = -1 ∨ ∃ t, t < c ∧ nx j = nI t ∧ wd t = wd j) ∧ (en j = -1 ∨ ∃ t, t < c ∧ en j = nI t)
section
variable {c : Nat} {cs sw pp pd pe : Int32} {K W ox oy oz nums rch D nx en fo H nt mem nm vals tr ex ey ez nty va td mt : Nat → Int32} {kd wd xo yo zo dp : Nat → Nat}
theorem nx_en_t (post : Int32 → Prop) (hc : c ≤ 24) (hn : ∀ j, j < c → nb_ne c wd nx en j) {C : Nat → Int32} (hv : ∀ j, j < c → vals j = C j) {i : Nat} (hi : i < c) (g : en i = -1 ∨ C (en i).toNatClampNeg = 1) (h : post 1) : wpX_isEnabled post ((nI c), cs, sw, pp, pd, pe, K, W, ox, oy, oz, nums, rch, D, nx, en, fo, H, nt, mem, nm, vals, tr) (nI i) := by
  have x1 : vp_in (nI i) 24 := vp_in_nI (by omega) (by omega)
  have x2 : (nI i).toNatClampNeg = i := nI_clamp (by omega)
  unfold wpX_isEnabled
  refine ⟨x1, ?_⟩
  rw [x2]
  by_cases q : en i = -1
  · exact br_t q h
  · obtain ⟨t, ht, e⟩ := (hn i hi).2.resolve_left q
    have g2 := g.resolve_left q
    have e2 : (nI t).toNatClampNeg = t := nI_clamp (by omega)
    rw [e, e2] at g2
    refine br_f q ⟨x1, ?_⟩
    rw [e, e2]
    exact ⟨vp_in_nI (by omega) (by omega), br_t (by rw [hv t ht]; exact g2) h⟩
theorem nx_en_f (post : Int32 → Prop) (hc : c ≤ 24) (hn : ∀ j, j < c → nb_ne c wd nx en j) {C : Nat → Int32} (hv : ∀ j, j < c → vals j = C j) {i : Nat} (hi : i < c) (g : ¬ (en i = -1 ∨ C (en i).toNatClampNeg = 1)) (h : post 0) : wpX_isEnabled post ((nI c), cs, sw, pp, pd, pe, K, W, ox, oy, oz, nums, rch, D, nx, en, fo, H, nt, mem, nm, vals, tr) (nI i) := by
  have x1 : vp_in (nI i) 24 := vp_in_nI (by omega) (by omega)
  have x2 : (nI i).toNatClampNeg = i := nI_clamp (by omega)
  unfold wpX_isEnabled
  refine ⟨x1, ?_⟩
  rw [x2]
  have q : ¬ en i = -1 := fun q => g (Or.inl q)
  obtain ⟨t, ht, e⟩ := (hn i hi).2.resolve_left q
  have e2 : (nI t).toNatClampNeg = t := nI_clamp (by omega)
  refine br_f q ⟨x1, ?_⟩
  rw [e, e2]
  refine ⟨vp_in_nI (by omega) (by omega), br_f (fun w => g (Or.inr ?_)) h⟩
  rw [e, e2, ← hv t ht]
  exact w
theorem nx_tr (post : Int32 → SX → Prop) (hc : c ≤ 24) (hK : ∀ j, K j = nI (kd j)) (k18 : ∀ j, j < c → kd j ≤ 18) (hn : ∀ j, j < c → nb_ne c wd nx en j) {C : Nat → Int32} (hv : ∀ j, j < c → vals j = C j)
    (hp : post (nb_tS (nb_gt kd nx en C) (fun j => C (nx j).toNatClampNeg) H c) ((nI c), cs, sw, pp, pd, pe, K, W, ox, oy, oz, nums, rch, D, nx, en, fo, (nb_tH (nb_gt kd nx en C) (fun j => C (nx j).toNatClampNeg) H c), nt, mem, nm, vals, tr)) : wpX_tickRegisters post ((nI c), cs, sw, pp, pd, pe, K, W, ox, oy, oz, nums, rch, D, nx, en, fo, H, nt, mem, nm, vals, tr) := by
  have key : ∀ n i, i ≤ c → c < i + n → wX_tickRegisters_4 post (nI c) cs sw pp pd pe n (nb_tS (nb_gt kd nx en C) (fun j => C (nx j).toNatClampNeg) H i) (nI i) K W ox oy oz nums rch D nx en fo (nb_tH (nb_gt kd nx en C) (fun j => C (nx j).toNatClampNeg) H i) nt mem nm vals tr := by
    intro n
    induction n with
    | zero => intro i h1 h2; omega
    | succ n ih =>
      intro i h1 h2
      by_cases hi : i < c
      · have x1 : vp_in (nI i) 24 := vp_in_nI (by omega) (by omega)
        have x2 : (nI i).toNatClampNeg = i := nI_clamp (by omega)
        have kk := k18 i hi
        have nxt := ih (i + 1) (by omega) (by omega)
        refine br_f (nI_ge hi (by omega)) ⟨x1, ?_⟩
        rw [x2]
        by_cases k2 : kd i = 2
        · have e2 : K i = 2 := by rw [hK, k2]; rfl
          refine br_t e2 ⟨x1, ?_⟩
          by_cases n1 : nx i = -1
          · rw [nb_tS_f (nb_gt_2 n1), nb_tH_f (nb_gt_2 n1)] at nxt
            exact br_t n1 (nm_r (nI_1 i) nxt)
          · obtain ⟨t, ht, e, _⟩ := (hn i hi).1.resolve_left n1
            refine br_f n1 ?_
            by_cases g : en i = -1 ∨ C (en i).toNatClampNeg = 1
            · rw [nb_tS_t (nb_gt_t k2 n1 g), nb_tH_t (nb_gt_t k2 n1 g)] at nxt
              refine nx_en_t _ hc hn hv hi g (br_f (by decide) ⟨x1, ?_⟩)
              have e3 : (nx i).toNatClampNeg = t := by rw [e]; exact nI_clamp (by omega)
              have vt : vp_in (nx i) 24 := by rw [e]; exact vp_in_nI (by omega) (by omega)
              refine ⟨vt, ?_⟩
              rw [e3, hv t ht]
              rw [e3] at nxt
              refine nm_e ⟨x1, ?_⟩
              refine nx_ones _ _ (nm_e ⟨x1, nm_e (nm_r (nI_1 i) nxt)⟩)
            · rw [nb_tS_f (nb_gt_3 g), nb_tH_f (nb_gt_3 g)] at nxt
              exact nx_en_f _ hc hn hv hi g (br_t rfl (nm_r (nI_1 i) nxt))
        · have e2 : ¬ K i = 2 := by rw [hK]; exact fun q => k2 ((nI_eq (b := 2) (by omega) (by omega)).mp q)
          rw [nb_tS_f (nb_gt_1 k2), nb_tH_f (nb_gt_1 k2)] at nxt
          exact br_f e2 (nm_r (nI_1 i) nxt)
      · have : i = c := by omega
        subst this
        exact br_t (nI_le (Nat.le_refl _) (by omega)) hp
  exact ⟨c + 1, key (c + 1) 0 (by omega) (by omega)⟩
theorem nx_tm (post : Int32 → SX → Prop) (hc : c ≤ 24) (po : nb_po c wd pp pd pe) {C : Nat → Int32} (hv : ∀ j, j < c → vals j = C j) (hR : ∀ j, j < c → nb_R (wd j) (C j))
    (hp : post (nb_ts pp pd pe C mem) ((nI c), cs, sw, pp, pd, pe, K, W, ox, oy, oz, nums, rch, D, nx, en, fo, H, nt, (nb_tM pp pd pe C mem), nm, vals, tr)) : wpX_tickMemory post ((nI c), cs, sw, pp, pd, pe, K, W, ox, oy, oz, nums, rch, D, nx, en, fo, H, nt, mem, nm, vals, tr) := by
  unfold wpX_tickMemory
  by_cases q : pp = -1
  · rw [nb_ts, nb_tM, if_neg (nb_gm_1 q), if_neg (nb_gm_1 q)] at hp
    exact br_t q hp
  · obtain ⟨p, d, e, h1, h2, h3, e1, e2, e3, w1, w2⟩ := po.resolve_left q
    subst e1 e2 e3
    refine br_f q ⟨vp_in_nI (by omega) (by omega), ?_⟩
    have c1 : (nI p).toNatClampNeg = p := nI_clamp (by omega)
    have c2 : (nI d).toNatClampNeg = d := nI_clamp (by omega)
    have c3 : (nI e).toNatClampNeg = e := nI_clamp (by omega)
    by_cases g : C e = 1
    · have gt : nb_gm (nI p) (nI e) C = true := nb_gm_t q (by rw [c3]; exact g)
      rw [nb_ts, nb_tM, if_pos gt, if_pos gt, c1, c2] at hp
      have r := hR p h1
      rw [w1] at r
      obtain ⟨m, hm, em⟩ := r
      have hm4 : m < 4 := hm
      have e4 : vals p &&& 3 = nI m := by rw [hv p h1, em]; exact nb_and3 m hm4
      have c4 : (nI m).toNatClampNeg = m := nI_clamp (by omega)
      rw [em, c4] at hp
      rw [c1, c2, c3]
      refine br_t (by rw [hv e h3]; exact g) ⟨vp_in_nI (by omega) (by omega), ?_⟩
      rw [e4, hv d h2]
      refine nm_e ⟨vp_in_nI (by omega) (by omega), nm_e ⟨vp_in_nI (by omega) (by omega), ?_⟩⟩
      rw [c4]
      exact nx_ones _ _ ⟨vp_in_nI (by omega) (by omega), nm_e hp⟩
    · have gt : ¬ nb_gm (nI p) (nI e) C = true := nb_gm_2 (by rw [c3]; exact g)
      rw [nb_ts, nb_tM, if_neg gt, if_neg gt] at hp
      rw [c3]
      exact br_f (by rw [hv e h3]; exact g) hp
theorem ny_tk (post : Int32 → SY → Prop) (hc : c ≤ 24) (hK : ∀ j, K j = nI (kd j)) (k18 : ∀ j, j < c → kd j ≤ 18) (hn : ∀ j, j < c → nb_ne c wd nx en j) (po : nb_po c wd pp pd pe) {C : Nat → Int32} (hv : ∀ j, j < c → va j = C j) (hR : ∀ j, j < c → nb_R (wd j) (C j))
    (hp : post (nb_tS (nb_gt kd nx en C) (fun j => C (nx j).toNatClampNeg) H c + nb_ts pp pd pe C mem) ((nI c), cs, sw, pp, pd, pe, K, ex, ey, ez, W, (nb_tH (nb_gt kd nx en C) (fun j => C (nx j).toNatClampNeg) H c), nty, fo, va, nx, en, (nb_tM pp pd pe C mem), nm, td, mt)) :
    ∃ n, wY_tick_9 post (nI c) cs sw pp pd pe n 0 0 K ex ey ez W H nty fo va nx en mem nm td mt := by
  have key : ∀ n i, i ≤ c → c < i + n → wY_tick_9 post (nI c) cs sw pp pd pe n (nb_tS (nb_gt kd nx en C) (fun j => C (nx j).toNatClampNeg) H i) (nI i) K ex ey ez W (nb_tH (nb_gt kd nx en C) (fun j => C (nx j).toNatClampNeg) H i) nty fo va nx en mem nm td mt := by
    intro n
    induction n with
    | zero => intro i h1 h2; omega
    | succ n ih =>
      intro i h1 h2
      by_cases hi : i < c
      · have x1 : vp_in (nI i) 24 := vp_in_nI (by omega) (by omega)
        have x2 : (nI i).toNatClampNeg = i := nI_clamp (by omega)
        have kk := k18 i hi
        have nxt := ih (i + 1) (by omega) (by omega)
        refine br_f (nI_ge hi (by omega)) ⟨x1, ?_⟩
        rw [x2]
        by_cases k2 : kd i = 2
        · have e2 : K i = 2 := by rw [hK, k2]; rfl
          refine br_t e2 ⟨x1, ?_⟩
          by_cases n1 : nx i = -1
          · rw [nb_tS_f (nb_gt_2 n1), nb_tH_f (nb_gt_2 n1)] at nxt
            exact br_t (by rw [n1]; decide) (br_t rfl (br_t rfl (nm_r (nI_1 i) nxt)))
          · obtain ⟨t, ht, e, _⟩ := (hn i hi).1.resolve_left n1
            have e3 : (nx i).toNatClampNeg = t := by rw [e]; exact nI_clamp (by omega)
            have vt : vp_in (nx i) 24 := by rw [e]; exact vp_in_nI (by omega) (by omega)
            refine br_f (by rw [e]; exact nI_pos (by omega)) (br_f (by decide) ⟨x1, ?_⟩)
            rw [x2]
            by_cases g : en i = -1 ∨ C (en i).toNatClampNeg = 1
            · rw [nb_tS_t (nb_gt_t k2 n1 g), nb_tH_t (nb_gt_t k2 n1 g)] at nxt
              rw [e3] at nxt
              have fin : wY_tick_76 post (wY_tick_9 post (nI c) cs sw pp pd pe n) (nb_tS (nb_gt kd nx en C) (fun j => C (nx j).toNatClampNeg) H i) (nI i) 1 (nI c) cs sw pp pd pe K ex ey ez W (nb_tH (nb_gt kd nx en C) (fun j => C (nx j).toNatClampNeg) H i) nty fo va nx en mem nm td mt := by
                refine br_f (by decide) ⟨x1, x1, ?_⟩
                rw [x2, e3, hv t ht]
                refine ⟨vt, ny_ones _ _ (nm_e ⟨x1, vt, x1, nm_e (nm_r (nI_1 i) nxt)⟩)⟩
              by_cases q : en i = -1
              · exact br_t (by rw [q]; decide) fin
              · obtain ⟨s, hs, es⟩ := (hn i hi).2.resolve_left q
                have g2 := g.resolve_left q
                have es2 : (nI s).toNatClampNeg = s := nI_clamp (by omega)
                rw [es, es2] at g2
                rw [es, es2]
                exact br_f (nI_pos (by omega)) ⟨x1, vp_in_nI (by omega) (by omega), br_t (by rw [hv s hs]; exact g2) fin⟩
            · rw [nb_tS_f (nb_gt_3 g), nb_tH_f (nb_gt_3 g)] at nxt
              have q : ¬ en i = -1 := fun q => g (Or.inl q)
              obtain ⟨s, hs, es⟩ := (hn i hi).2.resolve_left q
              have es2 : (nI s).toNatClampNeg = s := nI_clamp (by omega)
              rw [es, es2] at g
              rw [es, es2]
              exact br_f (nI_pos (by omega)) ⟨x1, vp_in_nI (by omega) (by omega), br_f (by rw [hv s hs]; exact fun w => g (Or.inr w)) (br_t rfl (nm_r (nI_1 i) nxt))⟩
        · have e2 : ¬ K i = 2 := by rw [hK]; exact fun q => k2 ((nI_eq (b := 2) (by omega) (by omega)).mp q)
          rw [nb_tS_f (nb_gt_1 k2), nb_tH_f (nb_gt_1 k2)] at nxt
          exact br_f e2 (br_t rfl (br_t rfl (nm_r (nI_1 i) nxt)))
      · have : i = c := by omega
        subst this
        refine br_t (nI_le (Nat.le_refl _) (by omega)) ?_
        by_cases q : pp = -1
        · rw [nb_ts, nb_tM, if_neg (nb_gm_1 q), if_neg (nb_gm_1 q), Int32.add_zero] at hp
          exact br_t (by rw [q]; decide) hp
        · obtain ⟨p, d, e, h1, h2, h3, e1, e2, e3, w1, w2⟩ := po.resolve_left q
          subst e1 e2 e3
          have c1 : (nI p).toNatClampNeg = p := nI_clamp (by omega)
          have c2 : (nI d).toNatClampNeg = d := nI_clamp (by omega)
          have c3 : (nI e).toNatClampNeg = e := nI_clamp (by omega)
          refine br_f (nI_pos (by omega)) ⟨vp_in_nI (by omega) (by omega), ?_⟩
          by_cases g : C e = 1
          · have gt : nb_gm (nI p) (nI e) C = true := nb_gm_t q (by rw [c3]; exact g)
            rw [nb_ts, nb_tM, if_pos gt, if_pos gt, c1, c2] at hp
            have r := hR p h1
            rw [w1] at r
            obtain ⟨m, hm, em⟩ := r
            have hm4 : m < 4 := hm
            have c4 : (nI m).toNatClampNeg = m := nI_clamp (by omega)
            rw [em, c4] at hp
            rw [c1, c2, c3, hv p h1, hv d h2, em, c4]
            exact br_t (by rw [hv e h3]; exact g) ⟨vp_in_nI (by omega) (by omega), vp_in_nI (by omega) (by omega), vp_in_nI (by omega) (by omega), ny_ones _ _ (nm_e ⟨vp_in_nI (by omega) (by omega), vp_in_nI (by omega) (by omega), vp_in_nI (by omega) (by omega), nm_e hp⟩)⟩
          · have gt : ¬ nb_gm (nI p) (nI e) C = true := nb_gm_2 (by rw [c3]; exact g)
            rw [nb_ts, nb_tM, if_neg gt, if_neg gt, Int32.add_zero] at hp
            rw [c3]
            exact br_f (by rw [hv e h3]; exact g) hp
  exact ⟨c + 1, key (c + 1) 0 (by omega) (by omega)⟩
end
end
section
/-! the relation -/
def nb_mx (a b : Nat) : Nat := if b ≤ a then a else b
def nb_dv (k dx dy dz : Nat) : Nat := if k < 3 then 0 else (if k = 12 then nb_mx (if 4 ≤ k ∧ k ≤ 15 then nb_mx dx dy else dx) dz else (if 4 ≤ k ∧ k ≤ 15 then nb_mx dx dy else dx)) + 1
def nb_dq (kd xo yo zo dp : Nat → Nat) (j : Nat) : Prop := dp j = nb_dv (kd j) (dp (xo j)) (dp (yo j)) (dp (zo j)) ∧ dp j ≤ j
/-- what never changes of the signals that are there -/
def nb_S (c : Nat) (K W ox oy oz nums rch D ex ey ez : Nat → Int32) (kd wd xo yo zo dp : Nat → Nat) : Prop :=
  c ≤ 24 ∧ (∀ j, K j = nI (kd j)) ∧ (∀ j, W j = nI (wd j)) ∧ (∀ j, ox j = nI (xo j)) ∧ (∀ j, oy j = nI (yo j)) ∧ (∀ j, oz j = nI (zo j)) ∧ (∀ j, D j = nI (dp j))
    ∧ (∀ j, j < c → nb_ok kd wd xo yo zo nums j) ∧ (∀ j, j < c → nb_ye kd xo yo zo nums ex ey ez j) ∧ (∀ j, c ≤ j → xo j = 0 ∧ yo j = 0 ∧ zo j = 0 ∧ dp j = 0)
    ∧ (∀ j, j < c → nb_rq kd xo yo zo rch j) ∧ (∀ j, j < c → nb_dq kd xo yo zo dp j)
/-- what calls change -/
def nb_D (c : Nat) (kd wd : Nat → Nat) (pp pd pe : Int32) (nx en fo H nt nty mem nm : Nat → Int32) : Prop :=
  (∀ j, j < c → nb_ne c wd nx en j) ∧ (∀ j, j < c → fo j = -1 ∨ nb_R (wd j) (fo j)) ∧ (∀ j, j < c → nb_R (wd j) (H j)) ∧ (∀ j, j < c → kd j = 2 → nt j = nty j ∧ nb_R (wd j) (nt j))
    ∧ (∀ i, i < 4 → nb_R 4 (mem i)) ∧ (∀ i, i < 4 → nb_R 4 (nm i)) ∧ nb_po c wd pp pd pe
def i_Rel (k : Nat) (u : SX) (v : SY) : Prop :=
  ∃ (c : Nat) (cs sw pp pd pe : Int32) (K W ox oy oz nums rch D nx en fo H nt mem nm vals tr ex ey ez nty va td mt : Nat → Int32) (kd wd xo yo zo dp : Nat → Nat),
    u = ((nI c), cs, sw, pp, pd, pe, K, W, ox, oy, oz, nums, rch, D, nx, en, fo, H, nt, mem, nm, vals, tr) ∧ v = ((nI c), cs, sw, pp, pd, pe, K, ex, ey, ez, W, H, nty, fo, va, nx, en, mem, nm, td, mt) ∧ sw ≤ 60 ∧ nb_S c K W ox oy oz nums rch D ex ey ez kd wd xo yo zo dp ∧ nb_D c kd wd pp pd pe nx en fo H nt nty mem nm
theorem nb_rel {k c : Nat} {cs sw pp pd pe : Int32} {K W ox oy oz nums rch D nx en fo H nt mem nm vals tr ex ey ez nty va td mt : Nat → Int32} {kd wd xo yo zo dp : Nat → Nat}
    (h1 : sw ≤ 60) (h2 : nb_S c K W ox oy oz nums rch D ex ey ez kd wd xo yo zo dp) (h3 : nb_D c kd wd pp pd pe nx en fo H nt nty mem nm) : i_Rel k ((nI c), cs, sw, pp, pd, pe, K, W, ox, oy, oz, nums, rch, D, nx, en, fo, H, nt, mem, nm, vals, tr) ((nI c), cs, sw, pp, pd, pe, K, ex, ey, ez, W, H, nty, fo, va, nx, en, mem, nm, td, mt) :=
  ⟨c, cs, sw, pp, pd, pe, K, W, ox, oy, oz, nums, rch, D, nx, en, fo, H, nt, mem, nm, vals, tr, ex, ey, ez, nty, va, td, mt, kd, wd, xo, yo, zo, dp, rfl, rfl, h1, h2, h3⟩
theorem i_up {k : Nat} {u : SX} {v : SY} (h : i_Rel k u v) : i_Rel (k + 5) u v := h
theorem i_vc0 : wpX_init (fun u => wpY_init (fun v => i_Rel 0 u v)) := by
  have z : ∀ j : Nat, (fun _ : Nat => (0 : Int32)) j = nI ((fun _ : Nat => 0) j) := fun _ => rfl
  have n0 : ∀ {P : Nat → Prop} (j : Nat), j < 0 → P j := fun j h => absurd h (Nat.not_lt_zero j)
  have r0 : ∀ i : Nat, i < 4 → nb_R 4 ((fun _ : Nat => (0 : Int32)) i) := fun _ _ => ⟨0, by decide, rfl⟩
  exact nb_rel (k := 0) (c := 0) (kd := fun _ => 0) (wd := fun _ => 0) (xo := fun _ => 0) (yo := fun _ => 0) (zo := fun _ => 0) (dp := fun _ => 0) (by decide)
    ⟨by omega, z, z, z, z, z, z, n0, n0, fun _ _ => ⟨rfl, rfl, rfl, rfl⟩, n0, n0⟩ ⟨n0, n0, n0, n0, r0, r0, Or.inl rfl⟩
section
variable {c : Nat} {cs sw pp pd pe : Int32} {K W ox oy oz nums rch D nx en fo H nt mem nm vals tr ex ey ez nty va td mt : Nat → Int32} {kd wd xo yo zo dp : Nat → Nat}
/-! connect, port, drive, force, word, level -/
def nb_cc (c : Nat) (kd wd : Nat → Nat) (v1 v2 v3 : Int32) : Prop := ∃ r t, r < c ∧ t < c ∧ v1 = nI r ∧ v2 = nI t ∧ kd r = 2 ∧ wd t = wd r ∧ (v3 = -1 ∨ ∃ e, e < c ∧ v3 = nI e ∧ wd e = 1)
theorem nx_connect (post : Int32 → SX → Prop) (S : nb_S c K W ox oy oz nums rch D ex ey ez kd wd xo yo zo dp) {v1 v2 v3 : Int32}
    (ht : ∀ r t, r < c → t < c → v1 = nI r → v2 = nI t → kd r = 2 → wd t = wd r → (v3 = -1 ∨ ∃ e, e < c ∧ v3 = nI e ∧ wd e = 1) → post 1 ((nI c), cs, sw, pp, pd, pe, K, W, ox, oy, oz, nums, rch, D, (upd nx r v2), (upd en r v3), fo, H, nt, mem, nm, vals, tr))
    (hf : ¬ nb_cc c kd wd v1 v2 v3 → post 0 ((nI c), cs, sw, pp, pd, pe, K, W, ox, oy, oz, nums, rch, D, nx, en, fo, H, nt, mem, nm, vals, tr)) : wpX_connect post ((nI c), cs, sw, pp, pd, pe, K, W, ox, oy, oz, nums, rch, D, nx, en, fo, H, nt, mem, nm, vals, tr) v1 v2 v3 := by
  obtain ⟨hc, hK, hW, _, _, _, _, ok, _⟩ := S
  unfold wpX_connect
  by_cases q1 : ∃ a, a < c ∧ v1 = nI a ∧ nI (kd a) = 2
  · obtain ⟨r, hr, rfl, e2⟩ := q1
    have k18 := (ok r hr).1
    have wr := (ok r hr).2.2.1
    have k2 : kd r = 2 := (nI_eq (b := 2) (by omega) (by omega)).mp e2
    have x1 : vp_in (nI r) 24 := vp_in_nI (by omega) (by omega)
    have x2 : (nI r).toNatClampNeg = r := nI_clamp (by omega)
    refine nx_isK_t _ hc hK hr e2 (br_f (by decide) ⟨x1, ?_⟩)
    rw [x2, hW]
    by_cases q2 : ∃ a, a < c ∧ v2 = nI a ∧ nI (wd a) = nI (wd r)
    · obtain ⟨t, ht', rfl, e3⟩ := q2
      have wt := (ok t ht').2.2.1
      have w2 : wd t = wd r := (nI_eq (by omega) (by omega)).mp e3
      refine nx_isW_t _ hc hW ht' e3 (br_f (by decide) ?_)
      have fin : (v3 = -1 ∨ ∃ e, e < c ∧ v3 = nI e ∧ wd e = 1) → wX_connect_41 post (nI r) (nI t) v3 (nI c) cs sw pp pd pe K W ox oy oz nums rch D nx en fo H nt mem nm vals tr := fun h3 => by
        refine ⟨x1, nm_e ⟨x1, nm_e ?_⟩⟩
        rw [x2]
        exact ht r t hr ht' rfl rfl k2 w2 h3
      by_cases q3 : v3 = -1
      · exact br_t q3 (fin (Or.inl q3))
      · refine br_f q3 ?_
        by_cases q4 : ∃ a, a < c ∧ v3 = nI a ∧ nI (wd a) = 1
        · obtain ⟨e, he, rfl, e4⟩ := q4
          have we := (ok e he).2.2.1
          exact nx_isW_t _ hc hW he e4 (br_f (by decide) (fin (Or.inr ⟨e, he, rfl, (nI_eq (b := 1) (by omega) (by omega)).mp e4⟩)))
        · refine nx_isW_f _ hc hW q4 (br_t rfl (hf ?_))
          rintro ⟨_, _, _, _, _, _, _, _, z | ⟨e, he, z, we⟩⟩
          · exact q3 z
          · exact q4 ⟨e, he, z, by rw [we]; rfl⟩
    · refine nx_isW_f _ hc hW q2 (br_t rfl (hf ?_))
      rintro ⟨r', t, hr', ht', er, et, _, w2, _⟩
      have : r = r' := (nI_eq (by omega) (by omega)).mp er
      subst this
      exact q2 ⟨t, ht', et, by rw [w2]⟩
  · refine nx_isK_f _ hc hK q1 (br_t rfl (hf ?_))
    rintro ⟨r, _, hr, _, er, _, k2, _⟩
    exact q1 ⟨r, hr, er, by rw [k2]; rfl⟩
theorem ny_connect (post : Int32 → SY → Prop) (S : nb_S c K W ox oy oz nums rch D ex ey ez kd wd xo yo zo dp) {v1 v2 v3 : Int32}
    (ht : ∀ r t, r < c → t < c → v1 = nI r → v2 = nI t → kd r = 2 → wd t = wd r → (v3 = -1 ∨ ∃ e, e < c ∧ v3 = nI e ∧ wd e = 1) → post 1 ((nI c), cs, sw, pp, pd, pe, K, ex, ey, ez, W, H, nty, fo, va, (upd nx r v2), (upd en r v3), mem, nm, td, mt))
    (hf : ¬ nb_cc c kd wd v1 v2 v3 → post 0 ((nI c), cs, sw, pp, pd, pe, K, ex, ey, ez, W, H, nty, fo, va, nx, en, mem, nm, td, mt)) : wpY_connect post ((nI c), cs, sw, pp, pd, pe, K, ex, ey, ez, W, H, nty, fo, va, nx, en, mem, nm, td, mt) v1 v2 v3 := by
  obtain ⟨hc, hK, hW, _, _, _, _, ok, _⟩ := S
  have h7 : ∀ j, j < c → wd j < 7 := fun j hj => (ok j hj).2.2.1
  unfold wpY_connect
  by_cases q0 : nb_sg c v1
  · obtain ⟨r, hr, rfl⟩ := q0
    have k18 := (ok r hr).1
    have wr := h7 r hr
    have x1 : vp_in (nI r) 24 := vp_in_nI (by omega) (by omega)
    have x2 : (nI r).toNatClampNeg = r := nI_clamp (by omega)
    refine ny_isS_t _ hc hr (br_f (by decide) ⟨x1, ?_⟩)
    rw [x2, hK]
    by_cases k2 : kd r = 2
    · refine br_t (by rw [k2]; rfl) ?_
      by_cases q2 : ∃ a b, a < c ∧ b < c ∧ nI r = nI a ∧ v2 = nI b ∧ wd a = wd b
      · obtain ⟨a, t, ha, ht', ea, rfl, w2⟩ := q2
        have : r = a := (nI_eq (by omega) (by omega)).mp ea
        subst this
        refine ny_al_t _ hc hW hr ht' w2 (br_f (by decide) ?_)
        have fin : (v3 = -1 ∨ ∃ e, e < c ∧ v3 = nI e ∧ wd e = 1) → wY_connect_43 post (nI r) (nI t) v3 (nI c) cs sw pp pd pe K ex ey ez W H nty fo va nx en mem nm td mt := fun h3 => by
          refine ⟨x1, nm_e ⟨x1, nm_e ?_⟩⟩
          rw [x2]
          exact ht r t hr ht' rfl rfl k2 w2.symm h3
        by_cases q3 : v3 = -1
        · exact br_t q3 (fin (Or.inl q3))
        · refine br_f q3 ?_
          by_cases q4 : ∃ a, a < c ∧ v3 = nI a ∧ nI (wd a) = 1
          · obtain ⟨e, he, rfl, e4⟩ := q4
            have we := h7 e he
            exact ny_isW_t _ hc hW he e4 (br_f (by decide) (fin (Or.inr ⟨e, he, rfl, (nI_eq (b := 1) (by omega) (by omega)).mp e4⟩)))
          · refine ny_isW_f _ hc hW q4 (br_t rfl (hf ?_))
            rintro ⟨_, _, _, _, _, _, _, _, z | ⟨e, he, z, we⟩⟩
            · exact q3 z
            · exact q4 ⟨e, he, z, by rw [we]; rfl⟩
      · refine ny_al_f _ hc hW h7 q2 (br_t rfl (hf ?_))
        rintro ⟨r', t, hr', ht', er, et, _, w2, _⟩
        have : r = r' := (nI_eq (by omega) (by omega)).mp er
        subst this
        exact q2 ⟨r, t, hr, ht', rfl, et, w2.symm⟩
    · refine br_f (fun q => k2 ((nI_eq (b := 2) (by omega) (by omega)).mp q)) (hf ?_)
      rintro ⟨r', _, hr', _, er, _, k2', _⟩
      have : r = r' := (nI_eq (by omega) (by omega)).mp er
      subst this
      exact k2 k2'
  · refine ny_isS_f _ hc q0 (br_t rfl (hf ?_))
    rintro ⟨r, _, hr, _, er, _⟩
    exact q0 ⟨r, hr, er⟩
def nb_pc (c : Nat) (wd : Nat → Nat) (v1 v2 v3 : Int32) : Prop := ∃ p d e, p < c ∧ d < c ∧ e < c ∧ v1 = nI p ∧ v2 = nI d ∧ v3 = nI e ∧ wd p = 2 ∧ wd d = 4 ∧ wd e = 1
theorem nx_port (post : Int32 → SX → Prop) (S : nb_S c K W ox oy oz nums rch D ex ey ez kd wd xo yo zo dp) {v1 v2 v3 : Int32}
    (ht : nb_pc c wd v1 v2 v3 → post 1 ((nI c), cs, sw, v1, v2, v3, K, W, ox, oy, oz, nums, rch, D, nx, en, fo, H, nt, mem, nm, vals, tr)) (hf : ¬ nb_pc c wd v1 v2 v3 → post 0 ((nI c), cs, sw, pp, pd, pe, K, W, ox, oy, oz, nums, rch, D, nx, en, fo, H, nt, mem, nm, vals, tr)) : wpX_port post ((nI c), cs, sw, pp, pd, pe, K, W, ox, oy, oz, nums, rch, D, nx, en, fo, H, nt, mem, nm, vals, tr) v1 v2 v3 := by
  obtain ⟨hc, hK, hW, _, _, _, _, ok, _⟩ := S
  have h7 : ∀ j, j < c → wd j < 7 := fun j hj => (ok j hj).2.2.1
  unfold wpX_port
  by_cases q1 : ∃ a, a < c ∧ v1 = nI a ∧ nI (wd a) = 2
  · obtain ⟨p, hp, rfl, e1⟩ := q1
    have w1 := h7 p hp
    refine nx_isW_t _ hc hW hp e1 (br_f (by decide) ?_)
    by_cases q2 : ∃ a, a < c ∧ v2 = nI a ∧ nI (wd a) = 4
    · obtain ⟨d, hd, rfl, e2⟩ := q2
      have w2 := h7 d hd
      refine nx_isW_t _ hc hW hd e2 (br_f (by decide) ?_)
      by_cases q3 : ∃ a, a < c ∧ v3 = nI a ∧ nI (wd a) = 1
      · obtain ⟨e, he, rfl, e3⟩ := q3
        have w3 := h7 e he
        exact nx_isW_t _ hc hW he e3 (br_f (by decide) (ht ⟨p, d, e, hp, hd, he, rfl, rfl, rfl, (nI_eq (b := 2) (by omega) (by omega)).mp e1, (nI_eq (b := 4) (by omega) (by omega)).mp e2, (nI_eq (b := 1) (by omega) (by omega)).mp e3⟩))
      · refine nx_isW_f _ hc hW q3 (br_t rfl (hf ?_))
        rintro ⟨_, _, e, _, _, he, _, _, z, _, _, w⟩
        exact q3 ⟨e, he, z, by rw [w]; rfl⟩
    · refine nx_isW_f _ hc hW q2 (br_t rfl (hf ?_))
      rintro ⟨_, d, _, _, hd, _, _, z, _, _, w, _⟩
      exact q2 ⟨d, hd, z, by rw [w]; rfl⟩
  · refine nx_isW_f _ hc hW q1 (br_t rfl (hf ?_))
    rintro ⟨p, _, _, hp, _, _, z, _, _, w, _, _⟩
    exact q1 ⟨p, hp, z, by rw [w]; rfl⟩
theorem ny_port (post : Int32 → SY → Prop) (S : nb_S c K W ox oy oz nums rch D ex ey ez kd wd xo yo zo dp) {v1 v2 v3 : Int32}
    (ht : nb_pc c wd v1 v2 v3 → post 1 ((nI c), cs, sw, v1, v2, v3, K, ex, ey, ez, W, H, nty, fo, va, nx, en, mem, nm, td, mt)) (hf : ¬ nb_pc c wd v1 v2 v3 → post 0 ((nI c), cs, sw, pp, pd, pe, K, ex, ey, ez, W, H, nty, fo, va, nx, en, mem, nm, td, mt)) : wpY_port post ((nI c), cs, sw, pp, pd, pe, K, ex, ey, ez, W, H, nty, fo, va, nx, en, mem, nm, td, mt) v1 v2 v3 := by
  obtain ⟨hc, hK, hW, _, _, _, _, ok, _⟩ := S
  have h7 : ∀ j, j < c → wd j < 7 := fun j hj => (ok j hj).2.2.1
  unfold wpY_port
  by_cases q1 : ∃ a, a < c ∧ v1 = nI a ∧ nI (wd a) = 2
  · obtain ⟨p, hp, rfl, e1⟩ := q1
    have w1 := h7 p hp
    refine ny_isW_t _ hc hW hp e1 (br_f (by decide) ?_)
    by_cases q2 : ∃ a, a < c ∧ v2 = nI a ∧ nI (wd a) = 4
    · obtain ⟨d, hd, rfl, e2⟩ := q2
      have w2 := h7 d hd
      refine ny_isW_t _ hc hW hd e2 (br_f (by decide) ?_)
      by_cases q3 : ∃ a, a < c ∧ v3 = nI a ∧ nI (wd a) = 1
      · obtain ⟨e, he, rfl, e3⟩ := q3
        have w3 := h7 e he
        exact ny_isW_t _ hc hW he e3 (br_f (by decide) (ht ⟨p, d, e, hp, hd, he, rfl, rfl, rfl, (nI_eq (b := 2) (by omega) (by omega)).mp e1, (nI_eq (b := 4) (by omega) (by omega)).mp e2, (nI_eq (b := 1) (by omega) (by omega)).mp e3⟩))
      · refine ny_isW_f _ hc hW q3 (br_t rfl (hf ?_))
        rintro ⟨_, _, e, _, _, he, _, _, z, _, _, w⟩
        exact q3 ⟨e, he, z, by rw [w]; rfl⟩
    · refine ny_isW_f _ hc hW q2 (br_t rfl (hf ?_))
      rintro ⟨_, d, _, _, hd, _, _, z, _, _, w, _⟩
      exact q2 ⟨d, hd, z, by rw [w]; rfl⟩
  · refine ny_isW_f _ hc hW q1 (br_t rfl (hf ?_))
    rintro ⟨p, _, _, hp, _, _, z, _, _, w, _, _⟩
    exact q1 ⟨p, hp, z, by rw [w]; rfl⟩
def nb_dc (c : Nat) (kd wd : Nat → Nat) (v1 v2 : Int32) : Prop := ∃ s, s < c ∧ v1 = nI s ∧ kd s = 0 ∧ nb_R (wd s) v2
theorem nx_drive (post : Int32 → SX → Prop) (S : nb_S c K W ox oy oz nums rch D ex ey ez kd wd xo yo zo dp) {v1 v2 : Int32}
    (ht : ∀ s, s < c → v1 = nI s → kd s = 0 → nb_R (wd s) v2 → post 1 ((nI c), cs, sw, pp, pd, pe, K, W, ox, oy, oz, nums, rch, D, nx, en, fo, (upd H s v2), nt, mem, nm, vals, tr)) (hf : ¬ nb_dc c kd wd v1 v2 → post 0 ((nI c), cs, sw, pp, pd, pe, K, W, ox, oy, oz, nums, rch, D, nx, en, fo, H, nt, mem, nm, vals, tr)) : wpX_drive post ((nI c), cs, sw, pp, pd, pe, K, W, ox, oy, oz, nums, rch, D, nx, en, fo, H, nt, mem, nm, vals, tr) v1 v2 := by
  obtain ⟨hc, hK, hW, _, _, _, _, ok, _⟩ := S
  unfold wpX_drive
  by_cases q1 : ∃ a, a < c ∧ v1 = nI a ∧ nI (kd a) = 0
  · obtain ⟨s, hs, rfl, e2⟩ := q1
    have k18 := (ok s hs).1
    have ws := (ok s hs).2.2.1
    have k0 : kd s = 0 := (nI_eq (b := 0) (by omega) (by omega)).mp e2
    have x1 : vp_in (nI s) 24 := vp_in_nI (by omega) (by omega)
    have x2 : (nI s).toNatClampNeg = s := nI_clamp (by omega)
    refine nx_isK_t _ hc hK hs e2 (br_f (by decide) ⟨x1, ?_⟩)
    rw [x2, hW]
    by_cases r : nb_R (wd s) v2
    · exact nx_fw_t _ ws r (br_f (by decide) ⟨x1, nm_e (ht s hs rfl k0 r)⟩)
    · refine nx_fw_f _ ws r (br_t rfl (hf ?_))
      rintro ⟨s', hs', es, _, r'⟩
      have : s = s' := (nI_eq (by omega) (by omega)).mp es
      subst this
      exact r r'
  · refine nx_isK_f _ hc hK q1 (br_t rfl (hf ?_))
    rintro ⟨s, hs, es, k0, _⟩
    exact q1 ⟨s, hs, es, by rw [k0]; rfl⟩
theorem ny_drive (post : Int32 → SY → Prop) (S : nb_S c K W ox oy oz nums rch D ex ey ez kd wd xo yo zo dp) {v1 v2 : Int32}
    (ht : ∀ s, s < c → v1 = nI s → kd s = 0 → nb_R (wd s) v2 → post 1 ((nI c), cs, sw, pp, pd, pe, K, ex, ey, ez, W, (upd H s v2), nty, fo, va, nx, en, mem, nm, td, mt)) (hf : ¬ nb_dc c kd wd v1 v2 → post 0 ((nI c), cs, sw, pp, pd, pe, K, ex, ey, ez, W, H, nty, fo, va, nx, en, mem, nm, td, mt)) : wpY_drive post ((nI c), cs, sw, pp, pd, pe, K, ex, ey, ez, W, H, nty, fo, va, nx, en, mem, nm, td, mt) v1 v2 := by
  obtain ⟨hc, hK, hW, _, _, _, _, ok, _⟩ := S
  unfold wpY_drive
  by_cases q0 : nb_sg c v1
  · obtain ⟨s, hs, rfl⟩ := q0
    obtain ⟨k18, w1, ws, _⟩ := ok s hs
    have x1 : vp_in (nI s) 24 := vp_in_nI (by omega) (by omega)
    have x2 : (nI s).toNatClampNeg = s := nI_clamp (by omega)
    refine ny_isS_t _ hc hs (br_f (by decide) ⟨x1, ?_⟩)
    rw [x2, hK, hW]
    by_cases k0 : kd s = 0
    · refine br_t (by rw [k0]; rfl) ⟨x1, ?_⟩
      by_cases r : nb_R (wd s) v2
      · exact ny_ir_t _ w1 ws r (br_f (by decide) ⟨x1, nm_e (ht s hs rfl k0 r)⟩)
      · refine ny_ir_f _ w1 ws r (br_t rfl (hf ?_))
        rintro ⟨s', hs', es, _, r'⟩
        have : s = s' := (nI_eq (by omega) (by omega)).mp es
        subst this
        exact r r'
    · refine br_f (fun q => k0 ((nI_eq (b := 0) (by omega) (by omega)).mp q)) (hf ?_)
      rintro ⟨s', hs', es, k0', _⟩
      have : s = s' := (nI_eq (by omega) (by omega)).mp es
      subst this
      exact k0 k0'
  · refine ny_isS_f _ hc q0 (br_t rfl (hf ?_))
    rintro ⟨s, hs, es, _⟩
    exact q0 ⟨s, hs, es⟩
def nb_fc (c : Nat) (wd : Nat → Nat) (v1 v2 : Int32) : Prop := ∃ s, s < c ∧ v1 = nI s ∧ (v2 = -1 ∨ nb_R (wd s) v2)
theorem nx_force (post : Int32 → SX → Prop) (S : nb_S c K W ox oy oz nums rch D ex ey ez kd wd xo yo zo dp) {v1 v2 : Int32}
    (ht : ∀ s, s < c → v1 = nI s → (v2 = -1 ∨ nb_R (wd s) v2) → post 1 ((nI c), cs, sw, pp, pd, pe, K, W, ox, oy, oz, nums, rch, D, nx, en, (upd fo s v2), H, nt, mem, nm, vals, tr)) (hf : ¬ nb_fc c wd v1 v2 → post 0 ((nI c), cs, sw, pp, pd, pe, K, W, ox, oy, oz, nums, rch, D, nx, en, fo, H, nt, mem, nm, vals, tr)) : wpX_force post ((nI c), cs, sw, pp, pd, pe, K, W, ox, oy, oz, nums, rch, D, nx, en, fo, H, nt, mem, nm, vals, tr) v1 v2 := by
  obtain ⟨hc, hK, hW, _, _, _, _, ok, _⟩ := S
  unfold wpX_force
  by_cases q0 : nb_sg c v1
  · obtain ⟨s, hs, rfl⟩ := q0
    obtain ⟨k18, w1, ws, _⟩ := ok s hs
    have x1 : vp_in (nI s) 24 := vp_in_nI (by omega) (by omega)
    have x2 : (nI s).toNatClampNeg = s := nI_clamp (by omega)
    refine nx_isS_t _ hc hs (br_f (by decide) ?_)
    rw [x2, hW]
    by_cases q : v2 = -1
    · exact br_t q ⟨x1, nm_e (ht s hs rfl (Or.inl q))⟩
    · refine br_f q ⟨x1, ?_⟩
      by_cases r : nb_R (wd s) v2
      · exact nx_fw_t _ ws r (br_f (by decide) ⟨x1, nm_e (ht s hs rfl (Or.inr r))⟩)
      · refine nx_fw_f _ ws r (br_t rfl (hf ?_))
        rintro ⟨s', hs', es, r'⟩
        have : s = s' := (nI_eq (by omega) (by omega)).mp es
        subst this
        exact r (r'.resolve_left q)
  · refine nx_isS_f _ hc q0 (br_t rfl (hf ?_))
    rintro ⟨s, hs, es, _⟩
    exact q0 ⟨s, hs, es⟩
theorem ny_force (post : Int32 → SY → Prop) (S : nb_S c K W ox oy oz nums rch D ex ey ez kd wd xo yo zo dp) {v1 v2 : Int32}
    (ht : ∀ s, s < c → v1 = nI s → (v2 = -1 ∨ nb_R (wd s) v2) → post 1 ((nI c), cs, sw, pp, pd, pe, K, ex, ey, ez, W, H, nty, (upd fo s v2), va, nx, en, mem, nm, td, mt)) (hf : ¬ nb_fc c wd v1 v2 → post 0 ((nI c), cs, sw, pp, pd, pe, K, ex, ey, ez, W, H, nty, fo, va, nx, en, mem, nm, td, mt)) : wpY_force post ((nI c), cs, sw, pp, pd, pe, K, ex, ey, ez, W, H, nty, fo, va, nx, en, mem, nm, td, mt) v1 v2 := by
  obtain ⟨hc, hK, hW, _, _, _, _, ok, _⟩ := S
  unfold wpY_force
  by_cases q0 : nb_sg c v1
  · obtain ⟨s, hs, rfl⟩ := q0
    obtain ⟨k18, w1, ws, _⟩ := ok s hs
    have x1 : vp_in (nI s) 24 := vp_in_nI (by omega) (by omega)
    have x2 : (nI s).toNatClampNeg = s := nI_clamp (by omega)
    refine ny_isS_t _ hc hs (br_f (by decide) ?_)
    rw [x2, hW]
    by_cases q : v2 = -1
    · exact br_t q ⟨x1, nm_e (ht s hs rfl (Or.inl q))⟩
    · refine br_f q ⟨x1, ?_⟩
      by_cases r : nb_R (wd s) v2
      · exact ny_ir_t _ w1 ws r (br_f (by decide) ⟨x1, nm_e (ht s hs rfl (Or.inr r))⟩)
      · refine ny_ir_f _ w1 ws r (br_t rfl (hf ?_))
        rintro ⟨s', hs', es, r'⟩
        have : s = s' := (nI_eq (by omega) (by omega)).mp es
        subst this
        exact r (r'.resolve_left q)
  · refine ny_isS_f _ hc q0 (br_t rfl (hf ?_))
    rintro ⟨s, hs, es, _⟩
    exact q0 ⟨s, hs, es⟩
theorem nb_Ru {wd : Nat → Nat} {f : Nat → Int32} {s : Nat} {v : Int32} (h : ∀ j, j < c → nb_R (wd j) (f j)) (r : nb_R (wd s) v) : ∀ j, j < c → nb_R (wd j) (upd f s v j) := by
  intro j hj
  by_cases e : j = s
  · subst e; rw [pk_us]; exact r
  · rw [pk_un e]; exact h j hj
end
theorem i_vc_connect {k : Nat} {u : SX} {v : SY} (I : i_Rel k u v) (hk : k + 5 ≤ 2560) (v1 : Int32) (v2 : Int32) (v3 : Int32) : wpX_connect (fun r u' => wpY_connect (fun r' v' => r' = r ∧ i_Rel (k + 5) u' v') v v1 v2 v3) u v1 v2 v3 := by
  obtain ⟨c, cs, sw, pp, pd, pe, K, W, ox, oy, oz, nums, rch, D, nx, en, fo, H, nt, mem, nm, vals, tr, ex, ey, ez, nty, va, td, mt, kd, wd, xo, yo, zo, dp, rfl, rfl, h1, S, d1, d2⟩ := I
  have hc := S.1
  refine nx_connect _ S (fun r t hr ht e1 e2 k2 w2 h3 => ?_) (fun hn => ?_)
  · refine ny_connect _ S (fun r' t' hr' ht' e1' e2' _ _ _ => ?_) (fun hn => absurd ⟨r, t, hr, ht, e1, e2, k2, w2, h3⟩ hn)
    have : r = r' := (nI_eq (by omega) (by omega)).mp (e1.symm.trans e1')
    subst this
    refine ⟨rfl, nb_rel h1 S ⟨?_, d2⟩⟩
    intro j hj
    by_cases e : j = r
    · subst e
      refine ⟨?_, ?_⟩
      · rw [pk_us]; exact Or.inr ⟨t, ht, e2, w2⟩
      · rw [pk_us]
        rcases h3 with z | ⟨e, he, z, _⟩
        · exact Or.inl z
        · exact Or.inr ⟨e, he, z⟩
    · unfold nb_ne
      rw [pk_un e, pk_un e]
      exact d1 j hj
  · exact ny_connect _ S (fun r' t' hr' ht' e1' e2' k2 w2 h3 => absurd ⟨r', t', hr', ht', e1', e2', k2, w2, h3⟩ hn) (fun _ => ⟨rfl, nb_rel h1 S ⟨d1, d2⟩⟩)
theorem i_vc_port {k : Nat} {u : SX} {v : SY} (I : i_Rel k u v) (hk : k + 5 ≤ 2560) (v1 : Int32) (v2 : Int32) (v3 : Int32) : wpX_port (fun r u' => wpY_port (fun r' v' => r' = r ∧ i_Rel (k + 5) u' v') v v1 v2 v3) u v1 v2 v3 := by
  obtain ⟨c, cs, sw, pp, pd, pe, K, W, ox, oy, oz, nums, rch, D, nx, en, fo, H, nt, mem, nm, vals, tr, ex, ey, ez, nty, va, td, mt, kd, wd, xo, yo, zo, dp, rfl, rfl, h1, S, d1, d2, d3, d4, d5, d6, d7⟩ := I
  refine nx_port _ S (fun hp => ?_) (fun hn => ?_)
  · refine ny_port _ S (fun _ => ?_) (fun hn => absurd hp hn)
    refine ⟨rfl, nb_rel h1 S ⟨d1, d2, d3, d4, d5, d6, ?_⟩⟩
    obtain ⟨p, d, e, hp, hd, he, e1, e2, e3, w1, w2, _⟩ := hp
    exact Or.inr ⟨p, d, e, hp, hd, he, e1, e2, e3, w1, w2⟩
  · exact ny_port _ S (fun hp => absurd hp hn) (fun _ => ⟨rfl, nb_rel h1 S ⟨d1, d2, d3, d4, d5, d6, d7⟩⟩)
theorem i_vc_drive {k : Nat} {u : SX} {v : SY} (I : i_Rel k u v) (hk : k + 5 ≤ 2560) (v1 : Int32) (v2 : Int32) : wpX_drive (fun r u' => wpY_drive (fun r' v' => r' = r ∧ i_Rel (k + 5) u' v') v v1 v2) u v1 v2 := by
  obtain ⟨c, cs, sw, pp, pd, pe, K, W, ox, oy, oz, nums, rch, D, nx, en, fo, H, nt, mem, nm, vals, tr, ex, ey, ez, nty, va, td, mt, kd, wd, xo, yo, zo, dp, rfl, rfl, h1, S, d1, d2, d3, d4⟩ := I
  have hc := S.1
  refine nx_drive _ S (fun s hs es k0 r => ?_) (fun hn => ?_)
  · refine ny_drive _ S (fun s' hs' es' _ _ => ?_) (fun hn => absurd ⟨s, hs, es, k0, r⟩ hn)
    have : s = s' := (nI_eq (by omega) (by omega)).mp (es.symm.trans es')
    subst this
    exact ⟨rfl, nb_rel h1 S ⟨d1, d2, nb_Ru d3 r, d4⟩⟩
  · exact ny_drive _ S (fun s hs es k0 r => absurd ⟨s, hs, es, k0, r⟩ hn) (fun _ => ⟨rfl, nb_rel h1 S ⟨d1, d2, d3, d4⟩⟩)
theorem i_vc_force {k : Nat} {u : SX} {v : SY} (I : i_Rel k u v) (hk : k + 5 ≤ 2560) (v1 : Int32) (v2 : Int32) : wpX_force (fun r u' => wpY_force (fun r' v' => r' = r ∧ i_Rel (k + 5) u' v') v v1 v2) u v1 v2 := by
  obtain ⟨c, cs, sw, pp, pd, pe, K, W, ox, oy, oz, nums, rch, D, nx, en, fo, H, nt, mem, nm, vals, tr, ex, ey, ez, nty, va, td, mt, kd, wd, xo, yo, zo, dp, rfl, rfl, h1, S, d1, d2, d3⟩ := I
  have hc := S.1
  refine nx_force _ S (fun s hs es r => ?_) (fun hn => ?_)
  · refine ny_force _ S (fun s' hs' es' _ => ?_) (fun hn => absurd ⟨s, hs, es, r⟩ hn)
    have : s = s' := (nI_eq (by omega) (by omega)).mp (es.symm.trans es')
    subst this
    refine ⟨rfl, nb_rel h1 S ⟨d1, ?_, d3⟩⟩
    intro j hj
    by_cases e : j = s
    · subst e; rw [pk_us]; exact r
    · rw [pk_un e]; exact d2 j hj
  · exact ny_force _ S (fun s hs es r => absurd ⟨s, hs, es, r⟩ hn) (fun _ => ⟨rfl, nb_rel h1 S ⟨d1, d2, d3⟩⟩)
theorem i_vc_word {k : Nat} {u : SX} {v : SY} (I : i_Rel k u v) (hk : k + 5 ≤ 2560) (v1 : Int32) : wpX_word (fun r => wpY_word (fun r' => r' = r ∧ i_Rel (k + 5) u v) v v1) u v1 := by
  have I5 := i_up I
  obtain ⟨c, cs, sw, pp, pd, pe, K, W, ox, oy, oz, nums, rch, D, nx, en, fo, H, nt, mem, nm, vals, tr, ex, ey, ez, nty, va, td, mt, kd, wd, xo, yo, zo, dp, rfl, rfl, _⟩ := I
  by_cases q0 : v1 < 0
  · exact br_t q0 (br_t q0 ⟨rfl, I5⟩)
  · obtain ⟨j, hj, rfl⟩ := nI_of q0
    by_cases q4 : j < 4
    · have x1 : vp_in (nI j) 4 := vp_in_nI q4 (by omega)
      exact br_f q0 (br_t (nI_lt (b := 4) q4 (by omega)) ⟨x1, br_f q0 (br_f (nI_nlt (a := 3) (by omega) (by omega)) ⟨x1, rfl, I5⟩)⟩)
    · exact br_f q0 (br_f (nI_nlt (b := 4) (by omega) (by omega)) (br_f q0 (br_t (nI_lt (a := 3) (by omega) (by omega)) ⟨rfl, I5⟩)))
theorem i_vc_level {k : Nat} {u : SX} {v : SY} (I : i_Rel k u v) (hk : k + 5 ≤ 2560) (v1 : Int32) : wpX_level (fun r => wpY_level (fun r' => r' = r ∧ i_Rel (k + 5) u v) v v1) u v1 := by
  have I5 := i_up I
  obtain ⟨c, cs, sw, pp, pd, pe, K, W, ox, oy, oz, nums, rch, D, nx, en, fo, H, nt, mem, nm, vals, tr, ex, ey, ez, nty, va, td, mt, kd, wd, xo, yo, zo, dp, rfl, rfl, _⟩ := I
  by_cases q0 : v1 < 0
  · exact br_t q0 (br_t q0 ⟨rfl, I5⟩)
  · by_cases q2 : 2 < v1
    · exact br_f q0 (br_t q2 (br_f q0 (br_t q2 ⟨rfl, I5⟩)))
    · exact br_f q0 (br_f q2 (br_f q0 (br_f q2 ⟨rfl, I5⟩)))
end
section
/-! peek, clock, reset, keep, back -/
def nb_cs (n : Nat) (kd : Nat → Nat) (g f : Nat → Int32) : Nat → Int32 := fun j => if j < n ∧ kd j = 2 then g j else f j
def nb_al (n : Nat) (g f : Nat → Int32) : Nat → Int32 := fun j => if j < n then g j else f j
theorem nb_cs_0 (kd : Nat → Nat) (g f : Nat → Int32) : nb_cs 0 kd g f = f := funext fun j => if_neg (fun h => absurd h.1 (Nat.not_lt_zero j))
theorem nb_al_0 (g f : Nat → Int32) : nb_al 0 g f = f := funext fun j => if_neg (Nat.not_lt_zero j)
theorem nb_cs_t {n : Nat} {kd : Nat → Nat} {g f : Nat → Int32} (h : kd n = 2) : upd (nb_cs n kd g f) n (g n) = nb_cs (n + 1) kd g f := by
  funext j
  unfold nb_cs upd
  by_cases e : j = n
  · subst e; rw [if_pos rfl, if_pos ⟨by omega, h⟩]
  · rw [if_neg e]
    dsimp only
    by_cases q : j < n ∧ kd j = 2
    · rw [if_pos q, if_pos ⟨by omega, q.2⟩]
    · rw [if_neg q, if_neg (fun w => q ⟨by omega, w.2⟩)]
theorem nb_cs_f {n : Nat} {kd : Nat → Nat} {g f : Nat → Int32} (h : ¬ kd n = 2) : nb_cs n kd g f = nb_cs (n + 1) kd g f := by
  funext j
  unfold nb_cs
  by_cases e : j = n
  · subst e; rw [if_neg (fun w => h w.2), if_neg (fun w => h w.2)]
  · by_cases q : j < n ∧ kd j = 2
    · rw [if_pos q, if_pos ⟨by omega, q.2⟩]
    · rw [if_neg q, if_neg (fun w => q ⟨by omega, w.2⟩)]
theorem nb_cs_c {n : Nat} {kd : Nat → Nat} {g g' f : Nat → Int32} (h : ∀ j, j < n → kd j = 2 → g j = g' j) : nb_cs n kd g f = nb_cs n kd g' f := by
  funext j
  unfold nb_cs
  by_cases q : j < n ∧ kd j = 2
  · rw [if_pos q, if_pos q]; exact h j q.1 q.2
  · rw [if_neg q, if_neg q]
theorem nb_cs_n {n : Nat} {kd : Nat → Nat} {g f : Nat → Int32} {j : Nat} (hj : j < n) (h : kd j = 2) : nb_cs n kd g f j = g j := if_pos ⟨hj, h⟩
theorem nb_cs_R {n : Nat} {kd wd : Nat → Nat} {g f : Nat → Int32} (hg : ∀ j, j < n → kd j = 2 → nb_R (wd j) (g j)) (hf : ∀ j, j < n → nb_R (wd j) (f j)) : ∀ j, j < n → nb_R (wd j) (nb_cs n kd g f j) := by
  intro j hj
  unfold nb_cs
  by_cases q : j < n ∧ kd j = 2
  · rw [if_pos q]; exact hg j hj q.2
  · rw [if_neg q]; exact hf j hj
theorem nb_al_t {n : Nat} {g f : Nat → Int32} : upd (nb_al n g f) n (g n) = nb_al (n + 1) g f := by
  funext j
  unfold nb_al upd
  by_cases e : j = n
  · subst e; rw [if_pos rfl, if_pos (by omega)]
  · rw [if_neg e]
    dsimp only
    by_cases q : j < n
    · rw [if_pos q, if_pos (by omega)]
    · rw [if_neg q, if_neg (by omega)]
theorem nb_al_n {n : Nat} {g f : Nat → Int32} {j : Nat} (hj : j < n) : nb_al n g f j = g j := if_pos hj
section
variable {c : Nat} {cs sw pp pd pe : Int32} {K W ox oy oz nums rch D nx en fo H nt mem nm vals tr ex ey ez nty va td mt : Nat → Int32} {kd wd xo yo zo dp : Nat → Nat}
theorem nx_reset_m (post : SX → Prop) (hp : post ((nI c), cs, sw, pp, pd, pe, K, W, ox, oy, oz, nums, rch, D, nx, en, fo, H, nt, (nb_al 4 (fun _ => 0) mem), nm, vals, tr)) : ∃ n, wX_reset_40 post (nI c) cs sw pp pd pe n 0 K W ox oy oz nums rch D nx en fo H nt mem nm vals tr := by
  have key : ∀ d i, i + d = 4 → wX_reset_40 post (nI c) cs sw pp pd pe (d + 1) (nI i) K W ox oy oz nums rch D nx en fo H nt (nb_al i (fun _ => 0) mem) nm vals tr := by
    intro d
    induction d with
    | zero =>
      intro i hi
      have : i = 4 := by omega
      subst this
      exact br_t (by decide) hp
    | succ d ih =>
      intro i hi
      have x1 : vp_in (nI i) 4 := vp_in_nI (by omega) (by omega)
      have x2 : (nI i).toNatClampNeg = i := nI_clamp (by omega)
      have nxt := ih (i + 1) (by omega)
      rw [← nb_al_t] at nxt
      refine br_f (nI_ge (b := 4) (by omega) (by omega)) ⟨x1, nm_e (nm_r (nI_1 i) ?_)⟩
      rw [x2]
      exact nxt
  have k0 := key 4 0 rfl
  rw [nb_al_0] at k0
  exact ⟨5, k0⟩
theorem nx_reset (post : SX → Prop) (hc : c ≤ 24) (hK : ∀ j, K j = nI (kd j)) (k18 : ∀ j, j < c → kd j ≤ 18) (hp : post ((nI c), cs, sw, pp, pd, pe, K, W, ox, oy, oz, nums, rch, D, nx, en, fo, (nb_cs c kd nums H), nt, (nb_al 4 (fun _ => 0) mem), nm, vals, tr)) : wpX_reset post ((nI c), cs, sw, pp, pd, pe, K, W, ox, oy, oz, nums, rch, D, nx, en, fo, H, nt, mem, nm, vals, tr) := by
  have key : ∀ n i, i ≤ c → c < i + n → wX_reset_2 post (nI c) cs sw pp pd pe n (nI i) K W ox oy oz nums rch D nx en fo (nb_cs i kd nums H) nt mem nm vals tr := by
    intro n
    induction n with
    | zero => intro i h1 h2; omega
    | succ n ih =>
      intro i h1 h2
      by_cases hi : i < c
      · have x1 : vp_in (nI i) 24 := vp_in_nI (by omega) (by omega)
        have x2 : (nI i).toNatClampNeg = i := nI_clamp (by omega)
        have kk := k18 i hi
        have nxt := ih (i + 1) (by omega) (by omega)
        refine br_f (nI_ge hi (by omega)) ⟨x1, ?_⟩
        rw [x2]
        by_cases k2 : kd i = 2
        · have e2 : K i = 2 := by rw [hK, k2]; rfl
          rw [← nb_cs_t k2] at nxt
          refine br_t e2 ⟨x1, x1, nm_e (nm_r (nI_1 i) ?_)⟩
          exact nxt
        · have e2 : ¬ K i = 2 := by rw [hK]; exact fun q => k2 ((nI_eq (b := 2) (by omega) (by omega)).mp q)
          rw [← nb_cs_f k2] at nxt
          exact br_f e2 (nm_r (nI_1 i) nxt)
      · have : i = c := by omega
        subst this
        exact br_t (nI_le (Nat.le_refl _) (by omega)) (nx_reset_m post hp)
  have k0 := key (c + 1) 0 (by omega) (by omega)
  rw [nb_cs_0] at k0
  exact ⟨c + 1, k0⟩
theorem ny_reset_m (post : SY → Prop) (hp : post ((nI c), cs, sw, pp, pd, pe, K, ex, ey, ez, W, H, nty, fo, va, nx, en, (nb_al 4 (fun _ => 0) mem), nm, td, mt)) : ∃ n, wY_reset_40 post (nI c) cs sw pp pd pe n 0 K ex ey ez W H nty fo va nx en mem nm td mt := by
  have key : ∀ d i, i + d = 4 → wY_reset_40 post (nI c) cs sw pp pd pe (d + 1) (nI i) K ex ey ez W H nty fo va nx en (nb_al i (fun _ => 0) mem) nm td mt := by
    intro d
    induction d with
    | zero =>
      intro i hi
      have : i = 4 := by omega
      subst this
      exact br_t (by decide) hp
    | succ d ih =>
      intro i hi
      have x1 : vp_in (nI i) 4 := vp_in_nI (by omega) (by omega)
      have x2 : (nI i).toNatClampNeg = i := nI_clamp (by omega)
      have nxt := ih (i + 1) (by omega)
      rw [← nb_al_t] at nxt
      refine br_f (nI_ge (b := 4) (by omega) (by omega)) ⟨x1, nm_e (nm_r (nI_1 i) ?_)⟩
      rw [x2]
      exact nxt
  have k0 := key 4 0 rfl
  rw [nb_al_0] at k0
  exact ⟨5, k0⟩
theorem ny_reset (post : SY → Prop) (hc : c ≤ 24) (hK : ∀ j, K j = nI (kd j)) (k18 : ∀ j, j < c → kd j ≤ 18) (hp : post ((nI c), cs, sw, pp, pd, pe, K, ex, ey, ez, W, (nb_cs c kd ey H), nty, fo, va, nx, en, (nb_al 4 (fun _ => 0) mem), nm, td, mt)) : wpY_reset post ((nI c), cs, sw, pp, pd, pe, K, ex, ey, ez, W, H, nty, fo, va, nx, en, mem, nm, td, mt) := by
  have key : ∀ n i, i ≤ c → c < i + n → wY_reset_2 post (nI c) cs sw pp pd pe n (nI i) K ex ey ez W (nb_cs i kd ey H) nty fo va nx en mem nm td mt := by
    intro n
    induction n with
    | zero => intro i h1 h2; omega
    | succ n ih =>
      intro i h1 h2
      by_cases hi : i < c
      · have x1 : vp_in (nI i) 24 := vp_in_nI (by omega) (by omega)
        have x2 : (nI i).toNatClampNeg = i := nI_clamp (by omega)
        have kk := k18 i hi
        have nxt := ih (i + 1) (by omega) (by omega)
        refine br_f (nI_ge hi (by omega)) ⟨x1, ?_⟩
        rw [x2]
        by_cases k2 : kd i = 2
        · have e2 : K i = 2 := by rw [hK, k2]; rfl
          rw [← nb_cs_t k2] at nxt
          refine br_t e2 ⟨x1, x1, nm_e (nm_r (nI_1 i) ?_)⟩
          exact nxt
        · have e2 : ¬ K i = 2 := by rw [hK]; exact fun q => k2 ((nI_eq (b := 2) (by omega) (by omega)).mp q)
          rw [← nb_cs_f k2] at nxt
          exact br_f e2 (nm_r (nI_1 i) nxt)
      · have : i = c := by omega
        subst this
        exact br_t (nI_le (Nat.le_refl _) (by omega)) (ny_reset_m post hp)
  have k0 := key (c + 1) 0 (by omega) (by omega)
  rw [nb_cs_0] at k0
  exact ⟨c + 1, k0⟩
theorem nx_keep_m (post : SX → Prop) (hp : post ((nI c), cs, sw, pp, pd, pe, K, W, ox, oy, oz, nums, rch, D, nx, en, fo, H, nt, mem, (nb_al 4 mem nm), vals, tr)) : ∃ n, wX_keep_40 post (nI c) cs sw pp pd pe n 0 K W ox oy oz nums rch D nx en fo H nt mem nm vals tr := by
  have key : ∀ d i, i + d = 4 → wX_keep_40 post (nI c) cs sw pp pd pe (d + 1) (nI i) K W ox oy oz nums rch D nx en fo H nt mem (nb_al i mem nm) vals tr := by
    intro d
    induction d with
    | zero =>
      intro i hi
      have : i = 4 := by omega
      subst this
      exact br_t (by decide) hp
    | succ d ih =>
      intro i hi
      have x1 : vp_in (nI i) 4 := vp_in_nI (by omega) (by omega)
      have x2 : (nI i).toNatClampNeg = i := nI_clamp (by omega)
      have nxt := ih (i + 1) (by omega)
      rw [← nb_al_t] at nxt
      refine br_f (nI_ge (b := 4) (by omega) (by omega)) ⟨x1, x1, nm_e (nm_r (nI_1 i) ?_)⟩
      rw [x2]
      exact nxt
  have k0 := key 4 0 rfl
  rw [nb_al_0] at k0
  exact ⟨5, k0⟩
theorem nx_keep (post : SX → Prop) (hc : c ≤ 24) (hK : ∀ j, K j = nI (kd j)) (k18 : ∀ j, j < c → kd j ≤ 18) (hp : post ((nI c), cs, sw, pp, pd, pe, K, W, ox, oy, oz, nums, rch, D, nx, en, fo, H, (nb_cs c kd H nt), mem, (nb_al 4 mem nm), vals, tr)) : wpX_keep post ((nI c), cs, sw, pp, pd, pe, K, W, ox, oy, oz, nums, rch, D, nx, en, fo, H, nt, mem, nm, vals, tr) := by
  have key : ∀ n i, i ≤ c → c < i + n → wX_keep_2 post (nI c) cs sw pp pd pe n (nI i) K W ox oy oz nums rch D nx en fo H (nb_cs i kd H nt) mem nm vals tr := by
    intro n
    induction n with
    | zero => intro i h1 h2; omega
    | succ n ih =>
      intro i h1 h2
      by_cases hi : i < c
      · have x1 : vp_in (nI i) 24 := vp_in_nI (by omega) (by omega)
        have x2 : (nI i).toNatClampNeg = i := nI_clamp (by omega)
        have kk := k18 i hi
        have nxt := ih (i + 1) (by omega) (by omega)
        refine br_f (nI_ge hi (by omega)) ⟨x1, ?_⟩
        rw [x2]
        by_cases k2 : kd i = 2
        · have e2 : K i = 2 := by rw [hK, k2]; rfl
          rw [← nb_cs_t k2] at nxt
          refine br_t e2 ⟨x1, x1, nm_e (nm_r (nI_1 i) ?_)⟩
          exact nxt
        · have e2 : ¬ K i = 2 := by rw [hK]; exact fun q => k2 ((nI_eq (b := 2) (by omega) (by omega)).mp q)
          rw [← nb_cs_f k2] at nxt
          exact br_f e2 (nm_r (nI_1 i) nxt)
      · have : i = c := by omega
        subst this
        exact br_t (nI_le (Nat.le_refl _) (by omega)) (nx_keep_m post hp)
  have k0 := key (c + 1) 0 (by omega) (by omega)
  rw [nb_cs_0] at k0
  exact ⟨c + 1, k0⟩
theorem ny_keep_m (post : SY → Prop) (hp : post ((nI c), cs, sw, pp, pd, pe, K, ex, ey, ez, W, H, nty, fo, va, nx, en, mem, (nb_al 4 mem nm), td, mt)) : ∃ n, wY_keep_30 post (nI c) cs sw pp pd pe n 0 K ex ey ez W H nty fo va nx en mem nm td mt := by
  have key : ∀ d i, i + d = 4 → wY_keep_30 post (nI c) cs sw pp pd pe (d + 1) (nI i) K ex ey ez W H nty fo va nx en mem (nb_al i mem nm) td mt := by
    intro d
    induction d with
    | zero =>
      intro i hi
      have : i = 4 := by omega
      subst this
      exact br_t (by decide) hp
    | succ d ih =>
      intro i hi
      have x1 : vp_in (nI i) 4 := vp_in_nI (by omega) (by omega)
      have x2 : (nI i).toNatClampNeg = i := nI_clamp (by omega)
      have nxt := ih (i + 1) (by omega)
      rw [← nb_al_t] at nxt
      refine br_f (nI_ge (b := 4) (by omega) (by omega)) ⟨x1, x1, nm_e (nm_r (nI_1 i) ?_)⟩
      rw [x2]
      exact nxt
  have k0 := key 4 0 rfl
  rw [nb_al_0] at k0
  exact ⟨5, k0⟩
theorem ny_keep (post : SY → Prop) (hc : c ≤ 24) (hK : ∀ j, K j = nI (kd j)) (k18 : ∀ j, j < c → kd j ≤ 18) (hp : post ((nI c), cs, sw, pp, pd, pe, K, ex, ey, ez, W, H, (nb_al c H nty), fo, va, nx, en, mem, (nb_al 4 mem nm), td, mt)) : wpY_keep post ((nI c), cs, sw, pp, pd, pe, K, ex, ey, ez, W, H, nty, fo, va, nx, en, mem, nm, td, mt) := by
  have key : ∀ n i, i ≤ c → c < i + n → wY_keep_2 post (nI c) cs sw pp pd pe n (nI i) K ex ey ez W H (nb_al i H nty) fo va nx en mem nm td mt := by
    intro n
    induction n with
    | zero => intro i h1 h2; omega
    | succ n ih =>
      intro i h1 h2
      by_cases hi : i < c
      · have x1 : vp_in (nI i) 24 := vp_in_nI (by omega) (by omega)
        have x2 : (nI i).toNatClampNeg = i := nI_clamp (by omega)
        have kk := k18 i hi
        have nxt := ih (i + 1) (by omega) (by omega)
        refine br_f (nI_ge hi (by omega)) ⟨x1, ?_⟩
        rw [x2]
        rw [← nb_al_t] at nxt
        exact ⟨x1, nm_e (nm_r (nI_1 i) nxt)⟩
      · have : i = c := by omega
        subst this
        exact br_t (nI_le (Nat.le_refl _) (by omega)) (ny_keep_m post hp)
  have k0 := key (c + 1) 0 (by omega) (by omega)
  rw [nb_al_0] at k0
  exact ⟨c + 1, k0⟩
theorem nx_back_m (post : SX → Prop) (hp : post ((nI c), cs, sw, pp, pd, pe, K, W, ox, oy, oz, nums, rch, D, nx, en, fo, H, nt, (nb_al 4 nm mem), nm, vals, tr)) : ∃ n, wX_back_40 post (nI c) cs sw pp pd pe n 0 K W ox oy oz nums rch D nx en fo H nt mem nm vals tr := by
  have key : ∀ d i, i + d = 4 → wX_back_40 post (nI c) cs sw pp pd pe (d + 1) (nI i) K W ox oy oz nums rch D nx en fo H nt (nb_al i nm mem) nm vals tr := by
    intro d
    induction d with
    | zero =>
      intro i hi
      have : i = 4 := by omega
      subst this
      exact br_t (by decide) hp
    | succ d ih =>
      intro i hi
      have x1 : vp_in (nI i) 4 := vp_in_nI (by omega) (by omega)
      have x2 : (nI i).toNatClampNeg = i := nI_clamp (by omega)
      have nxt := ih (i + 1) (by omega)
      rw [← nb_al_t] at nxt
      refine br_f (nI_ge (b := 4) (by omega) (by omega)) ⟨x1, x1, nm_e (nm_r (nI_1 i) ?_)⟩
      rw [x2]
      exact nxt
  have k0 := key 4 0 rfl
  rw [nb_al_0] at k0
  exact ⟨5, k0⟩
theorem nx_back (post : SX → Prop) (hc : c ≤ 24) (hK : ∀ j, K j = nI (kd j)) (k18 : ∀ j, j < c → kd j ≤ 18) (hp : post ((nI c), cs, sw, pp, pd, pe, K, W, ox, oy, oz, nums, rch, D, nx, en, fo, (nb_cs c kd nt H), nt, (nb_al 4 nm mem), nm, vals, tr)) : wpX_back post ((nI c), cs, sw, pp, pd, pe, K, W, ox, oy, oz, nums, rch, D, nx, en, fo, H, nt, mem, nm, vals, tr) := by
  have key : ∀ n i, i ≤ c → c < i + n → wX_back_2 post (nI c) cs sw pp pd pe n (nI i) K W ox oy oz nums rch D nx en fo (nb_cs i kd nt H) nt mem nm vals tr := by
    intro n
    induction n with
    | zero => intro i h1 h2; omega
    | succ n ih =>
      intro i h1 h2
      by_cases hi : i < c
      · have x1 : vp_in (nI i) 24 := vp_in_nI (by omega) (by omega)
        have x2 : (nI i).toNatClampNeg = i := nI_clamp (by omega)
        have kk := k18 i hi
        have nxt := ih (i + 1) (by omega) (by omega)
        refine br_f (nI_ge hi (by omega)) ⟨x1, ?_⟩
        rw [x2]
        by_cases k2 : kd i = 2
        · have e2 : K i = 2 := by rw [hK, k2]; rfl
          rw [← nb_cs_t k2] at nxt
          refine br_t e2 ⟨x1, x1, nm_e (nm_r (nI_1 i) ?_)⟩
          exact nxt
        · have e2 : ¬ K i = 2 := by rw [hK]; exact fun q => k2 ((nI_eq (b := 2) (by omega) (by omega)).mp q)
          rw [← nb_cs_f k2] at nxt
          exact br_f e2 (nm_r (nI_1 i) nxt)
      · have : i = c := by omega
        subst this
        exact br_t (nI_le (Nat.le_refl _) (by omega)) (nx_back_m post hp)
  have k0 := key (c + 1) 0 (by omega) (by omega)
  rw [nb_cs_0] at k0
  exact ⟨c + 1, k0⟩
theorem ny_back_m (post : SY → Prop) (hp : post ((nI c), cs, sw, pp, pd, pe, K, ex, ey, ez, W, H, nty, fo, va, nx, en, (nb_al 4 nm mem), nm, td, mt)) : ∃ n, wY_back_40 post (nI c) cs sw pp pd pe n 0 K ex ey ez W H nty fo va nx en mem nm td mt := by
  have key : ∀ d i, i + d = 4 → wY_back_40 post (nI c) cs sw pp pd pe (d + 1) (nI i) K ex ey ez W H nty fo va nx en (nb_al i nm mem) nm td mt := by
    intro d
    induction d with
    | zero =>
      intro i hi
      have : i = 4 := by omega
      subst this
      exact br_t (by decide) hp
    | succ d ih =>
      intro i hi
      have x1 : vp_in (nI i) 4 := vp_in_nI (by omega) (by omega)
      have x2 : (nI i).toNatClampNeg = i := nI_clamp (by omega)
      have nxt := ih (i + 1) (by omega)
      rw [← nb_al_t] at nxt
      refine br_f (nI_ge (b := 4) (by omega) (by omega)) ⟨x1, x1, nm_e (nm_r (nI_1 i) ?_)⟩
      rw [x2]
      exact nxt
  have k0 := key 4 0 rfl
  rw [nb_al_0] at k0
  exact ⟨5, k0⟩
theorem ny_back (post : SY → Prop) (hc : c ≤ 24) (hK : ∀ j, K j = nI (kd j)) (k18 : ∀ j, j < c → kd j ≤ 18) (hp : post ((nI c), cs, sw, pp, pd, pe, K, ex, ey, ez, W, (nb_cs c kd nty H), nty, fo, va, nx, en, (nb_al 4 nm mem), nm, td, mt)) : wpY_back post ((nI c), cs, sw, pp, pd, pe, K, ex, ey, ez, W, H, nty, fo, va, nx, en, mem, nm, td, mt) := by
  have key : ∀ n i, i ≤ c → c < i + n → wY_back_2 post (nI c) cs sw pp pd pe n (nI i) K ex ey ez W (nb_cs i kd nty H) nty fo va nx en mem nm td mt := by
    intro n
    induction n with
    | zero => intro i h1 h2; omega
    | succ n ih =>
      intro i h1 h2
      by_cases hi : i < c
      · have x1 : vp_in (nI i) 24 := vp_in_nI (by omega) (by omega)
        have x2 : (nI i).toNatClampNeg = i := nI_clamp (by omega)
        have kk := k18 i hi
        have nxt := ih (i + 1) (by omega) (by omega)
        refine br_f (nI_ge hi (by omega)) ⟨x1, ?_⟩
        rw [x2]
        by_cases k2 : kd i = 2
        · have e2 : K i = 2 := by rw [hK, k2]; rfl
          rw [← nb_cs_t k2] at nxt
          refine br_t e2 ⟨x1, x1, nm_e (nm_r (nI_1 i) ?_)⟩
          exact nxt
        · have e2 : ¬ K i = 2 := by rw [hK]; exact fun q => k2 ((nI_eq (b := 2) (by omega) (by omega)).mp q)
          rw [← nb_cs_f k2] at nxt
          exact br_f e2 (nm_r (nI_1 i) nxt)
      · have : i = c := by omega
        subst this
        exact br_t (nI_le (Nat.le_refl _) (by omega)) (ny_back_m post hp)
  have k0 := key (c + 1) 0 (by omega) (by omega)
  rw [nb_cs_0] at k0
  exact ⟨c + 1, k0⟩
theorem nb_tM_R (hc : c ≤ 24) (po : nb_po c wd pp pd pe) {C : Nat → Int32} (hR : ∀ j, j < c → nb_R (wd j) (C j)) (hm : ∀ i, i < 4 → nb_R 4 (mem i)) : ∀ i, i < 4 → nb_R 4 (nb_tM pp pd pe C mem i) := by
  intro i hi
  unfold nb_tM
  by_cases g : nb_gm pp pe C = true
  · rw [if_pos g]
    have q : ¬ pp = -1 := fun q => nb_gm_1 q g
    obtain ⟨p, d, e, h1, h2, h3, e1, e2, e3, w1, w2⟩ := po.resolve_left q
    have r := hR d h2
    rw [w2] at r
    rw [e2, nI_clamp (by omega)]
    by_cases z : i = (C pp.toNatClampNeg).toNatClampNeg
    · rw [z, pk_us]; exact r
    · rw [pk_un z]; exact hm i hi
  · rw [if_neg g]; exact hm i hi
theorem nb_clk (S : nb_S c K W ox oy oz nums rch D ex ey ez kd wd xo yo zo dp) (d1 : ∀ j, j < c → nb_ne c wd nx en j) (d2 : ∀ j, j < c → fo j = -1 ∨ nb_R (wd j) (fo j)) (po : nb_po c wd pp pd pe) {T : Nat} (hT : T ≤ 40) :
    ∀ d i (x3 : Int32) (H mem : Nat → Int32), i + d = T → (∀ j, j < c → nb_R (wd j) (H j)) → (∀ i, i < 4 → nb_R 4 (mem i)) →
      ∃ (r : Int32) (H' mem' : Nat → Int32), (∀ j, j < c → nb_R (wd j) (H' j)) ∧ (∀ i, i < 4 → nb_R 4 (mem' i))
        ∧ (∀ (post : Int32 → SX → Prop) (vals : Nat → Int32), (∀ vals', post r ((nI c), cs, sw, pp, pd, pe, K, W, ox, oy, oz, nums, rch, D, nx, en, fo, H', nt, mem', nm, vals', tr)) → wX_clock_26 post (nI T) (d + 1) x3 (nI i) (nI c) cs sw pp pd pe K W ox oy oz nums rch D nx en fo H nt mem nm vals tr)
        ∧ (∀ (post : Int32 → SY → Prop) (va : Nat → Int32), (∀ va', post r ((nI c), cs, sw, pp, pd, pe, K, ex, ey, ez, W, H', nty, fo, va', nx, en, mem', nm, td, mt)) → wY_clock_26 post (nI T) (d + 1) x3 (nI i) (nI c) cs sw pp pd pe K ex ey ez W H nty fo va nx en mem nm td mt) := by
  obtain ⟨hc, hK, hW, hx, hy, hz, hD, ok, ye, _, _, _⟩ := S
  have k18 : ∀ j, j < c → kd j ≤ 18 := fun j hj => (ok j hj).1
  intro d
  induction d with
  | zero =>
    intro i x3 H mem hi hH hm
    have : i = T := by omega
    subst this
    exact ⟨x3, H, mem, hH, hm, fun post vals hp => br_t (nI_le (Nat.le_refl _) (by omega)) (hp vals), fun post va hp => br_t (nI_le (Nat.le_refl _) (by omega)) (hp va)⟩
  | succ d ih =>
    intro i x3 H mem hi hH hm
    obtain ⟨C, hC⟩ := nb_sol_ex (nb_locX (fo := fo) (mem := mem) (base := H) ok)
    obtain ⟨V0, hV0⟩ := nb_sol_ex (nb_locY (fo := fo) (mem := mem) (base := H) ok)
    have agr : ∀ V, nb_Sol (nb_FY kd wd xo yo zo nums fo mem H) c V → ∀ j, j < c → C j = V j ∧ nb_R (wd j) (C j) := fun V hV j hj =>
      nb_agree ok d2 hm (fun _ => True) (fun _ _ _ => ⟨fun _ => trivial, fun _ _ => trivial, fun _ => trivial⟩) (fun j hj _ _ => ⟨rfl, hH j hj⟩) hC hV (j + 1) j (by omega) hj trivial
    have hR : ∀ j, j < c → nb_R (wd j) (C j) := fun j hj => (agr V0 hV0 j hj).2
    have hH' : ∀ j, j < c → nb_R (wd j) (nb_tH (nb_gt kd nx en C) (fun j => C (nx j).toNatClampNeg) H c j) := nb_tH_R (P := fun j v => nb_R (wd j) v) hH (fun j hj g => by
      obtain ⟨t, ht, e, w⟩ := (d1 j hj).1.resolve_left (nb_gt_inv g).2
      show nb_R (wd j) (C (nx j).toNatClampNeg)
      rw [e, nI_clamp (by omega), ← w]
      exact hR t ht) c (Nat.le_refl c)
    obtain ⟨r, H2, mem2, h1, h2, fx, fy⟩ := ih (i + 1) (x3 + (nb_tS (nb_gt kd nx en C) (fun j => C (nx j).toNatClampNeg) H c + nb_ts pp pd pe C mem)) (nb_tH (nb_gt kd nx en C) (fun j => C (nx j).toNatClampNeg) H c) (nb_tM pp pd pe C mem) (by omega) hH' (nb_tM_R hc po hR hm)
    refine ⟨r, H2, mem2, h1, h2, fun post vals hp => ?_, fun post va hp => ?_⟩
    · refine br_f (nI_ge (by omega) (by omega)) ?_
      refine nx_set_held _ hc hK hW hx hy hz ok (fun V hV => ?_)
      have hv := fun j hj => nb_sol_un (nb_locX ok) hV hC (j + 1) j (by omega) hj
      refine nx_tr _ hc hK k18 d1 hv (nm_e ?_)
      refine nx_tm _ hc po hv hR (nm_r (Int32.add_assoc _ _ _) (nm_r (nI_1 i) ?_))
      exact fx post V hp
    · refine br_f (nI_ge (by omega) (by omega)) ?_
      unfold wpY_tick
      refine ny_work_held _ hc hK hW ok ye d2 (fun V hV => ?_)
      exact ny_tk _ hc hK k18 d1 po (fun j hj => (agr V hV j hj).1.symm) hR (nm_e (nm_r (nI_1 i) (fy post V hp)))
end
theorem i_vc_peek {k : Nat} {u : SX} {v : SY} (I : i_Rel k u v) (hk : k + 5 ≤ 2560) (v1 : Int32) : wpX_peek (fun r u' => wpY_peek (fun r' v' => r' = r ∧ i_Rel (k + 5) u' v') v v1) u v1 := by
  obtain ⟨c, cs, sw, pp, pd, pe, K, W, ox, oy, oz, nums, rch, D, nx, en, fo, H, nt, mem, nm, vals, tr, ex, ey, ez, nty, va, td, mt, kd, wd, xo, yo, zo, dp, rfl, rfl, h1, S, d1, d2, d3, d4, d5, d6, d7⟩ := I
  have S0 := S
  obtain ⟨hc, hK, hW, hx, hy, hz, hD, ok, ye, _, _, _⟩ := S0
  unfold wpX_peek
  by_cases q : nb_sg c v1
  · obtain ⟨s, hs, rfl⟩ := q
    have x1 : vp_in (nI s) 24 := vp_in_nI (by omega) (by omega)
    have x2 : (nI s).toNatClampNeg = s := nI_clamp (by omega)
    refine nx_isS_t _ hc hs (br_f (by decide) ?_)
    refine nx_set_held _ hc hK hW hx hy hz ok (fun U hU => ⟨x1, ?_⟩)
    unfold wpY_peek
    refine ny_isS_t _ hc hs (br_f (by decide) ?_)
    refine ny_work_held _ hc hK hW ok ye d2 (fun V hV => ⟨x1, ?_, nb_rel h1 S ⟨d1, d2, d3, d4, d5, d6, d7⟩⟩)
    rw [x2]
    exact (nb_agree ok d2 d5 (fun _ => True) (fun _ _ _ => ⟨fun _ => trivial, fun _ _ => trivial, fun _ => trivial⟩) (fun j hj _ _ => ⟨rfl, d3 j hj⟩) hU hV (s + 1) s (by omega) hs trivial).1.symm
  · refine nx_isS_f _ hc q (br_t rfl ?_)
    unfold wpY_peek
    exact ny_isS_f _ hc q (br_t rfl ⟨rfl, nb_rel h1 S ⟨d1, d2, d3, d4, d5, d6, d7⟩⟩)
theorem i_vc_clock {k : Nat} {u : SX} {v : SY} (I : i_Rel k u v) (hk : k + 5 ≤ 2560) (v1 : Int32) : wpX_clock (fun r u' => wpY_clock (fun r' v' => r' = r ∧ i_Rel (k + 5) u' v') v v1) u v1 := by
  obtain ⟨c, cs, sw, pp, pd, pe, K, W, ox, oy, oz, nums, rch, D, nx, en, fo, H, nt, mem, nm, vals, tr, ex, ey, ez, nty, va, td, mt, kd, wd, xo, yo, zo, dp, rfl, rfl, h1, S, d1, d2, d3, d4, d5, d6, d7⟩ := I
  by_cases q0 : 0 ≤ v1
  · by_cases q4 : v1 ≤ 40
    · obtain ⟨T, hT, rfl⟩ := nI_of (Int32.not_lt.mpr q0)
      have hT4 : T ≤ 40 := (nI_leI (b := 40) hT (by omega)).mp q4
      obtain ⟨r, H', mem', hH, hm, fx, fy⟩ := nb_clk (cs := cs) (sw := sw) (nt := nt) (nm := nm) (tr := tr) (nty := nty) (td := td) (mt := mt) S d1 d2 d7 hT4 T 0 0 H mem (by omega) d3 d5
      exact br_t q0 (br_t q4 ⟨T + 1, fx _ _ (fun vals' => br_t q0 (br_t q4 ⟨T + 1, fy _ _ (fun va' => ⟨rfl, nb_rel h1 S ⟨d1, d2, hH, d4, hm, d6, d7⟩⟩)⟩))⟩)
    · obtain ⟨r, H', mem', hH, hm, fx, fy⟩ := nb_clk (cs := cs) (sw := sw) (nt := nt) (nm := nm) (tr := tr) (nty := nty) (td := td) (mt := mt) S d1 d2 d7 (T := 40) (by omega) 40 0 0 H mem (by omega) d3 d5
      exact br_t q0 (br_f q4 ⟨41, fx _ _ (fun vals' => br_t q0 (br_f q4 ⟨41, fy _ _ (fun va' => ⟨rfl, nb_rel h1 S ⟨d1, d2, hH, d4, hm, d6, d7⟩⟩)⟩))⟩)
  · obtain ⟨r, H', mem', hH, hm, fx, fy⟩ := nb_clk (cs := cs) (sw := sw) (nt := nt) (nm := nm) (tr := tr) (nty := nty) (td := td) (mt := mt) S d1 d2 d7 (T := 0) (by omega) 0 0 0 H mem (by omega) d3 d5
    exact br_f q0 ⟨1, fx _ _ (fun vals' => br_f q0 ⟨1, fy _ _ (fun va' => ⟨rfl, nb_rel h1 S ⟨d1, d2, hH, d4, hm, d6, d7⟩⟩)⟩)⟩
theorem i_vc_reset {k : Nat} {u : SX} {v : SY} (I : i_Rel k u v) (hk : k + 5 ≤ 2560) : wpX_reset (fun u' => wpY_reset (fun v' => i_Rel (k + 5) u' v') v) u := by
  obtain ⟨c, cs, sw, pp, pd, pe, K, W, ox, oy, oz, nums, rch, D, nx, en, fo, H, nt, mem, nm, vals, tr, ex, ey, ez, nty, va, td, mt, kd, wd, xo, yo, zo, dp, rfl, rfl, h1, S, d1, d2, d3, d4, d5, d6, d7⟩ := I
  have S0 := S
  obtain ⟨hc, hK, hW, hx, hy, hz, hD, ok, ye, _, _, _⟩ := S0
  have k18 : ∀ j, j < c → kd j ≤ 18 := fun j hj => (ok j hj).1
  refine nx_reset _ hc hK k18 (ny_reset _ hc hK k18 ?_)
  rw [nb_cs_c (g := ey) (g' := nums) (fun j hj e => (ye j hj).2.2.2 (Or.inr (Or.inl e)))]
  refine nb_rel h1 S ⟨d1, d2, nb_cs_R (fun j hj e => (ok j hj).2.2.2.2.2.2.2.2.2.1 (Or.inr e)) d3, d4, fun i hi => ?_, d6, d7⟩
  rw [nb_al_n hi]
  exact ⟨0, by decide, rfl⟩
theorem i_vc_keep {k : Nat} {u : SX} {v : SY} (I : i_Rel k u v) (hk : k + 5 ≤ 2560) : wpX_keep (fun u' => wpY_keep (fun v' => i_Rel (k + 5) u' v') v) u := by
  obtain ⟨c, cs, sw, pp, pd, pe, K, W, ox, oy, oz, nums, rch, D, nx, en, fo, H, nt, mem, nm, vals, tr, ex, ey, ez, nty, va, td, mt, kd, wd, xo, yo, zo, dp, rfl, rfl, h1, S, d1, d2, d3, d4, d5, d6, d7⟩ := I
  have S0 := S
  obtain ⟨hc, hK, hW, hx, hy, hz, hD, ok, ye, _, _, _⟩ := S0
  have k18 : ∀ j, j < c → kd j ≤ 18 := fun j hj => (ok j hj).1
  refine nx_keep _ hc hK k18 (ny_keep _ hc hK k18 ?_)
  refine nb_rel h1 S ⟨d1, d2, d3, fun j hj e => ?_, d5, fun i hi => ?_, d7⟩
  · rw [nb_cs_n hj e, nb_al_n hj]
    exact ⟨rfl, d3 j hj⟩
  · rw [nb_al_n hi]
    exact d5 i hi
theorem i_vc_back {k : Nat} {u : SX} {v : SY} (I : i_Rel k u v) (hk : k + 5 ≤ 2560) : wpX_back (fun u' => wpY_back (fun v' => i_Rel (k + 5) u' v') v) u := by
  obtain ⟨c, cs, sw, pp, pd, pe, K, W, ox, oy, oz, nums, rch, D, nx, en, fo, H, nt, mem, nm, vals, tr, ex, ey, ez, nty, va, td, mt, kd, wd, xo, yo, zo, dp, rfl, rfl, h1, S, d1, d2, d3, d4, d5, d6, d7⟩ := I
  have S0 := S
  obtain ⟨hc, hK, hW, hx, hy, hz, hD, ok, ye, _, _, _⟩ := S0
  have k18 : ∀ j, j < c → kd j ≤ 18 := fun j hj => (ok j hj).1
  refine nx_back _ hc hK k18 (ny_back _ hc hK k18 ?_)
  rw [← nb_cs_c (g := nt) (g' := nty) (fun j hj e => (d4 j hj e).1)]
  refine nb_rel h1 S ⟨d1, d2, nb_cs_R (fun j hj e => (d4 j hj e).2) d3, d4, fun i hi => ?_, d6, d7⟩
  rw [nb_al_n hi]
  exact d6 i hi
end
section
/-! depth -/
section
variable {c : Nat} {cs sw pp pd pe : Int32} {K W ox oy oz nums rch D nx en fo H nt mem nm vals tr ex ey ez nty va td mt : Nat → Int32} {kd wd xo yo zo dp : Nat → Nat}
theorem ny_uX_t (post : Int32 → Prop) (hc : c ≤ 24) (hK : ∀ j, K j = nI (kd j)) {i : Nat} (hi : i < c) (k18 : kd i ≤ 18) (g : 3 ≤ kd i) (h : post 1) : wpY_usesX post ((nI c), cs, sw, pp, pd, pe, K, ex, ey, ez, W, H, nty, fo, va, nx, en, mem, nm, td, mt) (nI i) := by
  unfold wpY_usesX
  refine ⟨vp_in_nI (by omega) (by omega), ?_⟩
  rw [nI_clamp (by omega), hK]
  exact br_f (nI_nlt (b := 3) g (by omega)) h
theorem ny_uX_f (post : Int32 → Prop) (hc : c ≤ 24) (hK : ∀ j, K j = nI (kd j)) {i : Nat} (hi : i < c) (g : ¬ 3 ≤ kd i) (h : post 0) : wpY_usesX post ((nI c), cs, sw, pp, pd, pe, K, ex, ey, ez, W, H, nty, fo, va, nx, en, mem, nm, td, mt) (nI i) := by
  unfold wpY_usesX
  refine ⟨vp_in_nI (by omega) (by omega), ?_⟩
  rw [nI_clamp (by omega), hK]
  exact br_t (nI_lt (b := 3) (by omega) (by omega)) h
theorem ny_uY_t (post : Int32 → Prop) (hc : c ≤ 24) (hK : ∀ j, K j = nI (kd j)) {i : Nat} (hi : i < c) (g : 4 ≤ kd i ∧ kd i ≤ 15) (h : post 1) : wpY_usesY post ((nI c), cs, sw, pp, pd, pe, K, ex, ey, ez, W, H, nty, fo, va, nx, en, mem, nm, td, mt) (nI i) := by
  unfold wpY_usesY
  have x1 : vp_in (nI i) 24 := vp_in_nI (by omega) (by omega)
  refine ⟨x1, ?_⟩
  rw [nI_clamp (by omega), hK]
  exact br_f (nI_nlt (b := 4) g.1 (by omega)) ⟨x1, br_f (nI_nlt (a := 15) g.2 (by omega)) h⟩
theorem ny_uY_f (post : Int32 → Prop) (hc : c ≤ 24) (hK : ∀ j, K j = nI (kd j)) {i : Nat} (hi : i < c) (k18 : kd i ≤ 18) (g : ¬ (4 ≤ kd i ∧ kd i ≤ 15)) (h : post 0) : wpY_usesY post ((nI c), cs, sw, pp, pd, pe, K, ex, ey, ez, W, H, nty, fo, va, nx, en, mem, nm, td, mt) (nI i) := by
  unfold wpY_usesY
  have x1 : vp_in (nI i) 24 := vp_in_nI (by omega) (by omega)
  refine ⟨x1, ?_⟩
  rw [nI_clamp (by omega), hK]
  by_cases q : 4 ≤ kd i
  · exact br_f (nI_nlt (b := 4) q (by omega)) ⟨x1, br_t (nI_lt (a := 15) (by omega) (by omega)) h⟩
  · exact br_t (nI_lt (b := 4) (by omega) (by omega)) h
theorem nb_mx_le {a b n : Nat} (ha : a ≤ n) (hb : b ≤ n) : nb_mx a b ≤ n := by
  unfold nb_mx
  by_cases h : b ≤ a
  · rw [if_pos h]; exact ha
  · rw [if_neg h]; exact hb
theorem ny_dep (post : Int32 → SY → Prop) (S : nb_S c K W ox oy oz nums rch D ex ey ez kd wd xo yo zo dp) {s : Nat} (hs : s < c) (hp : ∀ td', post (nI (dp s)) ((nI c), cs, sw, pp, pd, pe, K, ex, ey, ez, W, H, nty, fo, va, nx, en, mem, nm, td', mt)) : ∃ n, wY_depth_12 post (nI s) (nI c) cs sw pp pd pe n 0 K ex ey ez W H nty fo va nx en mem nm td mt := by
  obtain ⟨hc, hK, hW, hx, hy, hz, hD, ok, ye, _, _, dq⟩ := S
  have key : ∀ n i td, i ≤ s + 1 → s + 1 < i + n → (∀ j, j < i → td j = nI (dp j)) → wY_depth_12 post (nI s) (nI c) cs sw pp pd pe n (nI i) K ex ey ez W H nty fo va nx en mem nm td mt := by
    intro n
    induction n with
    | zero => intro i td h1 h2; omega
    | succ n ih =>
      intro i td h1 h2 ht
      by_cases hi : i ≤ s
      · have hic : i < c := by omega
        have x1 : vp_in (nI i) 24 := vp_in_nI (by omega) (by omega)
        have x2 : (nI i).toNatClampNeg = i := nI_clamp (by omega)
        obtain ⟨k18, _, _, x0, y0, z0, a1, a2, a3, _⟩ := ok i hic
        obtain ⟨ye1, ye2, ye3, _⟩ := ye i hic
        have dx := (dq (xo i) (by omega)).2
        have dy := (dq (yo i) (by omega)).2
        have dz := (dq (zo i) (by omega)).2
        have di := (dq i hic).1
        have fin : ∀ v, v = nI (dp i) → wY_depth_12 post (nI s) (nI c) cs sw pp pd pe n (nI (i + 1)) K ex ey ez W H nty fo va nx en mem nm (upd td i v) mt := fun v e => by
          refine ih (i + 1) _ (by omega) (by omega) (fun j hj => ?_)
          by_cases q : j = i
          · subst q; rw [pk_us]; exact e
          · rw [pk_un q]; exact ht j (by omega)
        have n12 : kd i ≠ 12 → ¬ K i = 12 := fun h => by rw [hK]; exact fun q => h ((nI_eq (b := 12) (by omega) (by omega)).mp q)
        refine br_f (nI_nlt hi (by omega)) ?_
        by_cases g3 : 3 ≤ kd i
        · have hxi := a1 g3
          refine ny_uX_t _ hc hK hic k18 g3 (br_f (by decide) ⟨x1, ?_⟩)
          have st112 : ∀ m, m + 1 = dp i → wY_depth_112 post (wY_depth_12 post (nI s) (nI c) cs sw pp pd pe n) (nI s) (nI i) (nI m) (nI c) cs sw pp pd pe K ex ey ez W H nty fo va nx en mem nm td mt := fun m e => by
            unfold wY_depth_112
            refine ny_uX_t _ hc hK hic k18 g3 (br_f (by decide) ⟨x1, nm_e (nm_r (nI_1 i) ?_)⟩)
            rw [x2]
            exact fin _ (by rw [nI_1, e])
          have st74 : ∀ m, m ≤ 24 → (if kd i = 12 then nb_mx m (dp (zo i)) else m) + 1 = dp i → wY_depth_74 post (wY_depth_12 post (nI s) (nI c) cs sw pp pd pe n) (nI s) (nI i) (nI m) (nI c) cs sw pp pd pe K ex ey ez W H nty fo va nx en mem nm td mt := fun m hm e => by
            unfold wY_depth_74
            refine ⟨x1, ?_⟩
            rw [x2]
            by_cases g12 : kd i = 12
            · have vz : vp_in (ez i) 24 := by rw [ye3 g12]; exact vp_in_nI (by omega) (by omega)
              have cz : (ez i).toNatClampNeg = zo i := by rw [ye3 g12]; exact nI_clamp (by omega)
              have hzi := a3 g12
              rw [if_pos g12] at e
              unfold nb_mx at e
              refine br_t (by rw [hK, g12]; rfl) ⟨x1, vz, ?_⟩
              rw [cz, ht (zo i) hzi]
              by_cases q : dp (zo i) ≤ m
              · rw [if_pos q] at e
                exact br_t (nI_le q (by omega)) (st112 m e)
              · rw [if_neg q] at e
                exact br_f (fun w => q ((nI_leI (by omega) (by omega)).mp w)) ⟨x1, vz, nm_e (st112 _ e)⟩
            · rw [if_neg g12] at e
              exact br_f (n12 g12) (st112 m e)
          have st39 : ∀ m, m ≤ 24 → (if kd i = 12 then nb_mx (if 4 ≤ kd i ∧ kd i ≤ 15 then nb_mx m (dp (yo i)) else m) (dp (zo i)) else (if 4 ≤ kd i ∧ kd i ≤ 15 then nb_mx m (dp (yo i)) else m)) + 1 = dp i → wY_depth_39 post (wY_depth_12 post (nI s) (nI c) cs sw pp pd pe n) (nI s) (nI i) (nI m) (nI c) cs sw pp pd pe K ex ey ez W H nty fo va nx en mem nm td mt := fun m hm e => by
            unfold wY_depth_39
            by_cases g4 : 4 ≤ kd i ∧ kd i ≤ 15
            · have vy : vp_in (ey i) 24 := by rw [ye2 g4.1 g4.2]; exact vp_in_nI (by omega) (by omega)
              have cy : (ey i).toNatClampNeg = yo i := by rw [ye2 g4.1 g4.2]; exact nI_clamp (by omega)
              have hyi := a2 g4.1 g4.2
              rw [if_pos g4] at e
              refine ny_uY_t _ hc hK hic g4 (br_f (by decide) ⟨x1, ?_⟩)
              rw [x2]
              refine ⟨vy, ?_⟩
              rw [cy, ht (yo i) hyi]
              by_cases q : dp (yo i) ≤ m
              · rw [show nb_mx m (dp (yo i)) = m from if_pos q] at e
                exact br_t (nI_le q (by omega)) (st74 m hm e)
              · rw [show nb_mx m (dp (yo i)) = dp (yo i) from if_neg q] at e
                exact br_f (fun w => q ((nI_leI (by omega) (by omega)).mp w)) ⟨x1, vy, nm_e (st74 _ (by omega) e)⟩
            · rw [if_neg g4] at e
              exact ny_uY_f _ hc hK hic k18 g4 (br_t rfl (st74 m hm e))
          have vx : vp_in (ex i) 24 := by rw [ye1 g3]; exact vp_in_nI (by omega) (by omega)
          have cx : (ex i).toNatClampNeg = xo i := by rw [ye1 g3]; exact nI_clamp (by omega)
          rw [x2]
          refine ⟨vx, ?_⟩
          rw [cx, ht (xo i) hxi]
          refine nm_e (st39 _ (by omega) ?_)
          rw [nb_dv, if_neg (by omega)] at di
          exact di.symm
        · refine ny_uX_f _ hc hK hic g3 (br_t rfl ?_)
          unfold wY_depth_39
          refine ny_uY_f _ hc hK hic k18 (by omega) (br_t rfl ?_)
          unfold wY_depth_74
          refine ⟨x1, ?_⟩
          rw [x2]
          refine br_f (n12 (by omega)) ?_
          unfold wY_depth_112
          refine ny_uX_f _ hc hK hic g3 (br_t rfl ⟨x1, nm_e (nm_r (nI_1 i) ?_)⟩)
          rw [x2]
          rw [nb_dv, if_pos (by omega)] at di
          exact fin _ (by rw [di]; rfl)
      · have : i = s + 1 := by omega
        subst this
        refine br_t (nI_lt (by omega) (by omega)) ⟨vp_in_nI (by omega) (by omega), ?_⟩
        rw [nI_clamp (by omega), ht s (by omega)]
        exact hp td
  exact ⟨s + 3, key (s + 3) 0 td (by omega) (by omega) (fun j hj => absurd hj (Nat.not_lt_zero j))⟩
end
theorem i_vc_depth {k : Nat} {u : SX} {v : SY} (I : i_Rel k u v) (hk : k + 5 ≤ 2560) (v1 : Int32) : wpX_depth (fun r => wpY_depth (fun r' v' => r' = r ∧ i_Rel (k + 5) u v') v v1) u v1 := by
  obtain ⟨c, cs, sw, pp, pd, pe, K, W, ox, oy, oz, nums, rch, D, nx, en, fo, H, nt, mem, nm, vals, tr, ex, ey, ez, nty, va, td, mt, kd, wd, xo, yo, zo, dp, rfl, rfl, h1, S, Dy⟩ := I
  have hc := S.1
  have hD := S.2.2.2.2.2.2.1
  unfold wpX_depth
  by_cases q : nb_sg c v1
  · obtain ⟨s, hs, rfl⟩ := q
    refine nx_isS_t _ hc hs (br_f (by decide) ⟨vp_in_nI (by omega) (by omega), ?_⟩)
    rw [nI_clamp (by omega), hD]
    unfold wpY_depth
    refine ny_isS_t _ hc hs (br_f (by decide) ?_)
    exact ny_dep _ S hs (fun td' => ⟨rfl, nb_rel h1 S Dy⟩)
  · refine nx_isS_f _ hc q (br_t rfl ?_)
    unfold wpY_depth
    exact ny_isS_f _ hc q (br_t rfl ⟨rfl, nb_rel h1 S Dy⟩)
end
section
/-! the support: the component's bits and the reference's marks give one cone, one width, one filling -/
def nb_op (c : Nat) (cone : Int32) (kd wd : Nat → Nat) : Prop := (∃ j, j < c ∧ bt cone j = true ∧ kd j = 18) ∨ 8 < nb_sw (nb_sp cone kd) wd c
section
variable {c : Nat} {cs sw pp pd pe : Int32} {K W ox oy oz nums rch D nx en fo H nt mem nm vals tr ex ey ez nty va td mt : Nat → Int32} {kd wd xo yo zo dp : Nat → Nat}
theorem nx_sp_t (post : Int32 → Prop) (hc : c ≤ 24) (hK : ∀ j, K j = nI (kd j)) {cone : Int32} {i : Nat} (hi : i < c) (k18 : kd i ≤ 18) (g : nb_sp cone kd i = true) (h : post 1) : wpX_isInSupport post ((nI c), cs, sw, pp, pd, pe, K, W, ox, oy, oz, nums, rch, D, nx, en, fo, H, nt, mem, nm, vals, tr) cone (nI i) := by
  have x1 : vp_in (nI i) 24 := vp_in_nI (by omega) (by omega)
  have x2 : (nI i).toNatClampNeg = i := nI_clamp (by omega)
  obtain ⟨b, k⟩ := nb_sp_iff.mp g
  unfold wpX_isInSupport
  refine br_t ((nb_bit cone i (by omega)).mpr b) ⟨x1, ?_⟩
  rw [x2, hK]
  rcases k with k | k
  · exact br_t (by rw [k]; rfl) h
  · exact br_f (by rw [k]; decide) ⟨x1, br_t (by rw [k]; rfl) h⟩
theorem nx_sp_f (post : Int32 → Prop) (hc : c ≤ 24) (hK : ∀ j, K j = nI (kd j)) {cone : Int32} {i : Nat} (hi : i < c) (k18 : kd i ≤ 18) (g : ¬ nb_sp cone kd i = true) (h : post 0) : wpX_isInSupport post ((nI c), cs, sw, pp, pd, pe, K, W, ox, oy, oz, nums, rch, D, nx, en, fo, H, nt, mem, nm, vals, tr) cone (nI i) := by
  have x1 : vp_in (nI i) 24 := vp_in_nI (by omega) (by omega)
  have x2 : (nI i).toNatClampNeg = i := nI_clamp (by omega)
  unfold wpX_isInSupport
  by_cases b : bt cone i = true
  · refine br_t ((nb_bit cone i (by omega)).mpr b) ⟨x1, ?_⟩
    rw [x2, hK]
    refine br_f (fun q => g (nb_sp_iff.mpr ⟨b, Or.inl ((nI_eq (b := 0) (by omega) (by omega)).mp q)⟩)) ⟨x1, br_f (fun q => g (nb_sp_iff.mpr ⟨b, Or.inr ((nI_eq (b := 2) (by omega) (by omega)).mp q)⟩)) h⟩
  · exact br_f (fun q => b ((nb_bit cone i (by omega)).mp q)) h
theorem nx_swd (post : Int32 → Prop) (S : nb_S c K W ox oy oz nums rch D ex ey ez kd wd xo yo zo dp) {cone : Int32} (h : post (nI (nb_sw (nb_sp cone kd) wd c))) : wpX_supportWidth post ((nI c), cs, sw, pp, pd, pe, K, W, ox, oy, oz, nums, rch, D, nx, en, fo, H, nt, mem, nm, vals, tr) cone := by
  obtain ⟨hc, hK, hW, hx, hy, hz, hD, ok, ye, _, _, _⟩ := S
  have key : ∀ n i, i ≤ c → c < i + n → wX_supportWidth_4 post cone (nI c) cs sw pp pd pe K W ox oy oz nums rch D nx en fo H nt mem nm vals tr n (nI (nb_sw (nb_sp cone kd) wd i)) (nI i) := by
    intro n
    induction n with
    | zero => intro i h1 h2; omega
    | succ n ih =>
      intro i h1 h2
      by_cases hi : i < c
      · have x1 : vp_in (nI i) 24 := vp_in_nI (by omega) (by omega)
        have x2 : (nI i).toNatClampNeg = i := nI_clamp (by omega)
        have nxt := ih (i + 1) (by omega) (by omega)
        refine br_f (nI_ge hi (by omega)) ?_
        by_cases g : nb_sp cone kd i = true
        · rw [nb_sw_t g] at nxt
          refine nx_sp_t _ hc hK hi (ok i hi).1 g (br_f (by decide) ⟨x1, ?_⟩)
          rw [x2, hW]
          exact nm_r (nI_add _ _) (nm_r (nI_1 i) nxt)
        · rw [nb_sw_f g] at nxt
          exact nx_sp_f _ hc hK hi (ok i hi).1 g (br_t rfl (nm_r (nI_1 i) nxt))
      · have : i = c := by omega
        subst this
        exact br_t (nI_le (Nat.le_refl _) (by omega)) h
  exact ⟨c + 1, key (c + 1) 0 (by omega) (by omega)⟩
theorem nx_open (post : Int32 → Prop) (S : nb_S c K W ox oy oz nums rch D ex ey ez kd wd xo yo zo dp) {cone : Int32} (ht : nb_op c cone kd wd → post 1) (hf : ¬ nb_op c cone kd wd → post 0) : wpX_isOpen post ((nI c), cs, sw, pp, pd, pe, K, W, ox, oy, oz, nums, rch, D, nx, en, fo, H, nt, mem, nm, vals, tr) cone := by
  have S0 := S
  obtain ⟨hc, hK, hW, hx, hy, hz, hD, ok, ye, _, _, _⟩ := S0
  have key : ∀ n i, i ≤ c → c < i + n → (∀ j, j < i → ¬ (bt cone j = true ∧ kd j = 18)) → wX_isOpen_2 post cone (nI c) cs sw pp pd pe K W ox oy oz nums rch D nx en fo H nt mem nm vals tr n (nI i) := by
    intro n
    induction n with
    | zero => intro i h1 h2; omega
    | succ n ih =>
      intro i h1 h2 hn
      by_cases hi : i < c
      · have x1 : vp_in (nI i) 24 := vp_in_nI (by omega) (by omega)
        have x2 : (nI i).toNatClampNeg = i := nI_clamp (by omega)
        have k18 := (ok i hi).1
        refine br_f (nI_ge hi (by omega)) ?_
        by_cases b : bt cone i = true
        · refine br_t ((nb_bit cone i (by omega)).mpr b) ⟨x1, ?_⟩
          rw [x2, hK]
          by_cases k : kd i = 18
          · exact br_t (by rw [k]; rfl) (ht (Or.inl ⟨i, hi, b, k⟩))
          · exact br_f (fun q => k ((nI_eq (b := 18) (by omega) (by omega)).mp q)) (nm_r (nI_1 i) (ih (i + 1) (by omega) (by omega) (lt_s hn (fun w => k w.2))))
        · exact br_f (fun q => b ((nb_bit cone i (by omega)).mp q)) (nm_r (nI_1 i) (ih (i + 1) (by omega) (by omega) (lt_s hn (fun w => b w.1))))
      · have : i = c := by omega
        subst this
        have le := nb_sw_le (P := nb_sp cone kd) (wd := wd) (fun j hj => (ok j hj).2.2.1) i (Nat.le_refl i)
        refine br_t (nI_le (Nat.le_refl _) (by omega)) (nx_swd _ S ?_)
        by_cases q : nb_sw (nb_sp cone kd) wd i ≤ 8
        · refine br_t (nI_le (b := 8) q (by omega)) (hf ?_)
          rintro (⟨j, hj, w⟩ | w)
          · exact hn j hj w
          · omega
        · exact br_f (fun w => q ((nI_leI (b := 8) (by omega) (by omega)).mp w)) (ht (Or.inr (by omega)))
  exact ⟨c + 1, key (c + 1) 0 (by omega) (by omega) (fun j hj => absurd hj (Nat.not_lt_zero j))⟩
theorem nx_fill (post : SX → Prop) (S : nb_S c K W ox oy oz nums rch D ex ey ez kd wd xo yo zo dp) {cone way : Int32}
    (hp : ∀ tr', (∀ j, j < c → nb_sp cone kd j = true → tr' j = nb_tv (nb_sp cone kd) wd way j) → post ((nI c), cs, sw, pp, pd, pe, K, W, ox, oy, oz, nums, rch, D, nx, en, fo, H, nt, mem, nm, vals, tr')) : wpX_fillTrial post ((nI c), cs, sw, pp, pd, pe, K, W, ox, oy, oz, nums, rch, D, nx, en, fo, H, nt, mem, nm, vals, tr) cone way := by
  obtain ⟨hc, hK, hW, hx, hy, hz, hD, ok, ye, _, _, _⟩ := S
  have key : ∀ n i tr, i ≤ c → c < i + n → (∀ j, j < i → nb_sp cone kd j = true → tr j = nb_tv (nb_sp cone kd) wd way j) → wX_fillTrial_5 post cone (nI c) cs sw pp pd pe n (nb_rs (nb_sp cone kd) wd way i) (nI i) K W ox oy oz nums rch D nx en fo H nt mem nm vals tr := by
    intro n
    induction n with
    | zero => intro i tr h1 h2; omega
    | succ n ih =>
      intro i tr h1 h2 ht
      by_cases hi : i < c
      · have x1 : vp_in (nI i) 24 := vp_in_nI (by omega) (by omega)
        have x2 : (nI i).toNatClampNeg = i := nI_clamp (by omega)
        refine br_f (nI_ge hi (by omega)) ?_
        by_cases g : nb_sp cone kd i = true
        · have nxt := ih (i + 1) (upd tr i (nb_tv (nb_sp cone kd) wd way i)) (by omega) (by omega) (fun j hj hg => by
            by_cases e : j = i
            · subst e; exact pk_us
            · rw [pk_un e]; exact ht j (by omega) hg)
          rw [nb_rs_t g] at nxt
          refine nx_sp_t _ hc hK hi (ok i hi).1 g (br_f (by decide) ⟨x1, x1, ?_⟩)
          rw [x2, hW]
          exact nm_e ⟨x1, nm_e (nm_r (nI_1 i) nxt)⟩
        · have nxt := ih (i + 1) tr (by omega) (by omega) (fun j hj hg => by
            by_cases e : j = i
            · subst e; exact absurd hg g
            · exact ht j (by omega) hg)
          rw [nb_rs_f g] at nxt
          exact nx_sp_f _ hc hK hi (ok i hi).1 g (br_t rfl (nm_r (nI_1 i) nxt))
      · have : i = c := by omega
        subst this
        exact br_t (nI_le (Nat.le_refl _) (by omega)) (hp tr ht)
  exact ⟨c + 1, key (c + 1) 0 tr (by omega) (by omega) (fun j hj => absurd hj (Nat.not_lt_zero j))⟩
/-! the reference's marks -/
theorem nb_b1 : vp_nar .boolean 1 = 1 := by rfl
theorem nb_b0 : vp_nar .boolean 0 = 0 := by rfl
def nb_Iv (c : Nat) (kd xo yo zo : Nat → Nat) (B : Nat → Prop) (s t r : Nat) (mt : Nat → Int32) : Prop :=
  (∀ j, j < c → ¬ mt j = 0 → B j) ∧ (∀ j, r ≤ j → j < c → ¬ mt j = 0 → (3 ≤ kd j → ¬ mt (xo j) = 0) ∧ (4 ≤ kd j → kd j ≤ 15 → ¬ mt (yo j) = 0) ∧ (kd j = 12 → ¬ mt (zo j) = 0)) ∧ ¬ mt s = 0 ∧ ¬ mt t = 0
theorem nb_up1 {f : Nat → Int32} {a b : Nat} (h : ¬ f b = 0) : ¬ upd f a 1 b = 0 := by
  by_cases e : b = a
  · subst e; rw [pk_us]; decide
  · rw [pk_un e]; exact h
theorem nb_up2 {f : Nat → Int32} {a : Nat} : ¬ upd f a 1 a = 0 := by rw [pk_us]; decide
theorem nb_Iv_up {B : Nat → Prop} {s t i a : Nat} {mt : Nat → Int32} (I : nb_Iv c kd xo yo zo B s t (i + 1) mt) (ha : a < i) (hB : B a) : nb_Iv c kd xo yo zo B s t (i + 1) (upd mt a 1) := by
  obtain ⟨i1, i2, i3, i4⟩ := I
  refine ⟨fun j hj h => ?_, fun j hr hj h => ?_, nb_up1 i3, nb_up1 i4⟩
  · by_cases e : j = a
    · exact e ▸ hB
    · rw [pk_un e] at h; exact i1 j hj h
  · rw [pk_un (by omega)] at h
    obtain ⟨q1, q2, q3⟩ := i2 j hr hj h
    exact ⟨fun g => nb_up1 (q1 g), fun g g' => nb_up1 (q2 g g'), fun g => nb_up1 (q3 g)⟩
theorem ny_cb (post : SY → Prop) (S : nb_S c K W ox oy oz nums rch D ex ey ez kd wd xo yo zo dp) {B : Nat → Prop} (cl : nb_Cl c kd xo yo zo B) {s t : Nat}
    (hp : ∀ mt', nb_Iv c kd xo yo zo B s t 0 mt' → post ((nI c), cs, sw, pp, pd, pe, K, ex, ey, ez, W, H, nty, fo, va, nx, en, mem, nm, td, mt')) (h1 : 1 ≤ c) (I : nb_Iv c kd xo yo zo B s t c mt) : wpY_comeBack post ((nI c), cs, sw, pp, pd, pe, K, ex, ey, ez, W, H, nty, fo, va, nx, en, mem, nm, td, mt) := by
  obtain ⟨hc, hK, hW, hx, hy, hz, hD, ok, ye, _, _, _⟩ := S
  have key : ∀ n r mt, r < n → r ≤ c → nb_Iv c kd xo yo zo B s t r mt → wY_comeBack_7 post (nI c) cs sw pp pd pe n (nI r + (-1)) K ex ey ez W H nty fo va nx en mem nm td mt := by
    intro n
    induction n with
    | zero => intro r mt h; omega
    | succ n ih =>
      intro r mt hr hrc I
      cases r with
      | zero => exact br_t (by decide) (hp mt I)
      | succ i =>
        rw [pk_m1]
        have hic : i < c := by omega
        have x1 : vp_in (nI i) 24 := vp_in_nI (by omega) (by omega)
        have x2 : (nI i).toNatClampNeg = i := nI_clamp (by omega)
        obtain ⟨k18, _, _, x0, y0, z0, a1, a2, a3, _⟩ := ok i hic
        obtain ⟨ye1, ye2, ye3, _⟩ := ye i hic
        have n12 : kd i ≠ 12 → ¬ K i = 12 := fun h => by rw [hK]; exact fun q => h ((nI_eq (b := 12) (by omega) (by omega)).mp q)
        refine br_f (nI_pos (by omega)) ⟨x1, ?_⟩
        rw [x2]
        by_cases m : mt i = 0
        · have nxt := ih i mt (by omega) (by omega) (by
            obtain ⟨i1, i2, i3, i4⟩ := I
            refine ⟨i1, fun j hr hj h => ?_, i3, i4⟩
            by_cases e : j = i
            · subst e; exact absurd m h
            · exact i2 j (by omega) hj h)
          refine br_t m ⟨x1, ?_⟩
          rw [x2]
          refine br_t m ⟨x1, ?_⟩
          rw [x2]
          exact br_t m (nm_e nxt)
        · have cli := cl i hic (I.1 i hic m)
          have L69 : ∀ mt, nb_Iv c kd xo yo zo B s t (i + 1) mt → ¬ mt i = 0 → (3 ≤ kd i → ¬ mt (xo i) = 0) → (4 ≤ kd i → kd i ≤ 15 → ¬ mt (yo i) = 0) → wY_comeBack_69 post (wY_comeBack_7 post (nI c) cs sw pp pd pe n) (nI i) (nI c) cs sw pp pd pe K ex ey ez W H nty fo va nx en mem nm td mt := by
            intro mt I m hx' hy'
            refine ⟨x1, ?_⟩
            rw [x2]
            refine br_f m ⟨x1, ?_⟩
            by_cases g : kd i = 12
            · have vz : vp_in (ez i) 24 := by rw [ye3 g]; exact vp_in_nI (by omega) (by omega)
              have cz : (ez i).toNatClampNeg = zo i := by rw [ye3 g]; exact nI_clamp (by omega)
              refine br_t (by rw [hK, g]; rfl) ⟨x1, vz, nm_e (nm_e ?_)⟩
              rw [cz, nb_b1]
              refine ih i _ (by omega) (by omega) ?_
              obtain ⟨i1, i2, i3, i4⟩ := nb_Iv_up I (a3 g) (cli.2.2 g)
              refine ⟨i1, fun j hr hj h => ?_, i3, i4⟩
              by_cases e : j = i
              · subst e
                exact ⟨fun g => nb_up1 (hx' g), fun g g' => nb_up1 (hy' g g'), fun _ => nb_up2⟩
              · exact i2 j (by omega) hj h
            · refine br_f (n12 g) (nm_e (ih i _ (by omega) (by omega) ?_))
              obtain ⟨i1, i2, i3, i4⟩ := I
              refine ⟨i1, fun j hr hj h => ?_, i3, i4⟩
              by_cases e : j = i
              · subst e
                exact ⟨hx', hy', fun g' => absurd g' g⟩
              · exact i2 j (by omega) hj h
          have L40 : ∀ mt, nb_Iv c kd xo yo zo B s t (i + 1) mt → ¬ mt i = 0 → (3 ≤ kd i → ¬ mt (xo i) = 0) → wY_comeBack_40 post (wY_comeBack_7 post (nI c) cs sw pp pd pe n) (nI i) (nI c) cs sw pp pd pe K ex ey ez W H nty fo va nx en mem nm td mt := by
            intro mt I m hx'
            refine ⟨x1, ?_⟩
            rw [x2]
            refine br_f m ?_
            by_cases g : 4 ≤ kd i ∧ kd i ≤ 15
            · have vy : vp_in (ey i) 24 := by rw [ye2 g.1 g.2]; exact vp_in_nI (by omega) (by omega)
              have cy : (ey i).toNatClampNeg = yo i := by rw [ye2 g.1 g.2]; exact nI_clamp (by omega)
              refine ny_uY_t _ hc hK hic g (br_f (by decide) ⟨x1, vy, nm_e ?_⟩)
              rw [cy, nb_b1]
              exact L69 _ (nb_Iv_up I (a2 g.1 g.2) (cli.2.1 g.1 g.2)) (nb_up1 m) (fun g => nb_up1 (hx' g)) (fun _ _ => nb_up2)
            · exact ny_uY_f _ hc hK hic k18 g (br_t rfl (L69 _ I m hx' (fun g1 g2 => absurd ⟨g1, g2⟩ g)))
          refine br_f m ?_
          by_cases g : 3 ≤ kd i
          · have vx : vp_in (ex i) 24 := by rw [ye1 g]; exact vp_in_nI (by omega) (by omega)
            have cx : (ex i).toNatClampNeg = xo i := by rw [ye1 g]; exact nI_clamp (by omega)
            refine ny_uX_t _ hc hK hic k18 g (br_f (by decide) ⟨x1, vx, nm_e ?_⟩)
            rw [cx, nb_b1]
            exact L40 _ (nb_Iv_up I (a1 g) (cli.1 g)) (nb_up1 m) (fun _ => nb_up2)
          · exact ny_uX_f _ hc hK hic g (br_t rfl (L40 _ I m (fun g' => absurd g' g)))
  unfold wpY_comeBack
  obtain ⟨e, rfl⟩ : ∃ e, c = e + 1 := ⟨c - 1, by omega⟩
  have k0 := key (e + 2) (e + 1) mt (by omega) (by omega) I
  rw [pk_m1] at k0
  exact nm_r (nI_pred e) ⟨e + 2, k0⟩
theorem ny_sup46 (post : Int32 → SY → Prop) (S : nb_S c K W ox oy oz nums rch D ex ey ez kd wd xo yo zo dp) {cone : Int32} (hM : ∀ j, j < c → (¬ mt j = 0 ↔ bt cone j = true))
    (ht : nb_op c cone kd wd → post (-1) ((nI c), cs, sw, pp, pd, pe, K, ex, ey, ez, W, H, nty, fo, va, nx, en, mem, nm, td, mt)) (hf : ¬ nb_op c cone kd wd → post (nI (nb_sw (nb_sp cone kd) wd c)) ((nI c), cs, sw, pp, pd, pe, K, ex, ey, ez, W, H, nty, fo, va, nx, en, mem, nm, td, mt)) : ∃ n, wY_support_46 post (nI c) cs sw pp pd pe K ex ey ez W H nty fo va nx en mem nm td mt n 0 0 := by
  obtain ⟨hc, hK, hW, hx, hy, hz, hD, ok, ye, _, _, _⟩ := S
  have key : ∀ n i, i ≤ c → c < i + n → (∀ j, j < i → ¬ (bt cone j = true ∧ kd j = 18)) → wY_support_46 post (nI c) cs sw pp pd pe K ex ey ez W H nty fo va nx en mem nm td mt n (nI (nb_sw (nb_sp cone kd) wd i)) (nI i) := by
    intro n
    induction n with
    | zero => intro i h1 h2; omega
    | succ n ih =>
      intro i h1 h2 hn
      by_cases hi : i < c
      · have x1 : vp_in (nI i) 24 := vp_in_nI (by omega) (by omega)
        have x2 : (nI i).toNatClampNeg = i := nI_clamp (by omega)
        have k18 := (ok i hi).1
        refine br_f (nI_ge hi (by omega)) ⟨x1, ?_⟩
        rw [x2]
        by_cases m : mt i = 0
        · have b : ¬ bt cone i = true := fun b => (hM i hi).mpr b m
          have nxt := ih (i + 1) (by omega) (by omega) (lt_s hn (fun w => b w.1))
          rw [nb_sw_f (fun g => b (nb_sp_iff.mp g).1)] at nxt
          refine br_t m ⟨x1, ?_⟩
          rw [x2]
          exact br_t m (nm_r (nI_1 i) nxt)
        · have b := (hM i hi).mp m
          refine br_f m ⟨x1, ?_⟩
          rw [hK]
          by_cases k : kd i = 18
          · exact br_t (by rw [k]; rfl) (ht (Or.inl ⟨i, hi, b, k⟩))
          · have nxt := ih (i + 1) (by omega) (by omega) (lt_s hn (fun w => k w.2))
            refine br_f (fun q => k ((nI_eq (b := 18) (by omega) (by omega)).mp q)) ⟨x1, ?_⟩
            rw [x2]
            refine br_f m ⟨x1, ?_⟩
            rw [hK]
            have fin : nb_sp cone kd i = true → wY_support_110 post (wY_support_46 post (nI c) cs sw pp pd pe K ex ey ez W H nty fo va nx en mem nm td mt n) (nI (nb_sw (nb_sp cone kd) wd i)) (nI i) (nI c) cs sw pp pd pe K ex ey ez W H nty fo va nx en mem nm td mt := fun g => by
              rw [nb_sw_t g] at nxt
              refine ⟨x1, ?_⟩
              rw [x2, hW]
              exact nm_r (nI_add _ _) (nm_r (nI_1 i) nxt)
            by_cases k0 : kd i = 0
            · exact br_t (by rw [k0]; rfl) (fin (nb_sp_iff.mpr ⟨b, Or.inl k0⟩))
            · refine br_f (fun q => k0 ((nI_eq (b := 0) (by omega) (by omega)).mp q)) ⟨x1, ?_⟩
              by_cases k2 : kd i = 2
              · exact br_t (by rw [k2]; rfl) (fin (nb_sp_iff.mpr ⟨b, Or.inr k2⟩))
              · rw [nb_sw_f (fun g => (nb_sp_iff.mp g).2.elim k0 k2)] at nxt
                exact br_f (fun q => k2 ((nI_eq (b := 2) (by omega) (by omega)).mp q)) (nm_r (nI_1 i) nxt)
      · have : i = c := by omega
        subst this
        have le := nb_sw_le (P := nb_sp cone kd) (wd := wd) (fun j hj => (ok j hj).2.2.1) i (Nat.le_refl i)
        refine br_t (nI_le (Nat.le_refl _) (by omega)) ?_
        by_cases q : nb_sw (nb_sp cone kd) wd i ≤ 8
        · refine br_t (nI_le (b := 8) q (by omega)) (hf ?_)
          rintro (⟨j, hj, w⟩ | w)
          · exact hn j hj w
          · omega
        · exact br_f (fun w => q ((nI_leI (b := 8) (by omega) (by omega)).mp w)) (ht (Or.inr (by omega)))
  exact ⟨c + 1, key (c + 1) 0 (by omega) (by omega) (fun j hj => absurd hj (Nat.not_lt_zero j))⟩
theorem ny_sup (post : Int32 → SY → Prop) (S : nb_S c K W ox oy oz nums rch D ex ey ez kd wd xo yo zo dp) {s t : Nat} (hs : s < c) (ht' : t < c)
    (ht : nb_op c (rch s ||| rch t) kd wd → ∀ mt', post (-1) ((nI c), cs, sw, pp, pd, pe, K, ex, ey, ez, W, H, nty, fo, va, nx, en, mem, nm, td, mt'))
    (hf : ¬ nb_op c (rch s ||| rch t) kd wd → ∀ mt', (∀ j, j < c → (¬ mt' j = 0 ↔ bt (rch s ||| rch t) j = true)) → post (nI (nb_sw (nb_sp (rch s ||| rch t) kd) wd c)) ((nI c), cs, sw, pp, pd, pe, K, ex, ey, ez, W, H, nty, fo, va, nx, en, mem, nm, td, mt')) : wpY_support post ((nI c), cs, sw, pp, pd, pe, K, ex, ey, ez, W, H, nty, fo, va, nx, en, mem, nm, td, mt) (nI s) (nI t) := by
  have S0 := S
  obtain ⟨hc, hK, hW, hx, hy, hz, hD, ok, ye, _, rq, _⟩ := S0
  obtain ⟨cl, bs, bt', mn⟩ := nb_cone hc ok rq hs ht'
  have key : ∀ n i mt, i ≤ c → c < i + n → (∀ j, j < i → (¬ mt j = 0 ↔ (j = s ∨ j = t))) → wY_support_2 post (nI s) (nI t) (nI c) cs sw pp pd pe n (nI i) K ex ey ez W H nty fo va nx en mem nm td mt := by
    intro n
    induction n with
    | zero => intro i mt h1 h2; omega
    | succ n ih =>
      intro i mt h1 h2 hm
      by_cases hi : i < c
      · have x1 : vp_in (nI i) 24 := vp_in_nI (by omega) (by omega)
        have x2 : (nI i).toNatClampNeg = i := nI_clamp (by omega)
        have stp : ∀ v, (¬ v = 0 ↔ (i = s ∨ i = t)) → wY_support_2 post (nI s) (nI t) (nI c) cs sw pp pd pe n (nI (i + 1)) K ex ey ez W H nty fo va nx en mem nm td (upd mt i v) := fun v e => by
          refine ih (i + 1) _ (by omega) (by omega) (fun j hj => ?_)
          by_cases q : j = i
          · subst q; rw [pk_us]; exact e
          · rw [pk_un q]; exact hm j (by omega)
        refine br_f (nI_ge hi (by omega)) ?_
        by_cases q1 : i = s
        · refine br_t (by rw [q1]) ⟨x1, nm_e (nm_r (nI_1 i) ?_)⟩
          rw [x2, nb_b1]
          exact stp 1 ⟨fun _ => Or.inl q1, fun _ => by decide⟩
        · refine br_f (fun w => q1 ((nI_eq (by omega) (by omega)).mp w)) ?_
          by_cases q2 : i = t
          · refine br_t (by rw [q2]) ⟨x1, nm_e (nm_r (nI_1 i) ?_)⟩
            rw [x2, nb_b1]
            exact stp 1 ⟨fun _ => Or.inr q2, fun _ => by decide⟩
          · refine br_f (fun w => q2 ((nI_eq (by omega) (by omega)).mp w)) ⟨x1, nm_e (nm_r (nI_1 i) ?_)⟩
            rw [x2, nb_b0]
            exact stp 0 ⟨fun w => absurd rfl w, fun w => absurd w (fun w => w.elim q1 q2)⟩
      · have : i = c := by omega
        subst this
        refine br_t (nI_le (Nat.le_refl _) (by omega)) ?_
        refine ny_cb _ S cl (s := s) (t := t) (fun mt' I => ?_) (by omega) ⟨fun j hj h => ?_, fun j hr hj => absurd hj (by omega), (hm s hs).mpr (Or.inl rfl), (hm t ht').mpr (Or.inr rfl)⟩
        · have hM : ∀ j, j < i → (¬ mt' j = 0 ↔ bt (rch s ||| rch t) j = true) := fun j hj =>
            ⟨I.1 j hj, mn (fun j => ¬ mt' j = 0) (fun j hj h => I.2.1 j (by omega) hj h) I.2.2.1 I.2.2.2 j hj⟩
          exact ny_sup46 post S hM (fun o => ht o mt') (fun o => hf o mt' hM)
        · rcases (hm j hj).mp h with e | e
          · exact e ▸ bs
          · exact e ▸ bt'
  exact ⟨c + 1, key (c + 1) 0 mt (by omega) (by omega) (fun j hj => absurd hj (Nat.not_lt_zero j))⟩
theorem ny_give (post : SY → Prop) (S : nb_S c K W ox oy oz nums rch D ex ey ez kd wd xo yo zo dp) (d2 : ∀ j, j < c → fo j = -1 ∨ nb_R (wd j) (fo j)) {cone way : Int32} (hM : ∀ j, j < c → (¬ mt j = 0 ↔ bt cone j = true))
    (hp : ∀ td' V, (∀ j, j < c → nb_sp cone kd j = true → td' j = nb_tv (nb_sp cone kd) wd way j) → nb_Sol (nb_FY kd wd xo yo zo nums fo mem td') c V → post ((nI c), cs, sw, pp, pd, pe, K, ex, ey, ez, W, H, nty, fo, V, nx, en, mem, nm, td', mt)) : wpY_give post ((nI c), cs, sw, pp, pd, pe, K, ex, ey, ez, W, H, nty, fo, va, nx, en, mem, nm, td, mt) way := by
  obtain ⟨hc, hK, hW, hx, hy, hz, hD, ok, ye, _, _, _⟩ := S
  have key : ∀ n i td, i ≤ c → c < i + n → (∀ j, j < i → nb_sp cone kd j = true → td j = nb_tv (nb_sp cone kd) wd way j) → wY_give_4 post (nI c) cs sw pp pd pe n (nb_rs (nb_sp cone kd) wd way i) (nI i) K ex ey ez W H nty fo va nx en mem nm td mt := by
    intro n
    induction n with
    | zero => intro i td h1 h2; omega
    | succ n ih =>
      intro i td h1 h2 ht
      by_cases hi : i < c
      · have x1 : vp_in (nI i) 24 := vp_in_nI (by omega) (by omega)
        have x2 : (nI i).toNatClampNeg = i := nI_clamp (by omega)
        have k18 := (ok i hi).1
        refine br_f (nI_ge hi (by omega)) ⟨x1, nm_e ⟨x1, ?_⟩⟩
        rw [x2]
        have no : ¬ nb_sp cone kd i = true → wY_give_4 post (nI c) cs sw pp pd pe n (nb_rs (nb_sp cone kd) wd way i) (nI (i + 1)) K ex ey ez W H nty fo va nx en mem nm (upd td i 0) mt := fun g => by
          have nxt := ih (i + 1) (upd td i 0) (by omega) (by omega) (fun j hj hg => by
            by_cases e : j = i
            · subst e; exact absurd hg g
            · rw [pk_un e]; exact ht j (by omega) hg)
          rw [nb_rs_f g] at nxt
          exact nxt
        by_cases m : mt i = 0
        · exact br_t m (nm_r (nI_1 i) (no (fun g => (hM i hi).mpr (nb_sp_iff.mp g).1 m)))
        · have b := (hM i hi).mp m
          refine br_f m ⟨x1, ?_⟩
          have yes : nb_sp cone kd i = true → wY_give_47 post (wY_give_4 post (nI c) cs sw pp pd pe n) (nb_rs (nb_sp cone kd) wd way i) (nI i) (nI c) cs sw pp pd pe K ex ey ez W H nty fo va nx en mem nm (upd td i 0) mt := fun g => by
            have nxt := ih (i + 1) (upd (upd td i 0) i (nb_tv (nb_sp cone kd) wd way i)) (by omega) (by omega) (fun j hj hg => by
              by_cases e : j = i
              · subst e; exact pk_us
              · rw [pk_un e, pk_un e]; exact ht j (by omega) hg)
            rw [nb_rs_t g] at nxt
            refine ⟨x1, x1, ?_⟩
            rw [x2, hW]
            exact nm_e ⟨x1, nm_e (nm_r (nI_1 i) nxt)⟩
          rw [hK]
          by_cases k0 : kd i = 0
          · exact br_t (by rw [k0]; rfl) (yes (nb_sp_iff.mpr ⟨b, Or.inl k0⟩))
          · refine br_f (fun q => k0 ((nI_eq (b := 0) (by omega) (by omega)).mp q)) ⟨x1, ?_⟩
            by_cases k2 : kd i = 2
            · exact br_t (by rw [k2]; rfl) (yes (nb_sp_iff.mpr ⟨b, Or.inr k2⟩))
            · exact br_f (fun q => k2 ((nI_eq (b := 2) (by omega) (by omega)).mp q)) (nm_r (nI_1 i) (no (fun g => (nb_sp_iff.mp g).2.elim k0 k2)))
      · have : i = c := by omega
        subst this
        refine br_t (nI_le (Nat.le_refl _) (by omega)) ?_
        exact ny_work_tried _ hc hK hW ok ye d2 (fun V hV => hp td V ht hV)
  exact ⟨c + 1, key (c + 1) 0 td (by omega) (by omega) (fun j hj => absurd hj (Nat.not_lt_zero j))⟩
end
end
section
/-! equivalent and satisfied: one answer for every way to fill the support -/
theorem nb_a15 : ∀ w, w < 16 → (nI w &&& 15) = nI w := by decide +kernel
theorem nb_oo (x : Int32) : x ||| x = x := b_ext (fun i _ => by rw [b_or, Bool.or_self])
section
variable {c : Nat} {cs sw pp pd pe : Int32} {K W ox oy oz nums rch D nx en fo H nt mem nm vals tr ex ey ez nty va td mt : Nat → Int32} {kd wd xo yo zo dp : Nat → Nat}
/-- for one way: what each side's values of the cone are, whatever the rest holds -/
theorem nb_way (S : nb_S c K W ox oy oz nums rch D ex ey ez kd wd xo yo zo dp) (d2 : ∀ j, j < c → fo j = -1 ∨ nb_R (wd j) (fo j)) (d5 : ∀ i, i < 4 → nb_R 4 (mem i)) {cone : Int32} (cl : nb_Cl c kd xo yo zo (fun i => bt cone i = true)) (way : Int32) :
    ∃ C : Nat → Int32,
      (∀ tr' U, (∀ j, j < c → nb_sp cone kd j = true → tr' j = nb_tv (nb_sp cone kd) wd way j) → nb_Sol (nb_FX kd wd xo yo zo nums fo mem tr') c U → ∀ j, j < c → bt cone j = true → U j = C j)
      ∧ (∀ td' V, (∀ j, j < c → nb_sp cone kd j = true → td' j = nb_tv (nb_sp cone kd) wd way j) → nb_Sol (nb_FY kd wd xo yo zo nums fo mem td') c V → ∀ j, j < c → bt cone j = true → V j = C j) := by
  have ok := S.2.2.2.2.2.2.2.1
  obtain ⟨C, hC⟩ := nb_sol_ex (nb_locX (fo := fo) (mem := mem) (base := nb_tv (nb_sp cone kd) wd way) ok)
  obtain ⟨V0, hV0⟩ := nb_sol_ex (nb_locY (fo := fo) (mem := mem) (base := nb_tv (nb_sp cone kd) wd way) ok)
  have R : ∀ j, j < c → nb_R (wd j) (nb_tv (nb_sp cone kd) wd way j) := fun j hj => nb_mR (ok j hj).2.2.1 _
  have e0 : ∀ j, j < c → bt cone j = true → C j = V0 j := fun j hj b =>
    (nb_agree ok d2 d5 (fun i => bt cone i = true) cl (fun j hj _ _ => ⟨rfl, R j hj⟩) hC hV0 (j + 1) j (by omega) hj b).1
  refine ⟨C, fun tr' U h hU j hj b => ?_, fun td' V h hV j hj b => ?_⟩
  · rw [e0 j hj b]
    exact (nb_agree ok d2 d5 (fun i => bt cone i = true) cl (fun j hj b k => ⟨h j hj (nb_sp_iff.mpr ⟨b, k⟩), R j hj⟩) hU hV0 (j + 1) j (by omega) hj b).1
  · refine (nb_agree ok d2 d5 (fun i => bt cone i = true) cl (fun j hj b k => ?_) hC hV (j + 1) j (by omega) hj b).1.symm
    have e := h j hj (nb_sp_iff.mpr ⟨b, k⟩)
    rw [e]
    exact ⟨rfl, R j hj⟩
theorem nb_eqv (S : nb_S c K W ox oy oz nums rch D ex ey ez kd wd xo yo zo dp) (d2 : ∀ j, j < c → fo j = -1 ∨ nb_R (wd j) (fo j)) (d5 : ∀ i, i < 4 → nb_R 4 (mem i)) {cone : Int32} (cl : nb_Cl c kd xo yo zo (fun i => bt cone i = true))
    {s t b : Nat} (hs : s < c) (ht : t < c) (bs : bt cone s = true) (bt' : bt cone t = true) (hb : b ≤ 8) :
    ∀ d i, i + d = 2 ^ b → ∃ r : Int32,
      (∀ (post : Int32 → SX → Prop) (vals tr : Nat → Int32), (∀ vals' tr', post r ((nI c), cs, sw, pp, pd, pe, K, W, ox, oy, oz, nums, rch, D, nx, en, fo, H, nt, mem, nm, vals', tr')) → wX_equivalent_70 post (nI s) (nI t) cone (nI (2 ^ b)) (d + 1) (nI i) (nI c) cs sw pp pd pe K W ox oy oz nums rch D nx en fo H nt mem nm vals tr)
      ∧ (∀ (post : Int32 → SY → Prop) (va td mt : Nat → Int32), (∀ j, j < c → (¬ mt j = 0 ↔ bt cone j = true)) → (∀ va' td', post r ((nI c), cs, sw, pp, pd, pe, K, ex, ey, ez, W, H, nty, fo, va', nx, en, mem, nm, td', mt)) → wY_equivalent_28 post (nI s) (nI t) (nI b) (d + 1) (nI i) (nI c) cs sw pp pd pe K ex ey ez W H nty fo va nx en mem nm td mt) := by
  have S0 := S
  obtain ⟨hc, hK, hW, hx, hy, hz, hD, ok, ye, _, _, _⟩ := S0
  have h2 : 2 ^ b ≤ 256 := Nat.pow_le_pow_right (by decide) hb
  have es : (1 : Int32) <<< ((nI b &&& 15) &&& 31) = nI (2 ^ b) := by rw [nb_a15 b (by omega)]; exact nb_sh1 b (by omega)
  have xs : vp_in (nI s) 24 := vp_in_nI (by omega) (by omega)
  have xt : vp_in (nI t) 24 := vp_in_nI (by omega) (by omega)
  have cs2 : (nI s).toNatClampNeg = s := nI_clamp (by omega)
  have ct2 : (nI t).toNatClampNeg = t := nI_clamp (by omega)
  intro d
  induction d with
  | zero =>
    intro i hi
    have : i = 2 ^ b := by omega
    subst this
    refine ⟨1, fun post vals tr hp => br_t (nI_le (Nat.le_refl _) (by omega)) (hp vals tr), fun post va td mt hM hp => br_t ?_ (hp va td)⟩
    rw [es]
    exact nI_le (Nat.le_refl _) (by omega)
  | succ d ih =>
    intro i hi
    obtain ⟨C, cX, cY⟩ := nb_way S d2 d5 cl (nI i)
    obtain ⟨r, fx, fy⟩ := ih (i + 1) (by omega)
    have nle : ¬ nI (2 ^ b) ≤ nI i := nI_ge (by omega) (by omega)
    by_cases q : C s = C t
    · refine ⟨r, fun post vals tr hp => ?_, fun post va td mt hM hp => ?_⟩
      · refine br_f nle (nx_fill _ S (fun tr' h => ?_))
        refine nx_set_trial _ hc hK hW hx hy hz ok (fun U hU => ⟨xs, xt, ?_⟩)
        rw [cs2, ct2, cX tr' U h hU s hs bs, cX tr' U h hU t ht bt']
        exact br_t q (nm_r (nI_1 i) (fx post U tr' hp))
      · refine br_f (by rw [es]; exact nle) (ny_give _ S d2 hM (fun td' V h hV => ⟨xs, xt, ?_⟩))
        rw [cs2, ct2, cY td' V h hV s hs bs, cY td' V h hV t ht bt']
        exact br_t q (nm_r (nI_1 i) (fy post V td' mt hM hp))
    · refine ⟨0, fun post vals tr hp => ?_, fun post va td mt hM hp => ?_⟩
      · refine br_f nle (nx_fill _ S (fun tr' h => ?_))
        refine nx_set_trial _ hc hK hW hx hy hz ok (fun U hU => ⟨xs, xt, ?_⟩)
        rw [cs2, ct2, cX tr' U h hU s hs bs, cX tr' U h hU t ht bt']
        exact br_f q (hp U tr')
      · refine br_f (by rw [es]; exact nle) (ny_give _ S d2 hM (fun td' V h hV => ⟨xs, xt, ?_⟩))
        rw [cs2, ct2, cY td' V h hV s hs bs, cY td' V h hV t ht bt']
        exact br_f q (hp V td')
theorem nb_sat (S : nb_S c K W ox oy oz nums rch D ex ey ez kd wd xo yo zo dp) (d2 : ∀ j, j < c → fo j = -1 ∨ nb_R (wd j) (fo j)) (d5 : ∀ i, i < 4 → nb_R 4 (mem i)) {cone : Int32} (cl : nb_Cl c kd xo yo zo (fun i => bt cone i = true))
    {s b : Nat} (hs : s < c) (bs : bt cone s = true) (hb : b ≤ 8) :
    ∀ d i (x4 : Int32), i + d = 2 ^ b → ∃ r : Int32,
      (∀ (post : Int32 → SX → Prop) (vals tr : Nat → Int32), (∀ vals' tr', post r ((nI c), cs, sw, pp, pd, pe, K, W, ox, oy, oz, nums, rch, D, nx, en, fo, H, nt, mem, nm, vals', tr')) → wX_satisfied_42 post (nI s) cone (nI (2 ^ b)) (d + 1) x4 (nI i) (nI c) cs sw pp pd pe K W ox oy oz nums rch D nx en fo H nt mem nm vals tr)
      ∧ (∀ (post : Int32 → SY → Prop) (va td mt : Nat → Int32), (∀ j, j < c → (¬ mt j = 0 ↔ bt cone j = true)) → (∀ va' td', post r ((nI c), cs, sw, pp, pd, pe, K, ex, ey, ez, W, H, nty, fo, va', nx, en, mem, nm, td', mt)) → wY_satisfied_29 post (nI s) (nI b) (d + 1) x4 (nI i) (nI c) cs sw pp pd pe K ex ey ez W H nty fo va nx en mem nm td mt) := by
  have S0 := S
  obtain ⟨hc, hK, hW, hx, hy, hz, hD, ok, ye, _, _, _⟩ := S0
  have h2 : 2 ^ b ≤ 256 := Nat.pow_le_pow_right (by decide) hb
  have es : (1 : Int32) <<< ((nI b &&& 15) &&& 31) = nI (2 ^ b) := by rw [nb_a15 b (by omega)]; exact nb_sh1 b (by omega)
  have xs : vp_in (nI s) 24 := vp_in_nI (by omega) (by omega)
  have cs2 : (nI s).toNatClampNeg = s := nI_clamp (by omega)
  intro d
  induction d with
  | zero =>
    intro i x4 hi
    have : i = 2 ^ b := by omega
    subst this
    refine ⟨x4, fun post vals tr hp => br_t (nI_le (Nat.le_refl _) (by omega)) (hp vals tr), fun post va td mt hM hp => br_t ?_ (hp va td)⟩
    rw [es]
    exact nI_le (Nat.le_refl _) (by omega)
  | succ d ih =>
    intro i x4 hi
    obtain ⟨C, cX, cY⟩ := nb_way S d2 d5 cl (nI i)
    have nle : ¬ nI (2 ^ b) ≤ nI i := nI_ge (by omega) (by omega)
    by_cases q : C s = 0
    · obtain ⟨r, fx, fy⟩ := ih (i + 1) x4 (by omega)
      refine ⟨r, fun post vals tr hp => ?_, fun post va td mt hM hp => ?_⟩
      · refine br_f nle (nx_fill _ S (fun tr' h => ?_))
        refine nx_set_trial _ hc hK hW hx hy hz ok (fun U hU => ⟨xs, ?_⟩)
        rw [cs2, cX tr' U h hU s hs bs]
        exact br_t q (nm_r (nI_1 i) (fx post U tr' hp))
      · refine br_f (by rw [es]; exact nle) (ny_give _ S d2 hM (fun td' V h hV => ⟨xs, ?_⟩))
        rw [cs2, cY td' V h hV s hs bs]
        exact br_t q (nm_r (nI_1 i) (fy post V td' mt hM hp))
    · obtain ⟨r, fx, fy⟩ := ih (i + 1) (x4 + 1) (by omega)
      refine ⟨r, fun post vals tr hp => ?_, fun post va td mt hM hp => ?_⟩
      · refine br_f nle (nx_fill _ S (fun tr' h => ?_))
        refine nx_set_trial _ hc hK hW hx hy hz ok (fun U hU => ⟨xs, ?_⟩)
        rw [cs2, cX tr' U h hU s hs bs]
        exact br_f q (nm_e (nm_r (nI_1 i) (fx post U tr' hp)))
      · refine br_f (by rw [es]; exact nle) (ny_give _ S d2 hM (fun td' V h hV => ⟨xs, ?_⟩))
        rw [cs2, cY td' V h hV s hs bs]
        exact br_f q (nm_e (nm_r (nI_1 i) (fy post V td' mt hM hp)))
/-- the component, up to the loop over the ways -/
theorem nx_eq_in (post : Int32 → SX → Prop) (S : nb_S c K W ox oy oz nums rch D ex ey ez kd wd xo yo zo dp) {v1 v2 : Int32}
    (hn : (¬ ∃ a b, a < c ∧ b < c ∧ v1 = nI a ∧ v2 = nI b ∧ wd a = wd b) → post (-1) ((nI c), cs, sw, pp, pd, pe, K, W, ox, oy, oz, nums, rch, D, nx, en, fo, H, nt, mem, nm, vals, tr))
    (ho : ∀ s t, s < c → t < c → v1 = nI s → v2 = nI t → wd s = wd t → nb_op c (rch s ||| rch t) kd wd → post (-3) ((nI c), cs, sw, pp, pd, pe, K, W, ox, oy, oz, nums, rch, D, nx, en, fo, H, nt, mem, nm, vals, tr))
    (hl : ∀ s t, s < c → t < c → v1 = nI s → v2 = nI t → wd s = wd t → ¬ nb_op c (rch s ||| rch t) kd wd → ∃ n, wX_equivalent_70 post (nI s) (nI t) (rch s ||| rch t) (nI (2 ^ nb_sw (nb_sp (rch s ||| rch t) kd) wd c)) n 0 (nI c) cs sw pp pd pe K W ox oy oz nums rch D nx en fo H nt mem nm vals tr) : wpX_equivalent post ((nI c), cs, sw, pp, pd, pe, K, W, ox, oy, oz, nums, rch, D, nx, en, fo, H, nt, mem, nm, vals, tr) v1 v2 := by
  have S0 := S
  obtain ⟨hc, hK, hW, hx, hy, hz, hD, ok, ye, _, _, _⟩ := S0
  unfold wpX_equivalent
  by_cases q1 : nb_sg c v1
  · obtain ⟨s, hs, rfl⟩ := q1
    refine nx_isS_t _ hc hs (br_f (by decide) ?_)
    by_cases q2 : nb_sg c v2
    · obtain ⟨t, ht, rfl⟩ := q2
      have xs : vp_in (nI s) 24 := vp_in_nI (by omega) (by omega)
      have xt : vp_in (nI t) 24 := vp_in_nI (by omega) (by omega)
      have ws := (ok s hs).2.2.1
      have wt := (ok t ht).2.2.1
      refine nx_isS_t _ hc ht (br_f (by decide) ⟨xs, xt, ?_⟩)
      rw [nI_clamp (by omega), nI_clamp (by omega), hW, hW]
      by_cases w : wd s = wd t
      · refine br_t (by rw [w]) ⟨xs, xt, nm_e ?_⟩
        refine nx_open _ S (fun o => br_f (by decide) (ho s t hs ht rfl rfl w o)) (fun o => br_t rfl (nx_swd _ S ?_))
        refine nm_r (nb_sh1 _ ?_) (hl s t hs ht rfl rfl w o)
        have : ¬ 8 < nb_sw (nb_sp (rch s ||| rch t) kd) wd c := fun z => o (Or.inr z)
        omega
      · refine br_f (fun z => w ((nI_eq (by omega) (by omega)).mp z)) (hn ?_)
        rintro ⟨a, b, ha, hb, ea, eb, e⟩
        have e1 : s = a := (nI_eq (by omega) (by omega)).mp ea
        have e2 : t = b := (nI_eq (by omega) (by omega)).mp eb
        subst e1 e2
        exact w e
    · refine nx_isS_f _ hc q2 (br_t rfl (hn ?_))
      rintro ⟨_, b, _, hb, _, eb, _⟩
      exact q2 ⟨b, hb, eb⟩
  · refine nx_isS_f _ hc q1 (br_t rfl (hn ?_))
    rintro ⟨a, _, ha, _, ea, _⟩
    exact q1 ⟨a, ha, ea⟩
end
theorem i_vc_equivalent {k : Nat} {u : SX} {v : SY} (I : i_Rel k u v) (hk : k + 5 ≤ 2560) (v1 : Int32) (v2 : Int32) : wpX_equivalent (fun r u' => wpY_equivalent (fun r' v' => r' = r ∧ i_Rel (k + 5) u' v') v v1 v2) u v1 v2 := by
  obtain ⟨c, cs, sw, pp, pd, pe, K, W, ox, oy, oz, nums, rch, D, nx, en, fo, H, nt, mem, nm, vals, tr, ex, ey, ez, nty, va, td, mt, kd, wd, xo, yo, zo, dp, rfl, rfl, h1, S, d1, d2, d3, d4, d5, d6, d7⟩ := I
  have S0 := S
  obtain ⟨hc, hK, hW, hx, hy, hz, hD, ok, ye, _, rq, _⟩ := S0
  have h7 : ∀ j, j < c → wd j < 7 := fun j hj => (ok j hj).2.2.1
  refine nx_eq_in _ S (fun hn => ?_) (fun s t hs ht e1 e2 w o => ?_) (fun s t hs ht e1 e2 w o => ?_)
  · unfold wpY_equivalent
    exact ny_al_f _ hc hW h7 hn (br_t rfl ⟨rfl, nb_rel h1 S ⟨d1, d2, d3, d4, d5, d6, d7⟩⟩)
  · subst e1 e2
    unfold wpY_equivalent
    refine ny_al_t _ hc hW hs ht w (br_f (by decide) ?_)
    exact ny_sup _ S hs ht (fun _ mt' => br_f (by decide) ⟨rfl, nb_rel h1 S ⟨d1, d2, d3, d4, d5, d6, d7⟩⟩) (fun o' => absurd o o')
  · subst e1 e2
    obtain ⟨cl, bs, bt', _⟩ := nb_cone hc ok rq hs ht
    have hb : nb_sw (nb_sp (rch s ||| rch t) kd) wd c ≤ 8 := Nat.not_lt.mp (fun z => o (Or.inr z))
    obtain ⟨r, fx, fy⟩ := nb_eqv (cs := cs) (sw := sw) (pp := pp) (pd := pd) (pe := pe) (nx := nx) (en := en) (H := H) (nt := nt) (nm := nm) (nty := nty) S d2 d5 cl hs ht bs bt' hb _ 0 (Nat.zero_add _)
    refine ⟨_, fx _ vals tr (fun vals' tr' => ?_)⟩
    unfold wpY_equivalent
    refine ny_al_t _ hc hW hs ht w (br_f (by decide) ?_)
    refine ny_sup _ S hs ht (fun o' => absurd o' o) (fun _ mt' hM => br_t (nI_pos' (by omega)) ⟨_, fy _ va td mt' hM (fun va' td' => ?_)⟩)
    exact ⟨rfl, nb_rel h1 S ⟨d1, d2, d3, d4, d5, d6, d7⟩⟩
theorem i_vc_satisfied {k : Nat} {u : SX} {v : SY} (I : i_Rel k u v) (hk : k + 5 ≤ 2560) (v1 : Int32) : wpX_satisfied (fun r u' => wpY_satisfied (fun r' v' => r' = r ∧ i_Rel (k + 5) u' v') v v1) u v1 := by
  obtain ⟨c, cs, sw, pp, pd, pe, K, W, ox, oy, oz, nums, rch, D, nx, en, fo, H, nt, mem, nm, vals, tr, ex, ey, ez, nty, va, td, mt, kd, wd, xo, yo, zo, dp, rfl, rfl, h1, S, d1, d2, d3, d4, d5, d6, d7⟩ := I
  have S0 := S
  obtain ⟨hc, hK, hW, hx, hy, hz, hD, ok, ye, _, rq, _⟩ := S0
  unfold wpX_satisfied
  by_cases q : nb_sg c v1
  · obtain ⟨s, hs, rfl⟩ := q
    have xs : vp_in (nI s) 24 := vp_in_nI (by omega) (by omega)
    obtain ⟨cl, bs, _, _⟩ := nb_cone hc ok rq hs hs
    have yS : ∀ (post : Int32 → SY → Prop), (nb_op c (rch s) kd wd → ∀ mt', post (-1) ((nI c), cs, sw, pp, pd, pe, K, ex, ey, ez, W, H, nty, fo, va, nx, en, mem, nm, td, mt')) → (¬ nb_op c (rch s) kd wd → ∀ mt', (∀ j, j < c → (¬ mt' j = 0 ↔ bt (rch s) j = true)) → post (nI (nb_sw (nb_sp (rch s) kd) wd c)) ((nI c), cs, sw, pp, pd, pe, K, ex, ey, ez, W, H, nty, fo, va, nx, en, mem, nm, td, mt')) → wpY_support post ((nI c), cs, sw, pp, pd, pe, K, ex, ey, ez, W, H, nty, fo, va, nx, en, mem, nm, td, mt) (nI s) (nI s) := fun post a b => by
      have z := ny_sup (cs := cs) (sw := sw) (pp := pp) (pd := pd) (pe := pe) (H := H) (nty := nty) (fo := fo) (va := va) (nx := nx) (en := en) (mem := mem) (nm := nm) (td := td) (mt := mt) post S hs hs
      rw [nb_oo] at z
      exact z a b
    rw [nb_oo] at cl bs
    refine nx_isS_t _ hc hs (br_f (by decide) ⟨xs, ?_⟩)
    rw [nI_clamp (by omega)]
    refine nm_e (nx_open _ S (fun o => br_f (by decide) ?_) (fun o => br_t rfl (nx_swd _ S ?_)))
    · unfold wpY_satisfied
      refine ny_isS_t _ hc hs (br_f (by decide) ?_)
      exact yS _ (fun _ mt' => br_f (by decide) ⟨rfl, nb_rel h1 S ⟨d1, d2, d3, d4, d5, d6, d7⟩⟩) (fun o' => absurd o o')
    · have hb : nb_sw (nb_sp (rch s) kd) wd c ≤ 8 := Nat.not_lt.mp (fun z => o (Or.inr z))
      obtain ⟨r, fx, fy⟩ := nb_sat (cs := cs) (sw := sw) (pp := pp) (pd := pd) (pe := pe) (nx := nx) (en := en) (H := H) (nt := nt) (nm := nm) (nty := nty) S d2 d5 cl hs bs hb _ 0 0 (Nat.zero_add _)
      refine nm_r (nb_sh1 _ (by omega)) ⟨_, fx _ vals tr (fun vals' tr' => ?_)⟩
      unfold wpY_satisfied
      refine ny_isS_t _ hc hs (br_f (by decide) ?_)
      refine yS _ (fun o' => absurd o' o) (fun _ mt' hM => br_t (nI_pos' (by omega)) ⟨_, fy _ va td mt' hM (fun va' td' => ?_)⟩)
      exact ⟨rfl, nb_rel h1 S ⟨d1, d2, d3, d4, d5, d6, d7⟩⟩
  · refine nx_isS_f _ hc q (br_t rfl ?_)
    unfold wpY_satisfied
    exact ny_isS_f _ hc q (br_t rfl ⟨rfl, nb_rel h1 S ⟨d1, d2, d3, d4, d5, d6, d7⟩⟩)
end
section
/-! signal: which operands fit, the width, the cost -/
def nb_fq (c : Nat) (wd : Nat → Nat) (k : Nat) (x y z : Int32) (a b d w : Nat) : Prop :=
  match k with
  | 0 => (x = nI w ∧ 1 ≤ w ∧ w < 7) ∧ a = 0 ∧ b = 0 ∧ d = 0
  | 1 => (x = nI w ∧ 1 ≤ w ∧ w < 7 ∧ nb_R w y) ∧ a = 0 ∧ b = 0 ∧ d = 0
  | 2 => (x = nI w ∧ 1 ≤ w ∧ w < 7 ∧ nb_R w y) ∧ a = 0 ∧ b = 0 ∧ d = 0
  | 3 => (a < c ∧ x = nI a) ∧ w = wd a ∧ b = 0 ∧ d = 0
  | 4 => (a < c ∧ b < c ∧ x = nI a ∧ y = nI b ∧ wd a = wd b) ∧ w = wd a ∧ d = 0
  | 5 => (a < c ∧ b < c ∧ x = nI a ∧ y = nI b ∧ wd a = wd b) ∧ w = wd a ∧ d = 0
  | 6 => (a < c ∧ b < c ∧ x = nI a ∧ y = nI b ∧ wd a = wd b) ∧ w = wd a ∧ d = 0
  | 7 => (a < c ∧ b < c ∧ x = nI a ∧ y = nI b ∧ wd a = wd b) ∧ w = wd a ∧ d = 0
  | 8 => (a < c ∧ b < c ∧ x = nI a ∧ y = nI b ∧ wd a = wd b) ∧ w = wd a ∧ d = 0
  | 9 => (a < c ∧ b < c ∧ x = nI a ∧ y = nI b ∧ wd a = wd b ∧ wd a ≤ 3) ∧ w = wd a ∧ d = 0
  | 10 => (a < c ∧ b < c ∧ x = nI a ∧ y = nI b ∧ wd a = wd b) ∧ w = 1 ∧ d = 0
  | 11 => (a < c ∧ b < c ∧ x = nI a ∧ y = nI b ∧ wd a = wd b) ∧ w = 1 ∧ d = 0
  | 12 => (a < c ∧ x = nI a ∧ wd a = 1) ∧ (b < c ∧ d < c ∧ y = nI b ∧ z = nI d ∧ wd b = wd d) ∧ w = wd b
  | 13 => (a < c ∧ x = nI a) ∧ (b < c ∧ y = nI b ∧ wd b = 2) ∧ w = wd a ∧ d = 0
  | 14 => (a < c ∧ x = nI a) ∧ (b < c ∧ y = nI b ∧ wd b = 2) ∧ w = wd a ∧ d = 0
  | 15 => (a < c ∧ x = nI a) ∧ (b < c ∧ y = nI b) ∧ w = wd a + wd b ∧ d = 0
  | 16 => (a < c ∧ x = nI a) ∧ (∃ s, y = nI s ∧ z = nI w ∧ 1 ≤ w ∧ s + w ≤ wd a) ∧ b = 0 ∧ d = 0
  | 17 => (a < c ∧ x = nI a) ∧ w = 3 ∧ b = 0 ∧ d = 0
  | 18 => (a < c ∧ x = nI a ∧ wd a = 2) ∧ w = 4 ∧ b = 0 ∧ d = 0
  | _ => False
def nb_co (k w wa : Nat) : Int32 :=
  match k with
  | 2 => 3 * nI w
  | 4 => nI w
  | 5 => nI w
  | 6 => 3 * nI w
  | 7 => 9 * nI w
  | 8 => 9 * nI w
  | 9 => 10 * nI w * nI w
  | 10 => 8 * nI wa
  | 11 => 4 * nI wa
  | 12 => 3 * nI w
  | 13 => 6 * nI w
  | 14 => 6 * nI w
  | 17 => 12 * nI wa
  | 18 => 40
  | _ => 0
theorem nb_sl {w s t : Nat} (hw : w < 7) (hs : s < 2 ^ 31) (ht : t < 2 ^ 31) : nI w - nI s < nI t ↔ w < s + t := by
  rw [Int32.lt_iff_toInt_lt, Int32.toInt_sub, nI_toInt (by omega), nI_toInt hs, nI_toInt ht, Int.bmod_eq_of_le (by omega) (by omega)]
  omega
section
variable {c : Nat} {cs sw pp pd pe : Int32} {K W ox oy oz nums rch D nx en fo H nt mem nm vals tr ex ey ez nty va td mt : Nat → Int32} {kd wd xo yo zo dp : Nat → Nat}
theorem nx_iw_t (post : Int32 → Prop) {w : Nat} (h1 : 1 ≤ w) (hw : w < 7) (h : post 1) : wpX_isWidth post (nI w) :=
  br_f (nI_nlt (b := 1) h1 (by omega)) (br_f (nI_nlt (a := 6) (by omega) (by omega)) h)
theorem nb_nw {x : Int32} (hx : ¬ ∃ w, 1 ≤ w ∧ w < 7 ∧ x = nI w) : x < 1 ∨ (¬ x < 1 ∧ 6 < x) := by
  by_cases q : x < 1
  · exact Or.inl q
  · refine Or.inr ⟨q, ?_⟩
    have q0 : ¬ x < 0 := fun z => q (Int32.lt_trans z (by decide))
    obtain ⟨j, hj, rfl⟩ := nI_of q0
    have j1 : 1 ≤ j := Nat.not_lt.mp (fun z => q (nI_lt (b := 1) z (by omega)))
    have j7 : ¬ j < 7 := fun z => hx ⟨j, j1, z, rfl⟩
    exact nI_lt (a := 6) (by omega) hj
theorem nx_iw_f (post : Int32 → Prop) {x : Int32} (hx : ¬ ∃ w, 1 ≤ w ∧ w < 7 ∧ x = nI w) (h : post 0) : wpX_isWidth post x := by
  rcases nb_nw hx with q | ⟨q, q6⟩
  · exact br_t q h
  · exact br_f q (br_t q6 h)
theorem ny_ir_w (post : Int32 → Prop) {x v : Int32} (hx : ¬ ∃ w, 1 ≤ w ∧ w < 7 ∧ x = nI w) (h : post 0) : wpY_inRange post ((nI c), cs, sw, pp, pd, pe, K, ex, ey, ez, W, H, nty, fo, va, nx, en, mem, nm, td, mt) v x := by
  rcases nb_nw hx with q | ⟨q, q6⟩
  · exact br_t q h
  · exact br_f q (br_t q6 h)
theorem nx_ft0 (post : Int32 → Prop) (hc : c ≤ 24) (hW : ∀ j, W j = nI (wd j)) (h7 : ∀ j, j < c → wd j < 7) {x y z : Int32} {a b d w : Nat} (q : nb_fq c wd 0 x y z a b d w) (h : post 1) : wpX_operandsFit post ((nI c), cs, sw, pp, pd, pe, K, W, ox, oy, oz, nums, rch, D, nx, en, fo, H, nt, mem, nm, vals, tr) 0 x y z := by
  obtain ⟨⟨rfl, h1, w7⟩, _, _, _⟩ := q
  refine br_f (by decide) (br_f (by decide) (br_t rfl (?_)))
  exact nx_iw_t _ h1 w7 ⟨rfl, h⟩
theorem nx_ft1 (post : Int32 → Prop) (hc : c ≤ 24) (hW : ∀ j, W j = nI (wd j)) (h7 : ∀ j, j < c → wd j < 7) {x y z : Int32} {a b d w : Nat} (q : nb_fq c wd 1 x y z a b d w) (h : post 1) : wpX_operandsFit post ((nI c), cs, sw, pp, pd, pe, K, W, ox, oy, oz, nums, rch, D, nx, en, fo, H, nt, mem, nm, vals, tr) 1 x y z := by
  obtain ⟨⟨rfl, h1, w7, r⟩, _, _, _⟩ := q
  refine br_f (by decide) (br_f (by decide) (br_f (by decide) (br_t rfl (?_))))
  unfold wX_operandsFit_97
  exact nx_iw_t _ h1 w7 (br_f (by decide) (nx_fw_t _ w7 r (br_f (by decide) h)))
theorem nx_ft2 (post : Int32 → Prop) (hc : c ≤ 24) (hW : ∀ j, W j = nI (wd j)) (h7 : ∀ j, j < c → wd j < 7) {x y z : Int32} {a b d w : Nat} (q : nb_fq c wd 2 x y z a b d w) (h : post 1) : wpX_operandsFit post ((nI c), cs, sw, pp, pd, pe, K, W, ox, oy, oz, nums, rch, D, nx, en, fo, H, nt, mem, nm, vals, tr) 2 x y z := by
  obtain ⟨⟨rfl, h1, w7, r⟩, _, _, _⟩ := q
  refine br_f (by decide) (br_f (by decide) (br_f (by decide) (br_f (by decide) (br_t rfl (?_)))))
  unfold wX_operandsFit_97
  exact nx_iw_t _ h1 w7 (br_f (by decide) (nx_fw_t _ w7 r (br_f (by decide) h)))
theorem nx_ft3 (post : Int32 → Prop) (hc : c ≤ 24) (hW : ∀ j, W j = nI (wd j)) (h7 : ∀ j, j < c → wd j < 7) {x y z : Int32} {a b d w : Nat} (q : nb_fq c wd 3 x y z a b d w) (h : post 1) : wpX_operandsFit post ((nI c), cs, sw, pp, pd, pe, K, W, ox, oy, oz, nums, rch, D, nx, en, fo, H, nt, mem, nm, vals, tr) 3 x y z := by
  obtain ⟨⟨ha, rfl⟩, _, _, _⟩ := q
  refine br_f (by decide) (br_f (by decide) (br_f (by decide) (br_f (by decide) (br_f (by decide) (br_t rfl (?_))))))
  unfold wX_operandsFit_118
  exact nx_isS_t _ hc ha ⟨rfl, h⟩
theorem nx_ft4 (post : Int32 → Prop) (hc : c ≤ 24) (hW : ∀ j, W j = nI (wd j)) (h7 : ∀ j, j < c → wd j < 7) {x y z : Int32} {a b d w : Nat} (q : nb_fq c wd 4 x y z a b d w) (h : post 1) : wpX_operandsFit post ((nI c), cs, sw, pp, pd, pe, K, W, ox, oy, oz, nums, rch, D, nx, en, fo, H, nt, mem, nm, vals, tr) 4 x y z := by
  obtain ⟨⟨ha, hb, rfl, rfl, e⟩, _, _⟩ := q
  refine br_f (by decide) (br_f (by decide) (br_f (by decide) (br_f (by decide) (br_f (by decide) (br_f (by decide) (br_t rfl (?_)))))))
  unfold wX_operandsFit_263
  exact nx_al_t _ hc hW ha hb e ⟨rfl, h⟩
theorem nx_ft5 (post : Int32 → Prop) (hc : c ≤ 24) (hW : ∀ j, W j = nI (wd j)) (h7 : ∀ j, j < c → wd j < 7) {x y z : Int32} {a b d w : Nat} (q : nb_fq c wd 5 x y z a b d w) (h : post 1) : wpX_operandsFit post ((nI c), cs, sw, pp, pd, pe, K, W, ox, oy, oz, nums, rch, D, nx, en, fo, H, nt, mem, nm, vals, tr) 5 x y z := by
  obtain ⟨⟨ha, hb, rfl, rfl, e⟩, _, _⟩ := q
  refine br_f (by decide) (br_f (by decide) (br_f (by decide) (br_f (by decide) (br_f (by decide) (br_f (by decide) (br_f (by decide) (br_t rfl (?_))))))))
  unfold wX_operandsFit_263
  exact nx_al_t _ hc hW ha hb e ⟨rfl, h⟩
theorem nx_ft6 (post : Int32 → Prop) (hc : c ≤ 24) (hW : ∀ j, W j = nI (wd j)) (h7 : ∀ j, j < c → wd j < 7) {x y z : Int32} {a b d w : Nat} (q : nb_fq c wd 6 x y z a b d w) (h : post 1) : wpX_operandsFit post ((nI c), cs, sw, pp, pd, pe, K, W, ox, oy, oz, nums, rch, D, nx, en, fo, H, nt, mem, nm, vals, tr) 6 x y z := by
  obtain ⟨⟨ha, hb, rfl, rfl, e⟩, _, _⟩ := q
  refine br_f (by decide) (br_f (by decide) (br_f (by decide) (br_f (by decide) (br_f (by decide) (br_f (by decide) (br_f (by decide) (br_f (by decide) (br_t rfl (?_)))))))))
  unfold wX_operandsFit_263
  exact nx_al_t _ hc hW ha hb e ⟨rfl, h⟩
theorem nx_ft7 (post : Int32 → Prop) (hc : c ≤ 24) (hW : ∀ j, W j = nI (wd j)) (h7 : ∀ j, j < c → wd j < 7) {x y z : Int32} {a b d w : Nat} (q : nb_fq c wd 7 x y z a b d w) (h : post 1) : wpX_operandsFit post ((nI c), cs, sw, pp, pd, pe, K, W, ox, oy, oz, nums, rch, D, nx, en, fo, H, nt, mem, nm, vals, tr) 7 x y z := by
  obtain ⟨⟨ha, hb, rfl, rfl, e⟩, _, _⟩ := q
  refine br_f (by decide) (br_f (by decide) (br_f (by decide) (br_f (by decide) (br_f (by decide) (br_f (by decide) (br_f (by decide) (br_f (by decide) (br_f (by decide) (br_t rfl (?_))))))))))
  unfold wX_operandsFit_263
  exact nx_al_t _ hc hW ha hb e ⟨rfl, h⟩
theorem nx_ft8 (post : Int32 → Prop) (hc : c ≤ 24) (hW : ∀ j, W j = nI (wd j)) (h7 : ∀ j, j < c → wd j < 7) {x y z : Int32} {a b d w : Nat} (q : nb_fq c wd 8 x y z a b d w) (h : post 1) : wpX_operandsFit post ((nI c), cs, sw, pp, pd, pe, K, W, ox, oy, oz, nums, rch, D, nx, en, fo, H, nt, mem, nm, vals, tr) 8 x y z := by
  obtain ⟨⟨ha, hb, rfl, rfl, e⟩, _, _⟩ := q
  refine br_f (by decide) (br_f (by decide) (br_f (by decide) (br_f (by decide) (br_f (by decide) (br_f (by decide) (br_f (by decide) (br_f (by decide) (br_f (by decide) (br_f (by decide) (br_t rfl (?_)))))))))))
  unfold wX_operandsFit_263
  exact nx_al_t _ hc hW ha hb e ⟨rfl, h⟩
theorem nx_ft9 (post : Int32 → Prop) (hc : c ≤ 24) (hW : ∀ j, W j = nI (wd j)) (h7 : ∀ j, j < c → wd j < 7) {x y z : Int32} {a b d w : Nat} (q : nb_fq c wd 9 x y z a b d w) (h : post 1) : wpX_operandsFit post ((nI c), cs, sw, pp, pd, pe, K, W, ox, oy, oz, nums, rch, D, nx, en, fo, H, nt, mem, nm, vals, tr) 9 x y z := by
  obtain ⟨⟨ha, hb, rfl, rfl, e, e3⟩, _, _⟩ := q
  have w7 := h7 a ha
  refine br_f (by decide) (br_f (by decide) (br_f (by decide) (br_f (by decide) (br_f (by decide) (br_f (by decide) (br_f (by decide) (br_f (by decide) (br_f (by decide) (br_f (by decide) (br_f (by decide) (br_t rfl (?_))))))))))))
  exact nx_al_t _ hc hW ha hb e (br_f (by decide) ⟨(vp_in_nI (by omega) (by omega)), by rw [nI_clamp (by omega), hW]; exact br_f (nI_nlt (a := 3) e3 (by omega)) h⟩)
theorem nx_ft10 (post : Int32 → Prop) (hc : c ≤ 24) (hW : ∀ j, W j = nI (wd j)) (h7 : ∀ j, j < c → wd j < 7) {x y z : Int32} {a b d w : Nat} (q : nb_fq c wd 10 x y z a b d w) (h : post 1) : wpX_operandsFit post ((nI c), cs, sw, pp, pd, pe, K, W, ox, oy, oz, nums, rch, D, nx, en, fo, H, nt, mem, nm, vals, tr) 10 x y z := by
  obtain ⟨⟨ha, hb, rfl, rfl, e⟩, _, _⟩ := q
  refine br_f (by decide) (br_f (by decide) (br_f (by decide) (br_f (by decide) (br_f (by decide) (br_f (by decide) (br_f (by decide) (br_f (by decide) (br_f (by decide) (br_f (by decide) (br_f (by decide) (br_f (by decide) (br_t rfl (?_)))))))))))))
  unfold wX_operandsFit_263
  exact nx_al_t _ hc hW ha hb e ⟨rfl, h⟩
theorem nx_ft11 (post : Int32 → Prop) (hc : c ≤ 24) (hW : ∀ j, W j = nI (wd j)) (h7 : ∀ j, j < c → wd j < 7) {x y z : Int32} {a b d w : Nat} (q : nb_fq c wd 11 x y z a b d w) (h : post 1) : wpX_operandsFit post ((nI c), cs, sw, pp, pd, pe, K, W, ox, oy, oz, nums, rch, D, nx, en, fo, H, nt, mem, nm, vals, tr) 11 x y z := by
  obtain ⟨⟨ha, hb, rfl, rfl, e⟩, _, _⟩ := q
  refine br_f (by decide) (br_f (by decide) (br_f (by decide) (br_f (by decide) (br_f (by decide) (br_f (by decide) (br_f (by decide) (br_f (by decide) (br_f (by decide) (br_f (by decide) (br_f (by decide) (br_f (by decide) (br_f (by decide) (br_t rfl (?_))))))))))))))
  unfold wX_operandsFit_263
  exact nx_al_t _ hc hW ha hb e ⟨rfl, h⟩
theorem nx_ft12 (post : Int32 → Prop) (hc : c ≤ 24) (hW : ∀ j, W j = nI (wd j)) (h7 : ∀ j, j < c → wd j < 7) {x y z : Int32} {a b d w : Nat} (q : nb_fq c wd 12 x y z a b d w) (h : post 1) : wpX_operandsFit post ((nI c), cs, sw, pp, pd, pe, K, W, ox, oy, oz, nums, rch, D, nx, en, fo, H, nt, mem, nm, vals, tr) 12 x y z := by
  obtain ⟨⟨ha, rfl, e1⟩, ⟨hb, hd, rfl, rfl, e⟩, _⟩ := q
  refine br_f (by decide) (br_f (by decide) (br_f (by decide) (br_f (by decide) (br_f (by decide) (br_f (by decide) (br_f (by decide) (br_f (by decide) (br_f (by decide) (br_f (by decide) (br_f (by decide) (br_f (by decide) (br_f (by decide) (br_f (by decide) (br_t rfl (?_)))))))))))))))
  exact nx_isW_t _ hc hW ha (by rw [e1]; rfl) (br_f (by decide) (nx_al_t _ hc hW hb hd e (br_f (by decide) h)))
theorem nx_ft13 (post : Int32 → Prop) (hc : c ≤ 24) (hW : ∀ j, W j = nI (wd j)) (h7 : ∀ j, j < c → wd j < 7) {x y z : Int32} {a b d w : Nat} (q : nb_fq c wd 13 x y z a b d w) (h : post 1) : wpX_operandsFit post ((nI c), cs, sw, pp, pd, pe, K, W, ox, oy, oz, nums, rch, D, nx, en, fo, H, nt, mem, nm, vals, tr) 13 x y z := by
  obtain ⟨⟨ha, rfl⟩, ⟨hb, rfl, e2⟩, _, _⟩ := q
  refine br_f (by decide) (br_f (by decide) (br_f (by decide) (br_f (by decide) (br_f (by decide) (br_f (by decide) (br_f (by decide) (br_f (by decide) (br_f (by decide) (br_f (by decide) (br_f (by decide) (br_f (by decide) (br_f (by decide) (br_f (by decide) (br_f (by decide) (br_t rfl (?_))))))))))))))))
  unfold wX_operandsFit_174
  exact nx_isS_t _ hc ha (br_f (by decide) (nx_isW_t _ hc hW hb (by rw [e2]; rfl) (br_f (by decide) h)))
theorem nx_ft14 (post : Int32 → Prop) (hc : c ≤ 24) (hW : ∀ j, W j = nI (wd j)) (h7 : ∀ j, j < c → wd j < 7) {x y z : Int32} {a b d w : Nat} (q : nb_fq c wd 14 x y z a b d w) (h : post 1) : wpX_operandsFit post ((nI c), cs, sw, pp, pd, pe, K, W, ox, oy, oz, nums, rch, D, nx, en, fo, H, nt, mem, nm, vals, tr) 14 x y z := by
  obtain ⟨⟨ha, rfl⟩, ⟨hb, rfl, e2⟩, _, _⟩ := q
  refine br_f (by decide) (br_f (by decide) (br_f (by decide) (br_f (by decide) (br_f (by decide) (br_f (by decide) (br_f (by decide) (br_f (by decide) (br_f (by decide) (br_f (by decide) (br_f (by decide) (br_f (by decide) (br_f (by decide) (br_f (by decide) (br_f (by decide) (br_f (by decide) (br_t rfl (?_)))))))))))))))))
  unfold wX_operandsFit_174
  exact nx_isS_t _ hc ha (br_f (by decide) (nx_isW_t _ hc hW hb (by rw [e2]; rfl) (br_f (by decide) h)))
theorem nx_ft15 (post : Int32 → Prop) (hc : c ≤ 24) (hW : ∀ j, W j = nI (wd j)) (h7 : ∀ j, j < c → wd j < 7) {x y z : Int32} {a b d w : Nat} (q : nb_fq c wd 15 x y z a b d w) (h : post 1) : wpX_operandsFit post ((nI c), cs, sw, pp, pd, pe, K, W, ox, oy, oz, nums, rch, D, nx, en, fo, H, nt, mem, nm, vals, tr) 15 x y z := by
  obtain ⟨⟨ha, rfl⟩, ⟨hb, rfl⟩, _, _⟩ := q
  refine br_f (by decide) (br_f (by decide) (br_f (by decide) (br_f (by decide) (br_f (by decide) (br_f (by decide) (br_f (by decide) (br_f (by decide) (br_f (by decide) (br_f (by decide) (br_f (by decide) (br_f (by decide) (br_f (by decide) (br_f (by decide) (br_f (by decide) (br_f (by decide) (br_f (by decide) (br_t rfl (?_))))))))))))))))))
  exact nx_isS_t _ hc ha (br_f (by decide) (nx_isS_t _ hc hb (br_f (by decide) h)))
theorem nx_ft16 (post : Int32 → Prop) (hc : c ≤ 24) (hW : ∀ j, W j = nI (wd j)) (h7 : ∀ j, j < c → wd j < 7) {x y z : Int32} {a b d w : Nat} (q : nb_fq c wd 16 x y z a b d w) (h : post 1) : wpX_operandsFit post ((nI c), cs, sw, pp, pd, pe, K, W, ox, oy, oz, nums, rch, D, nx, en, fo, H, nt, mem, nm, vals, tr) 16 x y z := by
  obtain ⟨⟨ha, rfl⟩, ⟨s, rfl, rfl, h1, hsw⟩, _, _⟩ := q
  have w7 := h7 a ha
  refine br_f (by decide) (br_f (by decide) (br_f (by decide) (br_f (by decide) (br_f (by decide) (br_f (by decide) (br_f (by decide) (br_f (by decide) (br_f (by decide) (br_f (by decide) (br_f (by decide) (br_f (by decide) (br_f (by decide) (br_f (by decide) (br_f (by decide) (br_f (by decide) (br_f (by decide) (br_f (by decide) (br_t rfl (?_)))))))))))))))))))
  exact nx_isS_t _ hc ha (br_f (by decide) (br_f (nI_pos (by omega)) (br_f (nI_nlt (b := 1) h1 (by omega)) ⟨(vp_in_nI (by omega) (by omega)), by rw [nI_clamp (by omega), hW]; exact br_f (fun q => absurd ((nb_sl w7 (by omega) (by omega)).mp q) (by omega)) h⟩)))
theorem nx_ft17 (post : Int32 → Prop) (hc : c ≤ 24) (hW : ∀ j, W j = nI (wd j)) (h7 : ∀ j, j < c → wd j < 7) {x y z : Int32} {a b d w : Nat} (q : nb_fq c wd 17 x y z a b d w) (h : post 1) : wpX_operandsFit post ((nI c), cs, sw, pp, pd, pe, K, W, ox, oy, oz, nums, rch, D, nx, en, fo, H, nt, mem, nm, vals, tr) 17 x y z := by
  obtain ⟨⟨ha, rfl⟩, _, _, _⟩ := q
  refine br_f (by decide) (br_f (by decide) (br_f (by decide) (br_f (by decide) (br_f (by decide) (br_f (by decide) (br_f (by decide) (br_f (by decide) (br_f (by decide) (br_f (by decide) (br_f (by decide) (br_f (by decide) (br_f (by decide) (br_f (by decide) (br_f (by decide) (br_f (by decide) (br_f (by decide) (br_f (by decide) (br_f (by decide) (br_t rfl (?_))))))))))))))))))))
  unfold wX_operandsFit_118
  exact nx_isS_t _ hc ha ⟨rfl, h⟩
theorem nx_ft18 (post : Int32 → Prop) (hc : c ≤ 24) (hW : ∀ j, W j = nI (wd j)) (h7 : ∀ j, j < c → wd j < 7) {x y z : Int32} {a b d w : Nat} (q : nb_fq c wd 18 x y z a b d w) (h : post 1) : wpX_operandsFit post ((nI c), cs, sw, pp, pd, pe, K, W, ox, oy, oz, nums, rch, D, nx, en, fo, H, nt, mem, nm, vals, tr) 18 x y z := by
  obtain ⟨⟨ha, rfl, e2⟩, _, _, _⟩ := q
  refine br_f (by decide) (br_f (by decide) (br_f (by decide) (br_f (by decide) (br_f (by decide) (br_f (by decide) (br_f (by decide) (br_f (by decide) (br_f (by decide) (br_f (by decide) (br_f (by decide) (br_f (by decide) (br_f (by decide) (br_f (by decide) (br_f (by decide) (br_f (by decide) (br_f (by decide) (br_f (by decide) (br_f (by decide) (br_f (by decide) (br_t rfl (?_)))))))))))))))))))))
  exact nx_isW_t _ hc hW ha (by rw [e2]; rfl) ⟨rfl, h⟩
theorem ny_ft1 (post : Int32 → Prop) (hc : c ≤ 24) (hW : ∀ j, W j = nI (wd j)) (h7 : ∀ j, j < c → wd j < 7) {x y z : Int32} {a b d w : Nat} (q : nb_fq c wd 1 x y z a b d w) (h : post 1) : wpY_operandsFit post ((nI c), cs, sw, pp, pd, pe, K, ex, ey, ez, W, H, nty, fo, va, nx, en, mem, nm, td, mt) 1 x y z := by
  obtain ⟨⟨rfl, h1, w7, r⟩, _, _, _⟩ := q
  refine br_f (by decide) (br_f (by decide) (?_))
  exact ny_ir_t _ h1 w7 r ⟨rfl, h⟩
theorem ny_ft2 (post : Int32 → Prop) (hc : c ≤ 24) (hW : ∀ j, W j = nI (wd j)) (h7 : ∀ j, j < c → wd j < 7) {x y z : Int32} {a b d w : Nat} (q : nb_fq c wd 2 x y z a b d w) (h : post 1) : wpY_operandsFit post ((nI c), cs, sw, pp, pd, pe, K, ex, ey, ez, W, H, nty, fo, va, nx, en, mem, nm, td, mt) 2 x y z := by
  obtain ⟨⟨rfl, h1, w7, r⟩, _, _, _⟩ := q
  refine br_f (by decide) (br_f (by decide) (?_))
  exact ny_ir_t _ h1 w7 r ⟨rfl, h⟩
theorem ny_ft3 (post : Int32 → Prop) (hc : c ≤ 24) (hW : ∀ j, W j = nI (wd j)) (h7 : ∀ j, j < c → wd j < 7) {x y z : Int32} {a b d w : Nat} (q : nb_fq c wd 3 x y z a b d w) (h : post 1) : wpY_operandsFit post ((nI c), cs, sw, pp, pd, pe, K, ex, ey, ez, W, H, nty, fo, va, nx, en, mem, nm, td, mt) 3 x y z := by
  obtain ⟨⟨ha, rfl⟩, _, _, _⟩ := q
  refine br_f (by decide) (br_t (by decide) (br_t rfl (?_)))
  unfold wY_operandsFit_29
  exact ny_isS_t _ hc ha ⟨rfl, h⟩
theorem ny_ft4 (post : Int32 → Prop) (hc : c ≤ 24) (hW : ∀ j, W j = nI (wd j)) (h7 : ∀ j, j < c → wd j < 7) {x y z : Int32} {a b d w : Nat} (q : nb_fq c wd 4 x y z a b d w) (h : post 1) : wpY_operandsFit post ((nI c), cs, sw, pp, pd, pe, K, ex, ey, ez, W, H, nty, fo, va, nx, en, mem, nm, td, mt) 4 x y z := by
  obtain ⟨⟨ha, hb, rfl, rfl, e⟩, _, _⟩ := q
  refine br_f (by decide) (br_t (by decide) (br_f (by decide) (br_f (by decide) (br_f (by decide) (?_)))))
  exact ny_al_t _ hc hW ha hb e (br_f (by decide) (br_f (by decide) h))
theorem ny_ft5 (post : Int32 → Prop) (hc : c ≤ 24) (hW : ∀ j, W j = nI (wd j)) (h7 : ∀ j, j < c → wd j < 7) {x y z : Int32} {a b d w : Nat} (q : nb_fq c wd 5 x y z a b d w) (h : post 1) : wpY_operandsFit post ((nI c), cs, sw, pp, pd, pe, K, ex, ey, ez, W, H, nty, fo, va, nx, en, mem, nm, td, mt) 5 x y z := by
  obtain ⟨⟨ha, hb, rfl, rfl, e⟩, _, _⟩ := q
  refine br_f (by decide) (br_t (by decide) (br_f (by decide) (br_f (by decide) (br_f (by decide) (?_)))))
  exact ny_al_t _ hc hW ha hb e (br_f (by decide) (br_f (by decide) h))
theorem ny_ft6 (post : Int32 → Prop) (hc : c ≤ 24) (hW : ∀ j, W j = nI (wd j)) (h7 : ∀ j, j < c → wd j < 7) {x y z : Int32} {a b d w : Nat} (q : nb_fq c wd 6 x y z a b d w) (h : post 1) : wpY_operandsFit post ((nI c), cs, sw, pp, pd, pe, K, ex, ey, ez, W, H, nty, fo, va, nx, en, mem, nm, td, mt) 6 x y z := by
  obtain ⟨⟨ha, hb, rfl, rfl, e⟩, _, _⟩ := q
  refine br_f (by decide) (br_t (by decide) (br_f (by decide) (br_f (by decide) (br_f (by decide) (?_)))))
  exact ny_al_t _ hc hW ha hb e (br_f (by decide) (br_f (by decide) h))
theorem ny_ft7 (post : Int32 → Prop) (hc : c ≤ 24) (hW : ∀ j, W j = nI (wd j)) (h7 : ∀ j, j < c → wd j < 7) {x y z : Int32} {a b d w : Nat} (q : nb_fq c wd 7 x y z a b d w) (h : post 1) : wpY_operandsFit post ((nI c), cs, sw, pp, pd, pe, K, ex, ey, ez, W, H, nty, fo, va, nx, en, mem, nm, td, mt) 7 x y z := by
  obtain ⟨⟨ha, hb, rfl, rfl, e⟩, _, _⟩ := q
  refine br_f (by decide) (br_t (by decide) (br_f (by decide) (br_f (by decide) (br_f (by decide) (?_)))))
  exact ny_al_t _ hc hW ha hb e (br_f (by decide) (br_f (by decide) h))
theorem ny_ft8 (post : Int32 → Prop) (hc : c ≤ 24) (hW : ∀ j, W j = nI (wd j)) (h7 : ∀ j, j < c → wd j < 7) {x y z : Int32} {a b d w : Nat} (q : nb_fq c wd 8 x y z a b d w) (h : post 1) : wpY_operandsFit post ((nI c), cs, sw, pp, pd, pe, K, ex, ey, ez, W, H, nty, fo, va, nx, en, mem, nm, td, mt) 8 x y z := by
  obtain ⟨⟨ha, hb, rfl, rfl, e⟩, _, _⟩ := q
  refine br_f (by decide) (br_t (by decide) (br_f (by decide) (br_f (by decide) (br_f (by decide) (?_)))))
  exact ny_al_t _ hc hW ha hb e (br_f (by decide) (br_f (by decide) h))
theorem ny_ft9 (post : Int32 → Prop) (hc : c ≤ 24) (hW : ∀ j, W j = nI (wd j)) (h7 : ∀ j, j < c → wd j < 7) {x y z : Int32} {a b d w : Nat} (q : nb_fq c wd 9 x y z a b d w) (h : post 1) : wpY_operandsFit post ((nI c), cs, sw, pp, pd, pe, K, ex, ey, ez, W, H, nty, fo, va, nx, en, mem, nm, td, mt) 9 x y z := by
  obtain ⟨⟨ha, hb, rfl, rfl, e, e3⟩, _, _⟩ := q
  have w7 := h7 a ha
  refine br_f (by decide) (br_t (by decide) (br_f (by decide) (br_f (by decide) (br_f (by decide) (?_)))))
  exact ny_al_t _ hc hW ha hb e (br_f (by decide) (br_t rfl ⟨(vp_in_nI (by omega) (by omega)), by rw [nI_clamp (by omega), hW]; exact br_f (nI_nlt (a := 3) e3 (by omega)) h⟩))
theorem ny_ft10 (post : Int32 → Prop) (hc : c ≤ 24) (hW : ∀ j, W j = nI (wd j)) (h7 : ∀ j, j < c → wd j < 7) {x y z : Int32} {a b d w : Nat} (q : nb_fq c wd 10 x y z a b d w) (h : post 1) : wpY_operandsFit post ((nI c), cs, sw, pp, pd, pe, K, ex, ey, ez, W, H, nty, fo, va, nx, en, mem, nm, td, mt) 10 x y z := by
  obtain ⟨⟨ha, hb, rfl, rfl, e⟩, _, _⟩ := q
  refine br_f (by decide) (br_t (by decide) (br_f (by decide) (br_f (by decide) (br_f (by decide) (?_)))))
  exact ny_al_t _ hc hW ha hb e (br_f (by decide) (br_f (by decide) h))
theorem ny_ft11 (post : Int32 → Prop) (hc : c ≤ 24) (hW : ∀ j, W j = nI (wd j)) (h7 : ∀ j, j < c → wd j < 7) {x y z : Int32} {a b d w : Nat} (q : nb_fq c wd 11 x y z a b d w) (h : post 1) : wpY_operandsFit post ((nI c), cs, sw, pp, pd, pe, K, ex, ey, ez, W, H, nty, fo, va, nx, en, mem, nm, td, mt) 11 x y z := by
  obtain ⟨⟨ha, hb, rfl, rfl, e⟩, _, _⟩ := q
  refine br_f (by decide) (br_t (by decide) (br_f (by decide) (br_f (by decide) (br_f (by decide) (?_)))))
  exact ny_al_t _ hc hW ha hb e (br_f (by decide) (br_f (by decide) h))
theorem ny_ft12 (post : Int32 → Prop) (hc : c ≤ 24) (hW : ∀ j, W j = nI (wd j)) (h7 : ∀ j, j < c → wd j < 7) {x y z : Int32} {a b d w : Nat} (q : nb_fq c wd 12 x y z a b d w) (h : post 1) : wpY_operandsFit post ((nI c), cs, sw, pp, pd, pe, K, ex, ey, ez, W, H, nty, fo, va, nx, en, mem, nm, td, mt) 12 x y z := by
  obtain ⟨⟨ha, rfl, e1⟩, ⟨hb, hd, rfl, rfl, e⟩, _⟩ := q
  refine br_f (by decide) (br_t (by decide) (br_f (by decide) (br_f (by decide) (br_t (by decide) (br_t rfl (?_))))))
  exact ny_isW_t _ hc hW ha (by rw [e1]; rfl) (br_f (by decide) (ny_al_t _ hc hW hb hd e (br_f (by decide) h)))
theorem ny_ft13 (post : Int32 → Prop) (hc : c ≤ 24) (hW : ∀ j, W j = nI (wd j)) (h7 : ∀ j, j < c → wd j < 7) {x y z : Int32} {a b d w : Nat} (q : nb_fq c wd 13 x y z a b d w) (h : post 1) : wpY_operandsFit post ((nI c), cs, sw, pp, pd, pe, K, ex, ey, ez, W, H, nty, fo, va, nx, en, mem, nm, td, mt) 13 x y z := by
  obtain ⟨⟨ha, rfl⟩, ⟨hb, rfl, e2⟩, _, _⟩ := q
  refine br_f (by decide) (br_t (by decide) (br_f (by decide) (br_f (by decide) (br_t (by decide) (br_f (by decide) (br_f (by decide) (?_)))))))
  exact ny_isS_t _ hc ha (br_f (by decide) (ny_isW_t _ hc hW hb (by rw [e2]; rfl) (br_f (by decide) h)))
theorem ny_ft14 (post : Int32 → Prop) (hc : c ≤ 24) (hW : ∀ j, W j = nI (wd j)) (h7 : ∀ j, j < c → wd j < 7) {x y z : Int32} {a b d w : Nat} (q : nb_fq c wd 14 x y z a b d w) (h : post 1) : wpY_operandsFit post ((nI c), cs, sw, pp, pd, pe, K, ex, ey, ez, W, H, nty, fo, va, nx, en, mem, nm, td, mt) 14 x y z := by
  obtain ⟨⟨ha, rfl⟩, ⟨hb, rfl, e2⟩, _, _⟩ := q
  refine br_f (by decide) (br_t (by decide) (br_f (by decide) (br_f (by decide) (br_t (by decide) (br_f (by decide) (br_f (by decide) (?_)))))))
  exact ny_isS_t _ hc ha (br_f (by decide) (ny_isW_t _ hc hW hb (by rw [e2]; rfl) (br_f (by decide) h)))
theorem ny_ft15 (post : Int32 → Prop) (hc : c ≤ 24) (hW : ∀ j, W j = nI (wd j)) (h7 : ∀ j, j < c → wd j < 7) {x y z : Int32} {a b d w : Nat} (q : nb_fq c wd 15 x y z a b d w) (h : post 1) : wpY_operandsFit post ((nI c), cs, sw, pp, pd, pe, K, ex, ey, ez, W, H, nty, fo, va, nx, en, mem, nm, td, mt) 15 x y z := by
  obtain ⟨⟨ha, rfl⟩, ⟨hb, rfl⟩, _, _⟩ := q
  refine br_f (by decide) (br_t (by decide) (br_f (by decide) (br_f (by decide) (br_t (by decide) (br_f (by decide) (br_t (by decide) (br_t rfl (?_))))))))
  exact ny_isS_t _ hc ha (br_f (by decide) (ny_isS_t _ hc hb (br_f (by decide) h)))
theorem ny_ft16 (post : Int32 → Prop) (hc : c ≤ 24) (hW : ∀ j, W j = nI (wd j)) (h7 : ∀ j, j < c → wd j < 7) {x y z : Int32} {a b d w : Nat} (q : nb_fq c wd 16 x y z a b d w) (h : post 1) : wpY_operandsFit post ((nI c), cs, sw, pp, pd, pe, K, ex, ey, ez, W, H, nty, fo, va, nx, en, mem, nm, td, mt) 16 x y z := by
  obtain ⟨⟨ha, rfl⟩, ⟨s, rfl, rfl, h1, hsw⟩, _, _⟩ := q
  have w7 := h7 a ha
  refine br_f (by decide) (br_t (by decide) (br_f (by decide) (br_f (by decide) (br_t (by decide) (br_f (by decide) (br_t (by decide) (br_f (by decide) (br_t rfl (?_)))))))))
  exact ny_isS_t _ hc ha (br_f (by decide) (br_f (nI_pos (by omega)) (br_f (nI_nlt (b := 1) h1 (by omega)) ⟨(vp_in_nI (by omega) (by omega)), by rw [nI_clamp (by omega), hW]; exact br_f (nI_ge (by omega) (by omega)) ⟨(vp_in_nI (by omega) (by omega)), br_f (fun q => absurd ((nb_sl w7 (by omega) (by omega)).mp q) (by omega)) h⟩⟩)))
theorem ny_ft17 (post : Int32 → Prop) (hc : c ≤ 24) (hW : ∀ j, W j = nI (wd j)) (h7 : ∀ j, j < c → wd j < 7) {x y z : Int32} {a b d w : Nat} (q : nb_fq c wd 17 x y z a b d w) (h : post 1) : wpY_operandsFit post ((nI c), cs, sw, pp, pd, pe, K, ex, ey, ez, W, H, nty, fo, va, nx, en, mem, nm, td, mt) 17 x y z := by
  obtain ⟨⟨ha, rfl⟩, _, _, _⟩ := q
  refine br_f (by decide) (br_t (by decide) (br_f (by decide) (br_t rfl (?_))))
  unfold wY_operandsFit_29
  exact ny_isS_t _ hc ha ⟨rfl, h⟩
theorem ny_ft18 (post : Int32 → Prop) (hc : c ≤ 24) (hW : ∀ j, W j = nI (wd j)) (h7 : ∀ j, j < c → wd j < 7) {x y z : Int32} {a b d w : Nat} (q : nb_fq c wd 18 x y z a b d w) (h : post 1) : wpY_operandsFit post ((nI c), cs, sw, pp, pd, pe, K, ex, ey, ez, W, H, nty, fo, va, nx, en, mem, nm, td, mt) 18 x y z := by
  obtain ⟨⟨ha, rfl, e2⟩, _, _, _⟩ := q
  refine br_f (by decide) (br_t (by decide) (br_f (by decide) (br_f (by decide) (br_t (by decide) (br_f (by decide) (br_t (by decide) (br_f (by decide) (br_f (by decide) (?_)))))))))
  exact ny_isW_t _ hc hW ha (by rw [e2]; rfl) ⟨rfl, h⟩
theorem nx_ff0 (post : Int32 → Prop) (hc : c ≤ 24) (hW : ∀ j, W j = nI (wd j)) (h7 : ∀ j, j < c → wd j < 7) {x y z : Int32} (hn : ¬ ∃ a b d w, nb_fq c wd 0 x y z a b d w) (h : post 0) : wpX_operandsFit post ((nI c), cs, sw, pp, pd, pe, K, W, ox, oy, oz, nums, rch, D, nx, en, fo, H, nt, mem, nm, vals, tr) 0 x y z := by
  refine br_f (by decide) (br_f (by decide) (br_t rfl (?_)))
  exact nx_iw_f _ (fun ⟨w, h1, w7, e⟩ => hn ⟨0, 0, 0, w, ⟨e, h1, w7⟩, rfl, rfl, rfl⟩) ⟨rfl, h⟩
theorem nx_ff1 (post : Int32 → Prop) (hc : c ≤ 24) (hW : ∀ j, W j = nI (wd j)) (h7 : ∀ j, j < c → wd j < 7) {x y z : Int32} (hn : ¬ ∃ a b d w, nb_fq c wd 1 x y z a b d w) (h : post 0) : wpX_operandsFit post ((nI c), cs, sw, pp, pd, pe, K, W, ox, oy, oz, nums, rch, D, nx, en, fo, H, nt, mem, nm, vals, tr) 1 x y z := by
  refine br_f (by decide) (br_f (by decide) (br_f (by decide) (br_t rfl (?_))))
  unfold wX_operandsFit_97
  by_cases q : ∃ w, 1 ≤ w ∧ w < 7 ∧ x = nI w
  · obtain ⟨w, h1, w7, rfl⟩ := q
    exact nx_iw_t _ h1 w7 (br_f (by decide) (nx_fw_f _ w7 (fun r => hn ⟨0, 0, 0, w, ⟨rfl, h1, w7, r⟩, rfl, rfl, rfl⟩) (br_t rfl h)))
  · exact nx_iw_f _ q (br_t rfl h)
theorem nx_ff2 (post : Int32 → Prop) (hc : c ≤ 24) (hW : ∀ j, W j = nI (wd j)) (h7 : ∀ j, j < c → wd j < 7) {x y z : Int32} (hn : ¬ ∃ a b d w, nb_fq c wd 2 x y z a b d w) (h : post 0) : wpX_operandsFit post ((nI c), cs, sw, pp, pd, pe, K, W, ox, oy, oz, nums, rch, D, nx, en, fo, H, nt, mem, nm, vals, tr) 2 x y z := by
  refine br_f (by decide) (br_f (by decide) (br_f (by decide) (br_f (by decide) (br_t rfl (?_)))))
  unfold wX_operandsFit_97
  by_cases q : ∃ w, 1 ≤ w ∧ w < 7 ∧ x = nI w
  · obtain ⟨w, h1, w7, rfl⟩ := q
    exact nx_iw_t _ h1 w7 (br_f (by decide) (nx_fw_f _ w7 (fun r => hn ⟨0, 0, 0, w, ⟨rfl, h1, w7, r⟩, rfl, rfl, rfl⟩) (br_t rfl h)))
  · exact nx_iw_f _ q (br_t rfl h)
theorem nx_ff3 (post : Int32 → Prop) (hc : c ≤ 24) (hW : ∀ j, W j = nI (wd j)) (h7 : ∀ j, j < c → wd j < 7) {x y z : Int32} (hn : ¬ ∃ a b d w, nb_fq c wd 3 x y z a b d w) (h : post 0) : wpX_operandsFit post ((nI c), cs, sw, pp, pd, pe, K, W, ox, oy, oz, nums, rch, D, nx, en, fo, H, nt, mem, nm, vals, tr) 3 x y z := by
  refine br_f (by decide) (br_f (by decide) (br_f (by decide) (br_f (by decide) (br_f (by decide) (br_t rfl (?_))))))
  unfold wX_operandsFit_118
  exact nx_isS_f _ hc (fun ⟨a, ha, e⟩ => hn ⟨a, 0, 0, wd a, ⟨ha, e⟩, rfl, rfl, rfl⟩) ⟨rfl, h⟩
theorem nx_ff4 (post : Int32 → Prop) (hc : c ≤ 24) (hW : ∀ j, W j = nI (wd j)) (h7 : ∀ j, j < c → wd j < 7) {x y z : Int32} (hn : ¬ ∃ a b d w, nb_fq c wd 4 x y z a b d w) (h : post 0) : wpX_operandsFit post ((nI c), cs, sw, pp, pd, pe, K, W, ox, oy, oz, nums, rch, D, nx, en, fo, H, nt, mem, nm, vals, tr) 4 x y z := by
  refine br_f (by decide) (br_f (by decide) (br_f (by decide) (br_f (by decide) (br_f (by decide) (br_f (by decide) (br_t rfl (?_)))))))
  unfold wX_operandsFit_263
  exact nx_al_f _ hc hW h7 (fun ⟨a, b, ha, hb, ea, eb, e⟩ => hn ⟨a, b, 0, wd a, ⟨ha, hb, ea, eb, e⟩, rfl, rfl⟩) ⟨rfl, h⟩
theorem nx_ff5 (post : Int32 → Prop) (hc : c ≤ 24) (hW : ∀ j, W j = nI (wd j)) (h7 : ∀ j, j < c → wd j < 7) {x y z : Int32} (hn : ¬ ∃ a b d w, nb_fq c wd 5 x y z a b d w) (h : post 0) : wpX_operandsFit post ((nI c), cs, sw, pp, pd, pe, K, W, ox, oy, oz, nums, rch, D, nx, en, fo, H, nt, mem, nm, vals, tr) 5 x y z := by
  refine br_f (by decide) (br_f (by decide) (br_f (by decide) (br_f (by decide) (br_f (by decide) (br_f (by decide) (br_f (by decide) (br_t rfl (?_))))))))
  unfold wX_operandsFit_263
  exact nx_al_f _ hc hW h7 (fun ⟨a, b, ha, hb, ea, eb, e⟩ => hn ⟨a, b, 0, wd a, ⟨ha, hb, ea, eb, e⟩, rfl, rfl⟩) ⟨rfl, h⟩
theorem nx_ff6 (post : Int32 → Prop) (hc : c ≤ 24) (hW : ∀ j, W j = nI (wd j)) (h7 : ∀ j, j < c → wd j < 7) {x y z : Int32} (hn : ¬ ∃ a b d w, nb_fq c wd 6 x y z a b d w) (h : post 0) : wpX_operandsFit post ((nI c), cs, sw, pp, pd, pe, K, W, ox, oy, oz, nums, rch, D, nx, en, fo, H, nt, mem, nm, vals, tr) 6 x y z := by
  refine br_f (by decide) (br_f (by decide) (br_f (by decide) (br_f (by decide) (br_f (by decide) (br_f (by decide) (br_f (by decide) (br_f (by decide) (br_t rfl (?_)))))))))
  unfold wX_operandsFit_263
  exact nx_al_f _ hc hW h7 (fun ⟨a, b, ha, hb, ea, eb, e⟩ => hn ⟨a, b, 0, wd a, ⟨ha, hb, ea, eb, e⟩, rfl, rfl⟩) ⟨rfl, h⟩
theorem nx_ff7 (post : Int32 → Prop) (hc : c ≤ 24) (hW : ∀ j, W j = nI (wd j)) (h7 : ∀ j, j < c → wd j < 7) {x y z : Int32} (hn : ¬ ∃ a b d w, nb_fq c wd 7 x y z a b d w) (h : post 0) : wpX_operandsFit post ((nI c), cs, sw, pp, pd, pe, K, W, ox, oy, oz, nums, rch, D, nx, en, fo, H, nt, mem, nm, vals, tr) 7 x y z := by
  refine br_f (by decide) (br_f (by decide) (br_f (by decide) (br_f (by decide) (br_f (by decide) (br_f (by decide) (br_f (by decide) (br_f (by decide) (br_f (by decide) (br_t rfl (?_))))))))))
  unfold wX_operandsFit_263
  exact nx_al_f _ hc hW h7 (fun ⟨a, b, ha, hb, ea, eb, e⟩ => hn ⟨a, b, 0, wd a, ⟨ha, hb, ea, eb, e⟩, rfl, rfl⟩) ⟨rfl, h⟩
theorem nx_ff8 (post : Int32 → Prop) (hc : c ≤ 24) (hW : ∀ j, W j = nI (wd j)) (h7 : ∀ j, j < c → wd j < 7) {x y z : Int32} (hn : ¬ ∃ a b d w, nb_fq c wd 8 x y z a b d w) (h : post 0) : wpX_operandsFit post ((nI c), cs, sw, pp, pd, pe, K, W, ox, oy, oz, nums, rch, D, nx, en, fo, H, nt, mem, nm, vals, tr) 8 x y z := by
  refine br_f (by decide) (br_f (by decide) (br_f (by decide) (br_f (by decide) (br_f (by decide) (br_f (by decide) (br_f (by decide) (br_f (by decide) (br_f (by decide) (br_f (by decide) (br_t rfl (?_)))))))))))
  unfold wX_operandsFit_263
  exact nx_al_f _ hc hW h7 (fun ⟨a, b, ha, hb, ea, eb, e⟩ => hn ⟨a, b, 0, wd a, ⟨ha, hb, ea, eb, e⟩, rfl, rfl⟩) ⟨rfl, h⟩
theorem nx_ff9 (post : Int32 → Prop) (hc : c ≤ 24) (hW : ∀ j, W j = nI (wd j)) (h7 : ∀ j, j < c → wd j < 7) {x y z : Int32} (hn : ¬ ∃ a b d w, nb_fq c wd 9 x y z a b d w) (h : post 0) : wpX_operandsFit post ((nI c), cs, sw, pp, pd, pe, K, W, ox, oy, oz, nums, rch, D, nx, en, fo, H, nt, mem, nm, vals, tr) 9 x y z := by
  refine br_f (by decide) (br_f (by decide) (br_f (by decide) (br_f (by decide) (br_f (by decide) (br_f (by decide) (br_f (by decide) (br_f (by decide) (br_f (by decide) (br_f (by decide) (br_f (by decide) (br_t rfl (?_))))))))))))
  by_cases q : ∃ a b, a < c ∧ b < c ∧ x = nI a ∧ y = nI b ∧ wd a = wd b
  · obtain ⟨a, b, ha, hb, rfl, rfl, e⟩ := q
    have w7 := h7 a ha
    have g : 3 < wd a := Nat.not_le.mp (fun g => hn ⟨a, b, 0, wd a, ⟨ha, hb, rfl, rfl, e, g⟩, rfl, rfl⟩)
    exact nx_al_t _ hc hW ha hb e (br_f (by decide) ⟨(vp_in_nI (by omega) (by omega)), by rw [nI_clamp (by omega), hW]; exact br_t (nI_lt (a := 3) g (by omega)) h⟩)
  · exact nx_al_f _ hc hW h7 q (br_t rfl h)
theorem nx_ff10 (post : Int32 → Prop) (hc : c ≤ 24) (hW : ∀ j, W j = nI (wd j)) (h7 : ∀ j, j < c → wd j < 7) {x y z : Int32} (hn : ¬ ∃ a b d w, nb_fq c wd 10 x y z a b d w) (h : post 0) : wpX_operandsFit post ((nI c), cs, sw, pp, pd, pe, K, W, ox, oy, oz, nums, rch, D, nx, en, fo, H, nt, mem, nm, vals, tr) 10 x y z := by
  refine br_f (by decide) (br_f (by decide) (br_f (by decide) (br_f (by decide) (br_f (by decide) (br_f (by decide) (br_f (by decide) (br_f (by decide) (br_f (by decide) (br_f (by decide) (br_f (by decide) (br_f (by decide) (br_t rfl (?_)))))))))))))
  unfold wX_operandsFit_263
  exact nx_al_f _ hc hW h7 (fun ⟨a, b, ha, hb, ea, eb, e⟩ => hn ⟨a, b, 0, 1, ⟨ha, hb, ea, eb, e⟩, rfl, rfl⟩) ⟨rfl, h⟩
theorem nx_ff11 (post : Int32 → Prop) (hc : c ≤ 24) (hW : ∀ j, W j = nI (wd j)) (h7 : ∀ j, j < c → wd j < 7) {x y z : Int32} (hn : ¬ ∃ a b d w, nb_fq c wd 11 x y z a b d w) (h : post 0) : wpX_operandsFit post ((nI c), cs, sw, pp, pd, pe, K, W, ox, oy, oz, nums, rch, D, nx, en, fo, H, nt, mem, nm, vals, tr) 11 x y z := by
  refine br_f (by decide) (br_f (by decide) (br_f (by decide) (br_f (by decide) (br_f (by decide) (br_f (by decide) (br_f (by decide) (br_f (by decide) (br_f (by decide) (br_f (by decide) (br_f (by decide) (br_f (by decide) (br_f (by decide) (br_t rfl (?_))))))))))))))
  unfold wX_operandsFit_263
  exact nx_al_f _ hc hW h7 (fun ⟨a, b, ha, hb, ea, eb, e⟩ => hn ⟨a, b, 0, 1, ⟨ha, hb, ea, eb, e⟩, rfl, rfl⟩) ⟨rfl, h⟩
theorem nx_ff12 (post : Int32 → Prop) (hc : c ≤ 24) (hW : ∀ j, W j = nI (wd j)) (h7 : ∀ j, j < c → wd j < 7) {x y z : Int32} (hn : ¬ ∃ a b d w, nb_fq c wd 12 x y z a b d w) (h : post 0) : wpX_operandsFit post ((nI c), cs, sw, pp, pd, pe, K, W, ox, oy, oz, nums, rch, D, nx, en, fo, H, nt, mem, nm, vals, tr) 12 x y z := by
  refine br_f (by decide) (br_f (by decide) (br_f (by decide) (br_f (by decide) (br_f (by decide) (br_f (by decide) (br_f (by decide) (br_f (by decide) (br_f (by decide) (br_f (by decide) (br_f (by decide) (br_f (by decide) (br_f (by decide) (br_f (by decide) (br_t rfl (?_)))))))))))))))
  by_cases q : ∃ a, a < c ∧ x = nI a ∧ nI (wd a) = 1
  · obtain ⟨a, ha, rfl, e1⟩ := q
    have w7 := h7 a ha
    refine nx_isW_t _ hc hW ha e1 (br_f (by decide) (nx_al_f _ hc hW h7 ?_ (br_t rfl h)))
    exact fun ⟨b, d, hb, hd, eb, ed, e⟩ => hn ⟨a, b, d, wd b, ⟨ha, rfl, (nI_eq (b := 1) (by omega) (by omega)).mp e1⟩, ⟨hb, hd, eb, ed, e⟩, rfl⟩
  · exact nx_isW_f _ hc hW q (br_t rfl h)
theorem nx_ff13 (post : Int32 → Prop) (hc : c ≤ 24) (hW : ∀ j, W j = nI (wd j)) (h7 : ∀ j, j < c → wd j < 7) {x y z : Int32} (hn : ¬ ∃ a b d w, nb_fq c wd 13 x y z a b d w) (h : post 0) : wpX_operandsFit post ((nI c), cs, sw, pp, pd, pe, K, W, ox, oy, oz, nums, rch, D, nx, en, fo, H, nt, mem, nm, vals, tr) 13 x y z := by
  refine br_f (by decide) (br_f (by decide) (br_f (by decide) (br_f (by decide) (br_f (by decide) (br_f (by decide) (br_f (by decide) (br_f (by decide) (br_f (by decide) (br_f (by decide) (br_f (by decide) (br_f (by decide) (br_f (by decide) (br_f (by decide) (br_f (by decide) (br_t rfl (?_))))))))))))))))
  unfold wX_operandsFit_174
  by_cases q : nb_sg c x
  · obtain ⟨a, ha, rfl⟩ := q
    refine nx_isS_t _ hc ha (br_f (by decide) (nx_isW_f _ hc hW ?_ (br_t rfl h)))
    rintro ⟨b, hb, eb, e2⟩
    have w7 := h7 b hb
    exact hn ⟨a, b, 0, wd a, ⟨ha, rfl⟩, ⟨hb, eb, (nI_eq (b := 2) (by omega) (by omega)).mp e2⟩, rfl, rfl⟩
  · exact nx_isS_f _ hc q (br_t rfl h)
theorem nx_ff14 (post : Int32 → Prop) (hc : c ≤ 24) (hW : ∀ j, W j = nI (wd j)) (h7 : ∀ j, j < c → wd j < 7) {x y z : Int32} (hn : ¬ ∃ a b d w, nb_fq c wd 14 x y z a b d w) (h : post 0) : wpX_operandsFit post ((nI c), cs, sw, pp, pd, pe, K, W, ox, oy, oz, nums, rch, D, nx, en, fo, H, nt, mem, nm, vals, tr) 14 x y z := by
  refine br_f (by decide) (br_f (by decide) (br_f (by decide) (br_f (by decide) (br_f (by decide) (br_f (by decide) (br_f (by decide) (br_f (by decide) (br_f (by decide) (br_f (by decide) (br_f (by decide) (br_f (by decide) (br_f (by decide) (br_f (by decide) (br_f (by decide) (br_f (by decide) (br_t rfl (?_)))))))))))))))))
  unfold wX_operandsFit_174
  by_cases q : nb_sg c x
  · obtain ⟨a, ha, rfl⟩ := q
    refine nx_isS_t _ hc ha (br_f (by decide) (nx_isW_f _ hc hW ?_ (br_t rfl h)))
    rintro ⟨b, hb, eb, e2⟩
    have w7 := h7 b hb
    exact hn ⟨a, b, 0, wd a, ⟨ha, rfl⟩, ⟨hb, eb, (nI_eq (b := 2) (by omega) (by omega)).mp e2⟩, rfl, rfl⟩
  · exact nx_isS_f _ hc q (br_t rfl h)
theorem nx_ff15 (post : Int32 → Prop) (hc : c ≤ 24) (hW : ∀ j, W j = nI (wd j)) (h7 : ∀ j, j < c → wd j < 7) {x y z : Int32} (hn : ¬ ∃ a b d w, nb_fq c wd 15 x y z a b d w) (h : post 0) : wpX_operandsFit post ((nI c), cs, sw, pp, pd, pe, K, W, ox, oy, oz, nums, rch, D, nx, en, fo, H, nt, mem, nm, vals, tr) 15 x y z := by
  refine br_f (by decide) (br_f (by decide) (br_f (by decide) (br_f (by decide) (br_f (by decide) (br_f (by decide) (br_f (by decide) (br_f (by decide) (br_f (by decide) (br_f (by decide) (br_f (by decide) (br_f (by decide) (br_f (by decide) (br_f (by decide) (br_f (by decide) (br_f (by decide) (br_f (by decide) (br_t rfl (?_))))))))))))))))))
  by_cases q : nb_sg c x
  · obtain ⟨a, ha, rfl⟩ := q
    refine nx_isS_t _ hc ha (br_f (by decide) (nx_isS_f _ hc ?_ (br_t rfl h)))
    rintro ⟨b, hb, eb⟩
    exact hn ⟨a, b, 0, _, ⟨ha, rfl⟩, ⟨hb, eb⟩, rfl, rfl⟩
  · exact nx_isS_f _ hc q (br_t rfl h)
theorem nx_ff16 (post : Int32 → Prop) (hc : c ≤ 24) (hW : ∀ j, W j = nI (wd j)) (h7 : ∀ j, j < c → wd j < 7) {x y z : Int32} (hn : ¬ ∃ a b d w, nb_fq c wd 16 x y z a b d w) (h : post 0) : wpX_operandsFit post ((nI c), cs, sw, pp, pd, pe, K, W, ox, oy, oz, nums, rch, D, nx, en, fo, H, nt, mem, nm, vals, tr) 16 x y z := by
  refine br_f (by decide) (br_f (by decide) (br_f (by decide) (br_f (by decide) (br_f (by decide) (br_f (by decide) (br_f (by decide) (br_f (by decide) (br_f (by decide) (br_f (by decide) (br_f (by decide) (br_f (by decide) (br_f (by decide) (br_f (by decide) (br_f (by decide) (br_f (by decide) (br_f (by decide) (br_f (by decide) (br_t rfl (?_)))))))))))))))))))
  by_cases q : nb_sg c x
  · obtain ⟨a, ha, rfl⟩ := q
    have w7 := h7 a ha
    refine nx_isS_t _ hc ha (br_f (by decide) ?_)
    by_cases y0 : y < 0
    · exact br_t y0 h
    · refine br_f y0 ?_
      by_cases z1 : z < 1
      · exact br_t z1 h
      refine br_f z1 ⟨(vp_in_nI (by omega) (by omega)), ?_⟩
      obtain ⟨s, hs, rfl⟩ := nI_of y0
      have z0 : ¬ z < 0 := fun r => z1 (Int32.lt_trans r (by decide))
      obtain ⟨t, ht, rfl⟩ := nI_of z0
      have t1 : 1 ≤ t := Nat.not_lt.mp (fun r => z1 (nI_lt (b := 1) r (by omega)))
      have g : wd a < s + t := Nat.not_le.mp (fun g => hn ⟨a, 0, 0, t, ⟨ha, rfl⟩, ⟨s, rfl, rfl, t1, g⟩, rfl, rfl⟩)
      rw [nI_clamp (by omega), hW]
      exact br_t ((nb_sl w7 hs ht).mpr g) h
  · exact nx_isS_f _ hc q (br_t rfl h)
theorem nx_ff17 (post : Int32 → Prop) (hc : c ≤ 24) (hW : ∀ j, W j = nI (wd j)) (h7 : ∀ j, j < c → wd j < 7) {x y z : Int32} (hn : ¬ ∃ a b d w, nb_fq c wd 17 x y z a b d w) (h : post 0) : wpX_operandsFit post ((nI c), cs, sw, pp, pd, pe, K, W, ox, oy, oz, nums, rch, D, nx, en, fo, H, nt, mem, nm, vals, tr) 17 x y z := by
  refine br_f (by decide) (br_f (by decide) (br_f (by decide) (br_f (by decide) (br_f (by decide) (br_f (by decide) (br_f (by decide) (br_f (by decide) (br_f (by decide) (br_f (by decide) (br_f (by decide) (br_f (by decide) (br_f (by decide) (br_f (by decide) (br_f (by decide) (br_f (by decide) (br_f (by decide) (br_f (by decide) (br_f (by decide) (br_t rfl (?_))))))))))))))))))))
  unfold wX_operandsFit_118
  exact nx_isS_f _ hc (fun ⟨a, ha, e⟩ => hn ⟨a, 0, 0, 3, ⟨ha, e⟩, rfl, rfl, rfl⟩) ⟨rfl, h⟩
theorem nx_ff18 (post : Int32 → Prop) (hc : c ≤ 24) (hW : ∀ j, W j = nI (wd j)) (h7 : ∀ j, j < c → wd j < 7) {x y z : Int32} (hn : ¬ ∃ a b d w, nb_fq c wd 18 x y z a b d w) (h : post 0) : wpX_operandsFit post ((nI c), cs, sw, pp, pd, pe, K, W, ox, oy, oz, nums, rch, D, nx, en, fo, H, nt, mem, nm, vals, tr) 18 x y z := by
  refine br_f (by decide) (br_f (by decide) (br_f (by decide) (br_f (by decide) (br_f (by decide) (br_f (by decide) (br_f (by decide) (br_f (by decide) (br_f (by decide) (br_f (by decide) (br_f (by decide) (br_f (by decide) (br_f (by decide) (br_f (by decide) (br_f (by decide) (br_f (by decide) (br_f (by decide) (br_f (by decide) (br_f (by decide) (br_f (by decide) (br_t rfl (?_)))))))))))))))))))))
  refine nx_isW_f _ hc hW ?_ ⟨rfl, h⟩
  rintro ⟨a, ha, ea, e2⟩
  have w7 := h7 a ha
  exact hn ⟨a, 0, 0, 4, ⟨ha, ea, (nI_eq (b := 2) (by omega) (by omega)).mp e2⟩, rfl, rfl, rfl⟩
theorem ny_ff1 (post : Int32 → Prop) (hc : c ≤ 24) (hW : ∀ j, W j = nI (wd j)) (h7 : ∀ j, j < c → wd j < 7) {x y z : Int32} (hn : ¬ ∃ a b d w, nb_fq c wd 1 x y z a b d w) (h : post 0) : wpY_operandsFit post ((nI c), cs, sw, pp, pd, pe, K, ex, ey, ez, W, H, nty, fo, va, nx, en, mem, nm, td, mt) 1 x y z := by
  refine br_f (by decide) (br_f (by decide) (?_))
  by_cases q : ∃ w, 1 ≤ w ∧ w < 7 ∧ x = nI w
  · obtain ⟨w, h1, w7, rfl⟩ := q
    exact ny_ir_f _ h1 w7 (fun r => hn ⟨0, 0, 0, w, ⟨rfl, h1, w7, r⟩, rfl, rfl, rfl⟩) ⟨rfl, h⟩
  · exact ny_ir_w _ q ⟨rfl, h⟩
theorem ny_ff2 (post : Int32 → Prop) (hc : c ≤ 24) (hW : ∀ j, W j = nI (wd j)) (h7 : ∀ j, j < c → wd j < 7) {x y z : Int32} (hn : ¬ ∃ a b d w, nb_fq c wd 2 x y z a b d w) (h : post 0) : wpY_operandsFit post ((nI c), cs, sw, pp, pd, pe, K, ex, ey, ez, W, H, nty, fo, va, nx, en, mem, nm, td, mt) 2 x y z := by
  refine br_f (by decide) (br_f (by decide) (?_))
  by_cases q : ∃ w, 1 ≤ w ∧ w < 7 ∧ x = nI w
  · obtain ⟨w, h1, w7, rfl⟩ := q
    exact ny_ir_f _ h1 w7 (fun r => hn ⟨0, 0, 0, w, ⟨rfl, h1, w7, r⟩, rfl, rfl, rfl⟩) ⟨rfl, h⟩
  · exact ny_ir_w _ q ⟨rfl, h⟩
theorem ny_ff3 (post : Int32 → Prop) (hc : c ≤ 24) (hW : ∀ j, W j = nI (wd j)) (h7 : ∀ j, j < c → wd j < 7) {x y z : Int32} (hn : ¬ ∃ a b d w, nb_fq c wd 3 x y z a b d w) (h : post 0) : wpY_operandsFit post ((nI c), cs, sw, pp, pd, pe, K, ex, ey, ez, W, H, nty, fo, va, nx, en, mem, nm, td, mt) 3 x y z := by
  refine br_f (by decide) (br_t (by decide) (br_t rfl (?_)))
  unfold wY_operandsFit_29
  exact ny_isS_f _ hc (fun ⟨a, ha, e⟩ => hn ⟨a, 0, 0, wd a, ⟨ha, e⟩, rfl, rfl, rfl⟩) ⟨rfl, h⟩
theorem ny_ff4 (post : Int32 → Prop) (hc : c ≤ 24) (hW : ∀ j, W j = nI (wd j)) (h7 : ∀ j, j < c → wd j < 7) {x y z : Int32} (hn : ¬ ∃ a b d w, nb_fq c wd 4 x y z a b d w) (h : post 0) : wpY_operandsFit post ((nI c), cs, sw, pp, pd, pe, K, ex, ey, ez, W, H, nty, fo, va, nx, en, mem, nm, td, mt) 4 x y z := by
  refine br_f (by decide) (br_t (by decide) (br_f (by decide) (br_f (by decide) (br_f (by decide) (?_)))))
  exact ny_al_f _ hc hW h7 (fun ⟨a, b, ha, hb, ea, eb, e⟩ => hn ⟨a, b, 0, wd a, ⟨ha, hb, ea, eb, e⟩, rfl, rfl⟩) (br_t rfl h)
theorem ny_ff5 (post : Int32 → Prop) (hc : c ≤ 24) (hW : ∀ j, W j = nI (wd j)) (h7 : ∀ j, j < c → wd j < 7) {x y z : Int32} (hn : ¬ ∃ a b d w, nb_fq c wd 5 x y z a b d w) (h : post 0) : wpY_operandsFit post ((nI c), cs, sw, pp, pd, pe, K, ex, ey, ez, W, H, nty, fo, va, nx, en, mem, nm, td, mt) 5 x y z := by
  refine br_f (by decide) (br_t (by decide) (br_f (by decide) (br_f (by decide) (br_f (by decide) (?_)))))
  exact ny_al_f _ hc hW h7 (fun ⟨a, b, ha, hb, ea, eb, e⟩ => hn ⟨a, b, 0, wd a, ⟨ha, hb, ea, eb, e⟩, rfl, rfl⟩) (br_t rfl h)
theorem ny_ff6 (post : Int32 → Prop) (hc : c ≤ 24) (hW : ∀ j, W j = nI (wd j)) (h7 : ∀ j, j < c → wd j < 7) {x y z : Int32} (hn : ¬ ∃ a b d w, nb_fq c wd 6 x y z a b d w) (h : post 0) : wpY_operandsFit post ((nI c), cs, sw, pp, pd, pe, K, ex, ey, ez, W, H, nty, fo, va, nx, en, mem, nm, td, mt) 6 x y z := by
  refine br_f (by decide) (br_t (by decide) (br_f (by decide) (br_f (by decide) (br_f (by decide) (?_)))))
  exact ny_al_f _ hc hW h7 (fun ⟨a, b, ha, hb, ea, eb, e⟩ => hn ⟨a, b, 0, wd a, ⟨ha, hb, ea, eb, e⟩, rfl, rfl⟩) (br_t rfl h)
theorem ny_ff7 (post : Int32 → Prop) (hc : c ≤ 24) (hW : ∀ j, W j = nI (wd j)) (h7 : ∀ j, j < c → wd j < 7) {x y z : Int32} (hn : ¬ ∃ a b d w, nb_fq c wd 7 x y z a b d w) (h : post 0) : wpY_operandsFit post ((nI c), cs, sw, pp, pd, pe, K, ex, ey, ez, W, H, nty, fo, va, nx, en, mem, nm, td, mt) 7 x y z := by
  refine br_f (by decide) (br_t (by decide) (br_f (by decide) (br_f (by decide) (br_f (by decide) (?_)))))
  exact ny_al_f _ hc hW h7 (fun ⟨a, b, ha, hb, ea, eb, e⟩ => hn ⟨a, b, 0, wd a, ⟨ha, hb, ea, eb, e⟩, rfl, rfl⟩) (br_t rfl h)
theorem ny_ff8 (post : Int32 → Prop) (hc : c ≤ 24) (hW : ∀ j, W j = nI (wd j)) (h7 : ∀ j, j < c → wd j < 7) {x y z : Int32} (hn : ¬ ∃ a b d w, nb_fq c wd 8 x y z a b d w) (h : post 0) : wpY_operandsFit post ((nI c), cs, sw, pp, pd, pe, K, ex, ey, ez, W, H, nty, fo, va, nx, en, mem, nm, td, mt) 8 x y z := by
  refine br_f (by decide) (br_t (by decide) (br_f (by decide) (br_f (by decide) (br_f (by decide) (?_)))))
  exact ny_al_f _ hc hW h7 (fun ⟨a, b, ha, hb, ea, eb, e⟩ => hn ⟨a, b, 0, wd a, ⟨ha, hb, ea, eb, e⟩, rfl, rfl⟩) (br_t rfl h)
theorem ny_ff9 (post : Int32 → Prop) (hc : c ≤ 24) (hW : ∀ j, W j = nI (wd j)) (h7 : ∀ j, j < c → wd j < 7) {x y z : Int32} (hn : ¬ ∃ a b d w, nb_fq c wd 9 x y z a b d w) (h : post 0) : wpY_operandsFit post ((nI c), cs, sw, pp, pd, pe, K, ex, ey, ez, W, H, nty, fo, va, nx, en, mem, nm, td, mt) 9 x y z := by
  refine br_f (by decide) (br_t (by decide) (br_f (by decide) (br_f (by decide) (br_f (by decide) (?_)))))
  by_cases q : ∃ a b, a < c ∧ b < c ∧ x = nI a ∧ y = nI b ∧ wd a = wd b
  · obtain ⟨a, b, ha, hb, rfl, rfl, e⟩ := q
    have w7 := h7 a ha
    have g : 3 < wd a := Nat.not_le.mp (fun g => hn ⟨a, b, 0, wd a, ⟨ha, hb, rfl, rfl, e, g⟩, rfl, rfl⟩)
    exact ny_al_t _ hc hW ha hb e (br_f (by decide) (br_t rfl ⟨(vp_in_nI (by omega) (by omega)), by rw [nI_clamp (by omega), hW]; exact br_t (nI_lt (a := 3) g (by omega)) h⟩))
  · exact ny_al_f _ hc hW h7 q (br_t rfl h)
theorem ny_ff10 (post : Int32 → Prop) (hc : c ≤ 24) (hW : ∀ j, W j = nI (wd j)) (h7 : ∀ j, j < c → wd j < 7) {x y z : Int32} (hn : ¬ ∃ a b d w, nb_fq c wd 10 x y z a b d w) (h : post 0) : wpY_operandsFit post ((nI c), cs, sw, pp, pd, pe, K, ex, ey, ez, W, H, nty, fo, va, nx, en, mem, nm, td, mt) 10 x y z := by
  refine br_f (by decide) (br_t (by decide) (br_f (by decide) (br_f (by decide) (br_f (by decide) (?_)))))
  exact ny_al_f _ hc hW h7 (fun ⟨a, b, ha, hb, ea, eb, e⟩ => hn ⟨a, b, 0, 1, ⟨ha, hb, ea, eb, e⟩, rfl, rfl⟩) (br_t rfl h)
theorem ny_ff11 (post : Int32 → Prop) (hc : c ≤ 24) (hW : ∀ j, W j = nI (wd j)) (h7 : ∀ j, j < c → wd j < 7) {x y z : Int32} (hn : ¬ ∃ a b d w, nb_fq c wd 11 x y z a b d w) (h : post 0) : wpY_operandsFit post ((nI c), cs, sw, pp, pd, pe, K, ex, ey, ez, W, H, nty, fo, va, nx, en, mem, nm, td, mt) 11 x y z := by
  refine br_f (by decide) (br_t (by decide) (br_f (by decide) (br_f (by decide) (br_f (by decide) (?_)))))
  exact ny_al_f _ hc hW h7 (fun ⟨a, b, ha, hb, ea, eb, e⟩ => hn ⟨a, b, 0, 1, ⟨ha, hb, ea, eb, e⟩, rfl, rfl⟩) (br_t rfl h)
theorem ny_ff12 (post : Int32 → Prop) (hc : c ≤ 24) (hW : ∀ j, W j = nI (wd j)) (h7 : ∀ j, j < c → wd j < 7) {x y z : Int32} (hn : ¬ ∃ a b d w, nb_fq c wd 12 x y z a b d w) (h : post 0) : wpY_operandsFit post ((nI c), cs, sw, pp, pd, pe, K, ex, ey, ez, W, H, nty, fo, va, nx, en, mem, nm, td, mt) 12 x y z := by
  refine br_f (by decide) (br_t (by decide) (br_f (by decide) (br_f (by decide) (br_t (by decide) (br_t rfl (?_))))))
  by_cases q : ∃ a, a < c ∧ x = nI a ∧ nI (wd a) = 1
  · obtain ⟨a, ha, rfl, e1⟩ := q
    have w7 := h7 a ha
    refine ny_isW_t _ hc hW ha e1 (br_f (by decide) (ny_al_f _ hc hW h7 ?_ (br_t rfl h)))
    exact fun ⟨b, d, hb, hd, eb, ed, e⟩ => hn ⟨a, b, d, wd b, ⟨ha, rfl, (nI_eq (b := 1) (by omega) (by omega)).mp e1⟩, ⟨hb, hd, eb, ed, e⟩, rfl⟩
  · exact ny_isW_f _ hc hW q (br_t rfl h)
theorem ny_ff13 (post : Int32 → Prop) (hc : c ≤ 24) (hW : ∀ j, W j = nI (wd j)) (h7 : ∀ j, j < c → wd j < 7) {x y z : Int32} (hn : ¬ ∃ a b d w, nb_fq c wd 13 x y z a b d w) (h : post 0) : wpY_operandsFit post ((nI c), cs, sw, pp, pd, pe, K, ex, ey, ez, W, H, nty, fo, va, nx, en, mem, nm, td, mt) 13 x y z := by
  refine br_f (by decide) (br_t (by decide) (br_f (by decide) (br_f (by decide) (br_t (by decide) (br_f (by decide) (br_f (by decide) (?_)))))))
  by_cases q : nb_sg c x
  · obtain ⟨a, ha, rfl⟩ := q
    refine ny_isS_t _ hc ha (br_f (by decide) (ny_isW_f _ hc hW ?_ (br_t rfl h)))
    rintro ⟨b, hb, eb, e2⟩
    have w7 := h7 b hb
    exact hn ⟨a, b, 0, wd a, ⟨ha, rfl⟩, ⟨hb, eb, (nI_eq (b := 2) (by omega) (by omega)).mp e2⟩, rfl, rfl⟩
  · exact ny_isS_f _ hc q (br_t rfl h)
theorem ny_ff14 (post : Int32 → Prop) (hc : c ≤ 24) (hW : ∀ j, W j = nI (wd j)) (h7 : ∀ j, j < c → wd j < 7) {x y z : Int32} (hn : ¬ ∃ a b d w, nb_fq c wd 14 x y z a b d w) (h : post 0) : wpY_operandsFit post ((nI c), cs, sw, pp, pd, pe, K, ex, ey, ez, W, H, nty, fo, va, nx, en, mem, nm, td, mt) 14 x y z := by
  refine br_f (by decide) (br_t (by decide) (br_f (by decide) (br_f (by decide) (br_t (by decide) (br_f (by decide) (br_f (by decide) (?_)))))))
  by_cases q : nb_sg c x
  · obtain ⟨a, ha, rfl⟩ := q
    refine ny_isS_t _ hc ha (br_f (by decide) (ny_isW_f _ hc hW ?_ (br_t rfl h)))
    rintro ⟨b, hb, eb, e2⟩
    have w7 := h7 b hb
    exact hn ⟨a, b, 0, wd a, ⟨ha, rfl⟩, ⟨hb, eb, (nI_eq (b := 2) (by omega) (by omega)).mp e2⟩, rfl, rfl⟩
  · exact ny_isS_f _ hc q (br_t rfl h)
theorem ny_ff15 (post : Int32 → Prop) (hc : c ≤ 24) (hW : ∀ j, W j = nI (wd j)) (h7 : ∀ j, j < c → wd j < 7) {x y z : Int32} (hn : ¬ ∃ a b d w, nb_fq c wd 15 x y z a b d w) (h : post 0) : wpY_operandsFit post ((nI c), cs, sw, pp, pd, pe, K, ex, ey, ez, W, H, nty, fo, va, nx, en, mem, nm, td, mt) 15 x y z := by
  refine br_f (by decide) (br_t (by decide) (br_f (by decide) (br_f (by decide) (br_t (by decide) (br_f (by decide) (br_t (by decide) (br_t rfl (?_))))))))
  by_cases q : nb_sg c x
  · obtain ⟨a, ha, rfl⟩ := q
    refine ny_isS_t _ hc ha (br_f (by decide) (ny_isS_f _ hc ?_ (br_t rfl h)))
    rintro ⟨b, hb, eb⟩
    exact hn ⟨a, b, 0, _, ⟨ha, rfl⟩, ⟨hb, eb⟩, rfl, rfl⟩
  · exact ny_isS_f _ hc q (br_t rfl h)
theorem ny_ff16 (post : Int32 → Prop) (hc : c ≤ 24) (hW : ∀ j, W j = nI (wd j)) (h7 : ∀ j, j < c → wd j < 7) {x y z : Int32} (hn : ¬ ∃ a b d w, nb_fq c wd 16 x y z a b d w) (h : post 0) : wpY_operandsFit post ((nI c), cs, sw, pp, pd, pe, K, ex, ey, ez, W, H, nty, fo, va, nx, en, mem, nm, td, mt) 16 x y z := by
  refine br_f (by decide) (br_t (by decide) (br_f (by decide) (br_f (by decide) (br_t (by decide) (br_f (by decide) (br_t (by decide) (br_f (by decide) (br_t rfl (?_)))))))))
  by_cases q : nb_sg c x
  · obtain ⟨a, ha, rfl⟩ := q
    have w7 := h7 a ha
    refine ny_isS_t _ hc ha (br_f (by decide) ?_)
    by_cases y0 : y < 0
    · exact br_t y0 h
    · refine br_f y0 ?_
      by_cases z1 : z < 1
      · exact br_t z1 h
      refine br_f z1 ⟨(vp_in_nI (by omega) (by omega)), ?_⟩
      obtain ⟨s, hs, rfl⟩ := nI_of y0
      have z0 : ¬ z < 0 := fun r => z1 (Int32.lt_trans r (by decide))
      obtain ⟨t, ht, rfl⟩ := nI_of z0
      have t1 : 1 ≤ t := Nat.not_lt.mp (fun r => z1 (nI_lt (b := 1) r (by omega)))
      have g : wd a < s + t := Nat.not_le.mp (fun g => hn ⟨a, 0, 0, t, ⟨ha, rfl⟩, ⟨s, rfl, rfl, t1, g⟩, rfl, rfl⟩)
      rw [nI_clamp (by omega), hW]
      by_cases g2 : wd a ≤ s
      · exact br_t (nI_le g2 hs) h
      · exact br_f (fun z => g2 ((nI_leI (by omega) hs).mp z)) ⟨(vp_in_nI (by omega) (by omega)), br_t ((nb_sl w7 hs ht).mpr g) h⟩
  · exact ny_isS_f _ hc q (br_t rfl h)
theorem ny_ff17 (post : Int32 → Prop) (hc : c ≤ 24) (hW : ∀ j, W j = nI (wd j)) (h7 : ∀ j, j < c → wd j < 7) {x y z : Int32} (hn : ¬ ∃ a b d w, nb_fq c wd 17 x y z a b d w) (h : post 0) : wpY_operandsFit post ((nI c), cs, sw, pp, pd, pe, K, ex, ey, ez, W, H, nty, fo, va, nx, en, mem, nm, td, mt) 17 x y z := by
  refine br_f (by decide) (br_t (by decide) (br_f (by decide) (br_t rfl (?_))))
  unfold wY_operandsFit_29
  exact ny_isS_f _ hc (fun ⟨a, ha, e⟩ => hn ⟨a, 0, 0, 3, ⟨ha, e⟩, rfl, rfl, rfl⟩) ⟨rfl, h⟩
theorem ny_ff18 (post : Int32 → Prop) (hc : c ≤ 24) (hW : ∀ j, W j = nI (wd j)) (h7 : ∀ j, j < c → wd j < 7) {x y z : Int32} (hn : ¬ ∃ a b d w, nb_fq c wd 18 x y z a b d w) (h : post 0) : wpY_operandsFit post ((nI c), cs, sw, pp, pd, pe, K, ex, ey, ez, W, H, nty, fo, va, nx, en, mem, nm, td, mt) 18 x y z := by
  refine br_f (by decide) (br_t (by decide) (br_f (by decide) (br_f (by decide) (br_t (by decide) (br_f (by decide) (br_t (by decide) (br_f (by decide) (br_f (by decide) (?_)))))))))
  refine ny_isW_f _ hc hW ?_ ⟨rfl, h⟩
  rintro ⟨a, ha, ea, e2⟩
  have w7 := h7 a ha
  exact hn ⟨a, 0, 0, 4, ⟨ha, ea, (nI_eq (b := 2) (by omega) (by omega)).mp e2⟩, rfl, rfl, rfl⟩
theorem nx_rw0 (post : Int32 → Prop) (hc : c ≤ 24) (hW : ∀ j, W j = nI (wd j)) {x y z : Int32} {a b d w : Nat} (q : nb_fq c wd 0 x y z a b d w) (h : post (nI w)) : wpX_resultWidth post ((nI c), cs, sw, pp, pd, pe, K, W, ox, oy, oz, nums, rch, D, nx, en, fo, H, nt, mem, nm, vals, tr) 0 x y z := by
  obtain ⟨⟨rfl, _, _⟩, _, _, _⟩ := q
  exact br_f (by decide) (br_f (by decide) (br_t rfl (h)))
theorem nx_co0 (post : Int32 → Prop) (hc : c ≤ 24) (hW : ∀ j, W j = nI (wd j)) {x y z : Int32} {a b d w : Nat} (q : nb_fq c wd 0 x y z a b d w) (h : post (nb_co 0 w (wd a))) : wpX_costOf post ((nI c), cs, sw, pp, pd, pe, K, W, ox, oy, oz, nums, rch, D, nx, en, fo, H, nt, mem, nm, vals, tr) 0 x (nI w) := by
  exact br_t (by decide) (h)
theorem nx_rw1 (post : Int32 → Prop) (hc : c ≤ 24) (hW : ∀ j, W j = nI (wd j)) {x y z : Int32} {a b d w : Nat} (q : nb_fq c wd 1 x y z a b d w) (h : post (nI w)) : wpX_resultWidth post ((nI c), cs, sw, pp, pd, pe, K, W, ox, oy, oz, nums, rch, D, nx, en, fo, H, nt, mem, nm, vals, tr) 1 x y z := by
  obtain ⟨⟨rfl, _, _, _⟩, _, _, _⟩ := q
  exact br_f (by decide) (br_f (by decide) (br_f (by decide) (br_t rfl (h))))
theorem nx_co1 (post : Int32 → Prop) (hc : c ≤ 24) (hW : ∀ j, W j = nI (wd j)) {x y z : Int32} {a b d w : Nat} (q : nb_fq c wd 1 x y z a b d w) (h : post (nb_co 1 w (wd a))) : wpX_costOf post ((nI c), cs, sw, pp, pd, pe, K, W, ox, oy, oz, nums, rch, D, nx, en, fo, H, nt, mem, nm, vals, tr) 1 x (nI w) := by
  exact br_t (by decide) (h)
theorem nx_rw2 (post : Int32 → Prop) (hc : c ≤ 24) (hW : ∀ j, W j = nI (wd j)) {x y z : Int32} {a b d w : Nat} (q : nb_fq c wd 2 x y z a b d w) (h : post (nI w)) : wpX_resultWidth post ((nI c), cs, sw, pp, pd, pe, K, W, ox, oy, oz, nums, rch, D, nx, en, fo, H, nt, mem, nm, vals, tr) 2 x y z := by
  obtain ⟨⟨rfl, _, _, _⟩, _, _, _⟩ := q
  exact br_f (by decide) (br_f (by decide) (br_f (by decide) (br_f (by decide) (br_t rfl (h)))))
theorem nx_co2 (post : Int32 → Prop) (hc : c ≤ 24) (hW : ∀ j, W j = nI (wd j)) {x y z : Int32} {a b d w : Nat} (q : nb_fq c wd 2 x y z a b d w) (h : post (nb_co 2 w (wd a))) : wpX_costOf post ((nI c), cs, sw, pp, pd, pe, K, W, ox, oy, oz, nums, rch, D, nx, en, fo, H, nt, mem, nm, vals, tr) 2 x (nI w) := by
  exact br_f (by decide) (br_f (by decide) (br_t rfl (h)))
theorem nx_rw3 (post : Int32 → Prop) (hc : c ≤ 24) (hW : ∀ j, W j = nI (wd j)) {x y z : Int32} {a b d w : Nat} (q : nb_fq c wd 3 x y z a b d w) (h : post (nI w)) : wpX_resultWidth post ((nI c), cs, sw, pp, pd, pe, K, W, ox, oy, oz, nums, rch, D, nx, en, fo, H, nt, mem, nm, vals, tr) 3 x y z := by
  obtain ⟨⟨ha, rfl⟩, rfl, _, _⟩ := q
  exact br_f (by decide) (br_f (by decide) (br_f (by decide) (br_f (by decide) (br_f (by decide) (br_t rfl (⟨(vp_in_nI (by omega) (by omega)), by rw [nI_clamp (by omega), hW]; exact h⟩))))))
theorem nx_co3 (post : Int32 → Prop) (hc : c ≤ 24) (hW : ∀ j, W j = nI (wd j)) {x y z : Int32} {a b d w : Nat} (q : nb_fq c wd 3 x y z a b d w) (h : post (nb_co 3 w (wd a))) : wpX_costOf post ((nI c), cs, sw, pp, pd, pe, K, W, ox, oy, oz, nums, rch, D, nx, en, fo, H, nt, mem, nm, vals, tr) 3 x (nI w) := by
  exact br_f (by decide) (br_f (by decide) (br_f (by decide) (br_t rfl (h))))
theorem nx_rw4 (post : Int32 → Prop) (hc : c ≤ 24) (hW : ∀ j, W j = nI (wd j)) {x y z : Int32} {a b d w : Nat} (q : nb_fq c wd 4 x y z a b d w) (h : post (nI w)) : wpX_resultWidth post ((nI c), cs, sw, pp, pd, pe, K, W, ox, oy, oz, nums, rch, D, nx, en, fo, H, nt, mem, nm, vals, tr) 4 x y z := by
  obtain ⟨⟨ha, hb, rfl, rfl, e⟩, rfl, _⟩ := q
  exact br_f (by decide) (br_f (by decide) (br_f (by decide) (br_f (by decide) (br_f (by decide) (br_f (by decide) (br_t rfl (⟨(vp_in_nI (by omega) (by omega)), by rw [nI_clamp (by omega), hW]; exact h⟩)))))))
theorem nx_co4 (post : Int32 → Prop) (hc : c ≤ 24) (hW : ∀ j, W j = nI (wd j)) {x y z : Int32} {a b d w : Nat} (q : nb_fq c wd 4 x y z a b d w) (h : post (nb_co 4 w (wd a))) : wpX_costOf post ((nI c), cs, sw, pp, pd, pe, K, W, ox, oy, oz, nums, rch, D, nx, en, fo, H, nt, mem, nm, vals, tr) 4 x (nI w) := by
  exact br_f (by decide) (br_f (by decide) (br_f (by decide) (br_f (by decide) (br_t rfl (h)))))
theorem nx_rw5 (post : Int32 → Prop) (hc : c ≤ 24) (hW : ∀ j, W j = nI (wd j)) {x y z : Int32} {a b d w : Nat} (q : nb_fq c wd 5 x y z a b d w) (h : post (nI w)) : wpX_resultWidth post ((nI c), cs, sw, pp, pd, pe, K, W, ox, oy, oz, nums, rch, D, nx, en, fo, H, nt, mem, nm, vals, tr) 5 x y z := by
  obtain ⟨⟨ha, hb, rfl, rfl, e⟩, rfl, _⟩ := q
  exact br_f (by decide) (br_f (by decide) (br_f (by decide) (br_f (by decide) (br_f (by decide) (br_f (by decide) (br_f (by decide) (br_t rfl (⟨(vp_in_nI (by omega) (by omega)), by rw [nI_clamp (by omega), hW]; exact h⟩))))))))
theorem nx_co5 (post : Int32 → Prop) (hc : c ≤ 24) (hW : ∀ j, W j = nI (wd j)) {x y z : Int32} {a b d w : Nat} (q : nb_fq c wd 5 x y z a b d w) (h : post (nb_co 5 w (wd a))) : wpX_costOf post ((nI c), cs, sw, pp, pd, pe, K, W, ox, oy, oz, nums, rch, D, nx, en, fo, H, nt, mem, nm, vals, tr) 5 x (nI w) := by
  exact br_f (by decide) (br_f (by decide) (br_f (by decide) (br_f (by decide) (br_f (by decide) (br_t rfl (h))))))
theorem nx_rw6 (post : Int32 → Prop) (hc : c ≤ 24) (hW : ∀ j, W j = nI (wd j)) {x y z : Int32} {a b d w : Nat} (q : nb_fq c wd 6 x y z a b d w) (h : post (nI w)) : wpX_resultWidth post ((nI c), cs, sw, pp, pd, pe, K, W, ox, oy, oz, nums, rch, D, nx, en, fo, H, nt, mem, nm, vals, tr) 6 x y z := by
  obtain ⟨⟨ha, hb, rfl, rfl, e⟩, rfl, _⟩ := q
  exact br_f (by decide) (br_f (by decide) (br_f (by decide) (br_f (by decide) (br_f (by decide) (br_f (by decide) (br_f (by decide) (br_f (by decide) (br_t rfl (⟨(vp_in_nI (by omega) (by omega)), by rw [nI_clamp (by omega), hW]; exact h⟩)))))))))
theorem nx_co6 (post : Int32 → Prop) (hc : c ≤ 24) (hW : ∀ j, W j = nI (wd j)) {x y z : Int32} {a b d w : Nat} (q : nb_fq c wd 6 x y z a b d w) (h : post (nb_co 6 w (wd a))) : wpX_costOf post ((nI c), cs, sw, pp, pd, pe, K, W, ox, oy, oz, nums, rch, D, nx, en, fo, H, nt, mem, nm, vals, tr) 6 x (nI w) := by
  exact br_f (by decide) (br_f (by decide) (br_f (by decide) (br_f (by decide) (br_f (by decide) (br_f (by decide) (br_t rfl (h)))))))
theorem nx_rw7 (post : Int32 → Prop) (hc : c ≤ 24) (hW : ∀ j, W j = nI (wd j)) {x y z : Int32} {a b d w : Nat} (q : nb_fq c wd 7 x y z a b d w) (h : post (nI w)) : wpX_resultWidth post ((nI c), cs, sw, pp, pd, pe, K, W, ox, oy, oz, nums, rch, D, nx, en, fo, H, nt, mem, nm, vals, tr) 7 x y z := by
  obtain ⟨⟨ha, hb, rfl, rfl, e⟩, rfl, _⟩ := q
  exact br_f (by decide) (br_f (by decide) (br_f (by decide) (br_f (by decide) (br_f (by decide) (br_f (by decide) (br_f (by decide) (br_f (by decide) (br_f (by decide) (br_t rfl (⟨(vp_in_nI (by omega) (by omega)), by rw [nI_clamp (by omega), hW]; exact h⟩))))))))))
theorem nx_co7 (post : Int32 → Prop) (hc : c ≤ 24) (hW : ∀ j, W j = nI (wd j)) {x y z : Int32} {a b d w : Nat} (q : nb_fq c wd 7 x y z a b d w) (h : post (nb_co 7 w (wd a))) : wpX_costOf post ((nI c), cs, sw, pp, pd, pe, K, W, ox, oy, oz, nums, rch, D, nx, en, fo, H, nt, mem, nm, vals, tr) 7 x (nI w) := by
  exact br_f (by decide) (br_f (by decide) (br_f (by decide) (br_f (by decide) (br_f (by decide) (br_f (by decide) (br_f (by decide) (br_t rfl (h))))))))
theorem nx_rw8 (post : Int32 → Prop) (hc : c ≤ 24) (hW : ∀ j, W j = nI (wd j)) {x y z : Int32} {a b d w : Nat} (q : nb_fq c wd 8 x y z a b d w) (h : post (nI w)) : wpX_resultWidth post ((nI c), cs, sw, pp, pd, pe, K, W, ox, oy, oz, nums, rch, D, nx, en, fo, H, nt, mem, nm, vals, tr) 8 x y z := by
  obtain ⟨⟨ha, hb, rfl, rfl, e⟩, rfl, _⟩ := q
  exact br_f (by decide) (br_f (by decide) (br_f (by decide) (br_f (by decide) (br_f (by decide) (br_f (by decide) (br_f (by decide) (br_f (by decide) (br_f (by decide) (br_f (by decide) (br_t rfl (⟨(vp_in_nI (by omega) (by omega)), by rw [nI_clamp (by omega), hW]; exact h⟩)))))))))))
theorem nx_co8 (post : Int32 → Prop) (hc : c ≤ 24) (hW : ∀ j, W j = nI (wd j)) {x y z : Int32} {a b d w : Nat} (q : nb_fq c wd 8 x y z a b d w) (h : post (nb_co 8 w (wd a))) : wpX_costOf post ((nI c), cs, sw, pp, pd, pe, K, W, ox, oy, oz, nums, rch, D, nx, en, fo, H, nt, mem, nm, vals, tr) 8 x (nI w) := by
  exact br_f (by decide) (br_f (by decide) (br_f (by decide) (br_f (by decide) (br_f (by decide) (br_f (by decide) (br_f (by decide) (br_f (by decide) (br_t rfl (h)))))))))
theorem nx_rw9 (post : Int32 → Prop) (hc : c ≤ 24) (hW : ∀ j, W j = nI (wd j)) {x y z : Int32} {a b d w : Nat} (q : nb_fq c wd 9 x y z a b d w) (h : post (nI w)) : wpX_resultWidth post ((nI c), cs, sw, pp, pd, pe, K, W, ox, oy, oz, nums, rch, D, nx, en, fo, H, nt, mem, nm, vals, tr) 9 x y z := by
  obtain ⟨⟨ha, hb, rfl, rfl, e, e3⟩, rfl, _⟩ := q
  exact br_f (by decide) (br_f (by decide) (br_f (by decide) (br_f (by decide) (br_f (by decide) (br_f (by decide) (br_f (by decide) (br_f (by decide) (br_f (by decide) (br_f (by decide) (br_f (by decide) (br_t rfl (⟨(vp_in_nI (by omega) (by omega)), by rw [nI_clamp (by omega), hW]; exact h⟩))))))))))))
theorem nx_co9 (post : Int32 → Prop) (hc : c ≤ 24) (hW : ∀ j, W j = nI (wd j)) {x y z : Int32} {a b d w : Nat} (q : nb_fq c wd 9 x y z a b d w) (h : post (nb_co 9 w (wd a))) : wpX_costOf post ((nI c), cs, sw, pp, pd, pe, K, W, ox, oy, oz, nums, rch, D, nx, en, fo, H, nt, mem, nm, vals, tr) 9 x (nI w) := by
  exact br_f (by decide) (br_f (by decide) (br_f (by decide) (br_f (by decide) (br_f (by decide) (br_f (by decide) (br_f (by decide) (br_f (by decide) (br_f (by decide) (br_t rfl (h))))))))))
theorem nx_rw10 (post : Int32 → Prop) (hc : c ≤ 24) (hW : ∀ j, W j = nI (wd j)) {x y z : Int32} {a b d w : Nat} (q : nb_fq c wd 10 x y z a b d w) (h : post (nI w)) : wpX_resultWidth post ((nI c), cs, sw, pp, pd, pe, K, W, ox, oy, oz, nums, rch, D, nx, en, fo, H, nt, mem, nm, vals, tr) 10 x y z := by
  obtain ⟨⟨ha, hb, rfl, rfl, e⟩, rfl, _⟩ := q
  exact br_f (by decide) (br_f (by decide) (br_f (by decide) (br_f (by decide) (br_f (by decide) (br_f (by decide) (br_f (by decide) (br_f (by decide) (br_f (by decide) (br_f (by decide) (br_f (by decide) (br_f (by decide) (br_t rfl (h)))))))))))))
theorem nx_co10 (post : Int32 → Prop) (hc : c ≤ 24) (hW : ∀ j, W j = nI (wd j)) {x y z : Int32} {a b d w : Nat} (q : nb_fq c wd 10 x y z a b d w) (h : post (nb_co 10 w (wd a))) : wpX_costOf post ((nI c), cs, sw, pp, pd, pe, K, W, ox, oy, oz, nums, rch, D, nx, en, fo, H, nt, mem, nm, vals, tr) 10 x (nI w) := by
  obtain ⟨⟨ha, hb, rfl, rfl, e⟩, rfl, _⟩ := q
  exact br_f (by decide) (br_f (by decide) (br_f (by decide) (br_f (by decide) (br_f (by decide) (br_f (by decide) (br_f (by decide) (br_f (by decide) (br_f (by decide) (br_f (by decide) (br_t rfl (⟨(vp_in_nI (by omega) (by omega)), by rw [nI_clamp (by omega), hW]; exact h⟩)))))))))))
theorem nx_rw11 (post : Int32 → Prop) (hc : c ≤ 24) (hW : ∀ j, W j = nI (wd j)) {x y z : Int32} {a b d w : Nat} (q : nb_fq c wd 11 x y z a b d w) (h : post (nI w)) : wpX_resultWidth post ((nI c), cs, sw, pp, pd, pe, K, W, ox, oy, oz, nums, rch, D, nx, en, fo, H, nt, mem, nm, vals, tr) 11 x y z := by
  obtain ⟨⟨ha, hb, rfl, rfl, e⟩, rfl, _⟩ := q
  exact br_f (by decide) (br_f (by decide) (br_f (by decide) (br_f (by decide) (br_f (by decide) (br_f (by decide) (br_f (by decide) (br_f (by decide) (br_f (by decide) (br_f (by decide) (br_f (by decide) (br_f (by decide) (br_f (by decide) (br_t rfl (h))))))))))))))
theorem nx_co11 (post : Int32 → Prop) (hc : c ≤ 24) (hW : ∀ j, W j = nI (wd j)) {x y z : Int32} {a b d w : Nat} (q : nb_fq c wd 11 x y z a b d w) (h : post (nb_co 11 w (wd a))) : wpX_costOf post ((nI c), cs, sw, pp, pd, pe, K, W, ox, oy, oz, nums, rch, D, nx, en, fo, H, nt, mem, nm, vals, tr) 11 x (nI w) := by
  obtain ⟨⟨ha, hb, rfl, rfl, e⟩, rfl, _⟩ := q
  exact br_f (by decide) (br_f (by decide) (br_f (by decide) (br_f (by decide) (br_f (by decide) (br_f (by decide) (br_f (by decide) (br_f (by decide) (br_f (by decide) (br_f (by decide) (br_f (by decide) (br_t rfl (⟨(vp_in_nI (by omega) (by omega)), by rw [nI_clamp (by omega), hW]; exact h⟩))))))))))))
theorem nx_rw12 (post : Int32 → Prop) (hc : c ≤ 24) (hW : ∀ j, W j = nI (wd j)) {x y z : Int32} {a b d w : Nat} (q : nb_fq c wd 12 x y z a b d w) (h : post (nI w)) : wpX_resultWidth post ((nI c), cs, sw, pp, pd, pe, K, W, ox, oy, oz, nums, rch, D, nx, en, fo, H, nt, mem, nm, vals, tr) 12 x y z := by
  obtain ⟨⟨ha, rfl, e1⟩, ⟨hb, hd, rfl, rfl, e⟩, rfl⟩ := q
  exact br_f (by decide) (br_f (by decide) (br_f (by decide) (br_f (by decide) (br_f (by decide) (br_f (by decide) (br_f (by decide) (br_f (by decide) (br_f (by decide) (br_f (by decide) (br_f (by decide) (br_f (by decide) (br_f (by decide) (br_f (by decide) (br_t rfl (⟨(vp_in_nI (by omega) (by omega)), by rw [nI_clamp (by omega), hW]; exact h⟩)))))))))))))))
theorem nx_co12 (post : Int32 → Prop) (hc : c ≤ 24) (hW : ∀ j, W j = nI (wd j)) {x y z : Int32} {a b d w : Nat} (q : nb_fq c wd 12 x y z a b d w) (h : post (nb_co 12 w (wd a))) : wpX_costOf post ((nI c), cs, sw, pp, pd, pe, K, W, ox, oy, oz, nums, rch, D, nx, en, fo, H, nt, mem, nm, vals, tr) 12 x (nI w) := by
  exact br_f (by decide) (br_f (by decide) (br_f (by decide) (br_f (by decide) (br_f (by decide) (br_f (by decide) (br_f (by decide) (br_f (by decide) (br_f (by decide) (br_f (by decide) (br_f (by decide) (br_f (by decide) (br_t rfl (h)))))))))))))
theorem nx_rw13 (post : Int32 → Prop) (hc : c ≤ 24) (hW : ∀ j, W j = nI (wd j)) {x y z : Int32} {a b d w : Nat} (q : nb_fq c wd 13 x y z a b d w) (h : post (nI w)) : wpX_resultWidth post ((nI c), cs, sw, pp, pd, pe, K, W, ox, oy, oz, nums, rch, D, nx, en, fo, H, nt, mem, nm, vals, tr) 13 x y z := by
  obtain ⟨⟨ha, rfl⟩, ⟨hb, rfl, e2⟩, rfl, _⟩ := q
  exact br_f (by decide) (br_f (by decide) (br_f (by decide) (br_f (by decide) (br_f (by decide) (br_f (by decide) (br_f (by decide) (br_f (by decide) (br_f (by decide) (br_f (by decide) (br_f (by decide) (br_f (by decide) (br_f (by decide) (br_f (by decide) (br_f (by decide) (br_t rfl (⟨(vp_in_nI (by omega) (by omega)), by rw [nI_clamp (by omega), hW]; exact h⟩))))))))))))))))
theorem nx_co13 (post : Int32 → Prop) (hc : c ≤ 24) (hW : ∀ j, W j = nI (wd j)) {x y z : Int32} {a b d w : Nat} (q : nb_fq c wd 13 x y z a b d w) (h : post (nb_co 13 w (wd a))) : wpX_costOf post ((nI c), cs, sw, pp, pd, pe, K, W, ox, oy, oz, nums, rch, D, nx, en, fo, H, nt, mem, nm, vals, tr) 13 x (nI w) := by
  exact br_f (by decide) (br_f (by decide) (br_f (by decide) (br_f (by decide) (br_f (by decide) (br_f (by decide) (br_f (by decide) (br_f (by decide) (br_f (by decide) (br_f (by decide) (br_f (by decide) (br_f (by decide) (br_f (by decide) (br_t rfl (h))))))))))))))
theorem nx_rw14 (post : Int32 → Prop) (hc : c ≤ 24) (hW : ∀ j, W j = nI (wd j)) {x y z : Int32} {a b d w : Nat} (q : nb_fq c wd 14 x y z a b d w) (h : post (nI w)) : wpX_resultWidth post ((nI c), cs, sw, pp, pd, pe, K, W, ox, oy, oz, nums, rch, D, nx, en, fo, H, nt, mem, nm, vals, tr) 14 x y z := by
  obtain ⟨⟨ha, rfl⟩, ⟨hb, rfl, e2⟩, rfl, _⟩ := q
  exact br_f (by decide) (br_f (by decide) (br_f (by decide) (br_f (by decide) (br_f (by decide) (br_f (by decide) (br_f (by decide) (br_f (by decide) (br_f (by decide) (br_f (by decide) (br_f (by decide) (br_f (by decide) (br_f (by decide) (br_f (by decide) (br_f (by decide) (br_f (by decide) (br_t rfl (⟨(vp_in_nI (by omega) (by omega)), by rw [nI_clamp (by omega), hW]; exact h⟩)))))))))))))))))
theorem nx_co14 (post : Int32 → Prop) (hc : c ≤ 24) (hW : ∀ j, W j = nI (wd j)) {x y z : Int32} {a b d w : Nat} (q : nb_fq c wd 14 x y z a b d w) (h : post (nb_co 14 w (wd a))) : wpX_costOf post ((nI c), cs, sw, pp, pd, pe, K, W, ox, oy, oz, nums, rch, D, nx, en, fo, H, nt, mem, nm, vals, tr) 14 x (nI w) := by
  exact br_f (by decide) (br_f (by decide) (br_f (by decide) (br_f (by decide) (br_f (by decide) (br_f (by decide) (br_f (by decide) (br_f (by decide) (br_f (by decide) (br_f (by decide) (br_f (by decide) (br_f (by decide) (br_f (by decide) (br_f (by decide) (br_t rfl (h)))))))))))))))
theorem nx_rw15 (post : Int32 → Prop) (hc : c ≤ 24) (hW : ∀ j, W j = nI (wd j)) {x y z : Int32} {a b d w : Nat} (q : nb_fq c wd 15 x y z a b d w) (h : post (nI w)) : wpX_resultWidth post ((nI c), cs, sw, pp, pd, pe, K, W, ox, oy, oz, nums, rch, D, nx, en, fo, H, nt, mem, nm, vals, tr) 15 x y z := by
  obtain ⟨⟨ha, rfl⟩, ⟨hb, rfl⟩, rfl, _⟩ := q
  exact br_f (by decide) (br_f (by decide) (br_f (by decide) (br_f (by decide) (br_f (by decide) (br_f (by decide) (br_f (by decide) (br_f (by decide) (br_f (by decide) (br_f (by decide) (br_f (by decide) (br_f (by decide) (br_f (by decide) (br_f (by decide) (br_f (by decide) (br_f (by decide) (br_f (by decide) (br_t rfl (⟨(vp_in_nI (by omega) (by omega)), (vp_in_nI (by omega) (by omega)), by rw [nI_clamp (by omega), nI_clamp (by omega), hW, hW, nI_add]; exact h⟩))))))))))))))))))
theorem nx_co15 (post : Int32 → Prop) (hc : c ≤ 24) (hW : ∀ j, W j = nI (wd j)) {x y z : Int32} {a b d w : Nat} (q : nb_fq c wd 15 x y z a b d w) (h : post (nb_co 15 w (wd a))) : wpX_costOf post ((nI c), cs, sw, pp, pd, pe, K, W, ox, oy, oz, nums, rch, D, nx, en, fo, H, nt, mem, nm, vals, tr) 15 x (nI w) := by
  exact br_f (by decide) (br_f (by decide) (br_f (by decide) (br_f (by decide) (br_f (by decide) (br_f (by decide) (br_f (by decide) (br_f (by decide) (br_f (by decide) (br_f (by decide) (br_f (by decide) (br_f (by decide) (br_f (by decide) (br_f (by decide) (br_f (by decide) (br_t rfl (h))))))))))))))))
theorem nx_rw16 (post : Int32 → Prop) (hc : c ≤ 24) (hW : ∀ j, W j = nI (wd j)) {x y z : Int32} {a b d w : Nat} (q : nb_fq c wd 16 x y z a b d w) (h : post (nI w)) : wpX_resultWidth post ((nI c), cs, sw, pp, pd, pe, K, W, ox, oy, oz, nums, rch, D, nx, en, fo, H, nt, mem, nm, vals, tr) 16 x y z := by
  obtain ⟨⟨ha, rfl⟩, ⟨s, rfl, rfl, h1, hsw⟩, _, _⟩ := q
  exact br_f (by decide) (br_f (by decide) (br_f (by decide) (br_f (by decide) (br_f (by decide) (br_f (by decide) (br_f (by decide) (br_f (by decide) (br_f (by decide) (br_f (by decide) (br_f (by decide) (br_f (by decide) (br_f (by decide) (br_f (by decide) (br_f (by decide) (br_f (by decide) (br_f (by decide) (br_f (by decide) (br_t rfl (h)))))))))))))))))))
theorem nx_co16 (post : Int32 → Prop) (hc : c ≤ 24) (hW : ∀ j, W j = nI (wd j)) {x y z : Int32} {a b d w : Nat} (q : nb_fq c wd 16 x y z a b d w) (h : post (nb_co 16 w (wd a))) : wpX_costOf post ((nI c), cs, sw, pp, pd, pe, K, W, ox, oy, oz, nums, rch, D, nx, en, fo, H, nt, mem, nm, vals, tr) 16 x (nI w) := by
  exact br_f (by decide) (br_f (by decide) (br_f (by decide) (br_f (by decide) (br_f (by decide) (br_f (by decide) (br_f (by decide) (br_f (by decide) (br_f (by decide) (br_f (by decide) (br_f (by decide) (br_f (by decide) (br_f (by decide) (br_f (by decide) (br_f (by decide) (br_f (by decide) (br_t rfl (h)))))))))))))))))
theorem nx_rw17 (post : Int32 → Prop) (hc : c ≤ 24) (hW : ∀ j, W j = nI (wd j)) {x y z : Int32} {a b d w : Nat} (q : nb_fq c wd 17 x y z a b d w) (h : post (nI w)) : wpX_resultWidth post ((nI c), cs, sw, pp, pd, pe, K, W, ox, oy, oz, nums, rch, D, nx, en, fo, H, nt, mem, nm, vals, tr) 17 x y z := by
  obtain ⟨⟨ha, rfl⟩, rfl, _, _⟩ := q
  exact br_f (by decide) (br_f (by decide) (br_f (by decide) (br_f (by decide) (br_f (by decide) (br_f (by decide) (br_f (by decide) (br_f (by decide) (br_f (by decide) (br_f (by decide) (br_f (by decide) (br_f (by decide) (br_f (by decide) (br_f (by decide) (br_f (by decide) (br_f (by decide) (br_f (by decide) (br_f (by decide) (br_f (by decide) (br_t rfl (h))))))))))))))))))))
theorem nx_co17 (post : Int32 → Prop) (hc : c ≤ 24) (hW : ∀ j, W j = nI (wd j)) {x y z : Int32} {a b d w : Nat} (q : nb_fq c wd 17 x y z a b d w) (h : post (nb_co 17 w (wd a))) : wpX_costOf post ((nI c), cs, sw, pp, pd, pe, K, W, ox, oy, oz, nums, rch, D, nx, en, fo, H, nt, mem, nm, vals, tr) 17 x (nI w) := by
  obtain ⟨⟨ha, rfl⟩, rfl, _, _⟩ := q
  exact br_f (by decide) (br_f (by decide) (br_f (by decide) (br_f (by decide) (br_f (by decide) (br_f (by decide) (br_f (by decide) (br_f (by decide) (br_f (by decide) (br_f (by decide) (br_f (by decide) (br_f (by decide) (br_f (by decide) (br_f (by decide) (br_f (by decide) (br_f (by decide) (br_f (by decide) (br_t rfl (⟨(vp_in_nI (by omega) (by omega)), by rw [nI_clamp (by omega), hW]; exact h⟩))))))))))))))))))
theorem nx_rw18 (post : Int32 → Prop) (hc : c ≤ 24) (hW : ∀ j, W j = nI (wd j)) {x y z : Int32} {a b d w : Nat} (q : nb_fq c wd 18 x y z a b d w) (h : post (nI w)) : wpX_resultWidth post ((nI c), cs, sw, pp, pd, pe, K, W, ox, oy, oz, nums, rch, D, nx, en, fo, H, nt, mem, nm, vals, tr) 18 x y z := by
  obtain ⟨⟨ha, rfl, e2⟩, rfl, _, _⟩ := q
  exact br_f (by decide) (br_f (by decide) (br_f (by decide) (br_f (by decide) (br_f (by decide) (br_f (by decide) (br_f (by decide) (br_f (by decide) (br_f (by decide) (br_f (by decide) (br_f (by decide) (br_f (by decide) (br_f (by decide) (br_f (by decide) (br_f (by decide) (br_f (by decide) (br_f (by decide) (br_f (by decide) (br_f (by decide) (br_f (by decide) (br_t rfl (h)))))))))))))))))))))
theorem nx_co18 (post : Int32 → Prop) (hc : c ≤ 24) (hW : ∀ j, W j = nI (wd j)) {x y z : Int32} {a b d w : Nat} (q : nb_fq c wd 18 x y z a b d w) (h : post (nb_co 18 w (wd a))) : wpX_costOf post ((nI c), cs, sw, pp, pd, pe, K, W, ox, oy, oz, nums, rch, D, nx, en, fo, H, nt, mem, nm, vals, tr) 18 x (nI w) := by
  exact br_f (by decide) (br_f (by decide) (br_f (by decide) (br_f (by decide) (br_f (by decide) (br_f (by decide) (br_f (by decide) (br_f (by decide) (br_f (by decide) (br_f (by decide) (br_f (by decide) (br_f (by decide) (br_f (by decide) (br_f (by decide) (br_f (by decide) (br_f (by decide) (br_f (by decide) (br_f (by decide) (br_t rfl (h)))))))))))))))))))
theorem ny_rw0 (post : Int32 → Prop) (hc : c ≤ 24) (hW : ∀ j, W j = nI (wd j)) {x y z : Int32} {a b d w : Nat} (q : nb_fq c wd 0 x y z a b d w) (h : post (nI w)) : wpY_widthOf post ((nI c), cs, sw, pp, pd, pe, K, ex, ey, ez, W, H, nty, fo, va, nx, en, mem, nm, td, mt) 0 x y z := by
  obtain ⟨⟨rfl, _, _⟩, _, _, _⟩ := q
  exact br_f (by decide) (h)
theorem ny_co0 (post : Int32 → Prop) (hc : c ≤ 24) (hW : ∀ j, W j = nI (wd j)) {x y z : Int32} {a b d w : Nat} (q : nb_fq c wd 0 x y z a b d w) (h : post (nb_co 0 w (wd a))) : wpY_costOf post ((nI c), cs, sw, pp, pd, pe, K, ex, ey, ez, W, H, nty, fo, va, nx, en, mem, nm, td, mt) 0 x (nI w) := by
  exact br_f (by decide) (br_f (by decide) (br_f (by decide) (br_f (by decide) (br_f (by decide) (br_f (by decide) (br_f (by decide) (br_f (by decide) (br_f (by decide) (br_f (by decide) (br_f (by decide) (br_f (by decide) (br_f (by decide) (br_f (by decide) (h))))))))))))))
theorem ny_rw1 (post : Int32 → Prop) (hc : c ≤ 24) (hW : ∀ j, W j = nI (wd j)) {x y z : Int32} {a b d w : Nat} (q : nb_fq c wd 1 x y z a b d w) (h : post (nI w)) : wpY_widthOf post ((nI c), cs, sw, pp, pd, pe, K, ex, ey, ez, W, H, nty, fo, va, nx, en, mem, nm, td, mt) 1 x y z := by
  obtain ⟨⟨rfl, _, _, _⟩, _, _, _⟩ := q
  exact br_f (by decide) (h)
theorem ny_co1 (post : Int32 → Prop) (hc : c ≤ 24) (hW : ∀ j, W j = nI (wd j)) {x y z : Int32} {a b d w : Nat} (q : nb_fq c wd 1 x y z a b d w) (h : post (nb_co 1 w (wd a))) : wpY_costOf post ((nI c), cs, sw, pp, pd, pe, K, ex, ey, ez, W, H, nty, fo, va, nx, en, mem, nm, td, mt) 1 x (nI w) := by
  exact br_f (by decide) (br_f (by decide) (br_f (by decide) (br_f (by decide) (br_f (by decide) (br_f (by decide) (br_f (by decide) (br_f (by decide) (br_f (by decide) (br_f (by decide) (br_f (by decide) (br_f (by decide) (br_f (by decide) (br_f (by decide) (h))))))))))))))
theorem ny_rw2 (post : Int32 → Prop) (hc : c ≤ 24) (hW : ∀ j, W j = nI (wd j)) {x y z : Int32} {a b d w : Nat} (q : nb_fq c wd 2 x y z a b d w) (h : post (nI w)) : wpY_widthOf post ((nI c), cs, sw, pp, pd, pe, K, ex, ey, ez, W, H, nty, fo, va, nx, en, mem, nm, td, mt) 2 x y z := by
  obtain ⟨⟨rfl, _, _, _⟩, _, _, _⟩ := q
  exact br_f (by decide) (h)
theorem ny_co2 (post : Int32 → Prop) (hc : c ≤ 24) (hW : ∀ j, W j = nI (wd j)) {x y z : Int32} {a b d w : Nat} (q : nb_fq c wd 2 x y z a b d w) (h : post (nb_co 2 w (wd a))) : wpY_costOf post ((nI c), cs, sw, pp, pd, pe, K, ex, ey, ez, W, H, nty, fo, va, nx, en, mem, nm, td, mt) 2 x (nI w) := by
  exact br_t rfl (h)
theorem ny_rw3 (post : Int32 → Prop) (hc : c ≤ 24) (hW : ∀ j, W j = nI (wd j)) {x y z : Int32} {a b d w : Nat} (q : nb_fq c wd 3 x y z a b d w) (h : post (nI w)) : wpY_widthOf post ((nI c), cs, sw, pp, pd, pe, K, ex, ey, ez, W, H, nty, fo, va, nx, en, mem, nm, td, mt) 3 x y z := by
  obtain ⟨⟨ha, rfl⟩, rfl, _, _⟩ := q
  exact br_t (by decide) (br_f (by decide) (br_f (by decide) (br_f (by decide) (br_f (by decide) (br_f (by decide) (br_f (by decide) (br_f (by decide) (⟨(vp_in_nI (by omega) (by omega)), by rw [nI_clamp (by omega), hW]; exact h⟩))))))))
theorem ny_co3 (post : Int32 → Prop) (hc : c ≤ 24) (hW : ∀ j, W j = nI (wd j)) {x y z : Int32} {a b d w : Nat} (q : nb_fq c wd 3 x y z a b d w) (h : post (nb_co 3 w (wd a))) : wpY_costOf post ((nI c), cs, sw, pp, pd, pe, K, ex, ey, ez, W, H, nty, fo, va, nx, en, mem, nm, td, mt) 3 x (nI w) := by
  exact br_f (by decide) (br_f (by decide) (br_f (by decide) (br_f (by decide) (br_f (by decide) (br_f (by decide) (br_f (by decide) (br_f (by decide) (br_f (by decide) (br_f (by decide) (br_f (by decide) (br_f (by decide) (br_f (by decide) (br_f (by decide) (h))))))))))))))
theorem ny_rw4 (post : Int32 → Prop) (hc : c ≤ 24) (hW : ∀ j, W j = nI (wd j)) {x y z : Int32} {a b d w : Nat} (q : nb_fq c wd 4 x y z a b d w) (h : post (nI w)) : wpY_widthOf post ((nI c), cs, sw, pp, pd, pe, K, ex, ey, ez, W, H, nty, fo, va, nx, en, mem, nm, td, mt) 4 x y z := by
  obtain ⟨⟨ha, hb, rfl, rfl, e⟩, rfl, _⟩ := q
  exact br_t (by decide) (br_f (by decide) (br_f (by decide) (br_f (by decide) (br_f (by decide) (br_f (by decide) (br_f (by decide) (br_f (by decide) (⟨(vp_in_nI (by omega) (by omega)), by rw [nI_clamp (by omega), hW]; exact h⟩))))))))
theorem ny_co4 (post : Int32 → Prop) (hc : c ≤ 24) (hW : ∀ j, W j = nI (wd j)) {x y z : Int32} {a b d w : Nat} (q : nb_fq c wd 4 x y z a b d w) (h : post (nb_co 4 w (wd a))) : wpY_costOf post ((nI c), cs, sw, pp, pd, pe, K, ex, ey, ez, W, H, nty, fo, va, nx, en, mem, nm, td, mt) 4 x (nI w) := by
  exact br_f (by decide) (br_f (by decide) (br_f (by decide) (br_t rfl (h))))
theorem ny_rw5 (post : Int32 → Prop) (hc : c ≤ 24) (hW : ∀ j, W j = nI (wd j)) {x y z : Int32} {a b d w : Nat} (q : nb_fq c wd 5 x y z a b d w) (h : post (nI w)) : wpY_widthOf post ((nI c), cs, sw, pp, pd, pe, K, ex, ey, ez, W, H, nty, fo, va, nx, en, mem, nm, td, mt) 5 x y z := by
  obtain ⟨⟨ha, hb, rfl, rfl, e⟩, rfl, _⟩ := q
  exact br_t (by decide) (br_f (by decide) (br_f (by decide) (br_f (by decide) (br_f (by decide) (br_f (by decide) (br_f (by decide) (br_f (by decide) (⟨(vp_in_nI (by omega) (by omega)), by rw [nI_clamp (by omega), hW]; exact h⟩))))))))
theorem ny_co5 (post : Int32 → Prop) (hc : c ≤ 24) (hW : ∀ j, W j = nI (wd j)) {x y z : Int32} {a b d w : Nat} (q : nb_fq c wd 5 x y z a b d w) (h : post (nb_co 5 w (wd a))) : wpY_costOf post ((nI c), cs, sw, pp, pd, pe, K, ex, ey, ez, W, H, nty, fo, va, nx, en, mem, nm, td, mt) 5 x (nI w) := by
  exact br_f (by decide) (br_f (by decide) (br_f (by decide) (br_f (by decide) (br_t rfl (h)))))
theorem ny_rw6 (post : Int32 → Prop) (hc : c ≤ 24) (hW : ∀ j, W j = nI (wd j)) {x y z : Int32} {a b d w : Nat} (q : nb_fq c wd 6 x y z a b d w) (h : post (nI w)) : wpY_widthOf post ((nI c), cs, sw, pp, pd, pe, K, ex, ey, ez, W, H, nty, fo, va, nx, en, mem, nm, td, mt) 6 x y z := by
  obtain ⟨⟨ha, hb, rfl, rfl, e⟩, rfl, _⟩ := q
  exact br_t (by decide) (br_f (by decide) (br_f (by decide) (br_f (by decide) (br_f (by decide) (br_f (by decide) (br_f (by decide) (br_f (by decide) (⟨(vp_in_nI (by omega) (by omega)), by rw [nI_clamp (by omega), hW]; exact h⟩))))))))
theorem ny_co6 (post : Int32 → Prop) (hc : c ≤ 24) (hW : ∀ j, W j = nI (wd j)) {x y z : Int32} {a b d w : Nat} (q : nb_fq c wd 6 x y z a b d w) (h : post (nb_co 6 w (wd a))) : wpY_costOf post ((nI c), cs, sw, pp, pd, pe, K, ex, ey, ez, W, H, nty, fo, va, nx, en, mem, nm, td, mt) 6 x (nI w) := by
  exact br_f (by decide) (br_t rfl (h))
theorem ny_rw7 (post : Int32 → Prop) (hc : c ≤ 24) (hW : ∀ j, W j = nI (wd j)) {x y z : Int32} {a b d w : Nat} (q : nb_fq c wd 7 x y z a b d w) (h : post (nI w)) : wpY_widthOf post ((nI c), cs, sw, pp, pd, pe, K, ex, ey, ez, W, H, nty, fo, va, nx, en, mem, nm, td, mt) 7 x y z := by
  obtain ⟨⟨ha, hb, rfl, rfl, e⟩, rfl, _⟩ := q
  exact br_t (by decide) (br_f (by decide) (br_f (by decide) (br_f (by decide) (br_f (by decide) (br_f (by decide) (br_f (by decide) (br_f (by decide) (⟨(vp_in_nI (by omega) (by omega)), by rw [nI_clamp (by omega), hW]; exact h⟩))))))))
theorem ny_co7 (post : Int32 → Prop) (hc : c ≤ 24) (hW : ∀ j, W j = nI (wd j)) {x y z : Int32} {a b d w : Nat} (q : nb_fq c wd 7 x y z a b d w) (h : post (nb_co 7 w (wd a))) : wpY_costOf post ((nI c), cs, sw, pp, pd, pe, K, ex, ey, ez, W, H, nty, fo, va, nx, en, mem, nm, td, mt) 7 x (nI w) := by
  exact br_f (by decide) (br_f (by decide) (br_f (by decide) (br_f (by decide) (br_f (by decide) (br_t rfl (h))))))
theorem ny_rw8 (post : Int32 → Prop) (hc : c ≤ 24) (hW : ∀ j, W j = nI (wd j)) {x y z : Int32} {a b d w : Nat} (q : nb_fq c wd 8 x y z a b d w) (h : post (nI w)) : wpY_widthOf post ((nI c), cs, sw, pp, pd, pe, K, ex, ey, ez, W, H, nty, fo, va, nx, en, mem, nm, td, mt) 8 x y z := by
  obtain ⟨⟨ha, hb, rfl, rfl, e⟩, rfl, _⟩ := q
  exact br_t (by decide) (br_f (by decide) (br_f (by decide) (br_f (by decide) (br_f (by decide) (br_f (by decide) (br_f (by decide) (br_f (by decide) (⟨(vp_in_nI (by omega) (by omega)), by rw [nI_clamp (by omega), hW]; exact h⟩))))))))
theorem ny_co8 (post : Int32 → Prop) (hc : c ≤ 24) (hW : ∀ j, W j = nI (wd j)) {x y z : Int32} {a b d w : Nat} (q : nb_fq c wd 8 x y z a b d w) (h : post (nb_co 8 w (wd a))) : wpY_costOf post ((nI c), cs, sw, pp, pd, pe, K, ex, ey, ez, W, H, nty, fo, va, nx, en, mem, nm, td, mt) 8 x (nI w) := by
  exact br_f (by decide) (br_f (by decide) (br_f (by decide) (br_f (by decide) (br_f (by decide) (br_f (by decide) (br_t rfl (h)))))))
theorem ny_rw9 (post : Int32 → Prop) (hc : c ≤ 24) (hW : ∀ j, W j = nI (wd j)) {x y z : Int32} {a b d w : Nat} (q : nb_fq c wd 9 x y z a b d w) (h : post (nI w)) : wpY_widthOf post ((nI c), cs, sw, pp, pd, pe, K, ex, ey, ez, W, H, nty, fo, va, nx, en, mem, nm, td, mt) 9 x y z := by
  obtain ⟨⟨ha, hb, rfl, rfl, e, e3⟩, rfl, _⟩ := q
  exact br_t (by decide) (br_f (by decide) (br_f (by decide) (br_f (by decide) (br_f (by decide) (br_f (by decide) (br_f (by decide) (br_f (by decide) (⟨(vp_in_nI (by omega) (by omega)), by rw [nI_clamp (by omega), hW]; exact h⟩))))))))
theorem ny_co9 (post : Int32 → Prop) (hc : c ≤ 24) (hW : ∀ j, W j = nI (wd j)) {x y z : Int32} {a b d w : Nat} (q : nb_fq c wd 9 x y z a b d w) (h : post (nb_co 9 w (wd a))) : wpY_costOf post ((nI c), cs, sw, pp, pd, pe, K, ex, ey, ez, W, H, nty, fo, va, nx, en, mem, nm, td, mt) 9 x (nI w) := by
  exact br_f (by decide) (br_f (by decide) (br_f (by decide) (br_f (by decide) (br_f (by decide) (br_f (by decide) (br_f (by decide) (br_t rfl (h))))))))
theorem ny_rw10 (post : Int32 → Prop) (hc : c ≤ 24) (hW : ∀ j, W j = nI (wd j)) {x y z : Int32} {a b d w : Nat} (q : nb_fq c wd 10 x y z a b d w) (h : post (nI w)) : wpY_widthOf post ((nI c), cs, sw, pp, pd, pe, K, ex, ey, ez, W, H, nty, fo, va, nx, en, mem, nm, td, mt) 10 x y z := by
  obtain ⟨⟨ha, hb, rfl, rfl, e⟩, rfl, _⟩ := q
  exact br_t (by decide) (br_t rfl (h))
theorem ny_co10 (post : Int32 → Prop) (hc : c ≤ 24) (hW : ∀ j, W j = nI (wd j)) {x y z : Int32} {a b d w : Nat} (q : nb_fq c wd 10 x y z a b d w) (h : post (nb_co 10 w (wd a))) : wpY_costOf post ((nI c), cs, sw, pp, pd, pe, K, ex, ey, ez, W, H, nty, fo, va, nx, en, mem, nm, td, mt) 10 x (nI w) := by
  obtain ⟨⟨ha, hb, rfl, rfl, e⟩, rfl, _⟩ := q
  exact br_f (by decide) (br_f (by decide) (br_f (by decide) (br_f (by decide) (br_f (by decide) (br_f (by decide) (br_f (by decide) (br_f (by decide) (br_t rfl (⟨(vp_in_nI (by omega) (by omega)), by rw [nI_clamp (by omega), hW]; exact h⟩)))))))))
theorem ny_rw11 (post : Int32 → Prop) (hc : c ≤ 24) (hW : ∀ j, W j = nI (wd j)) {x y z : Int32} {a b d w : Nat} (q : nb_fq c wd 11 x y z a b d w) (h : post (nI w)) : wpY_widthOf post ((nI c), cs, sw, pp, pd, pe, K, ex, ey, ez, W, H, nty, fo, va, nx, en, mem, nm, td, mt) 11 x y z := by
  obtain ⟨⟨ha, hb, rfl, rfl, e⟩, rfl, _⟩ := q
  exact br_t (by decide) (br_f (by decide) (br_t rfl (h)))
theorem ny_co11 (post : Int32 → Prop) (hc : c ≤ 24) (hW : ∀ j, W j = nI (wd j)) {x y z : Int32} {a b d w : Nat} (q : nb_fq c wd 11 x y z a b d w) (h : post (nb_co 11 w (wd a))) : wpY_costOf post ((nI c), cs, sw, pp, pd, pe, K, ex, ey, ez, W, H, nty, fo, va, nx, en, mem, nm, td, mt) 11 x (nI w) := by
  obtain ⟨⟨ha, hb, rfl, rfl, e⟩, rfl, _⟩ := q
  exact br_f (by decide) (br_f (by decide) (br_f (by decide) (br_f (by decide) (br_f (by decide) (br_f (by decide) (br_f (by decide) (br_f (by decide) (br_f (by decide) (br_t rfl (⟨(vp_in_nI (by omega) (by omega)), by rw [nI_clamp (by omega), hW]; exact h⟩))))))))))
theorem ny_rw12 (post : Int32 → Prop) (hc : c ≤ 24) (hW : ∀ j, W j = nI (wd j)) {x y z : Int32} {a b d w : Nat} (q : nb_fq c wd 12 x y z a b d w) (h : post (nI w)) : wpY_widthOf post ((nI c), cs, sw, pp, pd, pe, K, ex, ey, ez, W, H, nty, fo, va, nx, en, mem, nm, td, mt) 12 x y z := by
  obtain ⟨⟨ha, rfl, e1⟩, ⟨hb, hd, rfl, rfl, e⟩, rfl⟩ := q
  exact br_t (by decide) (br_f (by decide) (br_f (by decide) (br_t rfl (⟨(vp_in_nI (by omega) (by omega)), by rw [nI_clamp (by omega), hW]; exact h⟩))))
theorem ny_co12 (post : Int32 → Prop) (hc : c ≤ 24) (hW : ∀ j, W j = nI (wd j)) {x y z : Int32} {a b d w : Nat} (q : nb_fq c wd 12 x y z a b d w) (h : post (nb_co 12 w (wd a))) : wpY_costOf post ((nI c), cs, sw, pp, pd, pe, K, ex, ey, ez, W, H, nty, fo, va, nx, en, mem, nm, td, mt) 12 x (nI w) := by
  exact br_f (by decide) (br_f (by decide) (br_t rfl (h)))
theorem ny_rw13 (post : Int32 → Prop) (hc : c ≤ 24) (hW : ∀ j, W j = nI (wd j)) {x y z : Int32} {a b d w : Nat} (q : nb_fq c wd 13 x y z a b d w) (h : post (nI w)) : wpY_widthOf post ((nI c), cs, sw, pp, pd, pe, K, ex, ey, ez, W, H, nty, fo, va, nx, en, mem, nm, td, mt) 13 x y z := by
  obtain ⟨⟨ha, rfl⟩, ⟨hb, rfl, e2⟩, rfl, _⟩ := q
  exact br_t (by decide) (br_f (by decide) (br_f (by decide) (br_f (by decide) (br_f (by decide) (br_f (by decide) (br_f (by decide) (br_f (by decide) (⟨(vp_in_nI (by omega) (by omega)), by rw [nI_clamp (by omega), hW]; exact h⟩))))))))
theorem ny_co13 (post : Int32 → Prop) (hc : c ≤ 24) (hW : ∀ j, W j = nI (wd j)) {x y z : Int32} {a b d w : Nat} (q : nb_fq c wd 13 x y z a b d w) (h : post (nb_co 13 w (wd a))) : wpY_costOf post ((nI c), cs, sw, pp, pd, pe, K, ex, ey, ez, W, H, nty, fo, va, nx, en, mem, nm, td, mt) 13 x (nI w) := by
  exact br_f (by decide) (br_f (by decide) (br_f (by decide) (br_f (by decide) (br_f (by decide) (br_f (by decide) (br_f (by decide) (br_f (by decide) (br_f (by decide) (br_f (by decide) (br_t rfl (h)))))))))))
theorem ny_rw14 (post : Int32 → Prop) (hc : c ≤ 24) (hW : ∀ j, W j = nI (wd j)) {x y z : Int32} {a b d w : Nat} (q : nb_fq c wd 14 x y z a b d w) (h : post (nI w)) : wpY_widthOf post ((nI c), cs, sw, pp, pd, pe, K, ex, ey, ez, W, H, nty, fo, va, nx, en, mem, nm, td, mt) 14 x y z := by
  obtain ⟨⟨ha, rfl⟩, ⟨hb, rfl, e2⟩, rfl, _⟩ := q
  exact br_t (by decide) (br_f (by decide) (br_f (by decide) (br_f (by decide) (br_f (by decide) (br_f (by decide) (br_f (by decide) (br_f (by decide) (⟨(vp_in_nI (by omega) (by omega)), by rw [nI_clamp (by omega), hW]; exact h⟩))))))))
theorem ny_co14 (post : Int32 → Prop) (hc : c ≤ 24) (hW : ∀ j, W j = nI (wd j)) {x y z : Int32} {a b d w : Nat} (q : nb_fq c wd 14 x y z a b d w) (h : post (nb_co 14 w (wd a))) : wpY_costOf post ((nI c), cs, sw, pp, pd, pe, K, ex, ey, ez, W, H, nty, fo, va, nx, en, mem, nm, td, mt) 14 x (nI w) := by
  exact br_f (by decide) (br_f (by decide) (br_f (by decide) (br_f (by decide) (br_f (by decide) (br_f (by decide) (br_f (by decide) (br_f (by decide) (br_f (by decide) (br_f (by decide) (br_f (by decide) (br_t rfl (h))))))))))))
theorem ny_rw15 (post : Int32 → Prop) (hc : c ≤ 24) (hW : ∀ j, W j = nI (wd j)) {x y z : Int32} {a b d w : Nat} (q : nb_fq c wd 15 x y z a b d w) (h : post (nI w)) : wpY_widthOf post ((nI c), cs, sw, pp, pd, pe, K, ex, ey, ez, W, H, nty, fo, va, nx, en, mem, nm, td, mt) 15 x y z := by
  obtain ⟨⟨ha, rfl⟩, ⟨hb, rfl⟩, rfl, _⟩ := q
  exact br_t (by decide) (br_f (by decide) (br_f (by decide) (br_f (by decide) (br_t rfl (⟨(vp_in_nI (by omega) (by omega)), (vp_in_nI (by omega) (by omega)), by rw [nI_clamp (by omega), nI_clamp (by omega), hW, hW, nI_add]; exact h⟩)))))
theorem ny_co15 (post : Int32 → Prop) (hc : c ≤ 24) (hW : ∀ j, W j = nI (wd j)) {x y z : Int32} {a b d w : Nat} (q : nb_fq c wd 15 x y z a b d w) (h : post (nb_co 15 w (wd a))) : wpY_costOf post ((nI c), cs, sw, pp, pd, pe, K, ex, ey, ez, W, H, nty, fo, va, nx, en, mem, nm, td, mt) 15 x (nI w) := by
  exact br_f (by decide) (br_f (by decide) (br_f (by decide) (br_f (by decide) (br_f (by decide) (br_f (by decide) (br_f (by decide) (br_f (by decide) (br_f (by decide) (br_f (by decide) (br_f (by decide) (br_f (by decide) (br_f (by decide) (br_f (by decide) (h))))))))))))))
theorem ny_rw16 (post : Int32 → Prop) (hc : c ≤ 24) (hW : ∀ j, W j = nI (wd j)) {x y z : Int32} {a b d w : Nat} (q : nb_fq c wd 16 x y z a b d w) (h : post (nI w)) : wpY_widthOf post ((nI c), cs, sw, pp, pd, pe, K, ex, ey, ez, W, H, nty, fo, va, nx, en, mem, nm, td, mt) 16 x y z := by
  obtain ⟨⟨ha, rfl⟩, ⟨s, rfl, rfl, h1, hsw⟩, _, _⟩ := q
  exact br_t (by decide) (br_f (by decide) (br_f (by decide) (br_f (by decide) (br_f (by decide) (br_t rfl (h))))))
theorem ny_co16 (post : Int32 → Prop) (hc : c ≤ 24) (hW : ∀ j, W j = nI (wd j)) {x y z : Int32} {a b d w : Nat} (q : nb_fq c wd 16 x y z a b d w) (h : post (nb_co 16 w (wd a))) : wpY_costOf post ((nI c), cs, sw, pp, pd, pe, K, ex, ey, ez, W, H, nty, fo, va, nx, en, mem, nm, td, mt) 16 x (nI w) := by
  exact br_f (by decide) (br_f (by decide) (br_f (by decide) (br_f (by decide) (br_f (by decide) (br_f (by decide) (br_f (by decide) (br_f (by decide) (br_f (by decide) (br_f (by decide) (br_f (by decide) (br_f (by decide) (br_f (by decide) (br_f (by decide) (h))))))))))))))
theorem ny_rw17 (post : Int32 → Prop) (hc : c ≤ 24) (hW : ∀ j, W j = nI (wd j)) {x y z : Int32} {a b d w : Nat} (q : nb_fq c wd 17 x y z a b d w) (h : post (nI w)) : wpY_widthOf post ((nI c), cs, sw, pp, pd, pe, K, ex, ey, ez, W, H, nty, fo, va, nx, en, mem, nm, td, mt) 17 x y z := by
  obtain ⟨⟨ha, rfl⟩, rfl, _, _⟩ := q
  exact br_t (by decide) (br_f (by decide) (br_f (by decide) (br_f (by decide) (br_f (by decide) (br_f (by decide) (br_t rfl (h)))))))
theorem ny_co17 (post : Int32 → Prop) (hc : c ≤ 24) (hW : ∀ j, W j = nI (wd j)) {x y z : Int32} {a b d w : Nat} (q : nb_fq c wd 17 x y z a b d w) (h : post (nb_co 17 w (wd a))) : wpY_costOf post ((nI c), cs, sw, pp, pd, pe, K, ex, ey, ez, W, H, nty, fo, va, nx, en, mem, nm, td, mt) 17 x (nI w) := by
  obtain ⟨⟨ha, rfl⟩, rfl, _, _⟩ := q
  exact br_f (by decide) (br_f (by decide) (br_f (by decide) (br_f (by decide) (br_f (by decide) (br_f (by decide) (br_f (by decide) (br_f (by decide) (br_f (by decide) (br_f (by decide) (br_f (by decide) (br_f (by decide) (br_t rfl (⟨(vp_in_nI (by omega) (by omega)), by rw [nI_clamp (by omega), hW]; exact h⟩)))))))))))))
theorem ny_rw18 (post : Int32 → Prop) (hc : c ≤ 24) (hW : ∀ j, W j = nI (wd j)) {x y z : Int32} {a b d w : Nat} (q : nb_fq c wd 18 x y z a b d w) (h : post (nI w)) : wpY_widthOf post ((nI c), cs, sw, pp, pd, pe, K, ex, ey, ez, W, H, nty, fo, va, nx, en, mem, nm, td, mt) 18 x y z := by
  obtain ⟨⟨ha, rfl, e2⟩, rfl, _, _⟩ := q
  exact br_t (by decide) (br_f (by decide) (br_f (by decide) (br_f (by decide) (br_f (by decide) (br_f (by decide) (br_f (by decide) (br_t rfl (h))))))))
theorem ny_co18 (post : Int32 → Prop) (hc : c ≤ 24) (hW : ∀ j, W j = nI (wd j)) {x y z : Int32} {a b d w : Nat} (q : nb_fq c wd 18 x y z a b d w) (h : post (nb_co 18 w (wd a))) : wpY_costOf post ((nI c), cs, sw, pp, pd, pe, K, ex, ey, ez, W, H, nty, fo, va, nx, en, mem, nm, td, mt) 18 x (nI w) := by
  exact br_f (by decide) (br_f (by decide) (br_f (by decide) (br_f (by decide) (br_f (by decide) (br_f (by decide) (br_f (by decide) (br_f (by decide) (br_f (by decide) (br_f (by decide) (br_f (by decide) (br_f (by decide) (br_f (by decide) (br_t rfl (h))))))))))))))
theorem nx_ft (post : Int32 → Prop) {k : Nat} (hk : k ≤ 18) (hc : c ≤ 24) (hW : ∀ j, W j = nI (wd j)) (h7 : ∀ j, j < c → wd j < 7) {x y z : Int32} {a b d w : Nat} (q : nb_fq c wd k x y z a b d w) (h : post 1) : wpX_operandsFit post ((nI c), cs, sw, pp, pd, pe, K, W, ox, oy, oz, nums, rch, D, nx, en, fo, H, nt, mem, nm, vals, tr) (nI k) x y z := by
  match k, hk, q with
  | 0, _, q => exact nx_ft0 post hc hW h7 q h
  | 1, _, q => exact nx_ft1 post hc hW h7 q h
  | 2, _, q => exact nx_ft2 post hc hW h7 q h
  | 3, _, q => exact nx_ft3 post hc hW h7 q h
  | 4, _, q => exact nx_ft4 post hc hW h7 q h
  | 5, _, q => exact nx_ft5 post hc hW h7 q h
  | 6, _, q => exact nx_ft6 post hc hW h7 q h
  | 7, _, q => exact nx_ft7 post hc hW h7 q h
  | 8, _, q => exact nx_ft8 post hc hW h7 q h
  | 9, _, q => exact nx_ft9 post hc hW h7 q h
  | 10, _, q => exact nx_ft10 post hc hW h7 q h
  | 11, _, q => exact nx_ft11 post hc hW h7 q h
  | 12, _, q => exact nx_ft12 post hc hW h7 q h
  | 13, _, q => exact nx_ft13 post hc hW h7 q h
  | 14, _, q => exact nx_ft14 post hc hW h7 q h
  | 15, _, q => exact nx_ft15 post hc hW h7 q h
  | 16, _, q => exact nx_ft16 post hc hW h7 q h
  | 17, _, q => exact nx_ft17 post hc hW h7 q h
  | 18, _, q => exact nx_ft18 post hc hW h7 q h
  | n + 19, hk, _ => exact absurd hk (by omega)
theorem nx_ff (post : Int32 → Prop) {k : Nat} (hk : k ≤ 18) (hc : c ≤ 24) (hW : ∀ j, W j = nI (wd j)) (h7 : ∀ j, j < c → wd j < 7) {x y z : Int32} (hn : ¬ ∃ a b d w, nb_fq c wd k x y z a b d w) (h : post 0) : wpX_operandsFit post ((nI c), cs, sw, pp, pd, pe, K, W, ox, oy, oz, nums, rch, D, nx, en, fo, H, nt, mem, nm, vals, tr) (nI k) x y z := by
  match k, hk, hn with
  | 0, _, hn => exact nx_ff0 post hc hW h7 hn h
  | 1, _, hn => exact nx_ff1 post hc hW h7 hn h
  | 2, _, hn => exact nx_ff2 post hc hW h7 hn h
  | 3, _, hn => exact nx_ff3 post hc hW h7 hn h
  | 4, _, hn => exact nx_ff4 post hc hW h7 hn h
  | 5, _, hn => exact nx_ff5 post hc hW h7 hn h
  | 6, _, hn => exact nx_ff6 post hc hW h7 hn h
  | 7, _, hn => exact nx_ff7 post hc hW h7 hn h
  | 8, _, hn => exact nx_ff8 post hc hW h7 hn h
  | 9, _, hn => exact nx_ff9 post hc hW h7 hn h
  | 10, _, hn => exact nx_ff10 post hc hW h7 hn h
  | 11, _, hn => exact nx_ff11 post hc hW h7 hn h
  | 12, _, hn => exact nx_ff12 post hc hW h7 hn h
  | 13, _, hn => exact nx_ff13 post hc hW h7 hn h
  | 14, _, hn => exact nx_ff14 post hc hW h7 hn h
  | 15, _, hn => exact nx_ff15 post hc hW h7 hn h
  | 16, _, hn => exact nx_ff16 post hc hW h7 hn h
  | 17, _, hn => exact nx_ff17 post hc hW h7 hn h
  | 18, _, hn => exact nx_ff18 post hc hW h7 hn h
  | n + 19, hk, _ => exact absurd hk (by omega)
theorem nx_rw (post : Int32 → Prop) {k : Nat} (hk : k ≤ 18) (hc : c ≤ 24) (hW : ∀ j, W j = nI (wd j)) {x y z : Int32} {a b d w : Nat} (q : nb_fq c wd k x y z a b d w) (h : post (nI w)) : wpX_resultWidth post ((nI c), cs, sw, pp, pd, pe, K, W, ox, oy, oz, nums, rch, D, nx, en, fo, H, nt, mem, nm, vals, tr) (nI k) x y z := by
  match k, hk, q with
  | 0, _, q => exact nx_rw0 post hc hW q h
  | 1, _, q => exact nx_rw1 post hc hW q h
  | 2, _, q => exact nx_rw2 post hc hW q h
  | 3, _, q => exact nx_rw3 post hc hW q h
  | 4, _, q => exact nx_rw4 post hc hW q h
  | 5, _, q => exact nx_rw5 post hc hW q h
  | 6, _, q => exact nx_rw6 post hc hW q h
  | 7, _, q => exact nx_rw7 post hc hW q h
  | 8, _, q => exact nx_rw8 post hc hW q h
  | 9, _, q => exact nx_rw9 post hc hW q h
  | 10, _, q => exact nx_rw10 post hc hW q h
  | 11, _, q => exact nx_rw11 post hc hW q h
  | 12, _, q => exact nx_rw12 post hc hW q h
  | 13, _, q => exact nx_rw13 post hc hW q h
  | 14, _, q => exact nx_rw14 post hc hW q h
  | 15, _, q => exact nx_rw15 post hc hW q h
  | 16, _, q => exact nx_rw16 post hc hW q h
  | 17, _, q => exact nx_rw17 post hc hW q h
  | 18, _, q => exact nx_rw18 post hc hW q h
  | n + 19, hk, _ => exact absurd hk (by omega)
theorem nx_co (post : Int32 → Prop) {k : Nat} (hk : k ≤ 18) (hc : c ≤ 24) (hW : ∀ j, W j = nI (wd j)) {x y z : Int32} {a b d w : Nat} (q : nb_fq c wd k x y z a b d w) (h : post (nb_co k w (wd a))) : wpX_costOf post ((nI c), cs, sw, pp, pd, pe, K, W, ox, oy, oz, nums, rch, D, nx, en, fo, H, nt, mem, nm, vals, tr) (nI k) x (nI w) := by
  match k, hk, q, h with
  | 0, _, q, h => exact nx_co0 post hc hW q h
  | 1, _, q, h => exact nx_co1 post hc hW q h
  | 2, _, q, h => exact nx_co2 post hc hW q h
  | 3, _, q, h => exact nx_co3 post hc hW q h
  | 4, _, q, h => exact nx_co4 post hc hW q h
  | 5, _, q, h => exact nx_co5 post hc hW q h
  | 6, _, q, h => exact nx_co6 post hc hW q h
  | 7, _, q, h => exact nx_co7 post hc hW q h
  | 8, _, q, h => exact nx_co8 post hc hW q h
  | 9, _, q, h => exact nx_co9 post hc hW q h
  | 10, _, q, h => exact nx_co10 post hc hW q h
  | 11, _, q, h => exact nx_co11 post hc hW q h
  | 12, _, q, h => exact nx_co12 post hc hW q h
  | 13, _, q, h => exact nx_co13 post hc hW q h
  | 14, _, q, h => exact nx_co14 post hc hW q h
  | 15, _, q, h => exact nx_co15 post hc hW q h
  | 16, _, q, h => exact nx_co16 post hc hW q h
  | 17, _, q, h => exact nx_co17 post hc hW q h
  | 18, _, q, h => exact nx_co18 post hc hW q h
  | n + 19, hk, _, _ => exact absurd hk (by omega)
theorem ny_ft (post : Int32 → Prop) {k : Nat} (hk : k ≤ 18) (k1 : k ≠ 0) (hc : c ≤ 24) (hW : ∀ j, W j = nI (wd j)) (h7 : ∀ j, j < c → wd j < 7) {x y z : Int32} {a b d w : Nat} (q : nb_fq c wd k x y z a b d w) (h : post 1) : wpY_operandsFit post ((nI c), cs, sw, pp, pd, pe, K, ex, ey, ez, W, H, nty, fo, va, nx, en, mem, nm, td, mt) (nI k) x y z := by
  match k, hk, k1, q with
  | 1, _, _, q => exact ny_ft1 post hc hW h7 q h
  | 2, _, _, q => exact ny_ft2 post hc hW h7 q h
  | 3, _, _, q => exact ny_ft3 post hc hW h7 q h
  | 4, _, _, q => exact ny_ft4 post hc hW h7 q h
  | 5, _, _, q => exact ny_ft5 post hc hW h7 q h
  | 6, _, _, q => exact ny_ft6 post hc hW h7 q h
  | 7, _, _, q => exact ny_ft7 post hc hW h7 q h
  | 8, _, _, q => exact ny_ft8 post hc hW h7 q h
  | 9, _, _, q => exact ny_ft9 post hc hW h7 q h
  | 10, _, _, q => exact ny_ft10 post hc hW h7 q h
  | 11, _, _, q => exact ny_ft11 post hc hW h7 q h
  | 12, _, _, q => exact ny_ft12 post hc hW h7 q h
  | 13, _, _, q => exact ny_ft13 post hc hW h7 q h
  | 14, _, _, q => exact ny_ft14 post hc hW h7 q h
  | 15, _, _, q => exact ny_ft15 post hc hW h7 q h
  | 16, _, _, q => exact ny_ft16 post hc hW h7 q h
  | 17, _, _, q => exact ny_ft17 post hc hW h7 q h
  | 18, _, _, q => exact ny_ft18 post hc hW h7 q h
  | 0, _, k1, _ => exact absurd rfl k1
  | n + 19, hk, _, _ => exact absurd hk (by omega)
theorem ny_ff (post : Int32 → Prop) {k : Nat} (hk : k ≤ 18) (k1 : k ≠ 0) (hc : c ≤ 24) (hW : ∀ j, W j = nI (wd j)) (h7 : ∀ j, j < c → wd j < 7) {x y z : Int32} (hn : ¬ ∃ a b d w, nb_fq c wd k x y z a b d w) (h : post 0) : wpY_operandsFit post ((nI c), cs, sw, pp, pd, pe, K, ex, ey, ez, W, H, nty, fo, va, nx, en, mem, nm, td, mt) (nI k) x y z := by
  match k, hk, k1, hn with
  | 1, _, _, hn => exact ny_ff1 post hc hW h7 hn h
  | 2, _, _, hn => exact ny_ff2 post hc hW h7 hn h
  | 3, _, _, hn => exact ny_ff3 post hc hW h7 hn h
  | 4, _, _, hn => exact ny_ff4 post hc hW h7 hn h
  | 5, _, _, hn => exact ny_ff5 post hc hW h7 hn h
  | 6, _, _, hn => exact ny_ff6 post hc hW h7 hn h
  | 7, _, _, hn => exact ny_ff7 post hc hW h7 hn h
  | 8, _, _, hn => exact ny_ff8 post hc hW h7 hn h
  | 9, _, _, hn => exact ny_ff9 post hc hW h7 hn h
  | 10, _, _, hn => exact ny_ff10 post hc hW h7 hn h
  | 11, _, _, hn => exact ny_ff11 post hc hW h7 hn h
  | 12, _, _, hn => exact ny_ff12 post hc hW h7 hn h
  | 13, _, _, hn => exact ny_ff13 post hc hW h7 hn h
  | 14, _, _, hn => exact ny_ff14 post hc hW h7 hn h
  | 15, _, _, hn => exact ny_ff15 post hc hW h7 hn h
  | 16, _, _, hn => exact ny_ff16 post hc hW h7 hn h
  | 17, _, _, hn => exact ny_ff17 post hc hW h7 hn h
  | 18, _, _, hn => exact ny_ff18 post hc hW h7 hn h
  | 0, _, k1, _ => exact absurd rfl k1
  | n + 19, hk, _, _ => exact absurd hk (by omega)
theorem ny_rw (post : Int32 → Prop) {k : Nat} (hk : k ≤ 18) (hc : c ≤ 24) (hW : ∀ j, W j = nI (wd j)) {x y z : Int32} {a b d w : Nat} (q : nb_fq c wd k x y z a b d w) (h : post (nI w)) : wpY_widthOf post ((nI c), cs, sw, pp, pd, pe, K, ex, ey, ez, W, H, nty, fo, va, nx, en, mem, nm, td, mt) (nI k) x y z := by
  match k, hk, q with
  | 0, _, q => exact ny_rw0 post hc hW q h
  | 1, _, q => exact ny_rw1 post hc hW q h
  | 2, _, q => exact ny_rw2 post hc hW q h
  | 3, _, q => exact ny_rw3 post hc hW q h
  | 4, _, q => exact ny_rw4 post hc hW q h
  | 5, _, q => exact ny_rw5 post hc hW q h
  | 6, _, q => exact ny_rw6 post hc hW q h
  | 7, _, q => exact ny_rw7 post hc hW q h
  | 8, _, q => exact ny_rw8 post hc hW q h
  | 9, _, q => exact ny_rw9 post hc hW q h
  | 10, _, q => exact ny_rw10 post hc hW q h
  | 11, _, q => exact ny_rw11 post hc hW q h
  | 12, _, q => exact ny_rw12 post hc hW q h
  | 13, _, q => exact ny_rw13 post hc hW q h
  | 14, _, q => exact ny_rw14 post hc hW q h
  | 15, _, q => exact ny_rw15 post hc hW q h
  | 16, _, q => exact ny_rw16 post hc hW q h
  | 17, _, q => exact ny_rw17 post hc hW q h
  | 18, _, q => exact ny_rw18 post hc hW q h
  | n + 19, hk, _ => exact absurd hk (by omega)
theorem ny_co (post : Int32 → Prop) {k : Nat} (hk : k ≤ 18) (hc : c ≤ 24) (hW : ∀ j, W j = nI (wd j)) {x y z : Int32} {a b d w : Nat} (q : nb_fq c wd k x y z a b d w) (h : post (nb_co k w (wd a))) : wpY_costOf post ((nI c), cs, sw, pp, pd, pe, K, ex, ey, ez, W, H, nty, fo, va, nx, en, mem, nm, td, mt) (nI k) x (nI w) := by
  match k, hk, q, h with
  | 0, _, q, h => exact ny_co0 post hc hW q h
  | 1, _, q, h => exact ny_co1 post hc hW q h
  | 2, _, q, h => exact ny_co2 post hc hW q h
  | 3, _, q, h => exact ny_co3 post hc hW q h
  | 4, _, q, h => exact ny_co4 post hc hW q h
  | 5, _, q, h => exact ny_co5 post hc hW q h
  | 6, _, q, h => exact ny_co6 post hc hW q h
  | 7, _, q, h => exact ny_co7 post hc hW q h
  | 8, _, q, h => exact ny_co8 post hc hW q h
  | 9, _, q, h => exact ny_co9 post hc hW q h
  | 10, _, q, h => exact ny_co10 post hc hW q h
  | 11, _, q, h => exact ny_co11 post hc hW q h
  | 12, _, q, h => exact ny_co12 post hc hW q h
  | 13, _, q, h => exact ny_co13 post hc hW q h
  | 14, _, q, h => exact ny_co14 post hc hW q h
  | 15, _, q, h => exact ny_co15 post hc hW q h
  | 16, _, q, h => exact ny_co16 post hc hW q h
  | 17, _, q, h => exact ny_co17 post hc hW q h
  | 18, _, q, h => exact ny_co18 post hc hW q h
  | n + 19, hk, _, _ => exact absurd hk (by omega)
end
end
section
/-! signal: what it stores -/
def nb_up (f : Nat → Nat) (c k : Nat) : Nat → Nat := fun j => if j = c then k else f j
theorem nb_ups {f : Nat → Nat} {c k : Nat} : nb_up f c k c = k := if_pos rfl
theorem nb_upn {f : Nat → Nat} {c k j : Nat} (h : j ≠ c) : nb_up f c k j = f j := if_neg h
theorem nb_upu (f : Nat → Nat) (c k l : Nat) : nb_up (nb_up f c k) c l = nb_up f c l := by
  funext j
  by_cases e : j = c
  · subst e; rw [nb_ups, nb_ups]
  · rw [nb_upn e, nb_upn e, nb_upn e]
theorem nb_upI {F : Nat → Int32} {f : Nat → Nat} {c k : Nat} (h : ∀ j, F j = nI (f j)) : ∀ j, upd F c (nI k) j = nI (nb_up f c k j) := by
  intro j
  by_cases e : j = c
  · subst e; rw [pk_us, nb_ups]
  · rw [pk_un e, nb_upn e]; exact h j
theorem nb_up0 {F : Nat → Int32} {f : Nat → Nat} {c k : Nat} (h : ∀ j, F j = nI (f j)) (e : f c = k) : ∀ j, F j = nI (nb_up f c k j) := by
  intro j
  by_cases q : j = c
  · subst q; rw [nb_ups, ← e]; exact h j
  · rw [nb_upn q]; exact h j
def nb_oc (k : Nat) : Nat := if k < 3 then 0 else if k = 12 then 3 else if 4 ≤ k ∧ k ≤ 15 then 2 else 1
def nb_d1 (k a : Nat) : Nat := if 3 ≤ k then nb_mx 0 (a + 1) else 0
def nb_d2 (k m b : Nat) : Nat := if 4 ≤ k ∧ k ≤ 15 then nb_mx m (b + 1) else m
def nb_d3 (k m d : Nat) : Nat := if k = 12 then nb_mx m (d + 1) else m
theorem nb_mxs (a b : Nat) : nb_mx (a + 1) (b + 1) = nb_mx a b + 1 := by
  unfold nb_mx
  by_cases h : b ≤ a
  · rw [if_pos h, if_pos (by omega)]
  · rw [if_neg h, if_neg (by omega)]
theorem nb_d123 (k a b d : Nat) : nb_d3 k (nb_d2 k (nb_d1 k a) b) d = nb_dv k a b d := by
  unfold nb_d3 nb_d2 nb_d1 nb_dv
  by_cases h3 : k < 3
  · rw [if_neg (by omega), if_neg (by omega), if_neg (by omega), if_pos h3]
  · rw [if_neg h3, if_pos (show 3 ≤ k by omega), show nb_mx 0 (a + 1) = a + 1 from if_neg (by omega)]
    by_cases h4 : 4 ≤ k ∧ k ≤ 15
    · rw [if_pos h4, if_pos h4, nb_mxs]
      by_cases h12 : k = 12
      · rw [if_pos h12, if_pos h12, nb_mxs]
      · rw [if_neg h12, if_neg h12]
    · rw [if_neg h4, if_neg h4, if_neg (by omega), if_neg (by omega)]
theorem nb_dv_le {k a b d n : Nat} (ha : 3 ≤ k → a < n) (hb : 3 ≤ k → b < n) (hd : 3 ≤ k → d < n) : nb_dv k a b d ≤ n := by
  unfold nb_dv
  by_cases h3 : k < 3
  · rw [if_pos h3]; exact Nat.zero_le _
  · rw [if_neg h3]
    have h1 := ha (by omega)
    have h2 := hb (by omega)
    have h4 := hd (by omega)
    have m1 : (if 4 ≤ k ∧ k ≤ 15 then nb_mx a b else a) ≤ n - 1 := by
      by_cases q : 4 ≤ k ∧ k ≤ 15
      · rw [if_pos q]; exact nb_mx_le (by omega) (by omega)
      · rw [if_neg q]; omega
    have m2 : (if k = 12 then nb_mx (if 4 ≤ k ∧ k ≤ 15 then nb_mx a b else a) d else (if 4 ≤ k ∧ k ≤ 15 then nb_mx a b else a)) ≤ n - 1 := by
      by_cases q : k = 12
      · rw [if_pos q]; exact nb_mx_le m1 (by omega)
      · rw [if_neg q]; exact m1
    omega
theorem nb_wf_lo {k w x y z : Nat} (h : k < 3) : nb_wf k w x y z := by
  match k, h with
  | 0, _ => exact trivial
  | 1, _ => exact trivial
  | 2, _ => exact trivial
/-- what a fitting row of operands says, kind by kind -/
def nb_ops (c : Nat) (k : Nat) (x y z : Int32) (a b d w : Nat) : Prop :=
  (3 ≤ k → a < c ∧ x = nI a) ∧ (k < 3 → a = 0) ∧ (4 ≤ k ∧ k ≤ 15 → b < c ∧ y = nI b) ∧ (¬ (4 ≤ k ∧ k ≤ 15) → b = 0) ∧ (k = 12 → d < c ∧ z = nI d) ∧ (k ≠ 12 → d = 0) ∧ 1 ≤ w ∧ (k = 1 ∨ k = 2 → nb_R w y)
section
variable {c : Nat} {cs sw pp pd pe : Int32} {K W ox oy oz nums rch D nx en fo H nt mem nm vals tr ex ey ez nty va td mt : Nat → Int32} {kd wd xo yo zo dp : Nat → Nat}
theorem nb_fq_ops {k : Nat} (hk : k ≤ 18) (h1 : ∀ j, j < c → 1 ≤ wd j) {x y z : Int32} {a b d w : Nat} (q : nb_fq c wd k x y z a b d w) : nb_ops c k x y z a b d w ∧ nb_wf k w (wd a) (wd b) (wd d) := by
  match k, hk, q with
  | 0, _, q =>
    obtain ⟨⟨e, w1, w7⟩, ea, eb, ed⟩ := q
    exact ⟨⟨fun h => absurd h (by decide), fun _ => ea, fun h => absurd h (by decide), fun _ => eb, fun h => absurd h (by decide), fun _ => ed, w1, fun h => absurd h (by decide)⟩, trivial⟩
  | 1, _, q =>
    obtain ⟨⟨e, w1, w7, r⟩, ea, eb, ed⟩ := q
    exact ⟨⟨fun h => absurd h (by decide), fun _ => ea, fun h => absurd h (by decide), fun _ => eb, fun h => absurd h (by decide), fun _ => ed, w1, fun _ => r⟩, trivial⟩
  | 2, _, q =>
    obtain ⟨⟨e, w1, w7, r⟩, ea, eb, ed⟩ := q
    exact ⟨⟨fun h => absurd h (by decide), fun _ => ea, fun h => absurd h (by decide), fun _ => eb, fun h => absurd h (by decide), fun _ => ed, w1, fun _ => r⟩, trivial⟩
  | 3, _, q =>
    obtain ⟨⟨ha, e⟩, ew, eb, ed⟩ := q
    exact ⟨⟨fun _ => ⟨ha, e⟩, fun h => absurd h (by decide), fun h => absurd h (by decide), fun _ => eb, fun h => absurd h (by decide), fun _ => ed, by have := h1 a ha; omega, fun h => absurd h (by decide)⟩, ew.symm⟩
  | 4, _, q =>
    obtain ⟨⟨ha, hb, e, e2, e3⟩, ew, ed⟩ := q
    exact ⟨⟨fun _ => ⟨ha, e⟩, fun h => absurd h (by decide), fun _ => ⟨hb, e2⟩, fun h => absurd h (by decide), fun h => absurd h (by decide), fun _ => ed, by have := h1 a ha; omega, fun h => absurd h (by decide)⟩, ⟨ew.symm, (ew.trans e3).symm⟩⟩
  | 5, _, q =>
    obtain ⟨⟨ha, hb, e, e2, e3⟩, ew, ed⟩ := q
    exact ⟨⟨fun _ => ⟨ha, e⟩, fun h => absurd h (by decide), fun _ => ⟨hb, e2⟩, fun h => absurd h (by decide), fun h => absurd h (by decide), fun _ => ed, by have := h1 a ha; omega, fun h => absurd h (by decide)⟩, ⟨ew.symm, (ew.trans e3).symm⟩⟩
  | 6, _, q =>
    obtain ⟨⟨ha, hb, e, e2, e3⟩, ew, ed⟩ := q
    exact ⟨⟨fun _ => ⟨ha, e⟩, fun h => absurd h (by decide), fun _ => ⟨hb, e2⟩, fun h => absurd h (by decide), fun h => absurd h (by decide), fun _ => ed, by have := h1 a ha; omega, fun h => absurd h (by decide)⟩, ⟨ew.symm, (ew.trans e3).symm⟩⟩
  | 7, _, q =>
    obtain ⟨⟨ha, hb, e, e2, e3⟩, ew, ed⟩ := q
    exact ⟨⟨fun _ => ⟨ha, e⟩, fun h => absurd h (by decide), fun _ => ⟨hb, e2⟩, fun h => absurd h (by decide), fun h => absurd h (by decide), fun _ => ed, by have := h1 a ha; omega, fun h => absurd h (by decide)⟩, ⟨ew.symm, (ew.trans e3).symm⟩⟩
  | 8, _, q =>
    obtain ⟨⟨ha, hb, e, e2, e3⟩, ew, ed⟩ := q
    exact ⟨⟨fun _ => ⟨ha, e⟩, fun h => absurd h (by decide), fun _ => ⟨hb, e2⟩, fun h => absurd h (by decide), fun h => absurd h (by decide), fun _ => ed, by have := h1 a ha; omega, fun h => absurd h (by decide)⟩, ⟨ew.symm, (ew.trans e3).symm⟩⟩
  | 9, _, q =>
    obtain ⟨⟨ha, hb, e, e2, e3, _⟩, ew, ed⟩ := q
    exact ⟨⟨fun _ => ⟨ha, e⟩, fun h => absurd h (by decide), fun _ => ⟨hb, e2⟩, fun h => absurd h (by decide), fun h => absurd h (by decide), fun _ => ed, by have := h1 a ha; omega, fun h => absurd h (by decide)⟩, ⟨ew.symm, (ew.trans e3).symm⟩⟩
  | 10, _, q =>
    obtain ⟨⟨ha, hb, e, e2, e3⟩, ew, ed⟩ := q
    exact ⟨⟨fun _ => ⟨ha, e⟩, fun h => absurd h (by decide), fun _ => ⟨hb, e2⟩, fun h => absurd h (by decide), fun h => absurd h (by decide), fun _ => ed, by omega, fun h => absurd h (by decide)⟩, ew⟩
  | 11, _, q =>
    obtain ⟨⟨ha, hb, e, e2, e3⟩, ew, ed⟩ := q
    exact ⟨⟨fun _ => ⟨ha, e⟩, fun h => absurd h (by decide), fun _ => ⟨hb, e2⟩, fun h => absurd h (by decide), fun h => absurd h (by decide), fun _ => ed, by omega, fun h => absurd h (by decide)⟩, ew⟩
  | 12, _, q =>
    obtain ⟨⟨ha, e, _⟩, ⟨hb, hd, e2, e4, e3⟩, ew⟩ := q
    exact ⟨⟨fun _ => ⟨ha, e⟩, fun h => absurd h (by decide), fun _ => ⟨hb, e2⟩, fun h => absurd h (by decide), fun _ => ⟨hd, e4⟩, fun h => absurd h (by decide), by have := h1 b hb; omega, fun h => absurd h (by decide)⟩, ⟨ew.symm, (ew.trans e3).symm⟩⟩
  | 13, _, q =>
    obtain ⟨⟨ha, e⟩, ⟨hb, e2, e3⟩, ew, ed⟩ := q
    exact ⟨⟨fun _ => ⟨ha, e⟩, fun h => absurd h (by decide), fun _ => ⟨hb, e2⟩, fun h => absurd h (by decide), fun h => absurd h (by decide), fun _ => ed, by have := h1 a ha; omega, fun h => absurd h (by decide)⟩, ⟨ew.symm, e3⟩⟩
  | 14, _, q =>
    obtain ⟨⟨ha, e⟩, ⟨hb, e2, e3⟩, ew, ed⟩ := q
    exact ⟨⟨fun _ => ⟨ha, e⟩, fun h => absurd h (by decide), fun _ => ⟨hb, e2⟩, fun h => absurd h (by decide), fun h => absurd h (by decide), fun _ => ed, by have := h1 a ha; omega, fun h => absurd h (by decide)⟩, ⟨ew.symm, e3⟩⟩
  | 15, _, q =>
    obtain ⟨⟨ha, e⟩, ⟨hb, e2⟩, ew, ed⟩ := q
    exact ⟨⟨fun _ => ⟨ha, e⟩, fun h => absurd h (by decide), fun _ => ⟨hb, e2⟩, fun h => absurd h (by decide), fun h => absurd h (by decide), fun _ => ed, by have := h1 a ha; omega, fun h => absurd h (by decide)⟩, ew⟩
  | 16, _, q =>
    obtain ⟨⟨ha, e⟩, ⟨s, _, _, w1, _⟩, eb, ed⟩ := q
    exact ⟨⟨fun _ => ⟨ha, e⟩, fun h => absurd h (by decide), fun h => absurd h (by decide), fun _ => eb, fun h => absurd h (by decide), fun _ => ed, w1, fun h => absurd h (by decide)⟩, trivial⟩
  | 17, _, q =>
    obtain ⟨⟨ha, e⟩, ew, eb, ed⟩ := q
    exact ⟨⟨fun _ => ⟨ha, e⟩, fun h => absurd h (by decide), fun h => absurd h (by decide), fun _ => eb, fun h => absurd h (by decide), fun _ => ed, by omega, fun h => absurd h (by decide)⟩, ew⟩
  | 18, _, q =>
    obtain ⟨⟨ha, e, _⟩, ew, eb, ed⟩ := q
    exact ⟨⟨fun _ => ⟨ha, e⟩, fun h => absurd h (by decide), fun h => absurd h (by decide), fun _ => eb, fun h => absurd h (by decide), fun _ => ed, by omega, fun h => absurd h (by decide)⟩, ew⟩
  | n + 19, hk, _ => exact absurd hk (by omega)
theorem nx_oc (post : Int32 → Prop) {k : Nat} (hk : k ≤ 18) (h : post (nI (nb_oc k))) : wpX_operandCount post (nI k) := by
  match k, hk, h with
  | 0, _, h =>
    rw [show nb_oc 0 = 0 by decide] at h
    exact br_f (by decide) (br_f (by decide) (br_t rfl (h)))
  | 1, _, h =>
    rw [show nb_oc 1 = 0 by decide] at h
    exact br_f (by decide) (br_f (by decide) (br_f (by decide) (br_t rfl (h))))
  | 2, _, h =>
    rw [show nb_oc 2 = 0 by decide] at h
    exact br_f (by decide) (br_f (by decide) (br_f (by decide) (br_f (by decide) (br_t rfl (h)))))
  | 3, _, h =>
    rw [show nb_oc 3 = 1 by decide] at h
    exact br_f (by decide) (br_f (by decide) (br_f (by decide) (br_f (by decide) (br_f (by decide) (br_t rfl (h))))))
  | 4, _, h =>
    rw [show nb_oc 4 = 2 by decide] at h
    exact br_f (by decide) (br_f (by decide) (br_f (by decide) (br_f (by decide) (br_f (by decide) (br_f (by decide) (br_t rfl (h)))))))
  | 5, _, h =>
    rw [show nb_oc 5 = 2 by decide] at h
    exact br_f (by decide) (br_f (by decide) (br_f (by decide) (br_f (by decide) (br_f (by decide) (br_f (by decide) (br_f (by decide) (br_t rfl (h))))))))
  | 6, _, h =>
    rw [show nb_oc 6 = 2 by decide] at h
    exact br_f (by decide) (br_f (by decide) (br_f (by decide) (br_f (by decide) (br_f (by decide) (br_f (by decide) (br_f (by decide) (br_f (by decide) (br_t rfl (h)))))))))
  | 7, _, h =>
    rw [show nb_oc 7 = 2 by decide] at h
    exact br_f (by decide) (br_f (by decide) (br_f (by decide) (br_f (by decide) (br_f (by decide) (br_f (by decide) (br_f (by decide) (br_f (by decide) (br_f (by decide) (br_t rfl (h))))))))))
  | 8, _, h =>
    rw [show nb_oc 8 = 2 by decide] at h
    exact br_f (by decide) (br_f (by decide) (br_f (by decide) (br_f (by decide) (br_f (by decide) (br_f (by decide) (br_f (by decide) (br_f (by decide) (br_f (by decide) (br_f (by decide) (br_t rfl (h)))))))))))
  | 9, _, h =>
    rw [show nb_oc 9 = 2 by decide] at h
    exact br_f (by decide) (br_f (by decide) (br_f (by decide) (br_f (by decide) (br_f (by decide) (br_f (by decide) (br_f (by decide) (br_f (by decide) (br_f (by decide) (br_f (by decide) (br_f (by decide) (br_t rfl (h))))))))))))
  | 10, _, h =>
    rw [show nb_oc 10 = 2 by decide] at h
    exact br_f (by decide) (br_f (by decide) (br_f (by decide) (br_f (by decide) (br_f (by decide) (br_f (by decide) (br_f (by decide) (br_f (by decide) (br_f (by decide) (br_f (by decide) (br_f (by decide) (br_f (by decide) (br_t rfl (h)))))))))))))
  | 11, _, h =>
    rw [show nb_oc 11 = 2 by decide] at h
    exact br_f (by decide) (br_f (by decide) (br_f (by decide) (br_f (by decide) (br_f (by decide) (br_f (by decide) (br_f (by decide) (br_f (by decide) (br_f (by decide) (br_f (by decide) (br_f (by decide) (br_f (by decide) (br_f (by decide) (br_t rfl (h))))))))))))))
  | 12, _, h =>
    rw [show nb_oc 12 = 3 by decide] at h
    exact br_f (by decide) (br_f (by decide) (br_f (by decide) (br_f (by decide) (br_f (by decide) (br_f (by decide) (br_f (by decide) (br_f (by decide) (br_f (by decide) (br_f (by decide) (br_f (by decide) (br_f (by decide) (br_f (by decide) (br_f (by decide) (br_t rfl (h)))))))))))))))
  | 13, _, h =>
    rw [show nb_oc 13 = 2 by decide] at h
    exact br_f (by decide) (br_f (by decide) (br_f (by decide) (br_f (by decide) (br_f (by decide) (br_f (by decide) (br_f (by decide) (br_f (by decide) (br_f (by decide) (br_f (by decide) (br_f (by decide) (br_f (by decide) (br_f (by decide) (br_f (by decide) (br_f (by decide) (br_t rfl (h))))))))))))))))
  | 14, _, h =>
    rw [show nb_oc 14 = 2 by decide] at h
    exact br_f (by decide) (br_f (by decide) (br_f (by decide) (br_f (by decide) (br_f (by decide) (br_f (by decide) (br_f (by decide) (br_f (by decide) (br_f (by decide) (br_f (by decide) (br_f (by decide) (br_f (by decide) (br_f (by decide) (br_f (by decide) (br_f (by decide) (br_f (by decide) (br_t rfl (h)))))))))))))))))
  | 15, _, h =>
    rw [show nb_oc 15 = 2 by decide] at h
    exact br_f (by decide) (br_f (by decide) (br_f (by decide) (br_f (by decide) (br_f (by decide) (br_f (by decide) (br_f (by decide) (br_f (by decide) (br_f (by decide) (br_f (by decide) (br_f (by decide) (br_f (by decide) (br_f (by decide) (br_f (by decide) (br_f (by decide) (br_f (by decide) (br_f (by decide) (br_t rfl (h))))))))))))))))))
  | 16, _, h =>
    rw [show nb_oc 16 = 1 by decide] at h
    exact br_f (by decide) (br_f (by decide) (br_f (by decide) (br_f (by decide) (br_f (by decide) (br_f (by decide) (br_f (by decide) (br_f (by decide) (br_f (by decide) (br_f (by decide) (br_f (by decide) (br_f (by decide) (br_f (by decide) (br_f (by decide) (br_f (by decide) (br_f (by decide) (br_f (by decide) (br_f (by decide) (br_t rfl (h)))))))))))))))))))
  | 17, _, h =>
    rw [show nb_oc 17 = 1 by decide] at h
    exact br_f (by decide) (br_f (by decide) (br_f (by decide) (br_f (by decide) (br_f (by decide) (br_f (by decide) (br_f (by decide) (br_f (by decide) (br_f (by decide) (br_f (by decide) (br_f (by decide) (br_f (by decide) (br_f (by decide) (br_f (by decide) (br_f (by decide) (br_f (by decide) (br_f (by decide) (br_f (by decide) (br_f (by decide) (br_t rfl (h))))))))))))))))))))
  | 18, _, h =>
    rw [show nb_oc 18 = 1 by decide] at h
    exact br_f (by decide) (br_f (by decide) (br_f (by decide) (br_f (by decide) (br_f (by decide) (br_f (by decide) (br_f (by decide) (br_f (by decide) (br_f (by decide) (br_f (by decide) (br_f (by decide) (br_f (by decide) (br_f (by decide) (br_f (by decide) (br_f (by decide) (br_f (by decide) (br_f (by decide) (br_f (by decide) (br_f (by decide) (br_f (by decide) (br_t rfl (h)))))))))))))))))))))
  | n + 19, hk, _ => exact absurd hk (by omega)
theorem nx_sb (post : SX → Prop) (hc : c < 24) (hD : ∀ j, D j = nI (dp j)) {a : Nat} (ha : a < c) (ba : dp a < 100) (bc : dp c < 100)
    (hp : ∀ D', (∀ j, D' j = nI (nb_up dp c (nb_mx (dp c) (dp a + 1)) j)) → post ((nI c), cs, sw, pp, pd, pe, K, W, ox, oy, oz, nums, (upd rch c (rch c ||| rch a)), D', nx, en, fo, H, nt, mem, nm, vals, tr)) : wpX_standBehind post ((nI c), cs, sw, pp, pd, pe, K, W, ox, oy, oz, nums, rch, D, nx, en, fo, H, nt, mem, nm, vals, tr) (nI c) (nI a) := by
  have x1 : vp_in (nI c) 24 := vp_in_nI (by omega) (by omega)
  have x2 : (nI c).toNatClampNeg = c := nI_clamp (by omega)
  have y1 : vp_in (nI a) 24 := vp_in_nI (by omega) (by omega)
  have y2 : (nI a).toNatClampNeg = a := nI_clamp (by omega)
  unfold wpX_standBehind
  refine ⟨x1, y1, x1, ?_⟩
  rw [x2, y2]
  refine nm_e ⟨x1, y1, ?_⟩
  rw [hD a, hD c, nI_1 (dp a)]
  by_cases q : dp a + 1 ≤ dp c
  · refine br_t (nI_le q (by omega)) (hp D ?_)
    rw [show nb_mx (dp c) (dp a + 1) = dp c from if_pos q]
    exact nb_up0 hD rfl
  · refine br_f (fun w => q ((nI_leI (by omega) (by omega)).mp w)) ⟨y1, x1, nm_e (hp _ ?_)⟩
    rw [show nb_mx (dp c) (dp a + 1) = dp a + 1 from if_neg q]
    exact nb_upI hD
theorem nx_g57 (post : SX → Prop) (hc : c < 24) (hz : ∀ j, oz j = nI (zo j)) (z0 : zo c = 0) (hD : ∀ j, D j = nI (dp j)) (bd : ∀ j, j ≤ c → dp j < 100) {k d : Nat} {z : Int32} (od : k = 12 → d < c ∧ z = nI d) (nd : k ≠ 12 → d = 0)
    (hp : ∀ oz' rch' D', (∀ j, oz' j = nI (nb_up zo c d j)) → (∀ j, j ≠ c → rch' j = rch j) → (∀ i, bt (rch' c) i = true ↔ (bt (rch c) i = true ∨ (k = 12 ∧ bt (rch d) i = true))) → (∀ j, D' j = nI (nb_up dp c (nb_d3 k (dp c) (dp d)) j)) → post ((nI c), cs, sw, pp, pd, pe, K, W, ox, oy, oz', nums, rch', D', nx, en, fo, H, nt, mem, nm, vals, tr)) :
    wX_giveOperands_57 post (nI c) z (nI (nb_oc k)) (nI c) cs sw pp pd pe K W ox oy oz nums rch D nx en fo H nt mem nm vals tr := by
  have x1 : vp_in (nI c) 24 := vp_in_nI (by omega) (by omega)
  have x2 : (nI c).toNatClampNeg = c := nI_clamp (by omega)
  by_cases g : k = 12
  · obtain ⟨hd, rfl⟩ := od g
    have e : nb_oc k = 3 := by rw [g]; decide
    rw [e]
    refine br_f (by decide) ⟨x1, nm_e ?_⟩
    rw [x2]
    refine nx_sb _ hc hD hd (bd d (by omega)) (bd c (by omega)) (fun D' hD' => hp _ _ D' (nb_upI hz) (fun j hj => pk_un hj) (fun i => ?_) ?_)
    · rw [pk_us, b_or, Bool.or_eq_true]
      exact ⟨fun h => h.elim Or.inl (fun h => Or.inr ⟨g, h⟩), fun h => h.elim Or.inl (fun h => Or.inr h.2)⟩
    · rw [nb_d3, if_pos g]; exact hD'
  · have e : nb_oc k ≤ 2 := by
      unfold nb_oc
      by_cases a : k < 3
      · rw [if_pos a]; omega
      · rw [if_neg a, if_neg g]
        by_cases b : 4 ≤ k ∧ k ≤ 15
        · rw [if_pos b]; omega
        · rw [if_neg b]; omega
    refine br_t (nI_le (b := 2) e (by omega)) (hp oz rch D (nb_up0 hz (by rw [nd g, z0])) (fun _ _ => rfl) (fun i => ⟨Or.inl, fun h => h.elim id (fun h => absurd h.1 g)⟩) ?_)
    rw [nb_d3, if_neg g]
    exact nb_up0 hD rfl
theorem nx_g38 (post : SX → Prop) (hc : c < 24) (hy : ∀ j, oy j = nI (yo j)) (y0 : yo c = 0) (hz : ∀ j, oz j = nI (zo j)) (z0 : zo c = 0) (hD : ∀ j, D j = nI (dp j)) (bd : ∀ j, j ≤ c → dp j < 99) {k b d : Nat} {y z : Int32}
    (ob : 4 ≤ k ∧ k ≤ 15 → b < c ∧ y = nI b) (nb : ¬ (4 ≤ k ∧ k ≤ 15) → b = 0) (od : k = 12 → d < c ∧ z = nI d) (nd : k ≠ 12 → d = 0)
    (hp : ∀ oy' oz' rch' D', (∀ j, oy' j = nI (nb_up yo c b j)) → (∀ j, oz' j = nI (nb_up zo c d j)) → (∀ j, j ≠ c → rch' j = rch j)
      → (∀ i, bt (rch' c) i = true ↔ (bt (rch c) i = true ∨ ((4 ≤ k ∧ k ≤ 15) ∧ bt (rch b) i = true) ∨ (k = 12 ∧ bt (rch d) i = true)))
      → (∀ j, D' j = nI (nb_up dp c (nb_d3 k (nb_d2 k (dp c) (dp b)) (dp d)) j)) → post ((nI c), cs, sw, pp, pd, pe, K, W, ox, oy', oz', nums, rch', D', nx, en, fo, H, nt, mem, nm, vals, tr)) :
    wX_giveOperands_38 post (nI c) y z (nI (nb_oc k)) (nI c) cs sw pp pd pe K W ox oy oz nums rch D nx en fo H nt mem nm vals tr := by
  have x1 : vp_in (nI c) 24 := vp_in_nI (by omega) (by omega)
  have x2 : (nI c).toNatClampNeg = c := nI_clamp (by omega)
  by_cases g : 4 ≤ k ∧ k ≤ 15
  · obtain ⟨hb, rfl⟩ := ob g
    have e : 1 < nb_oc k ∧ nb_oc k < 100 := by
      unfold nb_oc
      rw [if_neg (by omega)]
      by_cases a : k = 12
      · rw [if_pos a]; omega
      · rw [if_neg a, if_pos g]; omega
    refine br_f (fun w => absurd ((nI_leI (b := 1) (by omega) (by omega)).mp w) (by omega)) ⟨x1, nm_e ?_⟩
    rw [x2]
    have bb := bd b (by omega)
    have bc := bd c (by omega)
    refine nx_sb _ hc hD hb (by omega) (by omega) (fun D' hD' => ?_)
    refine nx_g57 _ hc hz z0 hD' (fun j hj => ?_) od nd (fun oz' rch' D'' s1 s2 s3 s4 => hp _ oz' rch' D'' (nb_upI hy) s1 (fun j hj => (s2 j hj).trans (pk_un hj)) (fun i => ?_) (fun j => ?_))
    · by_cases q : j = c
      · subst q; rw [nb_ups]; exact Nat.lt_of_le_of_lt (nb_mx_le (n := 99) (by omega) (by omega)) (by omega)
      · rw [nb_upn q]; have := bd j hj; omega
    · rw [s3 i, pk_us, b_or, Bool.or_eq_true]
      constructor
      · rintro ((h | h) | ⟨h12, h⟩)
        · exact Or.inl h
        · exact Or.inr (Or.inl ⟨g, h⟩)
        · have := od h12
          rw [pk_un (by omega)] at h
          exact Or.inr (Or.inr ⟨h12, h⟩)
      · rintro (h | ⟨_, h⟩ | ⟨h12, h⟩)
        · exact Or.inl (Or.inl h)
        · exact Or.inl (Or.inr h)
        · have := od h12
          refine Or.inr ⟨h12, ?_⟩
          rw [pk_un (by omega)]
          exact h
    · rw [s4 j, nb_upu, nb_ups]
      unfold nb_d3 nb_d2
      rw [if_pos g]
      by_cases h12 : k = 12
      · have := od h12
        rw [if_pos h12, if_pos h12, nb_upn (show d ≠ c by omega)]
      · rw [if_neg h12, if_neg h12]
  · have e : nb_oc k ≤ 1 := by
      unfold nb_oc
      by_cases a : k < 3
      · rw [if_pos a]; omega
      · rw [if_neg a, if_neg (by omega), if_neg g]; omega
    refine br_t (nI_le (b := 1) e (by omega)) ?_
    refine nx_g57 _ hc hz z0 hD (fun j hj => by have := bd j hj; omega) od nd (fun oz' rch' D'' s1 s2 s3 s4 => hp oy oz' rch' D'' (nb_up0 hy (by rw [nb g, y0])) s1 s2 (fun i => ?_) (fun j => ?_))
    · rw [s3 i]
      exact ⟨fun h => h.elim Or.inl (fun h => Or.inr (Or.inr h)), fun h => h.elim Or.inl (fun h => h.elim (fun h => absurd h.1 g) Or.inr)⟩
    · rw [s4 j, nb_d2, if_neg g]
theorem nx_go (post : SX → Prop) (hc : c < 24) {k a b d w : Nat} (hk : k ≤ 18) (hKc : K c = nI k) (hx : ∀ j, ox j = nI (xo j)) (x0 : xo c = 0) (hy : ∀ j, oy j = nI (yo j)) (y0 : yo c = 0) (hz : ∀ j, oz j = nI (zo j)) (z0 : zo c = 0) (hD : ∀ j, D j = nI (dp j)) (d0 : dp c = 0) (bd : ∀ j, j < c → dp j ≤ j) {x y z : Int32}
    (op : nb_ops c k x y z a b d w)
    (hp : ∀ ox' oy' oz' rch' D', (∀ j, ox' j = nI (nb_up xo c a j)) → (∀ j, oy' j = nI (nb_up yo c b j)) → (∀ j, oz' j = nI (nb_up zo c d j)) → (∀ j, j ≠ c → rch' j = rch j)
      → (∀ i, i < 24 → (bt (rch' c) i = true ↔ (i = c ∨ (3 ≤ k ∧ bt (rch a) i = true) ∨ ((4 ≤ k ∧ k ≤ 15) ∧ bt (rch b) i = true) ∨ (k = 12 ∧ bt (rch d) i = true))))
      → (∀ j, D' j = nI (nb_up dp c (nb_dv k (dp a) (dp b) (dp d)) j)) → post ((nI c), cs, sw, pp, pd, pe, K, W, ox', oy', oz', nums, rch', D', nx, en, fo, H, nt, mem, nm, vals, tr)) :
    wpX_giveOperands post ((nI c), cs, sw, pp, pd, pe, K, W, ox, oy, oz, nums, rch, D, nx, en, fo, H, nt, mem, nm, vals, tr) (nI c) x y z := by
  obtain ⟨oa, na, ob, nb, od, nd, _, _⟩ := op
  have x1 : vp_in (nI c) 24 := vp_in_nI (by omega) (by omega)
  have x2 : (nI c).toNatClampNeg = c := nI_clamp (by omega)
  have b99 : ∀ j, j ≤ c → dp j < 50 := fun j hj => by
    by_cases q : j = c
    · subst q; omega
    · have := bd j (by omega); omega
  have one : ∀ i, i < 24 → (bt ((1 : Int32) <<< (nI c &&& 31)) i = true ↔ i = c) := fun i hi => by rw [nb_one c (by omega) i (by omega), decide_eq_true_eq]
  unfold wpX_giveOperands
  refine ⟨x1, ?_⟩
  rw [x2, hKc]
  refine nx_oc _ hk ⟨x1, nm_e ?_⟩
  by_cases g : 3 ≤ k
  · obtain ⟨ha, rfl⟩ := oa g
    have e : 0 < nb_oc k ∧ nb_oc k < 100 := by
      unfold nb_oc
      rw [if_neg (by omega)]
      by_cases q : k = 12
      · rw [if_pos q]; omega
      · rw [if_neg q]
        by_cases q4 : 4 ≤ k ∧ k ≤ 15
        · rw [if_pos q4]; omega
        · rw [if_neg q4]; omega
    refine br_f (fun w => absurd ((nI_leI (b := 0) (by omega) (by omega)).mp w) (by omega)) ⟨x1, nm_e ?_⟩
    have bb := b99 a (by omega)
    refine nx_sb _ hc hD ha (by omega) (by omega) (fun D' hD' => ?_)
    refine nx_g38 _ hc hy y0 hz z0 hD' (fun j hj => ?_) ob nb od nd (fun oy' oz' rch' D'' s0 s1 s2 s3 s4 => hp _ oy' oz' rch' D'' (nb_upI hx) s0 s1 (fun j hj => (s2 j hj).trans ((pk_un hj).trans (pk_un hj))) (fun i hi => ?_) (fun j => ?_))
    · by_cases q : j = c
      · subst q; rw [nb_ups]; exact Nat.lt_of_le_of_lt (nb_mx_le (n := 60) (by omega) (by omega)) (by omega)
      · rw [nb_upn q]; have := b99 j hj; omega
    · rw [s3 i, pk_us, b_or, Bool.or_eq_true, pk_us, one i hi, pk_un (show a ≠ c by omega)]
      have pb : (4 ≤ k ∧ k ≤ 15) → ∀ v w, upd (upd rch c v) c w b = rch b := fun g4 v w => by
        have := ob g4
        rw [pk_un (by omega), pk_un (by omega)]
      have pd : k = 12 → ∀ v w, upd (upd rch c v) c w d = rch d := fun g4 v w => by
        have := od g4
        rw [pk_un (by omega), pk_un (by omega)]
      constructor
      · rintro ((h | h) | ⟨h4, h⟩ | ⟨h12, h⟩)
        · exact Or.inl h
        · exact Or.inr (Or.inl ⟨g, h⟩)
        · rw [pb h4] at h; exact Or.inr (Or.inr (Or.inl ⟨h4, h⟩))
        · rw [pd h12] at h; exact Or.inr (Or.inr (Or.inr ⟨h12, h⟩))
      · rintro (h | ⟨_, h⟩ | ⟨h4, h⟩ | ⟨h12, h⟩)
        · exact Or.inl (Or.inl h)
        · exact Or.inl (Or.inr h)
        · refine Or.inr (Or.inl ⟨h4, ?_⟩); rw [pb h4]; exact h
        · refine Or.inr (Or.inr ⟨h12, ?_⟩); rw [pd h12]; exact h
    · rw [s4 j, nb_upu, nb_ups, ← nb_d123, d0, nb_d1, if_pos g]
      unfold nb_d3 nb_d2
      by_cases h4 : 4 ≤ k ∧ k ≤ 15
      · have := ob h4
        rw [if_pos h4, if_pos h4, nb_upn (show b ≠ c by omega)]
        by_cases h12 : k = 12
        · have := od h12
          rw [if_pos h12, if_pos h12, nb_upn (show d ≠ c by omega)]
        · rw [if_neg h12, if_neg h12]
      · rw [if_neg h4, if_neg h4, if_neg (by omega), if_neg (by omega)]
  · have e : nb_oc k = 0 := by
      unfold nb_oc
      rw [if_pos (by omega)]
    rw [e]
    refine br_t (by decide) ?_
    rw [← e]
    refine nx_g38 _ hc hy y0 hz z0 hD (fun j hj => by have := b99 j hj; omega) ob nb od nd (fun oy' oz' rch' D'' s0 s1 s2 s3 s4 => hp ox oy' oz' rch' D'' (nb_up0 hx (by rw [na (by omega), x0])) s0 s1 (fun j hj => (s2 j hj).trans (pk_un hj)) (fun i hi => ?_) (fun j => ?_))
    · rw [s3 i, pk_us, one i hi]
      constructor
      · rintro (h | ⟨h, _⟩ | ⟨h, _⟩)
        · exact Or.inl h
        · omega
        · omega
      · rintro (h | ⟨h, _⟩ | ⟨h, _⟩ | ⟨h, _⟩)
        · exact Or.inl h
        · omega
        · omega
        · omega
    · rw [s4 j, ← nb_d123, d0, nb_d1, if_neg g]
theorem nx_gs (post : SX → Prop) (hc : c < 24) {k : Nat} (hk : k ≤ 18) (hKc : K c = nI k)
    (hp : post ((nI c), cs, sw, pp, pd, pe, K, W, ox, oy, oz, nums, rch, D, (upd nx c (-1)), (upd en c (-1)), (upd fo c (-1)), (upd H c (if k = 2 then nums c else 0)), (upd nt c (if k = 2 then nums c else 0)), mem, nm, vals, tr)) : wpX_giveState post ((nI c), cs, sw, pp, pd, pe, K, W, ox, oy, oz, nums, rch, D, nx, en, fo, H, nt, mem, nm, vals, tr) (nI c) := by
  have x1 : vp_in (nI c) 24 := vp_in_nI (by omega) (by omega)
  have x2 : (nI c).toNatClampNeg = c := nI_clamp (by omega)
  have fin : ∀ f, f = (if k = 2 then nums c else 0) → wX_giveState_20 post (nI c) f (nI c) cs sw pp pd pe K W ox oy oz nums rch D nx en fo H nt mem nm vals tr := fun f e => by
    unfold wX_giveState_20
    rw [x2, e]
    exact ⟨x1, nm_e ⟨x1, nm_e ⟨x1, nm_e ⟨x1, nm_e ⟨x1, nm_e hp⟩⟩⟩⟩⟩
  unfold wpX_giveState
  refine ⟨x1, ?_⟩
  rw [x2, hKc]
  by_cases g : k = 2
  · exact br_t (by rw [g]; rfl) ⟨x1, fin _ (by rw [if_pos g])⟩
  · exact br_f (fun w => g ((nI_eq (b := 2) (by omega) (by omega)).mp w)) (fin _ (by rw [if_neg g]))
end
end
section
/-! signal: both sides put together -/
section
variable {c : Nat} {cs sw pp pd pe : Int32} {K W ox oy oz nums rch D nx en fo H nt mem nm vals tr ex ey ez nty va td mt : Nat → Int32} {kd wd xo yo zo dp : Nat → Nat}
theorem nb_fq_w {k : Nat} (hk : k ≤ 18) (h7 : ∀ j, j < c → wd j < 7) {x y z : Int32} {a b d w : Nat} (q : nb_fq c wd k x y z a b d w) : w < 13 := by
  match k, hk, q with
  | 0, _, q =>
    obtain ⟨⟨_, _, w7⟩, _⟩ := q
    omega
  | 1, _, q =>
    obtain ⟨⟨_, _, w7, _⟩, _⟩ := q
    omega
  | 2, _, q =>
    obtain ⟨⟨_, _, w7, _⟩, _⟩ := q
    omega
  | 3, _, q =>
    obtain ⟨⟨ha, _⟩, ew, _⟩ := q
    have := h7 a ha
    omega
  | 4, _, q =>
    obtain ⟨⟨ha, hb, _⟩, ew, _⟩ := q
    have := h7 a ha
    have := h7 b hb
    omega
  | 5, _, q =>
    obtain ⟨⟨ha, hb, _⟩, ew, _⟩ := q
    have := h7 a ha
    have := h7 b hb
    omega
  | 6, _, q =>
    obtain ⟨⟨ha, hb, _⟩, ew, _⟩ := q
    have := h7 a ha
    have := h7 b hb
    omega
  | 7, _, q =>
    obtain ⟨⟨ha, hb, _⟩, ew, _⟩ := q
    have := h7 a ha
    have := h7 b hb
    omega
  | 8, _, q =>
    obtain ⟨⟨ha, hb, _⟩, ew, _⟩ := q
    have := h7 a ha
    have := h7 b hb
    omega
  | 9, _, q =>
    obtain ⟨⟨ha, hb, _⟩, ew, _⟩ := q
    have := h7 a ha
    have := h7 b hb
    omega
  | 10, _, q =>
    obtain ⟨⟨ha, hb, _⟩, ew, _⟩ := q
    have := h7 a ha
    have := h7 b hb
    omega
  | 11, _, q =>
    obtain ⟨⟨ha, hb, _⟩, ew, _⟩ := q
    have := h7 a ha
    have := h7 b hb
    omega
  | 12, _, q =>
    obtain ⟨_, ⟨hb, _⟩, ew⟩ := q
    have := h7 b hb
    omega
  | 13, _, q =>
    obtain ⟨⟨ha, _⟩, _, ew, _⟩ := q
    have := h7 a ha
    omega
  | 14, _, q =>
    obtain ⟨⟨ha, _⟩, _, ew, _⟩ := q
    have := h7 a ha
    omega
  | 15, _, q =>
    obtain ⟨⟨ha, _⟩, ⟨hb, _⟩, ew, _⟩ := q
    have := h7 a ha
    have := h7 b hb
    omega
  | 16, _, q =>
    obtain ⟨⟨ha, _⟩, ⟨s, _, _, _, hs⟩, _⟩ := q
    have := h7 a ha
    omega
  | 17, _, q =>
    obtain ⟨_, ew, _⟩ := q
    omega
  | 18, _, q =>
    obtain ⟨_, ew, _⟩ := q
    omega
  | n + 19, hk, _ => exact absurd hk (by omega)
theorem nx_84 (post : Int32 → SX → Prop) (S : nb_S c K W ox oy oz nums rch D ex ey ez kd wd xo yo zo dp) (hc : c < 24) {k a b d w : Nat} (hk : k ≤ 18) {x y z co zz : Int32} (op : nb_ops c k x y z a b d w)
    (hfull : (220 < cs + co ∨ ¬ sw + zz ≤ 60) → post (-2) ((nI c), cs, sw, pp, pd, pe, K, W, ox, oy, oz, nums, rch, D, nx, en, fo, H, nt, mem, nm, vals, tr))
    (hgo : ¬ 220 < cs + co → sw + zz ≤ 60 → ∀ ox' oy' oz' rch' D', (∀ j, ox' j = nI (nb_up xo c a j)) → (∀ j, oy' j = nI (nb_up yo c b j)) → (∀ j, oz' j = nI (nb_up zo c d j)) → (∀ j, j ≠ c → rch' j = rch j)
      → (∀ i, i < 24 → (bt (rch' c) i = true ↔ (i = c ∨ (3 ≤ k ∧ bt (rch a) i = true) ∨ ((4 ≤ k ∧ k ≤ 15) ∧ bt (rch b) i = true) ∨ (k = 12 ∧ bt (rch d) i = true))))
      → (∀ j, D' j = nI (nb_up dp c (nb_dv k (dp a) (dp b) (dp d)) j))
      → post (nI c) ((nI (c + 1)), (cs + co), (sw + zz), pp, pd, pe, (upd K c (nI k)), (upd W c (nI w)), ox', oy', oz', (upd nums c (if k = 1 ∨ k = 2 ∨ k = 16 then y else 0)), rch', D', (upd nx c (-1)), (upd en c (-1)), (upd fo c (-1)), (upd H c (if k = 2 then y else 0)), (upd nt c (if k = 2 then y else 0)), mem, nm, vals, tr)) :
    wX_signal_84 post (nI k) x y z (nI w) co zz (nI c) cs sw pp pd pe K W ox oy oz nums rch D nx en fo H nt mem nm vals tr := by
  obtain ⟨_, hK, hW, hx, hy, hz, hD, ok, ye, be, rq, dq⟩ := S
  obtain ⟨b1, b2, b3, b4⟩ := be c (Nat.le_refl c)
  have x1 : vp_in (nI c) 24 := vp_in_nI (by omega) (by omega)
  have x2 : (nI c).toNatClampNeg = c := nI_clamp (by omega)
  by_cases q1 : 220 < cs + co
  · exact br_t q1 (hfull (Or.inl q1))
  refine br_f q1 ?_
  by_cases q2 : sw + zz ≤ 60
  · refine br_t q2 (nm_e (nm_e ⟨x1, nm_e ⟨x1, nm_e ?_⟩⟩))
    rw [x2]
    have fin : ∀ nv, nv = (if k = 1 ∨ k = 2 ∨ k = 16 then y else 0) → wX_signal_186 post x y z (nI c) nv (nI c) (nI c) (cs + co) (sw + zz) pp pd pe (upd K c (nI k)) (upd W c (nI w)) ox oy oz nums rch D nx en fo H nt mem nm vals tr := fun nv e => by
      unfold wX_signal_186
      refine ⟨x1, nm_e ?_⟩
      rw [x2, e]
      refine nx_go _ hc hk pk_us hx b1 hy b2 hz b3 hD b4 (fun j hj => (dq j hj).2) op (fun ox' oy' oz' rch' D' s1 s2 s3 s4 s5 s6 => ?_)
      refine nx_gs _ hc hk pk_us (nm_r (nI_1 c) ?_)
      have fv : (if k = 2 then upd nums c (if k = 1 ∨ k = 2 ∨ k = 16 then y else 0) c else 0) = (if k = 2 then y else 0) := by
        by_cases g : k = 2
        · rw [if_pos g, if_pos g, pk_us, if_pos (Or.inr (Or.inl g))]
        · rw [if_neg g, if_neg g]
      rw [fv]
      exact hgo q1 q2 ox' oy' oz' rch' D' s1 s2 s3 s4 s5 s6
    by_cases g1 : k = 1
    · exact br_t (by rw [g1]; rfl) (fin y (by rw [if_pos (Or.inl g1)]))
    refine br_f (fun w => g1 ((nI_eq (b := 1) (by omega) (by omega)).mp w)) ?_
    by_cases g2 : k = 2
    · exact br_t (by rw [g2]; rfl) (fin y (by rw [if_pos (Or.inr (Or.inl g2))]))
    refine br_f (fun w => g2 ((nI_eq (b := 2) (by omega) (by omega)).mp w)) ?_
    by_cases g3 : k = 16
    · exact br_t (by rw [g3]; rfl) (fin y (by rw [if_pos (Or.inr (Or.inr g3))]))
    · exact br_f (fun w => g3 ((nI_eq (b := 16) (by omega) (by omega)).mp w)) (fin 0 (by rw [if_neg (fun w => w.elim g1 (fun w => w.elim g2 g3))]))
  · exact br_f q2 (hfull (Or.inr q2))
theorem ny_148 (post : Int32 → SY → Prop) (hc : c < 24) {k w : Nat} (hk : k ≤ 18) {x y z : Int32}
    (hp : post (nI c) ((nI (c + 1)), cs, sw, pp, pd, pe, (upd K c (nI k)), (upd ex c x), (upd ey c y), (upd ez c z), (upd W c (nI w)), (upd H c (if k = 2 then y else 0)), (upd nty c (if k = 2 then y else 0)), (upd fo c (-1)), va, (upd nx c (-1)), (upd en c (-1)), mem, nm, td, mt)) : wY_signal_148 post (nI k) x y z (nI w) (nI c) cs sw pp pd pe K ex ey ez W H nty fo va nx en mem nm td mt := by
  have x1 : vp_in (nI c) 24 := vp_in_nI (by omega) (by omega)
  have x2 : (nI c).toNatClampNeg = c := nI_clamp (by omega)
  have fin : ∀ fv, fv = (if k = 2 then y else 0) → wY_signal_218 post fv (nI c) (nI c) cs sw pp pd pe (upd K c (nI k)) (upd ex c x) (upd ey c y) (upd ez c z) (upd W c (nI w)) H nty fo va nx en mem nm td mt := fun fv e => by
    unfold wY_signal_218
    rw [x2, e]
    refine ⟨x1, nm_e ⟨x1, x1, ?_⟩⟩
    rw [pk_us]
    refine nm_e ⟨x1, nm_e ⟨x1, nm_e ⟨x1, nm_e (nm_r (nI_1 c) ?_)⟩⟩⟩
    rw [nI_pred]
    exact hp
  unfold wY_signal_148
  rw [x2]
  refine ⟨x1, nm_e ⟨x1, nm_e ⟨x1, nm_e ⟨x1, nm_e ⟨x1, nm_e ?_⟩⟩⟩⟩⟩
  by_cases g : k = 2
  · exact br_t (by rw [g]; rfl) (fin y (by rw [if_pos g]))
  · exact br_f (fun w => g ((nI_eq (b := 2) (by omega) (by omega)).mp w)) (fin 0 (by rw [if_neg g]))
theorem ny_86 (post : Int32 → SY → Prop) (hc : c < 24) {k w : Nat} (hk : k ≤ 18) {x y z co hz zz : Int32} (hh : (hz = 0 ∧ zz = 0) ∨ (hz = 1 ∧ zz = nI w)) (h60 : sw ≤ 60)
    (hfull : (220 < cs + co ∨ ¬ sw + zz ≤ 60) → post (-2) ((nI c), cs, sw, pp, pd, pe, K, ex, ey, ez, W, H, nty, fo, va, nx, en, mem, nm, td, mt))
    (hgo : ¬ 220 < cs + co → sw + zz ≤ 60 → post (nI c) ((nI (c + 1)), (cs + co), (sw + zz), pp, pd, pe, (upd K c (nI k)), (upd ex c x), (upd ey c y), (upd ez c z), (upd W c (nI w)), (upd H c (if k = 2 then y else 0)), (upd nty c (if k = 2 then y else 0)), (upd fo c (-1)), va, (upd nx c (-1)), (upd en c (-1)), mem, nm, td, mt)) :
    wY_signal_86 post (nI k) x y z (nI w) co hz (nI c) cs sw pp pd pe K ex ey ez W H nty fo va nx en mem nm td mt := by
  by_cases q1 : 220 < cs + co
  · exact br_t q1 (hfull (Or.inl q1))
  refine br_f q1 ?_
  rcases hh with ⟨rfl, rfl⟩ | ⟨rfl, rfl⟩
  · have e : sw + 0 = sw := Int32.add_zero sw
    rw [e] at hgo
    exact br_t rfl (nm_e (br_t rfl (ny_148 _ hc hk (hgo q1 h60))))
  · refine br_f (by decide) ?_
    by_cases q2 : sw + nI w ≤ 60
    · exact br_t q2 (nm_e (br_f (by decide) (nm_e (ny_148 _ hc hk (hgo q1 q2)))))
    · exact br_f q2 (hfull (Or.inr q2))
theorem nx_sig_t (post : Int32 → SX → Prop) (S : nb_S c K W ox oy oz nums rch D ex ey ez kd wd xo yo zo dp) (hc4 : c < 24) {k a b d w : Nat} (hk : k ≤ 18) {x y z : Int32} (q : nb_fq c wd k x y z a b d w) (w1 : 1 ≤ w) (w7 : w < 7)
    (h : wX_signal_84 post (nI k) x y z (nI w) (nb_co k w (wd a)) (if k = 0 ∨ k = 2 then nI w else 0) (nI c) cs sw pp pd pe K W ox oy oz nums rch D nx en fo H nt mem nm vals tr) : wpX_signal post ((nI c), cs, sw, pp, pd, pe, K, W, ox, oy, oz, nums, rch, D, nx, en, fo, H, nt, mem, nm, vals, tr) (nI k) x y z := by
  obtain ⟨hc, hK, hW, hx, hy, hz, hD, ok, ye, be, rq, dq⟩ := S
  have h7 : ∀ j, j < c → wd j < 7 := fun j hj => (ok j hj).2.2.1
  unfold wpX_signal
  refine br_t (nI_lt (b := 24) hc4 (by omega)) (br_f (nI_pos (by omega)) (br_t (nI_le (b := 18) hk (by omega)) ?_))
  refine nx_ft _ hk hc hW h7 q (br_f (by decide) ?_)
  refine nx_rw _ hk hc hW q ?_
  refine nx_iw_t _ w1 w7 (br_f (by decide) ?_)
  refine nx_co _ hk hc hW q ?_
  by_cases g0 : k = 0
  · rw [if_pos (Or.inl g0)] at h
    exact br_t (by rw [g0]; rfl) h
  · refine br_f (fun w => g0 ((nI_eq (b := 0) (by omega) (by omega)).mp w)) ?_
    by_cases g2 : k = 2
    · rw [if_pos (Or.inr g2)] at h
      exact br_t (by rw [g2]; rfl) h
    · rw [if_neg (fun w => w.elim g0 g2)] at h
      exact br_f (fun w => g2 ((nI_eq (b := 2) (by omega) (by omega)).mp w)) h
theorem nx_sig_f (post : Int32 → SX → Prop) (S : nb_S c K W ox oy oz nums rch D ex ey ez kd wd xo yo zo dp) (hc4 : c < 24) {k : Nat} (hk : k ≤ 18) {x y z : Int32} (hn : ¬ ∃ a b d w, nb_fq c wd k x y z a b d w ∧ w < 7)
    (h : post (-1) ((nI c), cs, sw, pp, pd, pe, K, W, ox, oy, oz, nums, rch, D, nx, en, fo, H, nt, mem, nm, vals, tr)) : wpX_signal post ((nI c), cs, sw, pp, pd, pe, K, W, ox, oy, oz, nums, rch, D, nx, en, fo, H, nt, mem, nm, vals, tr) (nI k) x y z := by
  obtain ⟨hc, hK, hW, hx, hy, hz, hD, ok, ye, be, rq, dq⟩ := S
  have h7 : ∀ j, j < c → wd j < 7 := fun j hj => (ok j hj).2.2.1
  unfold wpX_signal
  refine br_t (nI_lt (b := 24) hc4 (by omega)) (br_f (nI_pos (by omega)) (br_t (nI_le (b := 18) hk (by omega)) ?_))
  by_cases q : ∃ a b d w, nb_fq c wd k x y z a b d w
  · obtain ⟨a, b, d, w, q⟩ := q
    have w13 := nb_fq_w hk h7 q
    refine nx_ft _ hk hc hW h7 q (br_f (by decide) ?_)
    refine nx_rw _ hk hc hW q ?_
    refine nx_iw_f _ ?_ (br_t rfl h)
    rintro ⟨w', _, w7, e⟩
    have : w = w' := (nI_eq (by omega) (by omega)).mp e
    exact hn ⟨a, b, d, w, q, by omega⟩
  · exact nx_ff _ hk hc hW h7 q (br_t rfl h)
theorem ny_sig_t (post : Int32 → SY → Prop) (S : nb_S c K W ox oy oz nums rch D ex ey ez kd wd xo yo zo dp) (hc4 : c < 24) {k a b d w : Nat} (hk : k ≤ 18) {x y z : Int32} (q : nb_fq c wd k x y z a b d w) (w1 : 1 ≤ w) (w7 : w < 7)
    (h : wY_signal_86 post (nI k) x y z (nI w) (nb_co k w (wd a)) (if k = 0 ∨ k = 2 then 1 else 0) (nI c) cs sw pp pd pe K ex ey ez W H nty fo va nx en mem nm td mt) : wpY_signal post ((nI c), cs, sw, pp, pd, pe, K, ex, ey, ez, W, H, nty, fo, va, nx, en, mem, nm, td, mt) (nI k) x y z := by
  obtain ⟨hc, hK, hW, hx, hy, hz, hD, ok, ye, be, rq, dq⟩ := S
  have h7 : ∀ j, j < c → wd j < 7 := fun j hj => (ok j hj).2.2.1
  unfold wpY_signal
  refine br_f (fun w => absurd ((nI_eq (b := 24) (by omega) (by omega)).mp w) (by omega)) (br_f (nI_pos (by omega)) (br_f (nI_nlt (a := 18) hk (by omega)) ?_))
  have mid : wpY_widthOf (fun r_27 => (((r_27 < 1 → (post (-1) ((nI c), cs, sw, pp, pd, pe, K, ex, ey, ez, W, H, nty, fo, va, nx, en, mem, nm, td, mt))) ∧ (¬ r_27 < 1 → (((r_27 ≤ 6 → (wpY_costOf (fun r_51 => (((nI k = 0 → (wY_signal_81 post (nI k) x y z r_27 r_51 (nI c) cs sw pp pd pe K ex ey ez W H nty fo va nx en mem nm td mt)) ∧ (¬ nI k = 0 → (((nI k = 2 → (wY_signal_81 post (nI k) x y z r_27 r_51 (nI c) cs sw pp pd pe K ex ey ez W H nty fo va nx en mem nm td mt)) ∧ (¬ nI k = 2 → (wY_signal_86 post (nI k) x y z r_27 r_51 0 (nI c) cs sw pp pd pe K ex ey ez W H nty fo va nx en mem nm td mt)))))))) ((nI c), cs, sw, pp, pd, pe, K, ex, ey, ez, W, H, nty, fo, va, nx, en, mem, nm, td, mt) (nI k) x r_27)) ∧ (¬ r_27 ≤ 6 → (post (-1) ((nI c), cs, sw, pp, pd, pe, K, ex, ey, ez, W, H, nty, fo, va, nx, en, mem, nm, td, mt))))))))) ((nI c), cs, sw, pp, pd, pe, K, ex, ey, ez, W, H, nty, fo, va, nx, en, mem, nm, td, mt) (nI k) x y z := by
    refine ny_rw _ hk hc hW q ?_
    refine br_f (nI_nlt (b := 1) w1 (by omega)) (br_t (nI_le (b := 6) (by omega) (by omega)) ?_)
    refine ny_co _ hk hc hW q ?_
    by_cases g0 : k = 0
    · rw [if_pos (Or.inl g0)] at h
      exact br_t (by rw [g0]; rfl) h
    · refine br_f (fun w => g0 ((nI_eq (b := 0) (by omega) (by omega)).mp w)) ?_
      by_cases g2 : k = 2
      · rw [if_pos (Or.inr g2)] at h
        exact br_t (by rw [g2]; rfl) h
      · rw [if_neg (fun w => w.elim g0 g2)] at h
        exact br_f (fun w => g2 ((nI_eq (b := 2) (by omega) (by omega)).mp w)) h
  by_cases g0 : k = 0
  · exact br_t (by rw [g0]; rfl) (br_f (by decide) mid)
  · exact ny_ft _ hk g0 hc hW h7 q (br_f (by decide) mid)
theorem ny_sig_f (post : Int32 → SY → Prop) (S : nb_S c K W ox oy oz nums rch D ex ey ez kd wd xo yo zo dp) (hc4 : c < 24) {k : Nat} (hk : k ≤ 18) {x y z : Int32} (hn : ¬ ∃ a b d w, nb_fq c wd k x y z a b d w ∧ w < 7)
    (h : post (-1) ((nI c), cs, sw, pp, pd, pe, K, ex, ey, ez, W, H, nty, fo, va, nx, en, mem, nm, td, mt)) : wpY_signal post ((nI c), cs, sw, pp, pd, pe, K, ex, ey, ez, W, H, nty, fo, va, nx, en, mem, nm, td, mt) (nI k) x y z := by
  obtain ⟨hc, hK, hW, hx, hy, hz, hD, ok, ye, be, rq, dq⟩ := S
  have h7 : ∀ j, j < c → wd j < 7 := fun j hj => (ok j hj).2.2.1
  unfold wpY_signal
  refine br_f (fun w => absurd ((nI_eq (b := 24) (by omega) (by omega)).mp w) (by omega)) (br_f (nI_pos (by omega)) (br_f (nI_nlt (a := 18) hk (by omega)) ?_))
  by_cases g0 : k = 0
  · subst g0
    refine br_t rfl (br_f (by decide) ?_)
    refine br_f (by decide) ?_
    have hx0 : ¬ ∃ w, 1 ≤ w ∧ w < 7 ∧ x = nI w := fun ⟨w, w1, w7, e⟩ => hn ⟨0, 0, 0, w, ⟨⟨e, w1, w7⟩, rfl, rfl, rfl⟩, w7⟩
    rcases nb_nw hx0 with q | ⟨q, q6⟩
    · exact br_t q h
    · exact br_f q (br_f (Int32.not_le.mpr q6) h)
  · by_cases q : ∃ a b d w, nb_fq c wd k x y z a b d w
    · obtain ⟨a, b, d, w, q⟩ := q
      have w13 := nb_fq_w hk h7 q
      refine ny_ft _ hk g0 hc hW h7 q (br_f (by decide) ?_)
      refine ny_rw _ hk hc hW q ?_
      have w6 : ¬ w < 7 := fun w7 => hn ⟨a, b, d, w, q, w7⟩
      exact br_f (nI_nlt (b := 1) (by omega) (by omega)) (br_f (nI_ge (a := 6) (by omega) (by omega)) h)
    · exact ny_ff _ hk g0 hc hW h7 q (br_t rfl h)
theorem nb_S_new (S : nb_S c K W ox oy oz nums rch D ex ey ez kd wd xo yo zo dp) (hc : c < 24) {k a b d w : Nat} (hk : k ≤ 18) {x y z : Int32} (op : nb_ops c k x y z a b d w) (wf : nb_wf k w (wd a) (wd b) (wd d)) (w7 : w < 7)
    {ox' oy' oz' rch' D' : Nat → Int32} (s1 : ∀ j, ox' j = nI (nb_up xo c a j)) (s2 : ∀ j, oy' j = nI (nb_up yo c b j)) (s3 : ∀ j, oz' j = nI (nb_up zo c d j)) (s4 : ∀ j, j ≠ c → rch' j = rch j)
    (s5 : ∀ i, i < 24 → (bt (rch' c) i = true ↔ (i = c ∨ (3 ≤ k ∧ bt (rch a) i = true) ∨ ((4 ≤ k ∧ k ≤ 15) ∧ bt (rch b) i = true) ∨ (k = 12 ∧ bt (rch d) i = true))))
    (s6 : ∀ j, D' j = nI (nb_up dp c (nb_dv k (dp a) (dp b) (dp d)) j)) :
    nb_S (c + 1) (upd K c (nI k)) (upd W c (nI w)) ox' oy' oz' (upd nums c (if k = 1 ∨ k = 2 ∨ k = 16 then y else 0)) rch' D' (upd ex c x) (upd ey c y) (upd ez c z) (nb_up kd c k) (nb_up wd c w) (nb_up xo c a) (nb_up yo c b) (nb_up zo c d) (nb_up dp c (nb_dv k (dp a) (dp b) (dp d))) := by
  obtain ⟨_, hK, hW, hx, hy, hz, hD, ok, ye, be, rq, dq⟩ := S
  obtain ⟨oa, na, ob, nb, od, nd, w1, rn⟩ := op
  have la : 3 ≤ k → a < c := fun h => (oa h).1
  have lb : 3 ≤ k → b < c := fun h => by
    have := la h
    by_cases g : 4 ≤ k ∧ k ≤ 15
    · exact (ob g).1
    · rw [nb g]; omega
  have ld : 3 ≤ k → d < c := fun h => by
    have := la h
    by_cases g : k = 12
    · exact (od g).1
    · rw [nd g]; omega
  have lo : k < 3 → a = 0 ∧ b = 0 ∧ d = 0 := fun h => ⟨na h, nb (by omega), nd (by omega)⟩
  have alla : a ≤ c ∧ b ≤ c ∧ d ≤ c := by
    by_cases g : k < 3
    · obtain ⟨e1, e2, e3⟩ := lo g
      omega
    · have := la (by omega)
      have := lb (by omega)
      have := ld (by omega)
      omega
  refine ⟨by omega, nb_upI hK, nb_upI hW, s1, s2, s3, s6, ?_, ?_, ?_, ?_, ?_⟩
  · have new : nb_ok (nb_up kd c k) (nb_up wd c w) (nb_up xo c a) (nb_up yo c b) (nb_up zo c d) (upd nums c (if k = 1 ∨ k = 2 ∨ k = 16 then y else 0)) c := by
      unfold nb_ok
      rw [nb_ups, nb_ups, nb_ups, nb_ups, nb_ups, pk_us]
      refine ⟨hk, w1, w7, alla.1, alla.2.1, alla.2.2, la, fun h h' => (ob ⟨h, h'⟩).1, fun h => (od h).1, fun h => ?_, ?_⟩
      · rw [if_pos (h.elim Or.inl (fun h => Or.inr (Or.inl h)))]
        exact rn h
      · by_cases g : k < 3
        · exact nb_wf_lo g
        · have := la (by omega)
          have := lb (by omega)
          have := ld (by omega)
          rw [nb_upn (show a ≠ c by omega), nb_upn (show b ≠ c by omega), nb_upn (show d ≠ c by omega)]
          exact wf
    intro j hj
    by_cases e : j = c
    · rw [e]; exact new
    · have hjc : j < c := by omega
      have o := ok j hjc
      have o4 := o.2.2.2.1
      have o5 := o.2.2.2.2.1
      have o6 := o.2.2.2.2.2.1
      unfold nb_ok
      rw [nb_upn e, nb_upn e, nb_upn e, nb_upn e, nb_upn e, pk_un e, nb_upn (show xo j ≠ c by omega), nb_upn (show yo j ≠ c by omega), nb_upn (show zo j ≠ c by omega)]
      exact o
  · have new : nb_ye (nb_up kd c k) (nb_up xo c a) (nb_up yo c b) (nb_up zo c d) (upd nums c (if k = 1 ∨ k = 2 ∨ k = 16 then y else 0)) (upd ex c x) (upd ey c y) (upd ez c z) c := by
      unfold nb_ye
      rw [nb_ups, nb_ups, nb_ups, nb_ups, pk_us, pk_us, pk_us, pk_us]
      refine ⟨fun h => (oa h).2, fun h h' => (ob ⟨h, h'⟩).2, fun h => (od h).2, fun h => ?_⟩
      rw [if_pos h]
    intro j hj
    by_cases e : j = c
    · rw [e]; exact new
    · unfold nb_ye
      rw [nb_upn e, nb_upn e, nb_upn e, nb_upn e, pk_un e, pk_un e, pk_un e, pk_un e]
      exact ye j (by omega)
  · intro j hj
    have e : j ≠ c := by omega
    rw [nb_upn e, nb_upn e, nb_upn e, nb_upn e]
    exact be j (by omega)
  · have new : nb_rq (nb_up kd c k) (nb_up xo c a) (nb_up yo c b) (nb_up zo c d) rch' c := by
      intro i hi
      rw [nb_ups, nb_ups, nb_ups, nb_ups, s5 i hi]
      have pa : 3 ≤ k → rch' a = rch a := fun h => s4 a (by have := la h; omega)
      have pb : 4 ≤ k ∧ k ≤ 15 → rch' b = rch b := fun h => s4 b (by have := lb (by omega); omega)
      have pd : k = 12 → rch' d = rch d := fun h => s4 d (by have := ld (by omega); omega)
      constructor
      · rintro (h | ⟨g, h⟩ | ⟨g, h⟩ | ⟨g, h⟩)
        · exact Or.inl h
        · exact Or.inr (Or.inl ⟨g, by rw [pa g]; exact h⟩)
        · exact Or.inr (Or.inr (Or.inl ⟨g, by rw [pb g]; exact h⟩))
        · exact Or.inr (Or.inr (Or.inr ⟨g, by rw [pd g]; exact h⟩))
      · rintro (h | ⟨g, h⟩ | ⟨g, h⟩ | ⟨g, h⟩)
        · exact Or.inl h
        · rw [pa g] at h; exact Or.inr (Or.inl ⟨g, h⟩)
        · rw [pb g] at h; exact Or.inr (Or.inr (Or.inl ⟨g, h⟩))
        · rw [pd g] at h; exact Or.inr (Or.inr (Or.inr ⟨g, h⟩))
    intro j hj
    by_cases e : j = c
    · rw [e]; exact new
    · have hjc : j < c := by omega
      have o := ok j hjc
      have o4 := o.2.2.2.1
      have o5 := o.2.2.2.2.1
      have o6 := o.2.2.2.2.2.1
      unfold nb_rq
      rw [nb_upn e, nb_upn e, nb_upn e, nb_upn e, s4 j e, s4 (xo j) (by omega), s4 (yo j) (by omega), s4 (zo j) (by omega)]
      exact rq j hjc
  · have new : nb_dq (nb_up kd c k) (nb_up xo c a) (nb_up yo c b) (nb_up zo c d) (nb_up dp c (nb_dv k (dp a) (dp b) (dp d))) c := by
      unfold nb_dq
      rw [nb_ups, nb_ups, nb_ups, nb_ups, nb_ups]
      refine ⟨?_, ?_⟩
      · by_cases g : k < 3
        · unfold nb_dv
          rw [if_pos g, if_pos g]
        · have := la (by omega)
          have := lb (by omega)
          have := ld (by omega)
          rw [nb_upn (show a ≠ c by omega), nb_upn (show b ≠ c by omega), nb_upn (show d ≠ c by omega)]
      · exact nb_dv_le (fun h => by have := la h; have := (dq a (la h)).2; omega) (fun h => by have := lb h; have := (dq b (lb h)).2; omega) (fun h => by have := ld h; have := (dq d (ld h)).2; omega)
    intro j hj
    by_cases e : j = c
    · rw [e]; exact new
    · have hjc : j < c := by omega
      have o := ok j hjc
      have o4 := o.2.2.2.1
      have o5 := o.2.2.2.2.1
      have o6 := o.2.2.2.2.2.1
      unfold nb_dq
      rw [nb_upn e, nb_upn e, nb_upn e, nb_upn e, nb_upn e, nb_upn (show xo j ≠ c by omega), nb_upn (show yo j ≠ c by omega), nb_upn (show zo j ≠ c by omega)]
      exact dq j hjc
theorem nb_D_new (Dy : nb_D c kd wd pp pd pe nx en fo H nt nty mem nm) {k w : Nat} {y : Int32} (r : k = 2 → nb_R w y) :
    nb_D (c + 1) (nb_up kd c k) (nb_up wd c w) pp pd pe (upd nx c (-1)) (upd en c (-1)) (upd fo c (-1)) (upd H c (if k = 2 then y else 0)) (upd nt c (if k = 2 then y else 0)) (upd nty c (if k = 2 then y else 0)) mem nm := by
  obtain ⟨d1, d2, d3, d4, d5, d6, d7⟩ := Dy
  have rf : nb_R w (if k = 2 then y else 0) := by
    by_cases g : k = 2
    · rw [if_pos g]; exact r g
    · rw [if_neg g]; exact ⟨0, Nat.two_pow_pos w, rfl⟩
  refine ⟨fun j hj => ?_, fun j hj => ?_, fun j hj => ?_, fun j hj => ?_, d5, d6, ?_⟩
  · unfold nb_ne
    by_cases e : j = c
    · rw [e, pk_us, pk_us]
      exact ⟨Or.inl rfl, Or.inl rfl⟩
    · rw [pk_un e, pk_un e, nb_upn e]
      obtain ⟨n1, n2⟩ := d1 j (by omega)
      refine ⟨n1.elim Or.inl (fun ⟨t, ht, e1, e2⟩ => Or.inr ⟨t, by omega, e1, ?_⟩), n2.elim Or.inl (fun ⟨t, ht, e1⟩ => Or.inr ⟨t, by omega, e1⟩)⟩
      rw [nb_upn (by omega)]
      exact e2
  · by_cases e : j = c
    · rw [e, pk_us]; exact Or.inl rfl
    · rw [pk_un e, nb_upn e]; exact d2 j (by omega)
  · by_cases e : j = c
    · rw [e, pk_us, nb_ups]; exact rf
    · rw [pk_un e, nb_upn e]; exact d3 j (by omega)
  · by_cases e : j = c
    · rw [e, pk_us, pk_us, nb_ups, nb_ups]; exact fun _ => ⟨rfl, rf⟩
    · rw [pk_un e, pk_un e, nb_upn e, nb_upn e]; exact d4 j (by omega)
  · rcases d7 with h | ⟨p, d, e, h1, h2, h3, e1, e2, e3, w1, w2⟩
    · exact Or.inl h
    · refine Or.inr ⟨p, d, e, by omega, by omega, by omega, e1, e2, e3, ?_, ?_⟩
      · rw [nb_upn (by omega)]; exact w1
      · rw [nb_upn (by omega)]; exact w2
end
theorem i_vc_signal {k : Nat} {u : SX} {v : SY} (I : i_Rel k u v) (hk : k + 5 ≤ 2560) (v1 : Int32) (v2 : Int32) (v3 : Int32) (v4 : Int32) : wpX_signal (fun r u' => wpY_signal (fun r' v' => r' = r ∧ i_Rel (k + 5) u' v') v v1 v2 v3 v4) u v1 v2 v3 v4 := by
  obtain ⟨c, cs, sw, pp, pd, pe, K, W, ox, oy, oz, nums, rch, D, nx, en, fo, H, nt, mem, nm, vals, tr, ex, ey, ez, nty, va, td, mt, kd, wd, xo, yo, zo, dp, rfl, rfl, h1, S, Dy⟩ := I
  have same : i_Rel (k + 5) ((nI c), cs, sw, pp, pd, pe, K, W, ox, oy, oz, nums, rch, D, nx, en, fo, H, nt, mem, nm, vals, tr) ((nI c), cs, sw, pp, pd, pe, K, ex, ey, ez, W, H, nty, fo, va, nx, en, mem, nm, td, mt) := nb_rel h1 S Dy
  have hc := S.1
  have ok := S.2.2.2.2.2.2.2.1
  by_cases hc4 : c < 24
  · by_cases q0 : v1 < 0
    · exact br_t (nI_lt (b := 24) hc4 (by omega)) (br_t q0 (br_f (fun w => absurd ((nI_eq (b := 24) (by omega) (by omega)).mp w) (by omega)) (br_t q0 ⟨rfl, same⟩)))
    · by_cases q18 : v1 ≤ 18
      · obtain ⟨m, hm, rfl⟩ := nI_of q0
        have m18 : m ≤ 18 := (nI_leI (b := 18) hm (by omega)).mp q18
        by_cases q : ∃ a b d w, nb_fq c wd m v2 v3 v4 a b d w ∧ w < 7
        · obtain ⟨a, b, d, w, q, w7⟩ := q
          obtain ⟨op, wf⟩ := nb_fq_ops m18 (fun j hj => (ok j hj).2.1) q
          have w1 : 1 ≤ w := op.2.2.2.2.2.2.1
          have hh : ((if m = 0 ∨ m = 2 then (1 : Int32) else 0) = 0 ∧ (if m = 0 ∨ m = 2 then nI w else 0) = 0) ∨ ((if m = 0 ∨ m = 2 then (1 : Int32) else 0) = 1 ∧ (if m = 0 ∨ m = 2 then nI w else 0) = nI w) := by
            by_cases g : m = 0 ∨ m = 2
            · rw [if_pos g, if_pos g]; exact Or.inr ⟨rfl, rfl⟩
            · rw [if_neg g, if_neg g]; exact Or.inl ⟨rfl, rfl⟩
          refine nx_sig_t _ S hc4 m18 q w1 w7 (nx_84 _ S hc4 m18 op (fun hf => ?_) (fun q1 q2 ox' oy' oz' rch' D' s1 s2 s3 s4 s5 s6 => ?_))
          · exact ny_sig_t _ S hc4 m18 q w1 w7 (ny_86 _ hc4 m18 hh h1 (fun _ => ⟨rfl, same⟩) (fun q1 q2 => absurd hf (fun w => w.elim q1 (fun w => w q2))))
          · refine ny_sig_t _ S hc4 m18 q w1 w7 (ny_86 _ hc4 m18 hh h1 (fun hf => absurd hf (fun w => w.elim q1 (fun w => w q2))) (fun _ _ => ⟨rfl, ?_⟩))
            exact nb_rel (c := c + 1) q2 (nb_S_new S hc4 m18 op wf w7 s1 s2 s3 s4 s5 s6) (nb_D_new Dy (fun g => op.2.2.2.2.2.2.2 (Or.inr g)))
        · exact nx_sig_f _ S hc4 m18 q (ny_sig_f _ S hc4 m18 q ⟨rfl, same⟩)
      · exact br_t (nI_lt (b := 24) hc4 (by omega)) (br_f q0 (br_f q18 (br_f (fun w => absurd ((nI_eq (b := 24) (by omega) (by omega)).mp w) (by omega)) (br_f q0 (br_t (Int32.not_le.mp q18) ⟨rfl, same⟩)))))
  · have e : c = 24 := by omega
    subst e
    exact br_f (nI_nlt (b := 24) (by omega) (by omega)) (br_t rfl ⟨rfl, same⟩)
end
