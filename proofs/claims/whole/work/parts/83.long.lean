section LO
variable {l : Launch} {gC gR : jm_G} {d : Nat} {mu nu m n : jm_M} {v1 v2 v3 v4 v5 : Int} {Q : Option Value → jm_M → Prop}
/-- a long that holds a set of notes -/
def lgo (n : Nat) : Int64 := Int64.ofBitVec (BitVec.ofNat 64 n)
theorem lgo_e {x : Int64} {n : Nat} (hn : n < 2 ^ 64) (h : x.toBitVec.toNat = n) : x = lgo n := by
  apply Int64.toBitVec_inj.1
  apply BitVec.eq_of_toNat_eq
  rw [h]
  show n = (BitVec.ofNat 64 n).toNat
  rw [BitVec.toNat_ofNat, Nat.mod_eq_of_lt hn]
theorem lgo_t {n : Nat} (hn : n < 2 ^ 64) : (lgo n).toBitVec.toNat = n := by
  show (BitVec.ofNat 64 n).toNat = n
  rw [BitVec.toNat_ofNat, Nat.mod_eq_of_lt hn]
theorem lgo_and {a b : Nat} (ha : a < 2 ^ 64) (hb : b < 2 ^ 64) : lgo a &&& lgo b = lgo (a &&& b) := by
  refine lgo_e (Nat.lt_of_le_of_lt Nat.and_le_left ha) ?_
  have e : (lgo a &&& lgo b).toBitVec = (lgo a).toBitVec &&& (lgo b).toBitVec := rfl
  rw [e, BitVec.toNat_and, lgo_t ha, lgo_t hb]
theorem lgo_or {a b : Nat} (ha : a < 2 ^ 64) (hb : b < 2 ^ 64) : lgo a ||| lgo b = lgo (a ||| b) := by
  refine lgo_e (Nat.or_lt_two_pow ha hb) ?_
  have e : (lgo a ||| lgo b).toBitVec = (lgo a).toBitVec ||| (lgo b).toBitVec := rfl
  rw [e, BitVec.toNat_or, lgo_t ha, lgo_t hb]
theorem lgo_add {a b : Nat} (h : a + b < 2 ^ 64) : lgo a + lgo b = lgo (a + b) := by
  refine lgo_e h ?_
  have e : (lgo a + lgo b).toBitVec = (lgo a).toBitVec + (lgo b).toBitVec := rfl
  rw [e, BitVec.toNat_add, lgo_t (by omega), lgo_t (by omega), Nat.mod_eq_of_lt h]
theorem lgo_sub {a b : Nat} (ha : a < 2 ^ 64) (h : b ≤ a) : lgo a - lgo b = lgo (a - b) := by
  refine lgo_e (by omega) ?_
  have e : (lgo a - lgo b).toBitVec = (lgo a).toBitVec - (lgo b).toBitVec := rfl
  rw [e, BitVec.toNat_sub, lgo_t (by omega), lgo_t (by omega)]
  omega
theorem lgo_u {n s : Nat} {y : UInt64} (hn : n < 2 ^ 64) (hs : s < 64) (hy : y.toBitVec.toNat = s) : ((lgo n).toUInt64 >>> y).toInt64 = lgo (n / 2 ^ s) := by
  have le : n / 2 ^ s ≤ n := Nat.div_le_self _ _
  refine lgo_e (by omega) ?_
  have e : ((lgo n).toUInt64 >>> y).toInt64.toBitVec = (lgo n).toBitVec >>> (y.toBitVec % 64) := rfl
  have e2 : (y.toBitVec % 64).toNat = s := by
    rw [BitVec.toNat_umod, hy]
    exact Nat.mod_eq_of_lt hs
  rw [e, BitVec.ushiftRight_eq', BitVec.toNat_ushiftRight, lgo_t hn, e2, Nat.shiftRight_eq_div_pow]
theorem lgo_z {k : Nat} (hk : k < 2 ^ 63) : (Int32.toInt (lg_cmp (lgo k) (0 : Int64))) = 0 ↔ k = 0 := by
  constructor
  · intro h
    apply Decidable.byContradiction
    intro q
    have ne : ¬ lgo k = 0 := by
      intro r
      have := congrArg (fun x : Int64 => x.toBitVec.toNat) r
      simp only [lgo_t (show k < 2 ^ 64 by omega)] at this
      exact q this
    unfold lg_cmp at h
    split at h
    · exact absurd h (by decide)
    · exact absurd h (by decide)
  · intro h
    subst h
    decide
theorem lgo_s : ∀ b : Fin 62, (1 : Int64) <<< ((Int32.ofInt ((b.val : Nat) : Int)).toInt64 &&& 63) = lgo (2 ^ b.val) := by decide +kernel
theorem lgo_r : ∀ b : Fin 62, (((Int32.ofInt ((b.val : Nat) : Int)).toInt64 &&& 63).toBitVec.smod 64).toNat = b.val := by decide +kernel
theorem lgo_h {n b : Nat} (hn : n < 2 ^ 63) (hb : b < 62) : (Int32.toInt (lg_cmp ((lgo n >>> ((Int32.ofInt (b : Int)).toInt64 &&& 63)) &&& (1 : Int64)) (0 : Int64))) = 0 ↔ n.testBit b = false := by
  have e : (lgo n >>> ((Int32.ofInt (b : Int)).toInt64 &&& 63)) &&& (1 : Int64) = lgo (n / 2 ^ b % 2) := by
    have lt : n / 2 ^ b % 2 < 2 := Nat.mod_lt _ (by decide)
    refine lgo_e (by omega) ?_
    have e : ((lgo n >>> ((Int32.ofInt (b : Int)).toInt64 &&& 63)) &&& (1 : Int64)).toBitVec = (lgo n).toBitVec.sshiftRight (((Int32.ofInt (b : Int)).toInt64 &&& 63).toBitVec.smod 64).toNat &&& 1#64 := rfl
    have ms : (lgo n).toBitVec.msb = false := by
      rw [BitVec.msb_eq_false_iff_two_mul_lt, lgo_t (by omega)]
      omega
    rw [e, lgo_r ⟨b, hb⟩, BitVec.sshiftRight_eq_of_msb_false ms, BitVec.toNat_and, BitVec.toNat_ushiftRight, lgo_t (by omega), Nat.shiftRight_eq_div_pow]
    show n / 2 ^ b &&& 1 = _
    rw [Nat.and_one_is_mod]
  have lt : n / 2 ^ b % 2 < 2 := Nat.mod_lt _ (by decide)
  rw [e, lgo_z (by omega), Nat.testBit_eq_decide_div_mod_eq]
  constructor
  · intro h
    rw [h]
    decide
  · intro h
    have := of_decide_eq_false h
    omega
/-- numbers of bytes -/
def VB : List Nat → Nat
  | [] => 0
  | c :: cs => c + 256 * VB cs
def MB (k : Nat) : Nat → Nat
  | 0 => 0
  | n + 1 => k + 256 * MB k n
theorem and_sp (k : Nat) {x c : Nat} (hx : x < 2 ^ k) (hc : c < 2 ^ k) (y e : Nat) : (x + 2 ^ k * y) &&& (c + 2 ^ k * e) = (x &&& c) + 2 ^ k * (y &&& e) := by
  have p : 0 < 2 ^ k := Nat.pow_pos (by decide)
  have h := Nat.div_add_mod ((x + 2 ^ k * y) &&& (c + 2 ^ k * e)) (2 ^ k)
  rw [Nat.and_div_two_pow, Nat.and_mod_two_pow, Nat.add_mul_div_left _ _ p, Nat.add_mul_div_left _ _ p, Nat.add_mul_mod_self_left, Nat.add_mul_mod_self_left, Nat.div_eq_of_lt hx, Nat.div_eq_of_lt hc, Nat.mod_eq_of_lt hx, Nat.mod_eq_of_lt hc, Nat.zero_add, Nat.zero_add] at h
  rw [← h, Nat.add_comm]
theorem VB_sa {s t k : Nat} (e : 2 ^ s * 2 ^ t = 256) (hk : k < 2 ^ t) : ∀ cs : List Nat, (∀ c ∈ cs, c < 256) → (VB cs / 2 ^ s) &&& MB k cs.length = VB (cs.map (fun c => (c / 2 ^ s) &&& k))
  | [], _ => by
    show (0 / 2 ^ s) &&& 0 = 0
    rw [Nat.and_zero]
  | c :: cs, h => by
    have ih := VB_sa e hk cs (fun x hx => h x (List.mem_cons_of_mem _ hx))
    have c1 : c < 2 ^ s * 2 ^ t := by rw [e]; exact h c List.mem_cons_self
    have p : 0 < 2 ^ s := Nat.pow_pos (by decide)
    have lt : c / 2 ^ s < 2 ^ t := Nat.div_lt_of_lt_mul c1
    show (c + 256 * VB cs) / 2 ^ s &&& (k + 256 * MB k cs.length) = (c / 2 ^ s &&& k) + 256 * VB (cs.map (fun c => (c / 2 ^ s) &&& k))
    have a1 : (c + 256 * VB cs) / 2 ^ s = c / 2 ^ s + 2 ^ t * VB cs := by
      rw [← e, Nat.mul_assoc, Nat.add_mul_div_left _ _ p]
    have a2 : k + 256 * MB k cs.length = k + 2 ^ t * (2 ^ s * MB k cs.length) := by
      rw [← e, Nat.mul_comm (2 ^ s), Nat.mul_assoc]
    have a3 : VB cs &&& 2 ^ s * MB k cs.length = 2 ^ s * (VB cs / 2 ^ s &&& MB k cs.length) := by
      have q := and_sp s (x := VB cs % 2 ^ s) (c := 0) (Nat.mod_lt _ p) p (VB cs / 2 ^ s) (MB k cs.length)
      rw [Nat.mod_add_div, Nat.zero_add, Nat.and_zero, Nat.zero_add] at q
      exact q
    rw [a1, a2, and_sp t lt hk, a3, ih, ← Nat.mul_assoc, Nat.mul_comm (2 ^ t), e]
theorem VB_ad (f g : Nat → Nat) : ∀ cs : List Nat, VB (cs.map f) + VB (cs.map g) = VB (cs.map (fun c => f c + g c))
  | [] => rfl
  | c :: cs => by
    have ih := VB_ad f g cs
    show f c + 256 * VB (cs.map f) + (g c + 256 * VB (cs.map g)) = f c + g c + 256 * VB (cs.map (fun c => f c + g c))
    omega
theorem VB_su (f : Nat → Nat) : ∀ cs : List Nat, (∀ c ∈ cs, f c ≤ c) → VB (cs.map (fun c => c - f c)) + VB (cs.map f) = VB cs
  | [], _ => rfl
  | c :: cs, h => by
    have ih := VB_su f cs (fun x hx => h x (List.mem_cons_of_mem _ hx))
    have hc := h c List.mem_cons_self
    show c - f c + 256 * VB (cs.map (fun c => c - f c)) + (f c + 256 * VB (cs.map f)) = c + 256 * VB cs
    omega
theorem VB_16 : ∀ ds : List Nat, (∀ c ∈ ds, c % 16 ≤ 4 ∧ c / 16 ≤ 4) → VB ds % 16 ≤ 4
  | [], _ => by decide
  | c :: cs, h => by
    have hc := h c List.mem_cons_self
    show (c + 256 * VB cs) % 16 ≤ 4
    omega
theorem VB_t3 : ∀ ds : List Nat, (∀ c ∈ ds, c % 16 ≤ 4 ∧ c / 16 ≤ 4) → (VB ds + VB ds / 16) &&& MB 15 ds.length = VB (ds.map (fun c => c % 16 + c / 16))
  | [], _ => by decide
  | c :: cs, h => by
    have ih := VB_t3 cs (fun x hx => h x (List.mem_cons_of_mem _ hx))
    have hc := h c List.mem_cons_self
    have h16 := VB_16 cs (fun x hx => h x (List.mem_cons_of_mem _ hx))
    show (c + 256 * VB cs + (c + 256 * VB cs) / 16) &&& (15 + 256 * MB 15 cs.length) = c % 16 + c / 16 + 256 * VB (cs.map (fun c => c % 16 + c / 16))
    have a1 : c + 256 * VB cs + (c + 256 * VB cs) / 16 = (c + c / 16 + 16 * (VB cs % 16)) + 2 ^ 8 * (VB cs + VB cs / 16) := by
      show _ = (c + c / 16 + 16 * (VB cs % 16)) + 256 * (VB cs + VB cs / 16)
      omega
    have sp := and_sp 8 (x := c + c / 16 + 16 * (VB cs % 16)) (c := 15) (by show _ < 256; omega) (by decide) (VB cs + VB cs / 16) (MB 15 cs.length)
    have a2 : (c + c / 16 + 16 * (VB cs % 16)) &&& 15 = c % 16 + c / 16 := by
      have := Nat.and_two_pow_sub_one_eq_mod (c + c / 16 + 16 * (VB cs % 16)) 4
      rw [show (2 : Nat) ^ 4 - 1 = 15 by decide] at this
      rw [this]
      show _ % 16 = _
      omega
    rw [a1]
    rw [a2, ih] at sp
    exact sp
def by1 (c : Nat) : Nat := c - ((c / 2 ^ 1) &&& 85)
def by2 (c : Nat) : Nat := ((c / 2 ^ 0) &&& 51) + ((c / 2 ^ 2) &&& 51)
def by3 (c : Nat) : Nat := c % 16 + c / 16
theorem by_e : ∀ c : Fin 256, ((c.val / 2 ^ 1) &&& 85 ≤ c.val ∧ by1 c.val < 256 ∧ by2 (by1 c.val) % 16 ≤ 4 ∧ by2 (by1 c.val) / 16 ≤ 4) ∧ ((by3 (by2 (by1 c.val)) : Nat) : Int) = cnt (fun z => c.val.testBit z) 8 := by decide +kernel
def byt (n : Nat) : List Nat := [n % 256, n / 256 % 256, n / 65536 % 256, n / 16777216 % 256, n / 4294967296 % 256, n / 1099511627776 % 256, n / 281474976710656 % 256, n / 72057594037927936 % 256]
theorem VB_byt {n : Nat} (h : n < 2 ^ 64) : VB (byt n) = n := by
  unfold byt
  simp only [VB]
  omega
theorem byt_lt {n : Nat} : ∀ c ∈ byt n, c < 256 := by
  intro c hc
  simp only [byt, List.mem_cons, List.not_mem_nil, or_false] at hc
  omega
theorem sN_sp (h : Nat → Int) (a : Nat) : ∀ b : Nat, sN h (a + b) = sN h a + sN (fun i => h (a + i)) b
  | 0 => (Int.add_zero _).symm
  | b + 1 => by
    show sN h (a + b) + h (a + b) = sN h a + (sN (fun i => h (a + i)) b + h (a + b))
    rw [sN_sp h a b]
    omega
theorem cnt_by {n k q : Nat} (hq : q = 2 ^ k) : cnt (fun z => (n / q % 256).testBit z) 8 = sN (fun i => if n.testBit (k + i) = true then 1 else 0) 8 := by
  subst hq
  refine sN_eq 8 (fun i hi => ?_)
  show (if (n / 2 ^ k % 2 ^ 8).testBit i = true then (1 : Int) else 0) = _
  rw [Nat.testBit_mod_two_pow, Nat.testBit_div_two_pow, Nat.add_comm i k]
  simp [hi]
theorem cnt_64 (n : Nat) : cnt (fun z => n.testBit z) 64 = cnt (fun z => (n % 256).testBit z) 8 + cnt (fun z => (n / 256 % 256).testBit z) 8 + cnt (fun z => (n / 65536 % 256).testBit z) 8 + cnt (fun z => (n / 16777216 % 256).testBit z) 8 + cnt (fun z => (n / 4294967296 % 256).testBit z) 8 + cnt (fun z => (n / 1099511627776 % 256).testBit z) 8 + cnt (fun z => (n / 281474976710656 % 256).testBit z) 8 + cnt (fun z => (n / 72057594037927936 % 256).testBit z) 8 := by
  rw [cnt_by (k := 8) (by decide), cnt_by (k := 16) (by decide), cnt_by (k := 24) (by decide), cnt_by (k := 32) (by decide), cnt_by (k := 40) (by decide), cnt_by (k := 48) (by decide), cnt_by (k := 56) (by decide)]
  have c0 : cnt (fun z => (n % 256).testBit z) 8 = sN (fun i => if n.testBit (0 + i) = true then 1 else 0) 8 := by
    have := cnt_by (n := n) (k := 0) (q := 1) (by decide)
    rwa [Nat.div_one] at this
  rw [c0]
  show sN (fun w => if n.testBit w = true then 1 else 0) (0 + 8 + 8 + 8 + 8 + 8 + 8 + 8 + 8) = _
  simp only [sN_sp]
  show (0 : Int) + _ + _ + _ + _ + _ + _ + _ + _ = _
  rw [Int.zero_add]
theorem pop_n {n : Nat} (hn : n < 2 ^ 63) : ∃ x3 e0 e1 e2 e3 e4 e5 e6 e7 : Nat, (let x1 := n - ((n / 2 ^ 1) &&& 6148914691236517205); let x2 := (x1 &&& 3689348814741910323) + ((x1 / 2 ^ 2) &&& 3689348814741910323); x3 = (x2 + x2 / 2 ^ 4) &&& 1085102592571150095 ∧ (n / 2 ^ 1) &&& 6148914691236517205 ≤ n ∧ x2 < 2 ^ 63 ∧ x2 + x2 / 2 ^ 4 < 2 ^ 64) ∧ x3 = e0 + 256 * (e1 + 256 * (e2 + 256 * (e3 + 256 * (e4 + 256 * (e5 + 256 * (e6 + 256 * e7)))))) ∧ (e0 ≤ 8 ∧ e1 ≤ 8 ∧ e2 ≤ 8 ∧ e3 ≤ 8 ∧ e4 ≤ 8 ∧ e5 ≤ 8 ∧ e6 ≤ 8 ∧ e7 ≤ 8) ∧ ((e0 + e1 + e2 + e3 + e4 + e5 + e6 + e7 : Nat) : Int) = cnt (fun z => n.testBit z) 64 := by
  have hb := byt_lt (n := n)
  have b3 : ∀ c, c < 256 → by3 (by2 (by1 c)) ≤ 8 := fun c h => by
    have := (by_e ⟨c, h⟩).1.2.2
    show by2 (by1 c) % 16 + by2 (by1 c) / 16 ≤ 8
    have q : by2 (by1 c) % 16 ≤ 4 ∧ by2 (by1 c) / 16 ≤ 4 := this
    omega
  have s1 := VB_sa (s := 1) (t := 7) (k := 85) (by decide) (by decide) (byt n) hb
  have l1 : (n / 2 ^ 1) &&& 6148914691236517205 = VB ((byt n).map (fun c => (c / 2 ^ 1) &&& 85)) := by
    rw [← s1, VB_byt (by omega)]
    rfl
  have s2 := VB_su (fun c => (c / 2 ^ 1) &&& 85) (byt n) (fun c hc => (by_e ⟨c, hb c hc⟩).1.1)
  rw [VB_byt (by omega), ← l1] at s2
  have x1e : n - ((n / 2 ^ 1) &&& 6148914691236517205) = VB ((byt n).map by1) := by
    have : VB ((byt n).map by1) = VB ((byt n).map (fun c => c - ((c / 2 ^ 1) &&& 85))) := rfl
    omega
  have hb1 : ∀ c ∈ (byt n).map by1, c < 256 := by
    intro c hc
    obtain ⟨a, ha, e⟩ := List.mem_map.1 hc
    rw [← e]
    exact (by_e ⟨a, hb a ha⟩).1.2.1
  have s3 := VB_sa (s := 0) (t := 8) (k := 51) (by decide) (by decide) ((byt n).map by1) hb1
  have s4 := VB_sa (s := 2) (t := 6) (k := 51) (by decide) (by decide) ((byt n).map by1) hb1
  have x2e : (VB ((byt n).map by1) &&& 3689348814741910323) + ((VB ((byt n).map by1) / 2 ^ 2) &&& 3689348814741910323) = VB (((byt n).map by1).map by2) := by
    rw [show VB (((byt n).map by1).map by2) = VB (((byt n).map by1).map (fun c => ((c / 2 ^ 0) &&& 51) + ((c / 2 ^ 2) &&& 51))) from rfl, ← VB_ad, ← s3, ← s4, Nat.pow_zero, Nat.div_one]
    rfl
  have hb2 : ∀ c ∈ ((byt n).map by1).map by2, c % 16 ≤ 4 ∧ c / 16 ≤ 4 := by
    intro c hc
    obtain ⟨a, ha, e⟩ := List.mem_map.1 hc
    obtain ⟨b, hb', e'⟩ := List.mem_map.1 ha
    rw [← e, ← e']
    exact (by_e ⟨b, hb b hb'⟩).1.2.2
  have s5 := VB_t3 _ hb2
  have x2l : VB (((byt n).map by1).map by2) < 2 ^ 63 := by
    have q : ∀ c ∈ ((byt n).map by1).map by2, c ≤ 68 := fun c hc => by
      have := hb2 c hc
      omega
    unfold byt at q ⊢
    simp only [List.map_cons, List.map_nil, List.mem_cons, List.not_mem_nil, or_false, forall_eq_or_imp, forall_eq] at q
    simp only [List.map_cons, List.map_nil, VB]
    omega
  refine ⟨VB ((((byt n).map by1).map by2).map by3), by3 (by2 (by1 (n % 256))), by3 (by2 (by1 (n / 256 % 256))), by3 (by2 (by1 (n / 65536 % 256))), by3 (by2 (by1 (n / 16777216 % 256))), by3 (by2 (by1 (n / 4294967296 % 256))), by3 (by2 (by1 (n / 1099511627776 % 256))), by3 (by2 (by1 (n / 281474976710656 % 256))), by3 (by2 (by1 (n / 72057594037927936 % 256))), ?_, ?_, ?_, ?_⟩
  · simp only []
    rw [x1e, x2e]
    refine ⟨?_, by omega, x2l, by omega⟩
    rw [show VB ((((byt n).map by1).map by2).map by3) = VB ((((byt n).map by1).map by2).map (fun c => c % 16 + c / 16)) from rfl, ← s5]
    rfl
  · rfl
  · exact ⟨b3 _ (by omega), b3 _ (by omega), b3 _ (by omega), b3 _ (by omega), b3 _ (by omega), b3 _ (by omega), b3 _ (by omega), b3 _ (by omega)⟩
  · have q : ∀ c, c < 256 → ((by3 (by2 (by1 c)) : Nat) : Int) = cnt (fun z => c.testBit z) 8 := fun c h => (by_e ⟨c, h⟩).2
    rw [cnt_64, ← q _ (by omega), ← q _ (by omega), ← q _ (by omega), ← q _ (by omega), ← q _ (by omega), ← q _ (by omega), ← q _ (by omega), ← q _ (by omega)]
    omega
end LO
