section IV
/-- a deed of the plan: the class's kind, who, fact, key against the reference's -/
def jm_deed (k a b c rk ra rb rc W : Int) : Prop := (k = 3 ∧ rk = 2) ∨ (k = 1 ∧ rk = 1 ∧ 0 ≤ a ∧ a < W ∧ ra = a) ∨ (k = 0 ∧ rk = 0 ∧ 0 ≤ a ∧ a < W ∧ ra = a ∧ 0 ≤ b ∧ b ≤ 5 ∧ rb = b ∧ 0 ≤ c ∧ c ≤ 59 ∧ rc = c)
/-- an order of the class against the reference's codes; n: how many codes -/
def jm_ord (k a : Int) (op arg : Int → Int) (p n : Int) : Prop := (k = 0 ∧ n = 1 ∧ op p = 0 ∧ arg p = a ∧ 0 ≤ a ∧ a ≤ 9999) ∨ (k = 1 ∧ n = 1 ∧ op p = 1 ∧ arg p = a ∧ 0 ≤ a ∧ a ≤ 10) ∨ (k = 2 ∧ n = 2 ∧ op p = 0 ∧ arg p = a ∧ 1 ≤ a ∧ a ≤ 9999 ∧ op (p + 1) = 5) ∨ (k = 3 ∧ n = 1 ∧ op p = 9) ∨ (k = 4 ∧ n = 1 ∧ op p = 4) ∨ (k = 5 ∧ n = 1 ∧ op p = 2) ∨ (k = 6 ∧ n = 1 ∧ op p = 3) ∨ (k = 7 ∧ n = 1 ∧ op p = 6) ∨ (k = 8 ∧ n = 1 ∧ op p = 7) ∨ (k = 9 ∧ n = 1 ∧ op p = 8) ∨ (k = 10 ∧ n = 1 ∧ op p = 10) ∨ (k = 11 ∧ n = 1 ∧ op p = 11)
/-- how an order changes the kinds of what lies on the stack (true: a test's 0 or 1) -/
def jm_typ (k : Int) (s t : List Bool) : Prop := ((k = 0 ∨ k = 1) ∧ t = false :: s) ∨ (k = 2 ∧ ∃ r, s = false :: r ∧ t = s) ∨ (k = 3 ∧ ∃ r, s = true :: r ∧ t = s) ∨ ((k = 4 ∨ k = 5 ∨ k = 6) ∧ ∃ r, s = false :: false :: r ∧ t = false :: r) ∨ ((k = 7 ∨ k = 8 ∨ k = 9) ∧ ∃ r, s = false :: false :: r ∧ t = true :: r) ∨ ((k = 10 ∨ k = 11) ∧ ∃ r, s = true :: true :: r ∧ t = true :: r)
/-- a stretch of orders that leaves one value of kind b -/
def jm_seg (ord : Int → Int) (a e : Int) (b : Bool) : Prop := ∃ s : Int → List Bool, s a = [] ∧ s e = [b] ∧ ∀ i, a ≤ i → i < e → jm_typ (ord i / 16384) (s i) (s (i + 1)) ∧ (s i).length ≤ 40
def jm_law (ll n : Int) (ord wo st co en lw lf lwh lt op arg : Int → Int) : Prop := (0 ≤ n ∧ n ≤ 400) ∧ ∃ p : Int → Int, p 0 = 0 ∧ p n ≤ 400 ∧ (∀ i, 0 ≤ i → i < n → 0 ≤ ord i ∧ jm_ord (ord i / 16384) (ord i % 16384) op arg (p i) (p (i + 1) - p i))
  ∧ ∀ l, 0 ≤ l → l < ll → 0 ≤ wo l ∧ wo l ≤ 2 ∧ lw l = wo l ∧ 0 ≤ st l ∧ st l ≤ co l ∧ co l ≤ en l ∧ en l ≤ n ∧ lf l = p (st l) ∧ lwh l = p (co l) ∧ lt l = p (en l) ∧ jm_seg ord (st l) (co l) false ∧ (co l = en l ∨ jm_seg ord (co l) (en l) true)
def IA (mu nu : jm_M) : Prop := (0 ≤ mu.1 6 0 ∧ mu.1 6 0 ≤ 8 ∧ nu.1 0 4 = mu.1 6 0)
  ∧ (∀ w, 0 ≤ w → w < mu.1 6 0 → 1 ≤ mu.1 7 w ∧ mu.1 7 w ≤ mu.1 8 w ∧ mu.1 8 w ≤ 60 ∧ 1 ≤ mu.1 9 w ∧ mu.1 9 w ≤ 9 ∧ nu.1 3 w = mu.1 7 w ∧ nu.1 4 w = mu.1 8 w ∧ nu.1 5 w = mu.1 9 w)
  ∧ (∀ k, 0 ≤ k → k < 6 * mu.1 6 0 → -1 ≤ mu.1 10 k ∧ mu.1 10 k ≤ 3 ∧ nu.1 6 k = mu.1 10 k + 1)
  ∧ (0 ≤ mu.1 6 5 ∧ mu.1 6 5 ≤ 4095 ∧ nu.1 0 9 = jm_xor (mu.1 6 5) 953)
  ∧ (1 ≤ mu.1 6 6 ∧ mu.1 6 6 ≤ 999 ∧ nu.1 0 10 = mu.1 6 6 - 10)
  ∧ (0 ≤ mu.1 6 7 ∧ mu.1 6 7 ≤ 9 ∧ nu.1 0 11 = mu.1 6 7 - 1)
  ∧ (0 ≤ mu.1 6 8 ∧ mu.1 6 8 ≤ 12 ∧ nu.1 0 52 = mu.1 6 8)
  ∧ (∀ k, 0 ≤ k → k < mu.1 6 8 → 1 ≤ mu.1 11 k ∧ mu.1 11 k ≤ 60 ∧ nu.1 28 k = mu.1 11 k)
def IM (mu nu : jm_M) : Prop := (0 ≤ mu.1 12 0 ∧ mu.1 12 0 ≤ 16 ∧ nu.1 0 35 = mu.1 12 0)
  ∧ (∀ k, 0 ≤ k → k < 24 → 0 ≤ mu.1 13 k ∧ mu.1 13 k ≤ 8 ∧ nu.1 17 (8 * k) = mu.1 13 k)
  ∧ (∀ k i, 0 ≤ k → k < 24 → 0 ≤ i → i < mu.1 13 k - 1 → -24 ≤ mu.1 14 (k * 7 + i) ∧ mu.1 14 (k * 7 + i) ≤ 24 ∧ nu.1 17 (8 * k + 1 + i) = mu.1 14 (k * 7 + i))
def IP (mu nu : jm_M) : Prop := (0 ≤ mu.1 22 0 ∧ mu.1 22 0 ≤ 60 ∧ nu.1 0 39 = mu.1 22 0)
  ∧ (∀ k, 0 ≤ k → k < mu.1 22 0 → jm_deed (mu.1 23 k) (mu.1 24 k) (mu.1 25 k) (mu.1 26 k) (nu.1 19 (4 * k)) (nu.1 19 (4 * k + 1)) (nu.1 19 (4 * k + 2)) (nu.1 19 (4 * k + 3)) (mu.1 6 0))
def IL (mu nu : jm_M) : Prop := (0 ≤ mu.1 15 0 ∧ mu.1 15 0 ≤ 16 ∧ nu.1 9 1 = mu.1 15 0)
  ∧ jm_law (mu.1 15 0) (mu.1 15 1) (mu.1 16) (mu.1 17) (mu.1 18) (mu.1 19) (mu.1 20) (fun i => nu.1 10 (16 + i)) (fun i => nu.1 11 (16 + i)) (fun i => nu.1 12 (16 + i)) (fun i => nu.1 13 (16 + i)) (fun i => nu.1 14 (400 + i)) (fun i => nu.1 15 (400 + i))
def IAi (mu nu : jm_M) : Prop := (0 ≤ mu.1 64 0 ∧ mu.1 64 0 ≤ 8 ∧ nu.1 30 22 = mu.1 64 0)
  ∧ (∀ w, 0 ≤ w → w < mu.1 64 0 → 1 ≤ mu.1 65 w ∧ mu.1 65 w ≤ mu.1 66 w ∧ mu.1 66 w ≤ 60 ∧ 1 ≤ mu.1 67 w ∧ mu.1 67 w ≤ 9 ∧ nu.1 30 (29 + 3 * w) = mu.1 65 w ∧ nu.1 30 (30 + 3 * w) = mu.1 66 w ∧ nu.1 30 (31 + 3 * w) = mu.1 67 w)
  ∧ (∀ k, 0 ≤ k → k < 6 * mu.1 64 0 → -1 ≤ mu.1 68 k ∧ mu.1 68 k ≤ 3 ∧ nu.1 30 (53 + k) = mu.1 68 k + 1)
  ∧ (0 ≤ mu.1 64 5 ∧ mu.1 64 5 ≤ 4095 ∧ nu.1 30 23 = jm_xor (mu.1 64 5) 953)
  ∧ (1 ≤ mu.1 64 6 ∧ mu.1 64 6 ≤ 999 ∧ nu.1 30 24 = mu.1 64 6 - 10)
  ∧ (0 ≤ mu.1 64 7 ∧ mu.1 64 7 ≤ 9 ∧ nu.1 30 25 = mu.1 64 7 - 1)
  ∧ (0 ≤ mu.1 64 8 ∧ mu.1 64 8 ≤ 12 ∧ nu.1 30 28 = mu.1 64 8)
  ∧ (∀ k, 0 ≤ k → k < mu.1 64 8 → 1 ≤ mu.1 69 k ∧ mu.1 69 k ≤ 60 ∧ nu.1 30 (101 + k) = mu.1 69 k)
def IMi (mu nu : jm_M) : Prop := (0 ≤ mu.1 70 0 ∧ mu.1 70 0 ≤ 16 ∧ nu.1 30 26 = mu.1 70 0)
  ∧ (∀ k, 0 ≤ k → k < 24 → 0 ≤ mu.1 71 k ∧ mu.1 71 k ≤ 8 ∧ nu.1 30 (113 + (8 * k)) = mu.1 71 k)
  ∧ (∀ k i, 0 ≤ k → k < 24 → 0 ≤ i → i < mu.1 71 k - 1 → -24 ≤ mu.1 72 (k * 7 + i) ∧ mu.1 72 (k * 7 + i) ≤ 24 ∧ nu.1 30 (113 + (8 * k + 1 + i)) = mu.1 72 (k * 7 + i))
def IPi (mu nu : jm_M) : Prop := (0 ≤ mu.1 80 0 ∧ mu.1 80 0 ≤ 60 ∧ nu.1 30 27 = mu.1 80 0)
  ∧ (∀ k, 0 ≤ k → k < mu.1 80 0 → jm_deed (mu.1 81 k) (mu.1 82 k) (mu.1 83 k) (mu.1 84 k) (nu.1 30 (305 + (4 * k))) (nu.1 30 (305 + (4 * k + 1))) (nu.1 30 (305 + (4 * k + 2))) (nu.1 30 (305 + (4 * k + 3))) (mu.1 64 0))
def ILi (mu nu : jm_M) : Prop := (0 ≤ mu.1 73 0 ∧ mu.1 73 0 ≤ 16 ∧ nu.1 30 1465 = mu.1 73 0)
  ∧ jm_law (mu.1 73 0) (mu.1 73 1) (mu.1 74) (mu.1 75) (mu.1 76) (mu.1 77) (mu.1 78) (fun i => nu.1 30 (1466 + 4 * i)) (fun i => nu.1 30 (1467 + 4 * i)) (fun i => nu.1 30 (1468 + 4 * i)) (fun i => nu.1 30 (1469 + 4 * i)) (fun i => nu.1 30 (1530 + 2 * i)) (fun i => nu.1 30 (1531 + 2 * i))
/-- a court of the class at cell c against a row of the reference and its testimonies, record, book; W witnesses -/
def jm_crt (mu : jm_M) (c : Nat) (row tes rec bk : Int → Int) (W : Int) : Prop := (0 ≤ mu.1 c 1 ∧ mu.1 c 1 ≤ 999 ∧ row 0 = mu.1 c 1) ∧ row 1 = mu.1 c 0
  ∧ (0 ≤ mu.1 c 8 ∧ mu.1 c 8 ≤ 120 ∧ row 2 = mu.1 c 8) ∧ (0 ≤ mu.1 c 6 ∧ mu.1 c 6 ≤ 200 ∧ row 3 = mu.1 c 6) ∧ (0 ≤ mu.1 c 4 ∧ mu.1 c 4 ≤ 20 ∧ row 4 = mu.1 c 4)
  ∧ (0 ≤ row 5 ∧ row 5 < 2 ^ (mu.1 c 4).toNat)
  ∧ (∀ w, 0 ≤ w → w < W → 0 ≤ mu.1 (c + 1) w ∧ mu.1 (c + 1) w ≤ 99 ∧ row (6 + w) = mu.1 (c + 1) w - 50 ∧ 0 ≤ mu.1 (c + 2) w ∧ mu.1 (c + 2) w ≤ 1 ∧ row (14 + w) = mu.1 (c + 2) w)
  ∧ (∀ i, 0 ≤ i → i < mu.1 c 4 → (0 ≤ mu.1 (c + 3) (i * 7) ∧ mu.1 (c + 3) (i * 7) < W) ∧ (0 ≤ mu.1 (c + 3) (i * 7 + 1) ∧ mu.1 (c + 3) (i * 7 + 1) ≤ 5) ∧ (0 ≤ mu.1 (c + 3) (i * 7 + 2) ∧ mu.1 (c + 3) (i * 7 + 2) ≤ 3) ∧ (0 ≤ mu.1 (c + 3) (i * 7 + 3) ∧ mu.1 (c + 3) (i * 7 + 3) ≤ 8) ∧ 0 ≤ mu.1 (c + 3) (i * 7 + 4) ∧ 0 ≤ mu.1 (c + 3) (i * 7 + 5) ∧ mu.1 (c + 3) (i * 7 + 4) + mu.1 (c + 3) (i * 7 + 5) ≤ mu.1 c 6 ∧ mu.1 (c + 3) (i * 7 + 6) = row 5 / 2 ^ i.toNat % 2)
  ∧ (∀ i j, 0 ≤ i → i < mu.1 c 4 → 0 ≤ j → j < 6 → tes (6 * i + j) = mu.1 (c + 3) (i * 7 + j))
  ∧ (∀ k, 0 ≤ k → k < mu.1 c 6 → 0 ≤ mu.1 (c + 4) k ∧ mu.1 (c + 4) k ≤ 60 ∧ rec k = mu.1 (c + 4) k)
  ∧ ∀ k, 0 ≤ k → k < 5 * mu.1 c 8 → bk k = mu.1 (c + 5) k
def IC (mu nu : jm_M) : Prop := jm_crt mu 29 (nu.1 1) (nu.1 24) (nu.1 25) (nu.1 26) (mu.1 6 0)
/-- the kept courts: where the j-th of them (0: the eldest) lies -/
def jm_kc (mu : jm_M) (j : Int) : Nat := 94 + 6 * ((mu.1 0 16 + 6 - mu.1 0 15 + j) % 6).toNat
def jm_le (mu : jm_M) (a b : Nat) : Prop := mu.1 a 4 ≤ mu.1 b 4 ∧ mu.1 a 6 ≤ mu.1 b 6 ∧ mu.1 a 8 ≤ mu.1 b 8
def IK (mu nu : jm_M) : Prop := (0 ≤ mu.1 0 15 ∧ mu.1 0 15 ≤ 6 ∧ nu.1 0 3 = mu.1 0 15) ∧ (0 ≤ mu.1 0 16 ∧ mu.1 0 16 ≤ 5)
  ∧ (∀ j, 0 ≤ j → j < mu.1 0 15 → jm_crt mu (jm_kc mu j) (fun k => nu.1 2 (22 * j + k)) (nu.1 24) (nu.1 25) (nu.1 26) (mu.1 6 0) ∧ jm_le mu (jm_kc mu j) 29)
  ∧ ∀ i j, 0 ≤ i → i ≤ j → j < mu.1 0 15 → jm_le mu (jm_kc mu i) (jm_kc mu j)
def II (mu nu : jm_M) : Prop := nu.1 0 56 = mu.1 0 13 ∧ (mu.1 0 13 = 0 ∨ mu.1 0 13 = 1) ∧ (mu.1 0 13 = 1 → IAi mu nu ∧ IMi mu nu ∧ IPi mu nu ∧ ILi mu nu ∧ jm_crt mu 87 (nu.1 30) (fun k => nu.1 30 (545 + k)) (fun k => nu.1 30 (665 + k)) (fun k => nu.1 30 (865 + k)) (mu.1 64 0))
def jm_W143 : List Int := [32, 115, 108, 105, 112, 32, 115, 104, 97, 107, 101, 32, 119, 101, 105, 103, 104, 116, 32, 119, 104, 101, 110, 32, 111, 114, 32, 97, 110, 100, 32, 110, 111, 116, 32, 110, 101, 114, 118, 101, 32, 104, 111, 97, 114, 115, 101, 32, 98, 114, 101, 97, 116, 104, 32, 98, 97, 114, 32, 110, 111, 116, 101, 32, 114, 111, 111, 109, 32, 102, 97, 99, 116, 32, 118, 97, 108, 117, 101, 32, 100, 97, 121, 32, 115, 117, 110, 103, 32, 115, 108, 105, 112, 115, 32, 109, 111, 116, 105, 118, 101, 32, 117, 112, 32, 100, 111, 119, 110, 32, 115, 97, 109, 101, 32, 99, 97, 108, 108, 32, 111, 110, 32, 105, 110, 32, 99, 114, 111, 115, 115, 32, 114, 101, 115, 116, 32, 97, 103, 97, 105, 110, 32]
def IT (mu nu : jm_M) : Prop := (0 ≤ mu.1 1 1 ∧ mu.1 1 1 ≤ 400 ∧ nu.1 0 13 = mu.1 1 1) ∧ nu.1 0 33 = mu.1 1 2 ∧ nu.1 0 34 = mu.1 1 3
  ∧ (∀ k, 0 ≤ k → k < mu.1 1 1 → 0 ≤ mu.1 2 k ∧ mu.1 2 k ≤ 255 ∧ nu.1 7 k = mu.1 2 k)
  ∧ ∀ k : Nat, k < 143 → nu.1 8 k = jm_W143.getD k 0
/-- what holds between two calls -/
def Iv (mu nu : jm_M) : Prop := IA mu nu ∧ IM mu nu ∧ IP mu nu ∧ IL mu nu ∧ IC mu nu ∧ IK mu nu ∧ II mu nu ∧ IT mu nu
/-- a call of the class and the same call of the reference: they answer alike, and it holds again -/
def jm_sim (l : Launch) (gC gR : jm_G) (dC dR : Nat) (iC iR : jm_I) (As : List Value) (mu nu : jm_M) : Prop := jm_R l gC dC iC (.ref 0 :: As) mu (jm_qi fun z m => jm_R l gR dR iR (.ref 0 :: As) nu (jm_qi fun y n => y = z ∧ Iv m n))
theorem jm_qiI {F : Int → jm_M → Prop} {z : Int} {m : jm_M} (hz : jm_rg z) (h : F z m) : jm_qi F (some (jm_i z)) m := ⟨z, rfl, hz, h⟩
theorem jm_qvI {F : jm_M → Prop} {m : jm_M} (h : F m) : jm_qv F none m := ⟨rfl, h⟩
theorem jm_wrO {mu : jm_M} {c a : Nat} {i b x : Int} (h : a ≠ c) : (jm_wr mu c i x).1 a b = mu.1 a b := by simp [jm_wr, h]
theorem jm_wrI {mu : jm_M} {c a : Nat} {i b x : Int} (h : b ≠ i) : (jm_wr mu c i x).1 a b = mu.1 a b := by simp [jm_wr, h]
theorem jm_wrS {mu : jm_M} {c : Nat} {i x : Int} : (jm_wr mu c i x).1 c i = x := by simp [jm_wr]
end IV
