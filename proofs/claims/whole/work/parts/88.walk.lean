section PM
variable {l : Launch} {gC gR : jm_G} {d : Nat} {mu nu m n : jm_M} {v1 v2 v3 v4 v5 v6 : Int} {Q : Option Value → jm_M → Prop}
theorem lX12_keepsTold_239 (hR : jm_HR gR) {v : Int} (v01 : v = 0 ∨ v = 1) (h : ∀ m, PW v nu 545 m → Q none m) (j : Nat) : ∀ (k : Nat) (m : jm_M), k + j = 240 → PW v nu (305 + (k : Int)) m → jm_V l gR (d + 2) iX12_keepsTold 239 [(0, .ref 0), (1, jm_i (k : Int))] [] m Q := by
  induction j with
  | zero =>
    intro k m hk u
    have e : k = 240 := by omega
    subst e
    exact bX12_keepsTold_239 hR ⟨⟨by omega, by omega⟩, fun _ => h m u, fun r => by omega⟩
  | succ j ih =>
    intro k m hk u
    refine bX12_keepsTold_239 hR ⟨⟨by omega, by omega⟩, fun r => by omega, fun _ => ⟨⟨by omega, by omega⟩, ?_⟩⟩
    refine keeps_st hR u v01 (c := 19) (by unfold plP; omega) (by show plV 19 (k : Int) = _; simp only [plV] <;> omega) (fun m0 u0 => ?_)
    clear u
    have u := u0
    clear u0
    have nx := ih (k + 1) m0 (by omega) (by
      have e : 305 + (k : Int) + 1 = 305 + ((k + 1 : Nat) : Int) := by omega
      rw [e] at u
      exact u)
    rw [show ((k + 1 : Nat) : Int) = (k : Int) + 1 by omega] at nx
    exact nx
theorem lX12_keepsTold_208 (hR : jm_HR gR) {v : Int} (v01 : v = 0 ∨ v = 1) (h : ∀ m, PW v nu 305 m → jm_V l gR (d + 2) iX12_keepsTold 239 [(0, .ref 0), (1, jm_i 0)] [] m Q) (j : Nat) : ∀ (k : Nat) (m : jm_M), k + j = 192 → PW v nu (113 + (k : Int)) m → jm_V l gR (d + 2) iX12_keepsTold 208 [(0, .ref 0), (1, jm_i (k : Int))] [] m Q := by
  induction j with
  | zero =>
    intro k m hk u
    have e : k = 192 := by omega
    subst e
    exact bX12_keepsTold_208 hR ⟨⟨by omega, by omega⟩, fun _ => h m u, fun r => by omega⟩
  | succ j ih =>
    intro k m hk u
    refine bX12_keepsTold_208 hR ⟨⟨by omega, by omega⟩, fun r => by omega, fun _ => ⟨⟨by omega, by omega⟩, ?_⟩⟩
    refine keeps_st hR u v01 (c := 17) (by unfold plP; omega) (by show plV 17 (k : Int) = _; simp only [plV] <;> omega) (fun m0 u0 => ?_)
    clear u
    have u := u0
    clear u0
    have nx := ih (k + 1) m0 (by omega) (by
      have e : 113 + (k : Int) + 1 = 113 + ((k + 1 : Nat) : Int) := by omega
      rw [e] at u
      exact u)
    rw [show ((k + 1 : Nat) : Int) = (k : Int) + 1 by omega] at nx
    exact nx
theorem lX12_keepsTold_178 (hR : jm_HR gR) {v : Int} (v01 : v = 0 ∨ v = 1) (h : ∀ m, PW v nu 113 m → jm_V l gR (d + 2) iX12_keepsTold 208 [(0, .ref 0), (1, jm_i 0)] [] m Q) (j : Nat) : ∀ (k : Nat) (m : jm_M), k + j = 12 → PW v nu (101 + (k : Int)) m → jm_V l gR (d + 2) iX12_keepsTold 178 [(0, .ref 0), (1, jm_i (k : Int))] [] m Q := by
  induction j with
  | zero =>
    intro k m hk u
    have e : k = 12 := by omega
    subst e
    exact bX12_keepsTold_178 hR ⟨⟨by omega, by omega⟩, fun _ => h m u, fun r => by omega⟩
  | succ j ih =>
    intro k m hk u
    refine bX12_keepsTold_178 hR ⟨⟨by omega, by omega⟩, fun r => by omega, fun _ => ⟨⟨by omega, by omega⟩, ?_⟩⟩
    refine keeps_st hR u v01 (c := 28) (by unfold plP; omega) (by show plV 28 (k : Int) = _; simp only [plV] <;> omega) (fun m0 u0 => ?_)
    clear u
    have u := u0
    clear u0
    have nx := ih (k + 1) m0 (by omega) (by
      have e : 101 + (k : Int) + 1 = 101 + ((k + 1 : Nat) : Int) := by omega
      rw [e] at u
      exact u)
    rw [show ((k + 1 : Nat) : Int) = (k : Int) + 1 by omega] at nx
    exact nx
theorem lX12_keepsTold_148 (hR : jm_HR gR) {v : Int} (v01 : v = 0 ∨ v = 1) (h : ∀ m, PW v nu 101 m → jm_V l gR (d + 2) iX12_keepsTold 178 [(0, .ref 0), (1, jm_i 0)] [] m Q) (j : Nat) : ∀ (k : Nat) (m : jm_M), k + j = 48 → PW v nu (53 + (k : Int)) m → jm_V l gR (d + 2) iX12_keepsTold 148 [(0, .ref 0), (1, jm_i (k : Int))] [] m Q := by
  induction j with
  | zero =>
    intro k m hk u
    have e : k = 48 := by omega
    subst e
    exact bX12_keepsTold_148 hR ⟨⟨by omega, by omega⟩, fun _ => h m u, fun r => by omega⟩
  | succ j ih =>
    intro k m hk u
    refine bX12_keepsTold_148 hR ⟨⟨by omega, by omega⟩, fun r => by omega, fun _ => ⟨⟨by omega, by omega⟩, ?_⟩⟩
    refine keeps_st hR u v01 (c := 6) (by unfold plP; omega) (by show plV 6 (k : Int) = _; simp only [plV] <;> omega) (fun m0 u0 => ?_)
    clear u
    have u := u0
    clear u0
    have nx := ih (k + 1) m0 (by omega) (by
      have e : 53 + (k : Int) + 1 = 53 + ((k + 1 : Nat) : Int) := by omega
      rw [e] at u
      exact u)
    rw [show ((k + 1 : Nat) : Int) = (k : Int) + 1 by omega] at nx
    exact nx
theorem lX12_keepsTold_86 (hR : jm_HR gR) {v : Int} (v01 : v = 0 ∨ v = 1) (h : ∀ m, PW v nu 53 m → jm_V l gR (d + 2) iX12_keepsTold 148 [(0, .ref 0), (1, jm_i 0)] [] m Q) (j : Nat) : ∀ (k : Nat) (m : jm_M), k + j = 8 → PW v nu (29 + 3 * (k : Int)) m → jm_V l gR (d + 2) iX12_keepsTold 86 [(0, .ref 0), (1, jm_i (k : Int))] [] m Q := by
  induction j with
  | zero =>
    intro k m hk u
    have e : k = 8 := by omega
    subst e
    exact bX12_keepsTold_86 hR ⟨⟨by omega, by omega⟩, fun _ => h m u, fun r => by omega⟩
  | succ j ih =>
    intro k m hk u
    refine bX12_keepsTold_86 hR ⟨⟨by omega, by omega⟩, fun r => by omega, fun _ => ⟨⟨by omega, by omega⟩, ?_⟩⟩
    refine keeps_st hR u v01 (c := 3) (by unfold plP; omega) (by show plV 3 (k : Int) = _; simp only [plV] <;> omega) (fun m0 u0 => ?_)
    clear u
    have u := u0
    clear u0
    refine keeps_st hR u v01 (c := 4) (by unfold plP; omega) (by show plV 4 (k : Int) = _; simp only [plV] <;> omega) (fun m1 u1 => ?_)
    clear u
    have u := u1
    clear u1
    refine keeps_st hR u v01 (c := 5) (by unfold plP; omega) (by show plV 5 (k : Int) = _; simp only [plV] <;> omega) (fun m2 u2 => ?_)
    clear u
    have u := u2
    clear u2
    have nx := ih (k + 1) m2 (by omega) (by
      have e : 29 + 3 * (k : Int) + 1 + 1 + 1 = 29 + 3 * ((k + 1 : Nat) : Int) := by omega
      rw [e] at u
      exact u)
    rw [show ((k + 1 : Nat) : Int) = (k : Int) + 1 by omega] at nx
    exact nx
theorem sX12_keepsTold (hR : jm_HR gR) {v : Int} (v01 : v = 0 ∨ v = 1) (u : PW v nu 22 n) (h : ∀ m, PW v nu 545 m → Q none m) : jm_R l gR (d + 2) iX12_keepsTold [.ref 0] n Q := by
  refine eX12_keepsTold hR ?_
  refine keeps_st hR u v01 (c := 0) (i := 4) (by unfold plP; omega) (by decide) (fun m0 u0 => ?_)
  clear u
  have u := u0
  clear u0
  refine keeps_st hR u v01 (c := 0) (i := 9) (by unfold plP; omega) (by decide) (fun m1 u1 => ?_)
  clear u
  have u := u1
  clear u1
  refine keeps_st hR u v01 (c := 0) (i := 10) (by unfold plP; omega) (by decide) (fun m2 u2 => ?_)
  clear u
  have u := u2
  clear u2
  refine keeps_st hR u v01 (c := 0) (i := 11) (by unfold plP; omega) (by decide) (fun m3 u3 => ?_)
  clear u
  have u := u3
  clear u3
  refine keeps_st hR u v01 (c := 0) (i := 35) (by unfold plP; omega) (by decide) (fun m4 u4 => ?_)
  clear u
  have u := u4
  clear u4
  refine keeps_st hR u v01 (c := 0) (i := 39) (by unfold plP; omega) (by decide) (fun m5 u5 => ?_)
  clear u
  have u := u5
  clear u5
  refine keeps_st hR u v01 (c := 0) (i := 52) (by unfold plP; omega) (by decide) (fun m6 u6 => ?_)
  clear u
  have u := u6
  clear u6
  exact lX12_keepsTold_86 hR v01 (fun m u => lX12_keepsTold_148 hR v01 (fun m u => lX12_keepsTold_178 hR v01 (fun m u => lX12_keepsTold_208 hR v01 (fun m u => lX12_keepsTold_239 hR v01 h 240 0 m (by omega) u) 192 0 m (by omega) u) 12 0 m (by omega) u) 48 0 m (by omega) u) 8 0 m6 (by omega) u
theorem lX12_keepsLaw_99 (hR : jm_HR gR) {v : Int} (v01 : v = 0 ∨ v = 1) (h : ∀ m, PW v nu 2330 m → Q none m) (j : Nat) : ∀ (k : Nat) (m : jm_M), k + j = 400 → PW v nu (1530 + 2 * (k : Int)) m → jm_V l gR (d + 2) iX12_keepsLaw 99 [(0, .ref 0), (1, jm_i ((400 + k : Nat) : Int))] [] m Q := by
  induction j with
  | zero =>
    intro k m hk u
    have e : k = 400 := by omega
    subst e
    exact bX12_keepsLaw_99 hR ⟨⟨by omega, by omega⟩, fun _ => h m u, fun r => by omega⟩
  | succ j ih =>
    intro k m hk u
    refine bX12_keepsLaw_99 hR ⟨⟨by omega, by omega⟩, fun r => by omega, fun _ => ⟨⟨by omega, by omega⟩, ?_⟩⟩
    refine keeps_st hR u v01 (c := 14) (by unfold plP; omega) (by show plV 14 ((400 + k : Nat) : Int) = _; simp only [plV] <;> omega) (fun m0 u0 => ?_)
    clear u
    have u := u0
    clear u0
    refine keeps_st hR u v01 (c := 15) (by unfold plP; omega) (by show plV 15 ((400 + k : Nat) : Int) = _; simp only [plV] <;> omega) (fun m1 u1 => ?_)
    clear u
    have u := u1
    clear u1
    have nx := ih (k + 1) m1 (by omega) (by
      have e : 1530 + 2 * (k : Int) + 1 + 1 = 1530 + 2 * ((k + 1 : Nat) : Int) := by omega
      rw [e] at u
      exact u)
    rw [show ((400 + (k + 1) : Nat) : Int) = ((400 + k : Nat) : Int) + 1 by omega] at nx
    exact nx
theorem lX12_keepsLaw_19 (hR : jm_HR gR) {v : Int} (v01 : v = 0 ∨ v = 1) (h : ∀ m, PW v nu 1530 m → jm_V l gR (d + 2) iX12_keepsLaw 99 [(0, .ref 0), (1, jm_i 400)] [] m Q) (j : Nat) : ∀ (k : Nat) (m : jm_M), k + j = 16 → PW v nu (1466 + 4 * (k : Int)) m → jm_V l gR (d + 2) iX12_keepsLaw 19 [(0, .ref 0), (1, jm_i ((16 + k : Nat) : Int))] [] m Q := by
  induction j with
  | zero =>
    intro k m hk u
    have e : k = 16 := by omega
    subst e
    exact bX12_keepsLaw_19 hR ⟨⟨by omega, by omega⟩, fun _ => h m u, fun r => by omega⟩
  | succ j ih =>
    intro k m hk u
    refine bX12_keepsLaw_19 hR ⟨⟨by omega, by omega⟩, fun r => by omega, fun _ => ⟨⟨by omega, by omega⟩, ?_⟩⟩
    refine keeps_st hR u v01 (c := 10) (by unfold plP; omega) (by show plV 10 ((16 + k : Nat) : Int) = _; simp only [plV] <;> omega) (fun m0 u0 => ?_)
    clear u
    have u := u0
    clear u0
    refine keeps_st hR u v01 (c := 11) (by unfold plP; omega) (by show plV 11 ((16 + k : Nat) : Int) = _; simp only [plV] <;> omega) (fun m1 u1 => ?_)
    clear u
    have u := u1
    clear u1
    refine keeps_st hR u v01 (c := 12) (by unfold plP; omega) (by show plV 12 ((16 + k : Nat) : Int) = _; simp only [plV] <;> omega) (fun m2 u2 => ?_)
    clear u
    have u := u2
    clear u2
    refine keeps_st hR u v01 (c := 13) (by unfold plP; omega) (by show plV 13 ((16 + k : Nat) : Int) = _; simp only [plV] <;> omega) (fun m3 u3 => ?_)
    clear u
    have u := u3
    clear u3
    have nx := ih (k + 1) m3 (by omega) (by
      have e : 1466 + 4 * (k : Int) + 1 + 1 + 1 + 1 = 1466 + 4 * ((k + 1 : Nat) : Int) := by omega
      rw [e] at u
      exact u)
    rw [show ((16 + (k + 1) : Nat) : Int) = ((16 + k : Nat) : Int) + 1 by omega] at nx
    exact nx
theorem sX12_keepsLaw (hR : jm_HR gR) {v : Int} (v01 : v = 0 ∨ v = 1) (u : PW v nu 1465 n) (h : ∀ m, PW v nu 2330 m → Q none m) : jm_R l gR (d + 2) iX12_keepsLaw [.ref 0] n Q := by
  refine eX12_keepsLaw hR (keeps_st hR u v01 (c := 9) (i := 1) (by unfold plP; omega) (by decide) (fun m0 u0 => ?_))
  exact lX12_keepsLaw_19 hR v01 (fun m u => lX12_keepsLaw_99 hR v01 h 400 0 m (by omega) u) 16 0 m0 (by omega) u0
theorem lX12_image_130 (hR : jm_HR gR) {v : Int} (v01 : v = 0 ∨ v = 1) (h : ∀ m, PW v nu 1465 m → jm_R l gR (d + 2) iX12_keepsLaw [.ref 0] m (jm_qv fun m2 => jm_rg v ∧ (¬ v = 0 → Q (some (jm_i 1)) m2) ∧ (v = 0 → ∀ m7, m7 = jm_wr m2 0 3 0 → Q (some (jm_i 1)) m7))) (j : Nat) : ∀ (k : Nat) (m : jm_M), k + j = 600 → PW v nu (865 + (k : Int)) m → jm_V l gR (d + 3) iX12_image 130 [(0, .ref 0), (1, jm_i v), (2, jm_i (k : Int))] [] m Q := by
  induction j with
  | zero =>
    intro k m hk u
    have e : k = 600 := by omega
    subst e
    exact bX12_image_130 hR ⟨⟨by omega, by omega⟩, fun _ => h m u, fun r => by omega⟩
  | succ j ih =>
    intro k m hk u
    refine bX12_image_130 hR ⟨⟨by omega, by omega⟩, fun r => by omega, fun _ => ⟨⟨by omega, by omega⟩, ?_⟩⟩
    refine keeps_st hR u v01 (c := 26) (by unfold plP; omega) (by show plV 26 (k : Int) = _; simp only [plV] <;> omega) (fun m0 u0 => ?_)
    clear u
    have u := u0
    clear u0
    have nx := ih (k + 1) m0 (by omega) (by
      have e : 865 + (k : Int) + 1 = 865 + ((k + 1 : Nat) : Int) := by omega
      rw [e] at u
      exact u)
    rw [show ((k + 1 : Nat) : Int) = (k : Int) + 1 by omega] at nx
    exact nx
theorem lX12_image_99 (hR : jm_HR gR) {v : Int} (v01 : v = 0 ∨ v = 1) (h : ∀ m, PW v nu 865 m → jm_V l gR (d + 3) iX12_image 130 [(0, .ref 0), (1, jm_i v), (2, jm_i 0)] [] m Q) (j : Nat) : ∀ (k : Nat) (m : jm_M), k + j = 200 → PW v nu (665 + (k : Int)) m → jm_V l gR (d + 3) iX12_image 99 [(0, .ref 0), (1, jm_i v), (2, jm_i (k : Int))] [] m Q := by
  induction j with
  | zero =>
    intro k m hk u
    have e : k = 200 := by omega
    subst e
    exact bX12_image_99 hR ⟨⟨by omega, by omega⟩, fun _ => h m u, fun r => by omega⟩
  | succ j ih =>
    intro k m hk u
    refine bX12_image_99 hR ⟨⟨by omega, by omega⟩, fun r => by omega, fun _ => ⟨⟨by omega, by omega⟩, ?_⟩⟩
    refine keeps_st hR u v01 (c := 25) (by unfold plP; omega) (by show plV 25 (k : Int) = _; simp only [plV] <;> omega) (fun m0 u0 => ?_)
    clear u
    have u := u0
    clear u0
    have nx := ih (k + 1) m0 (by omega) (by
      have e : 665 + (k : Int) + 1 = 665 + ((k + 1 : Nat) : Int) := by omega
      rw [e] at u
      exact u)
    rw [show ((k + 1 : Nat) : Int) = (k : Int) + 1 by omega] at nx
    exact nx
theorem lX12_image_69 (hR : jm_HR gR) {v : Int} (v01 : v = 0 ∨ v = 1) (h : ∀ m, PW v nu 665 m → jm_V l gR (d + 3) iX12_image 99 [(0, .ref 0), (1, jm_i v), (2, jm_i 0)] [] m Q) (j : Nat) : ∀ (k : Nat) (m : jm_M), k + j = 120 → PW v nu (545 + (k : Int)) m → jm_V l gR (d + 3) iX12_image 69 [(0, .ref 0), (1, jm_i v), (2, jm_i (k : Int))] [] m Q := by
  induction j with
  | zero =>
    intro k m hk u
    have e : k = 120 := by omega
    subst e
    exact bX12_image_69 hR ⟨⟨by omega, by omega⟩, fun _ => h m u, fun r => by omega⟩
  | succ j ih =>
    intro k m hk u
    refine bX12_image_69 hR ⟨⟨by omega, by omega⟩, fun r => by omega, fun _ => ⟨⟨by omega, by omega⟩, ?_⟩⟩
    refine keeps_st hR u v01 (c := 24) (by unfold plP; omega) (by show plV 24 (k : Int) = _; simp only [plV] <;> omega) (fun m0 u0 => ?_)
    clear u
    have u := u0
    clear u0
    have nx := ih (k + 1) m0 (by omega) (by
      have e : 545 + (k : Int) + 1 = 545 + ((k + 1 : Nat) : Int) := by omega
      rw [e] at u
      exact u)
    rw [show ((k + 1 : Nat) : Int) = (k : Int) + 1 by omega] at nx
    exact nx
theorem lX12_image_35 (hR : jm_HR gR) {v : Int} (v01 : v = 0 ∨ v = 1) (h : ∀ m, PW v nu 22 m → jm_R l gR (d + 2) iX12_keepsTold [.ref 0] m (jm_qv fun m2 => jm_V l gR (d + 3) iX12_image 69 [(0, .ref 0), (1, jm_i v), (2, jm_i 0)] [] m2 Q)) (j : Nat) : ∀ (k : Nat) (m : jm_M), k + j = 22 → PW v nu (0 + (k : Int)) m → jm_V l gR (d + 3) iX12_image 35 [(0, .ref 0), (1, jm_i v), (2, jm_i (k : Int))] [] m Q := by
  induction j with
  | zero =>
    intro k m hk u
    have e : k = 22 := by omega
    subst e
    exact bX12_image_35 hR ⟨⟨by omega, by omega⟩, fun _ => h m u, fun r => by omega⟩
  | succ j ih =>
    intro k m hk u
    refine bX12_image_35 hR ⟨⟨by omega, by omega⟩, fun r => by omega, fun _ => ⟨⟨by omega, by omega⟩, ?_⟩⟩
    refine keeps_st hR u v01 (c := 1) (by unfold plP; omega) (by show plV 1 (k : Int) = _; simp only [plV] <;> omega) (fun m0 u0 => ?_)
    clear u
    have u := u0
    clear u0
    have nx := ih (k + 1) m0 (by omega) (by
      have e : 0 + (k : Int) + 1 = 0 + ((k + 1 : Nat) : Int) := by omega
      rw [e] at u
      exact u)
    rw [show ((k + 1 : Nat) : Int) = (k : Int) + 1 by omega] at nx
    exact nx
theorem lX12_image (hR : jm_HR gR) {v : Int} (v01 : v = 0 ∨ v = 1) (h1 : v = 1 → ∀ m, PW v n 2330 m → Q (some (jm_i 1)) m) (h0 : v = 0 → ∀ m, PW v n 2330 m → Q (some (jm_i 1)) (jm_wr m 0 3 0)) : jm_V l gR (d + 3) iX12_image 18 [(0, .ref 0), (1, jm_i v)] [] n Q := by
  refine bX12_image_18 hR ⟨v01, ⟨by omega, by omega⟩, fun m3 e3 m5 e5 m7 e7 => ?_⟩
  have x : ∀ c i, ¬ (c = 0 ∧ (i = 55 ∨ i = 56 ∨ i = 57)) → m7.1 c i = n.1 c i := fun c i q => by
    rw [e7, e5, e3]
    by_cases z : c = 0
    · rw [jm_wrI (fun r => q ⟨z, Or.inr (Or.inr r)⟩), jm_wrI (fun r => q ⟨z, Or.inr (Or.inl r)⟩), jm_wrI (fun r => q ⟨z, Or.inl r⟩)]
    · rw [jm_wrO z, jm_wrO z, jm_wrO z]
  have u : PW v n 0 m7 := by
    refine ⟨by rw [e7, jm_wrS], by rw [e7, jm_wrI (by decide), e5, jm_wrI (by decide), e3, jm_wrS], by rw [e7, jm_wrI (by decide), e5, jm_wrS], fun _ => ⟨fun c i a b => ?_, fun c i a => x c i a.2⟩, fun _ => ⟨fun i => x 30 i (fun r => absurd r.1 (by decide)), fun c i a b => ?_, fun c i a b => x c i a.2⟩⟩
    · have := pl_in a
      omega
    · have := pl_in a
      omega
  refine lX12_image_35 hR v01 (fun m u => sX12_keepsTold hR v01 u (fun m u => jm_qvI (lX12_image_69 hR v01 (fun m u => lX12_image_99 hR v01 (fun m u => lX12_image_130 hR v01 (fun m u => sX12_keepsLaw hR v01 u (fun m u => jm_qvI ⟨⟨by omega, by omega⟩, fun z => h1 (by omega) m u, fun z m7 e7 => ?_⟩)) 600 0 m (by omega) u) 200 0 m (by omega) u) 120 0 m (by omega) u))) 22 0 m7 (by omega) u
  rw [e7]
  exact h0 z m u
end PM
