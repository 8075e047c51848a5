section SO
variable {l : Launch} {gC gR : jm_G} {d : Nat} {mu nu : jm_M} {v1 v2 v3 v4 v5 : Int} {Q : Option Value → jm_M → Prop}
/-- two bars sound together -/
def sd (mu : jm_M) (a b : Int) : Int := if (0 < a ∧ 0 < b) ∧ mu.1 6 5 / 2 ^ ((a - b).natAbs % 12) % 2 = 1 then 1 else 0
theorem sd_01 (mu : jm_M) (a b : Int) : sd mu a b = 0 ∨ sd mu a b = 1 := by
  unfold sd
  split
  · exact Or.inr rfl
  · exact Or.inl rfl
theorem sd_comm (mu : jm_M) (a b : Int) : sd mu a b = sd mu b a := by
  unfold sd
  rw [show (a - b).natAbs = (b - a).natAbs by omega]
  by_cases h : (0 < a ∧ 0 < b) ∧ mu.1 6 5 / 2 ^ ((b - a).natAbs % 12) % 2 = 1
  · rw [if_pos h, if_pos ⟨⟨h.1.2, h.1.1⟩, h.2⟩]
  · rw [if_neg h, if_neg (fun k => h ⟨⟨k.1.2, k.1.1⟩, k.2⟩)]
theorem sd_bit {S : Int} (h0 : 0 ≤ S) (h1 : S ≤ 4095) (n : Nat) : jm_and (jm_shr S (Int.tmod (n : Int) 12)) 1 = S / 2 ^ (n % 12) % 2 := by
  have e : Int.tmod (n : Int) 12 = ((n % 12 : Nat) : Int) := by
    rw [Int.tmod_eq_emod_of_nonneg (by omega)]
    omega
  rw [e, jm_shrB ⟨by omega, by omega⟩ (n % 12) (by omega)]
  have d0 : 0 ≤ S / 2 ^ (n % 12) := Int.ediv_nonneg h0 (Int.pow_nonneg (by decide))
  have d1 : S / 2 ^ (n % 12) ≤ S := Int.ediv_le_self _ h0
  exact jm_and1 d0 (by omega)
theorem sd_abs (a b : Int) : (if 0 ≤ a - b then a - b else -(a - b)) = ((a - b).natAbs : Int) := by
  split <;> omega
theorem sX8_barsSound (hC : jm_HC gC) (hA : IA mu nu) (a0 : 0 ≤ v1 ∧ v1 ≤ 1000) (b0 : 0 ≤ v2 ∧ v2 ≤ 1000) (h : Q (some (jm_i (sd mu v1 v2))) mu) : jm_R l gC (d + 2) iX8_barsSound [.ref 6, jm_i v1, jm_i v2] mu Q := by
  obtain ⟨s0, s1, -⟩ := hA.2.2.2.1
  unfold sd at h
  refine eX8_barsSound hC ⟨⟨by omega, by omega⟩, fun q => ?_, fun q => ⟨⟨by omega, by omega⟩, fun r => ?_, fun r => ⟨⟨by omega, by omega⟩, ?_⟩⟩⟩
  · rw [if_neg (by omega)] at h; exact h
  · rw [if_neg (by omega)] at h; exact h
  · rw [sd_abs, sd_bit s0 s1]
    refine ⟨⟨by omega, by omega⟩, fun z => ?_, fun z => ?_⟩
    · rw [if_pos ⟨⟨by omega, by omega⟩, by omega⟩] at h; exact h
    · rw [if_neg (fun k => z (by omega))] at h; exact h
theorem sX12_doSound (hR : jm_HR gR) (hA : IA mu nu) (a0 : 0 ≤ v1 ∧ v1 ≤ 1000) (b0 : 0 ≤ v2 ∧ v2 ≤ 1000) (h : Q (some (jm_i (sd mu v1 v2))) nu) : jm_R l gR (d + 2) iX12_doSound [.ref 0, jm_i v1, jm_i v2] nu Q := by
  obtain ⟨s0, s1, s2⟩ := hA.2.2.2.1
  have x9 : jm_xor 953 (nu.1 0 9) = mu.1 6 5 := by rw [s2]; exact jm_x953 ⟨by omega, by omega⟩
  unfold sd at h
  refine eX12_doSound hR ⟨⟨by omega, by omega⟩, fun q => ?_, fun q => ⟨⟨by omega, by omega⟩, fun r => ?_, fun r => ?_⟩⟩
  · rw [if_neg (by omega)] at h; exact h
  · rw [if_neg (by omega)] at h; exact h
  · have fin : jm_qi (fun z4 m3 => (¬ (jm_and (jm_shr (jm_xor 953 (nu.1 0 9)) (Int.tmod z4 12)) 1) = 1 → Q (some (jm_i 0)) m3) ∧ ((jm_and (jm_shr (jm_xor 953 (nu.1 0 9)) (Int.tmod z4 12)) 1) = 1 → Q (some (jm_i 1)) m3)) (some (jm_i ((v1 - v2).natAbs : Int))) nu := by
      refine jm_qiI ⟨by omega, by omega⟩ ?_
      rw [x9, sd_bit s0 s1]
      refine ⟨fun z => ?_, fun z => ?_⟩
      · rw [if_neg (fun k => z k.2)] at h; exact h
      · rw [if_pos ⟨⟨q, r⟩, z⟩] at h; exact h
    refine eX12_far hR ⟨⟨by omega, by omega⟩, ⟨by omega, by omega⟩, fun z => ?_, fun z => ?_⟩
    · rw [show v2 - v1 = ((v1 - v2).natAbs : Int) by omega]; exact fin
    · rw [show v1 - v2 = ((v1 - v2).natAbs : Int) by omega] at *; exact fin
/-- a bar of a testimony -/
def br (mu : jm_M) (t i : Int) : Int := if 0 ≤ i ∧ i < mu.1 32 (t * 7 + 5) then mu.1 33 (mu.1 32 (t * 7 + 4) + i) else 0
/-- what is known of a testimony -/
theorem tsK (hK : IC mu nu) {t : Int} (t0 : 0 ≤ t) (t1 : t < mu.1 29 4) : (0 ≤ mu.1 32 (t * 7 + 4) ∧ 0 ≤ mu.1 32 (t * 7 + 5) ∧ mu.1 32 (t * 7 + 4) + mu.1 32 (t * 7 + 5) ≤ mu.1 29 6) ∧ (nu.1 24 (6 * t + 4) = mu.1 32 (t * 7 + 4) ∧ nu.1 24 (6 * t + 5) = mu.1 32 (t * 7 + 5)) ∧ mu.1 29 6 ≤ 200 ∧ mu.1 29 4 ≤ 20 := by
  obtain ⟨-, -, -, ⟨-, b2, -⟩, ⟨-, n2, -⟩, -, -, kt, ktt, -, -⟩ := hK
  obtain ⟨-, -, -, -, a5, a6, a7, -⟩ := kt t t0 t1
  exact ⟨⟨a5, a6, a7⟩, ⟨ktt t 4 t0 t1 (by decide) (by decide), ktt t 5 t0 t1 (by decide) (by decide)⟩, b2, n2⟩
theorem br_bd (hK : IC mu nu) {t i : Int} (t0 : 0 ≤ t) (t1 : t < mu.1 29 4) : 0 ≤ br mu t i ∧ br mu t i ≤ 60 := by
  have k := tsK hK t0 t1
  unfold br
  split
  · rename_i q
    have := hK.2.2.2.2.2.2.2.2.2.1 (mu.1 32 (t * 7 + 4) + i) (by omega) (by omega)
    exact ⟨this.1, this.2.1⟩
  · exact ⟨by decide, by decide⟩
theorem br_R (hK : IC mu nu) {t i : Int} (t0 : 0 ≤ t) (t1 : t < mu.1 29 4) (i0 : 0 ≤ i) (i1 : i < mu.1 32 (t * 7 + 5)) : nu.1 25 (mu.1 32 (t * 7 + 4) + i) = br mu t i := by
  have k := tsK hK t0 t1
  unfold br
  rw [if_pos ⟨i0, i1⟩]
  exact (hK.2.2.2.2.2.2.2.2.2.1 (mu.1 32 (t * 7 + 4) + i) (by omega) (by omega)).2.2
theorem sX1_barOf (hC : jm_HC gC) (hK : IC mu nu) (t0 : 0 ≤ v1) (t1 : v1 < mu.1 29 4) (r2 : jm_rg v2) (h : Q (some (jm_i (br mu v1 v2))) mu) : jm_R l gC (d + 2) iX1_barOf [.ref 29, jm_i v1, jm_i v2] mu Q := by
  have k := tsK hK t0 t1
  unfold br at h
  refine eX1_barOf hC ⟨⟨by omega, by omega⟩, fun _ => ⟨⟨by omega, by omega⟩, r2, ⟨by omega, by omega⟩, fun q => ?_, fun q => ?_⟩, fun r => absurd (⟨t0, t1⟩ : _ ∧ _) r⟩
  · rw [if_pos (by omega)] at h
    exact bX1_barOf_29 hC ⟨⟨by decide, by decide⟩, fun r => absurd r (by decide), fun _ => ⟨⟨by omega, by omega⟩, ⟨by omega, by omega⟩, h⟩⟩
  · rw [if_neg (by omega)] at h
    exact bX1_barOf_29 hC ⟨⟨by decide, by decide⟩, fun _ => h, fun r => absurd rfl r⟩
theorem abN_01 (f : Int → Int) (hf : ∀ i, f i = 0 ∨ f i = 1) : ∀ n : Nat, 0 ≤ abN f n ∧ abN f n ≤ n
  | 0 => ⟨Int.le_refl 0, Int.le_refl 0⟩
  | n + 1 => by
    have h1 := abN_01 f hf n
    have h2 := hf n
    show 0 ≤ abN f n + f n ∧ abN f n + f n ≤ _
    omega
theorem abN_s (f : Int → Int) (n : Nat) : abN f (n + 1) = abN f n + f n := rfl
theorem abN_eq (f g : Int → Int) : ∀ n : Nat, (∀ i : Nat, i < n → f i = g i) → abN f n = abN g n
  | 0, _ => rfl
  | n + 1, h => by
    rw [abN_s, abN_s, abN_eq f g n (fun i hi => h i (by omega)), h n (by omega)]
theorem lX10_soundingBars (hC : jm_HC gC) (hA : IA mu nu) (hK : IC mu nu) (a0 : 0 ≤ v1) (a1 : v1 < mu.1 29 4) (b0 : 0 ≤ v2) (b1 : v2 < mu.1 29 4) {N : Nat} (hN : N ≤ 200) (h : Q (some (jm_i (abN (fun i => sd mu (br mu v1 i) (br mu v2 i)) N))) mu) (n : Nat) : ∀ k : Nat, k + n = N → jm_V l gC (d + 4) iX10_soundingBars 28 [(0, .ref 38), (1, jm_i v1), (2, jm_i v2), (3, jm_i N), (4, jm_i (abN (fun i => sd mu (br mu v1 i) (br mu v2 i)) k)), (5, jm_i k)] [] mu Q := by
  induction n with
  | zero =>
    intro k hk
    have e : k = N := by omega
    subst e
    exact bX10_soundingBars_28 hC ⟨⟨by omega, by omega⟩, ⟨by omega, by omega⟩, fun _ => h, fun r => by omega⟩
  | succ n ih =>
    intro k hk
    have ba := br_bd hK (i := (k : Int)) a0 a1
    have bb := br_bd hK (i := (k : Int)) b0 b1
    have s01 := sd_01 mu (br mu v1 k) (br mu v2 k)
    have nx := ih (k + 1) (by omega)
    rw [abN_s] at nx
    refine bX10_soundingBars_28 hC ⟨⟨by omega, by omega⟩, ⟨by omega, by omega⟩, fun r => by omega, fun _ => ?_⟩
    refine sX1_barOf hC hK a0 a1 ⟨by omega, by omega⟩ (jm_qiI ⟨by omega, by omega⟩ (sX1_barOf hC hK b0 b1 ⟨by omega, by omega⟩ (jm_qiI ⟨by omega, by omega⟩ (sX8_barsSound hC hA ⟨by omega, by omega⟩ ⟨by omega, by omega⟩ (jm_qiI ⟨by omega, by omega⟩ ⟨fun q => ?_, fun q => ?_⟩)))))
    · rw [q, Int.add_zero] at nx; exact nx
    · rw [show sd mu (br mu v1 k) (br mu v2 k) = 1 by omega] at nx; exact nx
theorem lX12_duet (hR : jm_HR gR) (hA : IA mu nu) (hK : IC mu nu) (a0 : 0 ≤ v1) (a1 : v1 < mu.1 29 4) (b0 : 0 ≤ v2) (b1 : v2 < mu.1 29 4) {N : Nat} (hN : (N : Int) = min (mu.1 32 (v1 * 7 + 5)) (mu.1 32 (v2 * 7 + 5))) (h : Q (some (jm_i (abN (fun i => sd mu (br mu v1 i) (br mu v2 i)) N))) nu) (n : Nat) : ∀ k : Nat, k + n = N → jm_V l gR (d + 4) iX12_duet 28 [(0, .ref 0), (1, jm_i v1), (2, jm_i v2), (3, jm_i (abN (fun i => sd mu (br mu v1 i) (br mu v2 i)) k)), (4, jm_i k)] [] nu Q := by
  have ka := tsK hK a0 a1
  have kb := tsK hK b0 b1
  induction n with
  | zero =>
    intro k hk
    have e : k = N := by omega
    subst e
    refine bX12_duet_28 hR ⟨⟨by omega, by omega⟩, ⟨by omega, by omega⟩, ?_⟩
    rw [ka.2.1.2, kb.2.1.2]
    exact ⟨fun _ => h, fun r => ⟨⟨by omega, by omega⟩, fun _ => h, fun r2 => by omega⟩⟩
  | succ n ih =>
    intro k hk
    have ba := br_bd hK (i := (k : Int)) a0 a1
    have bb := br_bd hK (i := (k : Int)) b0 b1
    have s01 := sd_01 mu (br mu v1 k) (br mu v2 k)
    have nx := ih (k + 1) (by omega)
    rw [abN_s] at nx
    refine bX12_duet_28 hR ⟨⟨by omega, by omega⟩, ⟨by omega, by omega⟩, ?_⟩
    rw [ka.2.1.2, kb.2.1.2, ka.2.1.1, kb.2.1.1, br_R hK a0 a1 (by omega) (by omega), br_R hK b0 b1 (by omega) (by omega)]
    refine ⟨fun r => by omega, fun _ => ⟨⟨by omega, by omega⟩, fun r => by omega, fun _ => ⟨⟨by omega, by omega⟩, ⟨by omega, by omega⟩, ⟨by omega, by omega⟩, ⟨by omega, by omega⟩, ?_⟩⟩⟩
    refine sX12_doSound hR hA ⟨by omega, by omega⟩ ⟨by omega, by omega⟩ (jm_qiI ⟨by omega, by omega⟩ ⟨fun q => ?_, fun q x12 e12 => ?_⟩)
    · rw [q, Int.add_zero] at nx; exact nx
    · subst e12
      rw [show sd mu (br mu v1 k) (br mu v2 k) = 1 by omega] at nx; exact nx
theorem sim_duet (hC : jm_HC gC) (hR : jm_HR gR) (hI : Iv mu nu) (h1 : jm_rg v1) (h2 : jm_rg v2) : jm_sim l gC gR (d + 5) (d + 4) iX11_duet iX12_duet [jm_i v1, jm_i v2] mu nu := by
  have I0 := hI.t0
  have hA := hI.1
  have hK := hI.2.2.2.2.1
  have k3 : (jm_wr nu 0 0 0).1 1 4 = mu.1 29 4 := I0.2.2.2.2.1.2.2.2.2.1.2.2
  have no : ¬ ((0 ≤ v1 ∧ v1 < mu.1 29 4) ∧ 0 ≤ v2 ∧ v2 < mu.1 29 4) → jm_qi (fun z m => jm_R l gR (d + 4) iX12_duet [.ref 0, jm_i v1, jm_i v2] nu (jm_qi fun y n => y = z ∧ Iv m n)) (some (jm_i (-1))) mu := by
    intro q
    refine jm_qiI ⟨by decide, by decide⟩ (eX12_duet hR (fun m1 e1 => ?_))
    subst e1
    have fi := jm_fin (z := -1) (y := -1) (F := fun n => Iv mu n) ⟨by decide, by decide⟩ rfl I0
    exact ⟨h1, fun r => ⟨h2, fun r2 => absurd (⟨⟨r.1, by omega⟩, ⟨r2.1, by omega⟩⟩ : _ ∧ _) q, fun _ => fi⟩, fun _ => fi⟩
  refine eX11_duet hC ⟨h1, fun q => ⟨h2, fun q2 => ?_, fun q2 => no (fun r => q2 r.2)⟩, fun q => no (fun r => q r.1)⟩
  have ka := tsK hK q.1 q.2
  have kb := tsK hK q2.1 q2.2
  obtain ⟨N, hN⟩ : ∃ N : Nat, (N : Int) = min (mu.1 32 (v1 * 7 + 5)) (mu.1 32 (v2 * 7 + 5)) := ⟨(min (mu.1 32 (v1 * 7 + 5)) (mu.1 32 (v2 * 7 + 5))).toNat, by omega⟩
  have rb := abN_01 (fun i => sd mu (br mu v1 i) (br mu v2 i)) (fun i => sd_01 _ _ _) N
  have rs : jm_rg (abN (fun i => sd mu (br mu v1 i) (br mu v2 i)) N) := ⟨by omega, by omega⟩
  refine eX10_soundingBars hC ⟨⟨by omega, by omega⟩, ⟨by omega, by omega⟩, fun x3 e3 => ?_⟩
  rw [e3, ← hN]
  refine lX10_soundingBars hC hA hK q.1 q.2 q2.1 q2.2 (by omega) (jm_qiI rs (jm_qiI rs (eX12_duet hR (fun m1 e1 => ?_)))) N 0 (by omega)
  subst e1
  refine ⟨h1, fun _ => ⟨h2, fun _ => ?_, fun r => absurd (⟨q2.1, by omega⟩ : _ ∧ _) r⟩, fun r => absurd (⟨q.1, by omega⟩ : _ ∧ _) r⟩
  exact lX12_duet hR I0.1 I0.2.2.2.2.1 q.1 q.2 q2.1 q2.2 hN (jm_fin rs rfl I0) N 0 (by omega)
theorem lX10_soundingBehind (hC : jm_HC gC) (hA : IA mu nu) (hK : IC mu nu) (a0 : 0 ≤ v1) (a1 : v1 < mu.1 29 4) (d1 : 1 ≤ v2) (d2 : v2 ≤ 30) {N : Nat} (hN : (N : Int) = max 0 (mu.1 32 (v1 * 7 + 5) - v2)) (h : Q (some (jm_i (abN (fun i => sd mu (br mu v1 i) (br mu v1 (i + v2))) N))) mu) (n : Nat) : ∀ k : Nat, k + n = N → jm_V l gC (d + 4) iX10_soundingBehind 5 [(0, .ref 38), (1, jm_i v1), (2, jm_i v2), (3, jm_i (abN (fun i => sd mu (br mu v1 i) (br mu v1 (i + v2))) k)), (4, jm_i (k + v2))] [] mu Q := by
  have ka := tsK hK a0 a1
  induction n with
  | zero =>
    intro k hk
    have e : k = N := by omega
    subst e
    exact bX10_soundingBehind_5 hC ⟨⟨by omega, by omega⟩, ⟨by omega, by omega⟩, fun _ => h, fun r => by omega⟩
  | succ n ih =>
    intro k hk
    have ba := br_bd hK (i := (k : Int)) a0 a1
    have bb := br_bd hK (i := (k : Int) + v2) a0 a1
    have s01 := sd_01 mu (br mu v1 k) (br mu v1 (k + v2))
    have nx := ih (k + 1) (by omega)
    rw [abN_s, show ((k + 1 : Nat) : Int) + v2 = (k : Int) + v2 + 1 by omega] at nx
    refine bX10_soundingBehind_5 hC ⟨⟨by omega, by omega⟩, ⟨by omega, by omega⟩, fun r => by omega, fun _ => ?_⟩
    refine sX1_barOf hC hK a0 a1 ⟨by omega, by omega⟩ (jm_qiI ⟨by omega, by omega⟩ ?_)
    rw [show (k : Int) + v2 - v2 = k by omega]
    refine sX1_barOf hC hK a0 a1 ⟨by omega, by omega⟩ (jm_qiI ⟨by omega, by omega⟩ (sX8_barsSound hC hA ⟨by omega, by omega⟩ ⟨by omega, by omega⟩ ?_))
    rw [sd_comm]
    refine jm_qiI ⟨by omega, by omega⟩ ⟨fun q => ?_, fun q => ?_⟩
    · rw [q, Int.add_zero] at nx; exact nx
    · rw [show sd mu (br mu v1 k) (br mu v1 (k + v2)) = 1 by omega] at nx; exact nx
theorem lX12_canon (hR : jm_HR gR) (hA : IA mu nu) (hK : IC mu nu) (a0 : 0 ≤ v1) (a1 : v1 < mu.1 29 4) (d1 : 1 ≤ v2) (d2 : v2 ≤ 30) {N : Nat} (hN : (N : Int) = max 0 (mu.1 32 (v1 * 7 + 5) - v2)) (h : Q (some (jm_i (abN (fun i => sd mu (br mu v1 i) (br mu v1 (i + v2))) N))) nu) (n : Nat) : ∀ k : Nat, k + n = N → jm_V l gR (d + 4) iX12_canon 31 [(0, .ref 0), (1, jm_i v1), (2, jm_i v2), (3, jm_i (abN (fun i => sd mu (br mu v1 i) (br mu v1 (i + v2))) k)), (4, jm_i k)] [] nu Q := by
  have ka := tsK hK a0 a1
  induction n with
  | zero =>
    intro k hk
    have e : k = N := by omega
    subst e
    refine bX12_canon_31 hR ⟨⟨by omega, by omega⟩, ⟨by omega, by omega⟩, ?_⟩
    rw [ka.2.1.2]
    exact ⟨fun _ => h, fun r => by omega⟩
  | succ n ih =>
    intro k hk
    have ba := br_bd hK (i := (k : Int)) a0 a1
    have bb := br_bd hK (i := (k : Int) + v2) a0 a1
    have s01 := sd_01 mu (br mu v1 k) (br mu v1 (k + v2))
    have nx := ih (k + 1) (by omega)
    rw [abN_s] at nx
    refine bX12_canon_31 hR ⟨⟨by omega, by omega⟩, ⟨by omega, by omega⟩, ?_⟩
    rw [ka.2.1.2, ka.2.1.1, show mu.1 32 (v1 * 7 + 4) + (k : Int) + v2 = mu.1 32 (v1 * 7 + 4) + ((k : Int) + v2) by omega, br_R hK a0 a1 (by omega) (by omega), br_R hK a0 a1 (by omega) (by omega)]
    refine ⟨fun r => by omega, fun _ => ⟨⟨by omega, by omega⟩, ⟨by omega, by omega⟩, ⟨by omega, by omega⟩, ⟨by omega, by omega⟩, ?_⟩⟩
    refine sX12_doSound hR hA ⟨by omega, by omega⟩ ⟨by omega, by omega⟩ (jm_qiI ⟨by omega, by omega⟩ ⟨fun q => ?_, fun q x12 e12 => ?_⟩)
    · rw [q, Int.add_zero] at nx; exact nx
    · subst e12
      rw [show sd mu (br mu v1 k) (br mu v1 (k + v2)) = 1 by omega] at nx; exact nx
theorem sim_canon (hC : jm_HC gC) (hR : jm_HR gR) (hI : Iv mu nu) (h1 : jm_rg v1) (h2 : jm_rg v2) : jm_sim l gC gR (d + 5) (d + 4) iX11_canon iX12_canon [jm_i v1, jm_i v2] mu nu := by
  have I0 := hI.t0
  have hA := hI.1
  have hK := hI.2.2.2.2.1
  have k3 : (jm_wr nu 0 0 0).1 1 4 = mu.1 29 4 := I0.2.2.2.2.1.2.2.2.2.1.2.2
  have no : ¬ ((0 ≤ v1 ∧ v1 < mu.1 29 4) ∧ 1 ≤ v2 ∧ v2 ≤ 30) → jm_qi (fun z m => jm_R l gR (d + 4) iX12_canon [.ref 0, jm_i v1, jm_i v2] nu (jm_qi fun y n => y = z ∧ Iv m n)) (some (jm_i (-1))) mu := by
    intro q
    refine jm_qiI ⟨by decide, by decide⟩ (eX12_canon hR (fun m1 e1 => ?_))
    subst e1
    have fi := jm_fin (z := -1) (y := -1) (F := fun n => Iv mu n) ⟨by decide, by decide⟩ rfl I0
    exact ⟨h1, fun r => ⟨h2, fun r2 => absurd (⟨⟨r.1, by omega⟩, r2⟩ : _ ∧ _) q, fun _ => fi⟩, fun _ => fi⟩
  refine eX11_canon hC ⟨h1, fun q => ⟨h2, fun q2 => ?_, fun q2 => no (fun r => q2 r.2)⟩, fun q => no (fun r => q r.1)⟩
  have ka := tsK hK q.1 q.2
  obtain ⟨N, hN⟩ : ∃ N : Nat, (N : Int) = max 0 (mu.1 32 (v1 * 7 + 5) - v2) := ⟨(max 0 (mu.1 32 (v1 * 7 + 5) - v2)).toNat, by omega⟩
  have rb := abN_01 (fun i => sd mu (br mu v1 i) (br mu v1 (i + v2))) (fun i => sd_01 _ _ _) N
  have rs : jm_rg (abN (fun i => sd mu (br mu v1 i) (br mu v1 (i + v2))) N) := ⟨by omega, by omega⟩
  have L := lX10_soundingBehind (l := l) (d := d) (Q := jm_qi fun z4 m3 => jm_qi (fun z m => jm_R l gR (d + 4) iX12_canon [.ref 0, jm_i v1, jm_i v2] nu (jm_qi fun y n => y = z ∧ Iv m n)) (some (jm_i z4)) m3) hC hA hK q.1 q.2 q2.1 q2.2 hN (jm_qiI rs (jm_qiI rs (eX12_canon hR (fun m1 e1 => ?_)))) N 0 (by omega)
  · rw [show ((0 : Nat) : Int) + v2 = v2 by omega] at L
    exact eX10_soundingBehind hC L
  · subst e1
    refine ⟨h1, fun _ => ⟨h2, fun _ => ?_, fun r => absurd q2 r⟩, fun r => absurd (⟨q.1, by omega⟩ : _ ∧ _) r⟩
    exact lX12_canon hR I0.1 I0.2.2.2.2.1 q.1 q.2 q2.1 q2.2 hN (jm_fin rs rfl I0) N 0 (by omega)
end SO
