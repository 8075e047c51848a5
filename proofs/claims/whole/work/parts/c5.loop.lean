section LWL
variable {l : Launch} {gC gR : jm_G} {b L : Nat} {xs : Nat → Int32} {s : State} {below : List Frame} {i : Nat} {mu nu : jm_M}
def lw_tl : List Nat := [184, 207, 250, 293, 336, 399, 422, 445, 468, 511, 534, 557, 580, 593, 626, 659, 682, 715, 748, 791, 844, 867, 900, 933, 986, 1019, 1052, 1075, 1118, 1141, 1174, 1249, 1262, 1301]
def lw_tg (k : Nat) : Nat := lw_tl.getD k 0
def lw_os : Array Int := #[151, 174, 217, 260, 303, 366, 389, 412, 435, 478, 501, 524, 547, 560, 593, 626, 649, 682, 715, 758, 811, 834, 867, 900, 953, 986, 1019, 1042, 1085, 1108, 1141, 1216, 1229, 1268]
theorem lw_to : ∀ k : Nat, k < 34 → lw_os[k]? = some ((lw_tg k : Int) - 33) := by decide +kernel
/-- behind a call: the next seven -/
theorem lw_end (kk : lw_V l gC gR b L xs s below (i + 7) 18 [] mu nu) : lw_V l gC gR b L xs s below i 1324 [] mu nu := by
  intro p e m meth c ls H locs C K hl hP hPR hS hm hn
  refine lv_iinc (i := 3) (k := 0) (x := Int32.ofInt (i : Int)) (v := Int32.ofInt ((i + 7 : Nat) : Int)) (lv' := lw_l gC gR b (i + 7)) C.1 C.2.1 dL_law_1324 hl rfl ?_ (by decide) rfl (fun ls1 hl1 => ?_)
  · rw [show ((i + 7 : Nat) : Int) = (i : Int) + 7 by omega, Int32.ofInt_add]
  · exact lv_goto (tgt := 18) C.1 C.2.1 dL_law_1327 (by decide) (kk p e m meth c ls1 H locs C K hl1 hP hPR hS hm hn)
/-- the law's end -/
theorem lw_out : lw_V l gC gR b L xs s below i 1330 [] mu nu := by
  intro p e m meth c ls H locs C K hl hP hPR hS hm hn
  refine lv_iconst (v := 1) C.1 C.2.1 dL_law_1330 (by decide) ?_
  refine va_forget hS.2.2 ?_
  exact lw_ret C.1 C.2.1 C.2.2.1 C.2.2.2.2.2.2.2.2.1 dL_law_1331
theorem lw_head (hL : L ≤ 3584) (hi : i ≤ 4000) (kt : ¬ i + 7 ≤ L → lw_V l gC gR b L xs s below i 1330 [] mu nu) (kf : i + 7 ≤ L → lw_V l gC gR b L xs s below i 27 [] mu nu) : lw_V l gC gR b L xs s below i 18 [] mu nu := by
  intro p e m meth c ls H locs C K hl hP hPR hS hm hn
  refine lv_iload_n C.1 C.2.1 dL_law_18 rfl (lv_at hl 0 rfl) ?_
  refine lv_aload_n C.1 C.2.1 dL_law_19 rfl (lv_at hl 3 rfl) ?_
  refine va_slen C.1 C.2.1 C.2.2.2.2.2.2.1 C.2.2.2.2.2.2.2.1 (fun z => absurd C.2.2.2.2.2.2.2.1 (Nat.not_lt.mpr z)) hS dL_law_20 ?_
  refine lv_bipush (v := Int32.ofInt 7) C.1 C.2.1 dL_law_21 (by decide) ?_
  refine lv_isub C.1 C.2.1 dL_law_23 ?_
  have e1 : Int32.ofNat L - Int32.ofInt 7 = Int32.ofInt ((L : Int) - 7) := by
    rw [Int32.ofInt_sub, Int32.ofInt_eq_ofNat]
  rw [e1]
  have hc := jm_cl1 (a := (L : Int) - 7) (b := (i : Int)) ⟨by omega, by omega⟩ ⟨by omega, by omega⟩
  refine lv_icmp_gt (tgt := 1330) C.1 C.2.1 dL_law_24 (by decide) (fun h => ?_) (fun h => ?_)
  · have h1 := hc.mp h
    clear hc
    exact kt (by omega) p e m meth c ls H locs C K hl hP hPR hS hm hn
  · have h1 : ¬ (L : Int) - 7 < (i : Int) := fun z => h (hc.mpr z)
    clear hc
    exact kf (by omega) p e m meth c ls H locs C K hl hP hPR hS hm hn
theorem lw_sw {x : Int32} (h1 : lw_V l gC gR b L xs s below i 1324 [] mu nu) (h2 : ∀ k : Nat, k < 34 → lw_V l gC gR b L xs s below i (lw_tg k) [] mu nu) : lw_V l gC gR b L xs s below i 33 [.int x] mu nu := by
  intro p e m meth c ls H locs C K hl hP hPR hS hm hn
  by_cases ho : x.toInt < 0 ∨ 33 < x.toInt
  · exact lv_tableOut (tgt := 1324) C.1 C.2.1 dL_law_33 ho (by decide) (h1 p e m meth c ls H locs C K hl hP hPR hS hm hn)
  · have hk : (x.toInt - 0).toNat < 34 := by omega
    refine lv_tableIn (off := (lw_tg (x.toInt - 0).toNat : Int) - 33) (tgt := lw_tg (x.toInt - 0).toNat) C.1 C.2.1 dL_law_33 (fun z => ho (Or.inl z)) (fun z => ho (Or.inr z)) (lw_to _ hk) (by omega) (h2 _ hk p e m meth c ls H locs C K hl hP hPR hS hm hn)
theorem lw_pick (hL : L ≤ 3584) (hi : i + 7 ≤ L) (h1 : lw_V l gC gR b L xs s below i 1324 [] mu nu) (h2 : ∀ k : Nat, k < 34 → lw_V l gC gR b L xs s below i (lw_tg k) [] mu nu) : lw_V l gC gR b L xs s below i 27 [] mu nu := by
  intro p e m meth c ls H locs C K hl hP hPR hS hm hn
  refine lv_aload_n C.1 C.2.1 dL_law_27 rfl (lv_at hl 3 rfl) ?_
  refine lv_iload_n C.1 C.2.1 dL_law_28 rfl (lv_at hl 0 rfl) ?_
  refine lw_el (k := 0) (pc := 29) (by omega) hL dL_law_29 ?_ p e m meth c ls H locs C K hl hP hPR hS hm hn
  intro p e m meth c ls H locs C K hl hP hPR hS hm hn
  rw [jm_iT]
  refine lv_bipush (v := Int32.ofInt 63) C.1 C.2.1 dL_law_30 (by decide) ?_
  refine lv_iand C.1 C.2.1 dL_law_32 ?_
  exact lw_sw h1 h2 p e m meth c ls H locs C K hl hP hPR hS hm hn
theorem lw_all (hi : i + 7 ≤ L) (hL : L ≤ 3584) (hC : jm_HC gC) (hR : jm_HR gR) (hJ : jm_JS l gC) (hI : Iv mu nu) (kk : ∀ m n : jm_M, Iv m n → lw_V l gC gR b L xs s below i 1324 [] m n) : ∀ k : Nat, k < 34 → lw_V l gC gR b L xs s below i (lw_tg k) [] mu nu := by
  intro k hk
  match k, hk with
  | 0, _ => exact lw_k0 hi hL hC hR hI kk
  | 1, _ => exact lw_k1 hi hL hC hR hI kk
  | 2, _ => exact lw_k2 hi hL hC hR hI kk
  | 3, _ => exact lw_k3 hi hL hC hR hI kk
  | 4, _ => exact lw_k4 hi hL hC hR hI kk
  | 5, _ => exact lw_k5 hi hL hC hR hI kk
  | 6, _ => exact lw_k6 hi hL hC hR hJ hI kk
  | 7, _ => exact lw_k7 hi hL hC hR hI kk
  | 8, _ => exact lw_k8 hi hL hC hR hI kk
  | 9, _ => exact lw_k9 hi hL hC hR hI kk
  | 10, _ => exact lw_k10 hi hL hC hR hI kk
  | 11, _ => exact lw_k11 hi hL hC hR hI kk
  | 12, _ => exact lw_k12 hi hL hC hR hI kk
  | 13, _ => exact lw_k13 hi hL hC hR hI kk
  | 14, _ => exact lw_k14 hi hL hC hR hI kk
  | 15, _ => exact lw_k15 hi hL hC hR hI kk
  | 16, _ => exact lw_k16 hi hL hC hR hI kk
  | 17, _ => exact lw_k17 hi hL hC hR hI kk
  | 18, _ => exact lw_k18 hi hL hC hR hI kk
  | 19, _ => exact lw_k19 hi hL hC hR hI kk
  | 20, _ => exact lw_k20 hi hL hC hR hI kk
  | 21, _ => exact lw_k21 hi hL hC hR hI kk
  | 22, _ => exact lw_k22 hi hL hC hR hI kk
  | 23, _ => exact lw_k23 hi hL hC hR hI kk
  | 24, _ => exact lw_k24 hi hL hC hR hI kk
  | 25, _ => exact lw_k25 hi hL hC hR hI kk
  | 26, _ => exact lw_k26 hi hL hC hR hI kk
  | 27, _ => exact lw_k27 hi hL hC hR hI kk
  | 28, _ => exact lw_k28 hi hL hC hR hI kk
  | 29, _ => exact lw_k29 hi hL hC hR hI kk
  | 30, _ => exact lw_k30 hi hL hC hR hI kk
  | 31, _ => exact lw_k31 hi hL hC hR hI kk
  | 32, _ => exact lw_k32 hi hL hC hR hI kk
  | 33, _ => exact lw_k33 hi hL hC hR hI kk
  | k + 34, h => exact absurd h (by omega)
theorem lw_loop (hL : L ≤ 3584) (hC : jm_HC gC) (hR : jm_HR gR) (hJ : jm_JS l gC) (n : Nat) : ∀ (i : Nat), i ≤ 4000 → L < i + 7 + n → ∀ mu nu : jm_M, Iv mu nu → lw_V l gC gR b L xs s below i 18 [] mu nu := by
  induction n with
  | zero =>
    intro i hi hn mu nu hI
    exact lw_head hL hi (fun _ => lw_out) (fun h => absurd h (by omega))
  | succ n ih =>
    intro i hi hn mu nu hI
    refine lw_head hL hi (fun _ => lw_out) (fun h => ?_)
    have kk : ∀ m1 n1 : jm_M, Iv m1 n1 → lw_V l gC gR b L xs s below i 1324 [] m1 n1 := fun m1 n1 hI1 => lw_end (ih (i + 7) (by omega) (by omega) m1 n1 hI1)
    exact lw_pick hL h (kk mu nu hI) (lw_all h hL hC hR hJ hI kk)
end LWL
