/-! ===== the class's table of swaps, as its constructor makes it ===== -/
theorem isRow_one {x : Nat} (h1 : 2 ≤ x) (h2 : x ≤ 60) : isRow (shl64 1 ((62 - x : Nat) : Int)) [x] := by
  refine ⟨r_shl64 _ _, fun i => ?_⟩
  rw [bt_pow (by omega), decide_eq_decide, List.mem_singleton]
  omega
theorem swD_s {n m : Nat} : swD n (m + 1) = swD n m ++ (if n * n % (m + 1) = 0 ∧ n + n * n / (m + 1) ≤ 60 then [(n, n + (m + 1), n + n * n / (m + 1))] else []) := rfl
theorem swN_s {k : Nat} : swN (k + 1) = swN k ++ swD (k + 2) (k + 1) := rfl
theorem swD_mono {n m : Nat} : ∀ d, (swD n m).length ≤ (swD n (m + d)).length := by
  intro d
  induction d with
  | zero => exact Nat.le_refl _
  | succ d ih =>
    rw [show m + (d + 1) = m + d + 1 from rfl, swD_s, List.length_append]
    omega
theorem swN_mono {k : Nat} : ∀ d, (swN k).length ≤ (swN (k + d)).length := by
  intro d
  induction d with
  | zero => exact Nat.le_refl _
  | succ d ih =>
    rw [show k + (d + 1) = k + d + 1 from rfl, swN_s, List.length_append]
    omega
theorem sw_len {k m : Nat} (hk : k < 58) (hm : m ≤ k + 1) : (swN k ++ swD (k + 2) m).length ≤ 31 := by
  have h1 := swN_mono (k := k + 1) (58 - (k + 1))
  rw [show k + 1 + (58 - (k + 1)) = 58 by omega, sw_31, swN_s, List.length_append] at h1
  have h2 := swD_mono (n := k + 2) (m := m) (k + 1 - m)
  rw [show m + (k + 1 - m) = k + 1 by omega] at h2
  rw [List.length_append]
  omega
theorem SR_add {X : List (Nat × Nat × Nat)} {ones twos : Int → Int} {sw v w : Int} {t : Nat × Nat × Nat} (h : SR X ones twos sw) (hv : isRow v [t.1]) (hw : isRow w [t.2.1, t.2.2]) : SR (X ++ [t]) (ups ones sw v) (ups twos sw w) (sw + 1) := by
  have h1 := h.1
  refine ⟨by rw [List.length_append, List.length_singleton]; omega, fun i s hs => ?_⟩
  rcases Nat.lt_or_ge i X.length with c | c
  · rw [List.getElem?_append_left c] at hs
    rw [ups_n (by omega), ups_n (by omega)]
    exact h.2 i s hs
  · have hl := (List.getElem?_eq_some_iff.mp hs).1
    rw [List.length_append, List.length_singleton] at hl
    have e : i = X.length := by omega
    rw [List.getElem?_append_right c, e, Nat.sub_self] at hs
    have e2 : t = s := by simpa using hs
    subst e2
    rw [e, ← h1, ups_s, ups_s]
    exact ⟨hv, hw⟩
theorem init62 {Q : (Int → Int) → (Int → Int) → (Int → Int) → (Int → Int) → (Int → Int) → Int → Int → Int → Int → Int → Int → Int → Prop} {K : (Int → Int) → (Int → Int) → (Int → Int) → (Int → Int) → (Int → Int) → Int → Int → Int → Int → Int → Int → Int → Int → Prop} {k : Nat} (hk : k < 58)
    (h : ∀ ones twos sw, SR (swN (k + 1)) ones twos sw → K zz ones twos zz zz sw 0 0 0 (-1) 0 0 ((k + 3 : Nat) : Int)) :
    ∀ (c m : Nat) (ones twos : Int → Int) (sw : Int), m + c = k + 1 → SR (swN k ++ swD (k + 2) m) ones twos sw → wp_X1_init_62 Q K (c + 1) zz ones twos zz zz sw 0 0 0 (-1) 0 0 ((k + 2 : Nat) : Int) ((m + 1 : Nat) : Int) := by
  intro c
  induction c with
  | zero =>
    intro m ones twos sw hm hS
    have e : m = k + 1 := by omega
    subst e
    rw [wp_X1_init_62]
    exact ⟨fun _ => ⟨⟨by omega, by omega⟩, h ones twos sw hS⟩, fun z => absurd z (by omega)⟩
  | succ c ih =>
    intro m ones twos sw hm hS
    have hnn : (k + 2) * (k + 2) ≤ 60 * 60 := Nat.mul_le_mul (by omega) (by omega)
    have hq : (k + 2) * (k + 2) / (m + 1) ≤ (k + 2) * (k + 2) := Nat.div_le_self _ _
    have hlen := sw_len hk (show m + 1 ≤ k + 1 by omega)
    have c1 : ((k + 2 : Nat) : Int) * ((k + 2 : Nat) : Int) = (((k + 2) * (k + 2) : Nat) : Int) := rfl
    have hs1 := swD_s (n := k + 2) (m := m)
    have hnext := ih (m + 1)
    rw [hs1] at hlen hnext
    have e2 : ((m + 1 : Nat) : Int) + 1 = ((m + 1 + 1 : Nat) : Int) := rfl
    rw [wp_X1_init_62]
    unfold wp_X1_init_141
    rw [c1, nm_tdiv, nm_tmod, e2]
    generalize hN : (k + 2) * (k + 2) = N at *
    generalize hD : N / (m + 1) = D at *
    have hsw := hS.1
    rw [List.length_append] at hsw
    refine ⟨fun z => absurd z (by omega), fun _ => ⟨⟨by omega, by omega⟩, by omega, ⟨by omega, by omega⟩, fun x hx => ⟨⟨by omega, by omega⟩, by omega, fun z => ⟨⟨by omega, by omega⟩, ?_⟩, fun z => ⟨fun w => ⟨⟨by omega, by omega⟩, ?_⟩, fun w => ⟨fun y => ?_, fun y => ?_⟩⟩⟩⟩⟩
    · rw [if_neg (fun u => z (by rw [u.1]; rfl)), List.append_nil] at hnext
      exact hnext ones twos sw (by omega) hS
    · rw [if_neg (fun u => by have := u.2; omega), List.append_nil] at hnext
      exact hnext ones twos sw (by omega) hS
    · rw [if_pos ⟨by omega, by omega⟩, List.length_append, List.length_append, List.length_singleton] at hlen
      omega
    · rw [if_pos ⟨by omega, by omega⟩] at hnext
      have ex : x = ((k + 2 + D : Nat) : Int) := by omega
      have ea : ((k + 2 : Nat) : Int) + ((m + 1 : Nat) : Int) = ((k + 2 + (m + 1) : Nat) : Int) := rfl
      have hDb : k + 2 + D ≤ 60 := by omega
      have hm1 : m + 1 < k + 2 := by omega
      have hDk : m + 1 ≤ D := by
        rw [← hD, ← hN]
        refine (Nat.le_div_iff_mul_le (by omega)).mpr ?_
        exact Nat.mul_le_mul (by omega) (by omega)
      rw [ex, ea]
      refine bit4 (by omega) (by omega) ⟨by omega, by omega, ⟨by omega, by omega⟩, bit4 (by omega) (by omega) (bit4 (by omega) hDb (fun x130 h130 => ⟨by omega, by omega, ⟨by omega, by omega⟩, fun x138 h138 => ⟨⟨by omega, by omega⟩, ?_⟩⟩))⟩
      rw [h130, h138]
      refine hnext _ _ _ (by omega) ?_
      rw [← List.append_assoc]
      exact SR_add hS (isRow_one (by omega) (by omega)) (isRow_add (isRow_one (by omega) (by omega)) (by omega) hDb)
theorem familyInit {Q : (Int → Int) → (Int → Int) → (Int → Int) → (Int → Int) → (Int → Int) → Int → Int → Int → Int → Int → Int → Int → Prop} (h : ∀ ones twos sw, SR (swN 58) ones twos sw → Q zz ones twos zz zz sw 0 0 0 (-1) 0 0) : wp_X1_init Q := by
  have loop : ∀ (c k : Nat) (ones twos : Int → Int) (sw : Int), k + c = 58 → SR (swN k) ones twos sw → wp_X1_init_54 Q (c + 1) zz ones twos zz zz sw 0 0 0 (-1) 0 0 ((k + 2 : Nat) : Int) := by
    intro c
    induction c with
    | zero =>
      intro k ones twos sw hk hS
      have e : k = 58 := by omega
      subst e
      rw [wp_X1_init_54]
      exact ⟨fun _ => h _ _ _ hS, fun z => absurd z (by omega)⟩
    | succ c ih =>
      intro k ones twos sw hk hS
      rw [wp_X1_init_54]
      refine ⟨fun z => absurd z (by omega), fun _ => ⟨k + 1 + 1, ?_⟩⟩
      refine init62 (by omega) (fun ones' twos' sw' hS' => ih (k + 1) ones' twos' sw' (by omega) hS') (k + 1) 0 ones twos sw (by omega) ?_
      rw [show swD (k + 2) 0 = [] from rfl, List.append_nil]
      exact hS
  exact ⟨_, loop 58 0 zz zz 0 (by omega) ⟨rfl, fun i s hs => by rw [show swN 0 = [] from rfl] at hs; simp at hs⟩⟩
