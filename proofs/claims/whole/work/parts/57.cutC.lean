/-! ===== cutting up: the reference's side ===== -/
/-- the inner loop: does another place hold the number of place k -/
theorem twi18 {Q : Int → Prop} {K : Int → Int → Prop} {N k : Nat} {g : Int → Int} {b : Int} (hN : N ≤ 16) (hk : k < N)
    (h0 : (∀ j : Nat, j < N → j ≠ k → ¬ g j = g k) → wp_X8_twice_94 Q N g K b k)
    (h1 : (∃ j : Nat, j < N ∧ j ≠ k ∧ g j = g k) → ((b < 0 → wp_X8_twice_90 Q N g K k) ∧ (¬ (b < 0) → (0 ≤ (k : Int) ∧ (k : Int) < 17 ∧ 0 ≤ b ∧ b < 17 ∧ ((g b ≤ g k → wp_X8_twice_94 Q N g K b k) ∧ (¬ (g b ≤ g k) → wp_X8_twice_90 Q N g K k)))))) :
    ∀ (d j : Nat) (m : Int), j + d = N → (m = 0 → ∀ i : Nat, i < j → i ≠ k → ¬ g i = g k) → (¬ m = 0 → ∃ i : Nat, i < N ∧ i ≠ k ∧ g i = g k) → wp_X8_twice_18 Q N g K (d + 1) b k m j := by
  intro d
  induction d with
  | zero =>
    intro j m hj hm0 hm1
    rw [wp_X8_twice_18]
    refine ⟨fun _ => ⟨fun z => h0 (fun i h3 h4 => hm0 z i (by omega) h4), fun z => h1 (hm1 z)⟩, fun z => absurd z (by omega)⟩
  | succ d ih =>
    intro j m hj hm0 hm1
    rw [wp_X8_twice_18]
    unfold wp_X8_twice_54 wp_X8_twice_58 wp_X8_twice_59
    have e : (j : Int) + 1 = ((j + 1 : Nat) : Int) := rfl
    rw [e]
    have yes : (∃ i : Nat, i < N ∧ i ≠ k ∧ g i = g k) → wp_X8_twice_18 Q N g K (d + 1) b k 1 ((j + 1 : Nat) : Int) := fun hx => ih (j + 1) 1 (by omega) (fun z => absurd z (by omega)) (fun _ => hx)
    refine ⟨fun z => absurd z (by omega), fun _ => ⟨fun z => ⟨⟨by omega, by omega⟩, yes (hm1 z)⟩, fun z => ⟨fun w => ⟨⟨by omega, by omega⟩, ih (j + 1) 0 (by omega) (fun _ i h3 h4 => ?_) (fun y => absurd rfl y)⟩, fun w => ⟨by omega, by omega, by omega, by omega, fun y => ⟨⟨by omega, by omega⟩, ih (j + 1) 0 (by omega) (fun _ i h3 h4 => ?_) (fun y => absurd rfl y)⟩, fun y => ⟨⟨by omega, by omega⟩, yes ⟨j, by omega, by omega, y⟩⟩⟩⟩⟩⟩
    · exact hm0 z i (by omega) h4
    · by_cases ei : i = j
      · rw [ei]; exact y
      · exact hm0 z i (by omega) h4
/-- best so far among the first k -/
def twB (N : Nat) (g : Int → Int) (b : Int) (k : Nat) : Prop := (b = -4 ∧ ∀ i : Nat, i < k → cnt N g (g i) ≤ 1) ∨ (∃ t : Nat, t < N ∧ b = t ∧ 2 ≤ cnt N g (g t) ∧ ∀ i : Nat, i < k → 2 ≤ cnt N g (g i) → g t ≤ g i)
theorem twi5 {Q : Int → Prop} {N : Nat} {g : Int → Int} (hN : N ≤ 16) (h : ∀ b, twB N g b N → Q b) : ∀ (d k : Nat) (b : Int), k + d = N → twB N g b k → wp_X8_twice_5 Q N g (d + 1) b k := by
  intro d
  induction d with
  | zero =>
    intro k b hk hb
    rw [wp_X8_twice_5]
    have e : k = N := by omega
    subst e
    exact ⟨fun _ => h b hb, fun z => absurd z (by omega)⟩
  | succ d ih =>
    intro k b hk hb
    rw [wp_X8_twice_5]
    have e : (k : Int) + 1 = ((k + 1 : Nat) : Int) := rfl
    refine ⟨fun z => absurd z (by omega), fun _ => ⟨N + 1, twi18 hN (by omega) (fun hno => ?_) (fun hyes => ?_) N 0 0 (by omega) (fun _ i h3 => by omega) (fun y => absurd rfl y)⟩⟩
    · unfold wp_X8_twice_94 wp_X8_twice_95
      rw [e]
      refine ⟨⟨by omega, by omega⟩, ih (k + 1) b (by omega) ?_⟩
      have hc : cnt N g (g k) = 1 := cnt_one N (by omega) rfl hno
      rcases hb with ⟨h1, h2⟩ | ⟨t, h1, h2, h3, h4⟩
      · refine Or.inl ⟨h1, fun i hi => ?_⟩
        by_cases ei : i = k
        · rw [ei]; omega
        · exact h2 i (by omega)
      · refine Or.inr ⟨t, h1, h2, h3, fun i hi h5 => ?_⟩
        by_cases ei : i = k
        · rw [ei] at h5; omega
        · exact h4 i (by omega) h5
    · unfold wp_X8_twice_90 wp_X8_twice_94 wp_X8_twice_95
      rw [e]
      have hc : 2 ≤ cnt N g (g k) := by
        obtain ⟨j, h1, h2, h3⟩ := hyes
        rcases Nat.lt_or_ge j k with h4 | h4
        · exact cnt_ge2 N h4 (by omega) h3 rfl
        · exact cnt_ge2 N (show k < j by omega) h1 rfl h3
      have take : (∀ i : Nat, i < k → 2 ≤ cnt N g (g i) → g k ≤ g i) → twB N g (k : Int) (k + 1) := fun hle => Or.inr ⟨k, by omega, rfl, hc, fun i hi h5 => by
        by_cases ei : i = k
        · rw [ei]; omega
        · exact hle i (by omega) h5⟩
      rcases hb with ⟨h1, h2⟩ | ⟨t, h1, h2, h3, h4⟩
      · refine ⟨fun _ => ⟨⟨by omega, by omega⟩, ih (k + 1) k (by omega) (take (fun i hi h5 => ?_))⟩, fun z => absurd z (by omega)⟩
        have := h2 i hi
        omega
      · subst h2
        refine ⟨fun z => absurd z (by omega), fun _ => ⟨by omega, by omega, by omega, by omega, fun z => ⟨⟨by omega, by omega⟩, ih (k + 1) t (by omega) (Or.inr ⟨t, h1, rfl, h3, fun i hi h5 => ?_⟩)⟩, fun z => ⟨⟨by omega, by omega⟩, ih (k + 1) k (by omega) (take (fun i hi h5 => ?_))⟩⟩⟩
        · by_cases ei : i = k
          · rw [ei]; exact z
          · exact h4 i (by omega) h5
        · have := h4 i hi h5
          omega
theorem twice8 {Q : Int → Prop} {N : Nat} {g : Int → Int} {l : List Nat} (hN : N ≤ 16) (hm : ms N g l) (h0 : tw l = none → Q (-4)) (h1 : ∀ (t v : Nat), t < N → g t = v → tw l = some v → Q t) : wp_X8_twice Q N g := by
  refine ⟨N + 1, twi5 hN (fun b hb => ?_) N 0 (-4) (by omega) (Or.inl ⟨rfl, fun i hi => by omega⟩)⟩
  rcases hb with ⟨hb1, hb2⟩ | ⟨t, hb1, hb2, hb3, hb4⟩
  · rw [hb1]
    refine h0 (tw_none (fun m => ?_))
    rcases Nat.lt_or_ge 1 (l.count m) with z | z
    · exfalso
      rw [← hm.2.2] at z
      obtain ⟨j, hj, hj2⟩ := cnt_pos N (show 0 < cnt N g m by omega)
      have := hb2 j hj
      rw [hj2] at this
      omega
    · exact z
  · obtain ⟨v, hv, hv2⟩ := ms_mem hm hb1
    rw [hb2]
    refine h1 t v hb1 hv2 (tw_some ?_ (fun m hm2 => ?_))
    · rw [← hm.2.2, ← hv2]; exact hb3
    · rw [← hm.2.2] at hm2
      obtain ⟨j, hj, hj2⟩ := cnt_pos N (show 0 < cnt N g m by omega)
      have := hb4 j hj (by rw [hj2]; exact hm2)
      omega
theorem cut66 {Q : Int → (Int → Int) → Int → Prop} : ∀ (f : Nat) (l : List Nat) (row : Int → Int) (at' : Int), f + l.length = 17 → l.length ≤ 16 → ms l.length row l → (∀ v ∈ l, 1 ≤ v ∧ v ≤ 1000000000000) → ((tw l = none ∧ at' = -4) ∨ ∃ t v : Nat, t < l.length ∧ row t = v ∧ tw l = some v ∧ at' = t) →
    (∀ l' row', cutL f l = some l' → ms l'.length row' l' → Q (l'.length : Nat) row' 0) → (cutL f l = none → ∀ (l' : List Nat) row', l'.length ≤ 16 → Q (l'.length : Nat) row' 1) → wp_X8_cutUp_66 Q (f + 1) (l.length : Nat) row 0 at' := by
  intro f
  induction f with
  | zero => intro l row at' hf hl; exact absurd hf (by omega)
  | succ f ih =>
    intro l row at' hf hl hm hb hat h1 h2
    have spent : ∀ (k : Nat) (a : Int) (l' : List Nat) (row' : Int → Int), l'.length ≤ 16 → cutL (f + 1) l = none → wp_X8_cutUp_66 Q (k + 1) (l'.length : Nat) row' 1 a := by
      intro k a l' row' hl' e
      rw [wp_X8_cutUp_66]
      unfold wp_X8_cutUp_159
      exact ⟨fun _ => h2 e l' row' hl', fun _ => ⟨fun _ => h2 e l' row' hl', fun z => absurd z (by omega)⟩⟩
    rw [wp_X8_cutUp_66]
    unfold wp_X8_cutUp_159 wp_X8_cutUp_124 wp_X8_cutUp_129 wp_X8_cutUp_156
    rcases hat with ⟨ht, ha⟩ | ⟨t, v, htl, hrt, htw, ha⟩
    · exact ⟨fun _ => h1 l row (cutL_n ht) hm, fun z => absurd z (by omega)⟩
    obtain ⟨v', hv, hv2⟩ := ms_mem hm htl
    have hvb := hb v' hv
    have evn : v' = v := by omega
    subst evn
    rw [ha]
    refine ⟨fun z => absurd z (by omega), fun _ => ⟨fun z => absurd rfl z, fun _ => ⟨by omega, by omega, fun x hx => ?_⟩⟩⟩
    rw [hx, hrt]
    have hdiv : v' ≤ 1000000000000 / (v' + 1) ↔ v' * (v' + 1) ≤ 1000000000000 := Nat.le_div_iff_mul_le (by omega)
    have eG : Int.tdiv 1000000000000 ((v' : Int) + 1) = ((1000000000000 / (v' + 1) : Nat) : Int) := nm_tdiv 1000000000000 (v' + 1)
    rw [eG]
    have c1 : (v' : Int) * ((v' : Int) + 1) = ((v' * (v' + 1) : Nat) : Int) := rfl
    rw [c1]
    have hS := @cutL_s f v' l htw
    have hG := @cutL_G f v' l htw
    have h16 := @cutL_16 f v' l htw
    have hcut : ∀ g' : Int → Int, _ → _ := fun g' hg' => @ms_cut l.length row g' l t v' hm htl hrt hg'
    have hz1 : v' + 1 ≤ v' * (v' + 1) := Nat.le_mul_of_pos_left _ (by omega)
    generalize v' * (v' + 1) = z at hdiv hS hG hcut hz1 ⊢
    refine ⟨⟨by omega, by omega⟩, fun u hu => ⟨by omega, by omega, ⟨by omega, by omega⟩, fun w => ⟨Or.inr rfl, fun _ => spent _ _ l _ hl (hG (by omega)), fun y => absurd y (by omega)⟩, fun w => ⟨⟨by omega, by omega⟩, by omega, fun y => ⟨Or.inl rfl, fun y => absurd rfl y, fun _ => ⟨⟨by omega, by omega⟩, ?_⟩⟩, fun y => ⟨Or.inr rfl, fun _ => spent _ _ l _ hl (hG ?_), fun y => absurd y (by omega)⟩⟩⟩⟩
    · have hz : z ≤ 1000000000000 := hdiv.mp (by omega)
      refine ⟨⟨by omega, by omega⟩, ?_⟩
      have eu : u = ((v' + 1 : Nat) : Int) := by omega
      rw [eu]
      have hw8 : ∀ (Q' : Int → Prop) (NN : Nat) (g : Int → Int), NN ≤ 16 → (∀ j : Nat, j < NN → 0 ≤ g j) → (∀ b, Q' b) → wp_X8_twice Q' NN g := by
        intro Q' NN g hNN _ hQ
        exact ⟨NN + 1, twi5 hNN (fun b _ => hQ b) NN 0 (-4) (by omega) (Or.inl ⟨rfl, fun i hi => by omega⟩)⟩
      by_cases hlen : 16 ≤ l.length
      · unfold wp_X8_put wp_X8_put_25 wp_X8_put_30 wp_X8_put_60
        refine ⟨fun y => absurd rfl y, fun _ => ⟨fun _ => ⟨Or.inr rfl, fun _ => ?_, fun y => absurd y (by omega)⟩, fun y => absurd y (by omega)⟩⟩
        refine hw8 _ l.length _ hl (fun j hj => ?_) (fun b => spent _ _ l _ hl (h16 hlen))
        by_cases ej : j = t
        · rw [ej, ups_s]; omega
        · rw [ups_n (by omega)]; exact hm.2.1 j hj
      · have hS2 := hS hlen (by omega)
        unfold wp_X8_put wp_X8_put_25 wp_X8_put_30 wp_X8_put_60
        refine ⟨fun y => absurd rfl y, fun _ => ⟨fun y => absurd y (by omega), fun _ => ⟨fun _ => ⟨Or.inl rfl, fun y => absurd rfl y, fun _ => ⟨by omega, by omega, ⟨by omega, by omega⟩, fun y hy => ?_⟩⟩, fun y => absurd y (by omega)⟩⟩⟩
        have hms := hcut (ups (ups row (t : Nat) ((v' + 1 : Nat) : Int)) (l.length : Nat) z) (fun a => by
          have k1 := cnt_ups (f := row) (v := ((v' + 1 : Nat) : Int)) (a := a) (k := t) l.length (by omega)
          rw [cnt_end]
          omega)
        have hlen2 := hms.1
        have ey : y = ((l.length + 1 : Nat) : Int) := by omega
        rw [ey]
        have hms2 : ms ((v' + 1) :: z :: l.erase v').length (ups (ups row (t : Nat) ((v' + 1 : Nat) : Int)) (l.length : Nat) z) ((v' + 1) :: z :: l.erase v') := by rw [hlen2]; exact hms
        have hb2 : ∀ w ∈ (v' + 1) :: z :: l.erase v', 1 ≤ w ∧ w ≤ 1000000000000 := by
          intro w hw
          rcases List.mem_cons.mp hw with e | hw
          · omega
          · rcases List.mem_cons.mp hw with e | hw
            · omega
            · exact hb w (List.mem_of_mem_erase hw)
        have go : ∀ a : Int, ((tw ((v' + 1) :: z :: l.erase v') = none ∧ a = -4) ∨ ∃ t2 v2 : Nat, t2 < ((v' + 1) :: z :: l.erase v').length ∧ (ups (ups row (t : Nat) ((v' + 1 : Nat) : Int)) (l.length : Nat) z) t2 = v2 ∧ tw ((v' + 1) :: z :: l.erase v') = some v2 ∧ a = t2) → wp_X8_cutUp_66 Q (f + 1) ((l.length + 1 : Nat) : Int) (ups (ups row (t : Nat) ((v' + 1 : Nat) : Int)) (l.length : Nat) z) 0 a := by
          intro a ha
          have := ih ((v' + 1) :: z :: l.erase v') _ a (by omega) (by omega) hms2 hb2 ha (fun l' s2 e r => h1 l' s2 (by rw [hS2]; exact e) r) (fun e => h2 (by rw [hS2]; exact e))
          rw [hlen2] at this
          exact this
        refine twice8 (N := l.length + 1) (by omega) hms (fun e => go _ (Or.inl ⟨e, rfl⟩)) (fun t2 v2 e1 e2 e3 => go _ (Or.inr ⟨t2, v2, by omega, e2, e3, rfl⟩))
    · have : ¬ v' ≤ 1000000000000 / (v' + 1) := fun q => y (Int.ofNat_le.mpr q)
      rw [hdiv] at this
      omega
theorem cut20 {Q : Int → (Int → Int) → Int → Prop} {p q : Nat} (hp : 1 ≤ p) (hp16 : p ≤ 16) (hq : 1 ≤ q) (hq2 : q ≤ 1000000)
    (h1 : ∀ l' row', cutL (17 - p) (List.replicate p q) = some l' → ms l'.length row' l' → Q (l'.length : Nat) row' 0) (h2 : cutL (17 - p) (List.replicate p q) = none → ∀ (l' : List Nat) row', l'.length ≤ 16 → Q (l'.length : Nat) row' 1) :
    ∀ (d i : Nat) (row : Int → Int), i + d = p → ms i row (List.replicate i q) → wp_X8_cutUp_20 Q (d + 1) i row 0 p q i := by
  intro d
  induction d with
  | zero =>
    intro i row hi hm
    have e : i = p := by omega
    subst e
    rw [wp_X8_cutUp_20]
    unfold wp_X8_cutUp_48 wp_X8_cutUp_64
    have go : ∀ a : Int, ((tw (List.replicate i q) = none ∧ a = -4) ∨ ∃ t2 v2 : Nat, t2 < (List.replicate i q).length ∧ row t2 = v2 ∧ tw (List.replicate i q) = some v2 ∧ a = t2) → wp_X8_cutUp_66 Q (17 - i + 1) (i : Nat) row 0 a := by
      intro a ha
      have := cut66 (Q := Q) (17 - i) (List.replicate i q) row a (by rw [List.length_replicate]; omega) (by rw [List.length_replicate]; omega) (by rw [List.length_replicate]; exact hm) (fun v hv => by have := (List.mem_replicate.mp hv).2; omega) ha h1 h2
      rw [List.length_replicate] at this
      exact this
    refine ⟨fun _ => ⟨fun _ => twice8 (by omega) hm (fun e => ⟨_, go _ (Or.inl ⟨e, rfl⟩)⟩) (fun t2 v2 e1 e2 e3 => ⟨_, go _ (Or.inr ⟨t2, v2, by rw [List.length_replicate]; exact e1, e2, e3, rfl⟩)⟩), fun z => absurd rfl z⟩, fun z => absurd z (by omega)⟩
  | succ d ih =>
    intro i row hi hm
    rw [wp_X8_cutUp_20]
    unfold wp_X8_put wp_X8_put_25 wp_X8_put_30 wp_X8_put_60
    refine ⟨fun z => absurd z (by omega), fun _ => ⟨fun z => absurd rfl z, fun _ => ⟨fun z => absurd rfl z, fun _ => ⟨fun z => absurd z (by omega), fun _ => ⟨fun _ => ⟨Or.inl rfl, fun z => absurd rfl z, fun _ => ⟨by omega, by omega, ⟨by omega, by omega⟩, fun y hy => ⟨⟨by omega, by omega⟩, fun u hu => ?_⟩⟩⟩, fun z => absurd z (by omega)⟩⟩⟩⟩⟩
    have ey : y = ((i + 1 : Nat) : Int) := by omega
    have ei : u = ((i + 1 : Nat) : Int) := by omega
    rw [ey, ei]
    exact ih (i + 1) _ (by omega) (ms_end hm)
theorem cutUp8 {Q : Int → (Int → Int) → Int → Prop} {p q : Nat} {row : Int → Int} (hp : 1 ≤ p) (hq : 1 ≤ q) (hq2 : q ≤ 1000000)
    (h1 : ∀ l' row', p ≤ 16 → cutL (17 - p) (List.replicate p q) = some l' → ms l'.length row' l' → Q (l'.length : Nat) row' 0) (h2 : (p ≤ 16 → cutL (17 - p) (List.replicate p q) = none) → ∀ (l' : List Nat) row', l'.length ≤ 16 → Q (l'.length : Nat) row' 1) : wp_X8_cutUp Q 0 row 0 p q := by
  unfold wp_X8_cutUp wp_X8_cutUp_14
  refine ⟨fun z => ⟨Or.inl rfl, p + 1, ?_⟩, fun z => ⟨Or.inr rfl, 1, ?_⟩⟩
  · exact cut20 hp (by omega) hq hq2 (fun l' s a b => h1 l' s (by omega) a b) (fun a => h2 (fun _ => a)) p 0 row (by omega) ⟨rfl, fun j hj => absurd hj (Nat.not_lt_zero _), fun a => rfl⟩
  · rw [wp_X8_cutUp_20]
    unfold wp_X8_cutUp_48 wp_X8_cutUp_64
    have go : wp_X8_cutUp_66 Q 1 0 row 1 (-4) := by
      rw [wp_X8_cutUp_66]
      unfold wp_X8_cutUp_159
      have := h2 (fun w => absurd w (by omega)) [] row (by simp)
      exact ⟨fun _ => this, fun w => absurd w (by omega)⟩
    exact ⟨fun w => absurd w (by omega), fun _ => ⟨fun _ => ⟨fun w => absurd w (by omega), fun _ => ⟨1, go⟩⟩, fun w => absurd w (by omega)⟩⟩
