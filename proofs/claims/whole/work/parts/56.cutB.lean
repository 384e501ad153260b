/-! ===== cutting up: the class's side ===== -/
theorem leastTwin3 {Q : Int → (Int → Int) → Prop} {f : Int → Int} {l : List Nat} {N : Nat} (hN : N ≤ 16) (h : ms N f l)
    (h0 : tw l = none → ∀ g, ms N g l → Q (-1) g) (h1 : ∀ (i v : Nat) (g : Int → Int), ms N g l → i < N → g i = v → tw l = some v → Q i g) : wp_X3_leastTwin Q f N := by
  unfold wp_X3_leastTwin
  refine putInOrder3 hN ?_
  have hm := ms_srtN h
  have hu := srtN_up (n := N) (f := f)
  generalize srtN N f = g at hm hu
  have loop : ∀ (d i : Nat), i + d = N ∨ (d = 0 ∧ N ≤ i) → 1 ≤ i → (∀ j : Nat, 1 ≤ j → j < i → ¬ g ((j : Int) - 1) = g j) → wp_X3_leastTwin_6 Q N (d + 1) g i := by
    intro d
    induction d with
    | zero =>
      intro i hi h2 ha
      rw [wp_X3_leastTwin_6]
      refine ⟨fun _ => h0 (tw_no hm hu (fun j h3 h4 => ha j h3 (by omega))) g hm, fun z => absurd z (by omega)⟩
    | succ d ih =>
      intro i hi h2 ha
      rw [wp_X3_leastTwin_6]
      refine ⟨fun z => absurd z (by omega), fun _ => ⟨fun z => absurd z (by omega), fun _ => ⟨⟨by omega, by omega⟩, by omega, by omega, by omega, by omega, fun w => ⟨⟨by omega, by omega⟩, ?_⟩, fun w => ?_⟩⟩⟩
      · have e : (i : Int) + 1 = ((i + 1 : Nat) : Int) := rfl
        rw [e]
        refine ih (i + 1) (by omega) (by omega) (fun j h3 h4 => ?_)
        by_cases ej : j = i
        · rw [ej]; exact w
        · exact ha j h3 (by omega)
      · have hnn := hm.2.1 i (by omega)
        have ev : g i = (((g i).toNat : Nat) : Int) := by omega
        exact h1 i (g i).toNat g hm (by omega) ev (tw_adj hm hu h2 (by omega) ha w ev)
  rcases Nat.eq_zero_or_pos N with z | z
  · exact ⟨1, loop 0 1 (by omega) (by omega) (fun j h3 h4 => by omega)⟩
  · exact ⟨N - 1 + 1, loop (N - 1) 1 (by omega) (by omega) (fun j h3 h4 => by omega)⟩
theorem cut_div {n : Nat} (hn : 1 ≤ n) : n + 1 ≤ 1000000000000 / n ↔ n * (n + 1) ≤ 1000000000000 := by
  rw [Nat.le_div_iff_mul_le (by omega), Nat.mul_comm]
theorem byCut40 {Q : Int → (Int → Int) → Int → Prop} {p : Nat} : ∀ (f : Nat) (l : List Nat) (sh : Int → Int) (i : Nat), f + l.length = 17 → l.length ≤ 16 → 1 ≤ p → i + p = l.length → ms l.length sh l → (∀ v ∈ l, 1 ≤ v ∧ v ≤ 1000000000000) →
    (∀ l' sh', cutL f l = some l' → ms l'.length sh' l' → Q 1 sh' (l'.length : Nat)) → (cutL f l = none → ∀ sh' v, Q 0 sh' v) → wp_X3_byCutting_40 Q f sh (l.length : Nat) i := by
  intro f
  induction f with
  | zero => intro l sh i hf hl; exact absurd hf (by omega)
  | succ f ih =>
    intro l sh i hf hl hp hi hm hb h1 h2
    rw [wp_X3_byCutting_40]
    unfold wp_X3_byCutting_68 wp_X3_byCutting_114
    refine ⟨fun z => absurd z (by omega), fun _ => leastTwin3 hl hm (fun ht g hg => ⟨fun _ => h1 l g (cutL_n ht) hg, fun z => absurd z (by omega)⟩) (fun t n g hg htl hgt htw => ?_)⟩
    obtain ⟨v, hv, hv2⟩ := ms_mem hg htl
    have hvb := hb v hv
    have evn : v = n := by omega
    subst evn
    refine ⟨fun z => absurd z (by omega), fun _ => ⟨fun _ => ⟨by omega, by omega, fun x hx => ?_⟩, fun z => absurd z (by omega)⟩⟩
    rw [hx, hgt]
    have eG : Int.tdiv 1000000000000 (v : Int) = ((1000000000000 / v : Nat) : Int) := nm_tdiv 1000000000000 v
    rw [eG]
    have hdiv := @cut_div v hvb.1
    have c1 : (v : Int) * ((v : Int) + 1) = ((v * (v + 1) : Nat) : Int) := rfl
    rw [c1]
    have hS := @cutL_s f v l htw
    have hG := @cutL_G f v l htw
    have h16 := @cutL_16 f v l htw
    have hcut : ∀ g' : Int → Int, _ → _ := fun g' hg' => @ms_cut l.length g g' l t v hg htl hgt hg'
    have hz1 : v + 1 ≤ v * (v + 1) := Nat.le_mul_of_pos_left _ (by omega)
    generalize v * (v + 1) = z at hdiv hS hG hcut hz1 ⊢
    refine ⟨fun w => absurd w (by omega), fun _ => ⟨⟨by omega, by omega⟩, by omega, fun w => h2 (hG (by omega)) _ _, fun w => ⟨⟨by omega, by omega⟩, ⟨by omega, by omega⟩, ?_⟩⟩⟩
    have hz : z ≤ 1000000000000 := hdiv.mp (by omega)
    unfold wp_X3_add wp_X3_add_27
    refine ⟨fun w => absurd w (by omega), fun _ => ⟨fun w => ⟨fun y => absurd rfl y, fun _ => h2 (h16 (by omega)) _ _⟩, fun w => ⟨fun _ => ⟨by omega, by omega, ⟨by omega, by omega⟩, fun y hy => ⟨fun _ => ⟨⟨by omega, by omega⟩, fun u hu => ⟨by omega, by omega, ⟨by omega, by omega⟩, ?_⟩⟩, fun y => absurd y (by omega)⟩⟩, fun y => absurd y (by omega)⟩⟩⟩
    have hS2 := hS (by omega) (by omega)
    have hms := hcut (ups (ups g (l.length : Nat) z) (t : Nat) ((v + 1 : Nat) : Int)) (fun a => by
      have k1 := cnt_ups (f := ups g (l.length : Nat) z) (v := ((v + 1 : Nat) : Int)) (a := a) (k := t) (l.length + 1) (by omega)
      rw [ups_n (by omega), cnt_end] at k1
      omega)
    have hlen := hms.1
    have eu : u = ((v + 1 : Nat) : Int) := by omega
    have ey : y = ((l.length + 1 : Nat) : Int) := by omega
    have ei : (i : Int) + 1 = ((i + 1 : Nat) : Int) := rfl
    rw [eu, ey, ei]
    have go := ih ((v + 1) :: z :: l.erase v) (ups (ups g (l.length : Nat) z) (t : Nat) ((v + 1 : Nat) : Int)) (i + 1) (by omega) (by omega) hp (by omega) (by rw [hlen]; exact hms) (fun w hw => by
      rcases List.mem_cons.mp hw with e | hw
      · omega
      · rcases List.mem_cons.mp hw with e | hw
        · omega
        · exact hb w (List.mem_of_mem_erase hw)) (fun l' s2 e r => h1 l' s2 (by rw [hS2]; exact e) r) (fun e => h2 (by rw [hS2]; exact e))
    rw [hlen] at go
    exact go
theorem byCut13 {Q : Int → (Int → Int) → Int → Prop} {p q : Nat} (hp : 1 ≤ p) (hp16 : p ≤ 16) (hq : 1 ≤ q) (hq2 : q ≤ 1000000)
    (h1 : ∀ l' sh', cutL (17 - p) (List.replicate p q) = some l' → ms l'.length sh' l' → Q 1 sh' (l'.length : Nat)) (h2 : cutL (17 - p) (List.replicate p q) = none → ∀ sh' v, Q 0 sh' v) :
    ∀ (d i : Nat) (sh : Int → Int), i + d = p → ms i sh (List.replicate i q) → wp_X3_byCutting_13 Q (d + 1) sh i p q i := by
  intro d
  induction d with
  | zero =>
    intro i sh hi hm
    have e : i = p := by omega
    subst e
    rw [wp_X3_byCutting_13]
    refine ⟨fun _ => ⟨17 - i, ?_⟩, fun z => absurd z (by omega)⟩
    have := byCut40 (Q := Q) (p := i) (17 - i) (List.replicate i q) sh 0 (by rw [List.length_replicate]; omega) (by rw [List.length_replicate]; omega) hp (by rw [List.length_replicate]; omega) (by rw [List.length_replicate]; exact hm) (fun v hv => by have := (List.mem_replicate.mp hv).2; omega) h1 h2
    rw [List.length_replicate] at this
    exact this
  | succ d ih =>
    intro i sh hi hm
    rw [wp_X3_byCutting_13]
    unfold wp_X3_add wp_X3_add_27
    refine ⟨fun z => absurd z (by omega), fun _ => ⟨fun w => absurd w (by omega), fun _ => ⟨fun w => absurd w (by omega), fun w => ⟨fun _ => ⟨by omega, by omega, ⟨by omega, by omega⟩, fun y hy => ⟨fun _ => ⟨⟨by omega, by omega⟩, ?_⟩, fun y => absurd y (by omega)⟩⟩, fun y => absurd y (by omega)⟩⟩⟩⟩
    have ey : y = ((i + 1 : Nat) : Int) := by omega
    have ei : (i : Int) + 1 = ((i + 1 : Nat) : Int) := rfl
    rw [ey, ei]
    exact ih (i + 1) _ (by omega) (ms_end hm)
theorem byCutting3 {Q : Int → (Int → Int) → Int → Prop} {p q : Nat} {sh : Int → Int} (hp : 1 ≤ p) (hq : 1 ≤ q) (hq2 : q ≤ 1000000)
    (h1 : ∀ l' sh', p ≤ 16 → cutL (17 - p) (List.replicate p q) = some l' → ms l'.length sh' l' → Q 1 sh' (l'.length : Nat)) (h2 : (p ≤ 16 → cutL (17 - p) (List.replicate p q) = none) → ∀ sh' v, Q 0 sh' v) : wp_X3_byCutting Q sh 0 p q := by
  unfold wp_X3_byCutting
  refine ⟨fun z => ⟨p + 1, ?_⟩, fun z => h2 (fun w => absurd w (by omega)) _ _⟩
  exact byCut13 hp (by omega) hq hq2 (fun l' s a b => h1 l' s (by omega) a b) (fun a => h2 (fun _ => a)) p 0 sh (by omega) ⟨rfl, fun j hj => absurd hj (Nat.not_lt_zero _), fun a => rfl⟩
