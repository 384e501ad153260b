/-! ===== one cut: the class's swaps and the reference's sets ===== -/
def swD (n : Nat) : Nat → List (Nat × Nat × Nat)
  | 0 => []
  | m + 1 => swD n m ++ (if n * n % (m + 1) = 0 ∧ n + n * n / (m + 1) ≤ 60 then [(n, n + (m + 1), n + n * n / (m + 1))] else [])
/-- for 2 up to k + 1 -/
def swN : Nat → List (Nat × Nat × Nat)
  | 0 => []
  | k + 1 => swN k ++ swD (k + 2) (k + 1)
theorem sw_31 : (swN 58).length = 31 := by decide +kernel
theorem sw_ok : ∀ s ∈ swN 58, 2 ≤ s.1 ∧ s.1 < s.2.1 ∧ s.2.1 < s.2.2 ∧ s.2.2 ≤ 60 ∧ s.2.1 * s.2.2 = s.1 * (s.2.1 + s.2.2) := by decide +kernel
theorem sw_nd : (swN 58).Nodup := by decide +kernel
theorem sw_all : ∀ a b : Fin 61, 2 ≤ a.1 → a.1 < b.1 → (a.1 * b.1) % (a.1 + b.1) = 0 → (a.1 * b.1 / (a.1 + b.1), a.1, b.1) ∈ swN 58 := by decide +kernel
theorem sw_in {n a b : Nat} (h1 : 2 ≤ a) (h2 : a < b) (h3 : b ≤ 60) (h : a * b = n * (a + b)) : (n, a, b) ∈ swN 58 := by
  have := sw_all ⟨a, by omega⟩ ⟨b, by omega⟩ h1 h2 (by show a * b % (a + b) = 0; rw [h]; exact Nat.mul_mod_left _ _)
  have e : a * b / (a + b) = n := by rw [h]; exact Nat.mul_div_cancel _ (by omega)
  have this2 : (a * b / (a + b), a, b) ∈ swN 58 := this
  rw [e] at this2
  exact this2
theorem same_len {l m : List Nat} (h1 : l.Nodup) (h2 : m.Nodup) (h : ∀ x, x ∈ l ↔ x ∈ m) : l.length = m.length := by
  have a := nodup_le l m h1 (fun x hx => (h x).mp hx)
  have b := nodup_le m l h2 (fun x hx => (h x).mpr hx)
  omega
theorem gm_mem {l l' : List Nat} (x : Nat) : x ∈ l.filter (fun x => !decide (x ∈ l')) ↔ x ∈ l ∧ ¬ x ∈ l' := by
  rw [List.mem_filter]
  simp
theorem sum_split {c : Nat → Nat} {P : Nat → Bool} : ∀ l : List Nat, ((l.filter P).map c).sum + ((l.filter (fun x => !P x)).map c).sum = (l.map c).sum := by
  intro l
  induction l with
  | nil => rfl
  | cons a t ih =>
    rw [List.filter_cons, List.filter_cons, List.map_cons, List.sum_cons]
    cases h : P a with
    | true => simp only [Bool.not_true, if_true, List.map_cons, List.sum_cons]; simp; omega
    | false => simp only [Bool.not_false, if_true, List.map_cons, List.sum_cons]; simp; omega
theorem common_eq {l l' : List Nat} (hu : upL l) (hu' : upL l') : l.filter (fun x => decide (x ∈ l')) = l'.filter (fun x => decide (x ∈ l)) := by
  refine up_ext _ _ (List.Pairwise.filter _ hu) (List.Pairwise.filter _ hu') (fun x => ?_)
  rw [List.mem_filter, List.mem_filter, decide_eq_true_eq, decide_eq_true_eq]
  exact ⟨fun z => ⟨z.2, z.1⟩, fun z => ⟨z.2, z.1⟩⟩
theorem gm_len {l l' : List Nat} (hu : upL l) (hu' : upL l') : gm l l' + l'.length = gm l' l + l.length := by
  have h1 : ∀ (m : List Nat) (P : Nat → Bool), (m.filter P).length + (m.filter (fun x => !P x)).length = m.length := by
    intro m P
    have := sum_split (c := fun _ => 1) (P := P) m
    rw [sum_ones, sum_ones, sum_ones] at this
    exact this
  have a := h1 l (fun x => decide (x ∈ l'))
  have b := h1 l' (fun x => decide (x ∈ l))
  rw [common_eq hu hu'] at a
  unfold gm
  omega
theorem gm_sum {c : Nat → Nat} {l l' : List Nat} (hu : upL l) (hu' : upL l') (h : (l.map c).sum = (l'.map c).sum) : ((l.filter (fun x => !decide (x ∈ l'))).map c).sum = ((l'.filter (fun x => !decide (x ∈ l))).map c).sum := by
  have a := sum_split (c := c) (P := fun x => decide (x ∈ l')) l
  have b := sum_split (c := c) (P := fun x => decide (x ∈ l)) l'
  rw [common_eq hu hu'] at a
  omega
theorem unit_eq {q n a b : Nat} (hq : 1 ≤ q) (hn : 2 ≤ n ∧ n ≤ 60) (ha : 2 ≤ a ∧ a ≤ 60) (hb : 2 ≤ b ∧ b ≤ 60) (h : cw q n = cw q a + cw q b) : a * b = n * (a + b) := by
  have e1 := cw_mul (q := q) hn.1 hn.2
  have e2 := cw_mul (q := q) ha.1 ha.2
  have e3 := cw_mul (q := q) hb.1 hb.2
  have hpos : 0 < q * WW := Nat.mul_pos hq WW_pos
  generalize q * WW = W at *
  generalize cw q a = A at *
  generalize cw q b = B at *
  rw [h] at e1
  have : W * (a * b) = W * (n * (a + b)) := by
    have x1 : W * (a * b) = (A + B) * n * (a * b) := by rw [e1]
    have x2 : (A + B) * n * (a * b) = (A * a) * (n * b) + (B * b) * (n * a) := by grind
    rw [x1, x2, e2, e3]
    grind
  exact Nat.eq_of_mul_eq_mul_left hpos this
theorem cut_hop1 {q : Nat} (hq : 1 ≤ q) {l l' : List Nat} (hu : upL l) (hu' : upL l') (hb : ∀ x ∈ l, 2 ≤ x ∧ x ≤ 60) (hb' : ∀ x ∈ l', 2 ≤ x ∧ x ≤ 60) (hs : (l.map (cw q)).sum = (l'.map (cw q)).sum) (h1 : gm l l' = 1) (h2 : gm l' l = 2) :
    ∃ n a b, (n, a, b) ∈ swN 58 ∧ (∀ x, (x ∈ l ∧ ¬ x ∈ l') ↔ x = n) ∧ (∀ x, (x ∈ l' ∧ ¬ x ∈ l) ↔ (x = a ∨ x = b)) := by
  have hsum := gm_sum hu hu' hs
  have m1 := fun x => gm_mem (l := l) (l' := l') x
  have m2 := fun x => gm_mem (l := l') (l' := l) x
  have u2 : upL (l'.filter (fun x => !decide (x ∈ l))) := List.Pairwise.filter _ hu'
  unfold gm at h1 h2
  generalize l.filter (fun x => !decide (x ∈ l')) = F at *
  generalize l'.filter (fun x => !decide (x ∈ l)) = G at *
  match F, G with
  | [n], [a, b] =>
    have hn := hb n ((m1 n).mp List.mem_cons_self).1
    have ha := hb' a ((m2 a).mp List.mem_cons_self).1
    have hbb := hb' b ((m2 b).mp (List.mem_cons_of_mem _ List.mem_cons_self)).1
    have hab : a < b := (List.pairwise_cons.mp u2).1 b List.mem_cons_self
    have he : cw q n = cw q a + cw q b := by simpa using hsum
    refine ⟨n, a, b, sw_in ha.1 hab hbb.2 (unit_eq hq hn ha hbb he), fun x => ?_, fun x => ?_⟩
    · rw [← m1]; exact List.mem_singleton
    · rw [← m2]; simp
  | [], _ => simp at h1
  | _ :: _ :: _, _ => simp at h1
  | [_], [] => simp at h2
  | [_], [_] => simp at h2
  | [_], _ :: _ :: _ :: _ => simp at h2
theorem cut_hop {D : List (List Nat)} {k : Nat} (hD : DD D k) {l l' : List Nat} (hl : l ∈ D) (hl' : l' ∈ D) : cutR l l' ↔ ∃ s ∈ swN 58, hop s l l' := by
  obtain ⟨_, _, _, hall, _, q, t, hq, hsum⟩ := hD
  obtain ⟨hg, hu⟩ := hall l hl
  obtain ⟨hg', hu'⟩ := hall l' hl'
  have hs : (l.map (cw q)).sum = (l'.map (cw q)).sum := by rw [hsum l hl, hsum l' hl']
  constructor
  · rintro (⟨h1, h2⟩ | ⟨h1, h2⟩)
    · obtain ⟨n, a, b, hm, m1, m2⟩ := cut_hop1 hq hu hu' hg.2.2 hg'.2.2 hs h1 h2
      have hn := (m1 n).mpr rfl
      have ha := (m2 a).mpr (Or.inl rfl)
      have hb := (m2 b).mpr (Or.inr rfl)
      refine ⟨(n, a, b), hm, Or.inl ⟨hn.1, ha.2, hb.2⟩, fun x => ?_⟩
      show x ∈ l' ↔ ((x ∈ l ∧ ¬ (x = n ∨ x = a ∨ x = b)) ∨ (¬ x ∈ l ∧ (x = n ∨ x = a ∨ x = b)))
      have k1 := m1 x
      have k2 := m2 x
      by_cases c1 : x ∈ l
      · by_cases c2 : x ∈ l'
        · have : ¬ x = n := fun z => (k1.mpr z).2 c2
          have : ¬ (x = a ∨ x = b) := fun z => (k2.mpr z).2 c1
          simp [c1, c2]
          omega
        · have : x = n := k1.mp ⟨c1, c2⟩
          simp [c1, c2]
          omega
      · by_cases c2 : x ∈ l'
        · have : x = a ∨ x = b := k2.mp ⟨c2, c1⟩
          simp [c1, c2]
          omega
        · have : ¬ x = n := fun z => c1 (k1.mpr z).1
          have : ¬ (x = a ∨ x = b) := fun z => c2 (k2.mpr z).1
          simp [c1, c2]
          omega
    · obtain ⟨n, a, b, hm, m1, m2⟩ := cut_hop1 hq hu' hu hg'.2.2 hg.2.2 hs.symm h2 h1
      have hn := (m1 n).mpr rfl
      have ha := (m2 a).mpr (Or.inl rfl)
      have hb := (m2 b).mpr (Or.inr rfl)
      refine ⟨(n, a, b), hm, Or.inr ⟨hn.2, ha.1, hb.1⟩, fun x => ?_⟩
      show x ∈ l' ↔ ((x ∈ l ∧ ¬ (x = n ∨ x = a ∨ x = b)) ∨ (¬ x ∈ l ∧ (x = n ∨ x = a ∨ x = b)))
      have k1 := m1 x
      have k2 := m2 x
      by_cases c1 : x ∈ l
      · by_cases c2 : x ∈ l'
        · have : ¬ x = n := fun z => (k1.mpr z).2 c1
          have : ¬ (x = a ∨ x = b) := fun z => (k2.mpr z).2 c2
          simp [c1, c2]
          omega
        · have : x = a ∨ x = b := k2.mp ⟨c1, c2⟩
          simp [c1, c2]
          omega
      · by_cases c2 : x ∈ l'
        · have : x = n := k1.mp ⟨c2, c1⟩
          simp [c1, c2]
          omega
        · have : ¬ x = n := fun z => c2 (k1.mpr z).1
          have : ¬ (x = a ∨ x = b) := fun z => c1 (k2.mpr z).1
          simp [c1, c2]
          omega
  · rintro ⟨⟨n, a, b⟩, hm, hc, hx⟩
    have ok := sw_ok _ hm
    have o2 : n < a := ok.2.1
    have o3 : a < b := ok.2.2.1
    have hx' : ∀ x, x ∈ l' ↔ ((x ∈ l ∧ ¬ (x = n ∨ x = a ∨ x = b)) ∨ (¬ x ∈ l ∧ (x = n ∨ x = a ∨ x = b))) := hx
    have nd1 : (l.filter (fun x => !decide (x ∈ l'))).Nodup := upL_nd (List.Pairwise.filter _ hu)
    have nd2 : (l'.filter (fun x => !decide (x ∈ l))).Nodup := upL_nd (List.Pairwise.filter _ hu')
    have ndn : [n].Nodup := List.nodup_cons.mpr ⟨by simp, List.nodup_nil⟩
    have nda : [a, b].Nodup := List.nodup_cons.mpr ⟨by simp; omega, List.nodup_cons.mpr ⟨by simp, List.nodup_nil⟩⟩
    rcases hc with ⟨c1, c2, c3⟩ | ⟨c1, c2, c3⟩
    · have c1' : n ∈ l := c1
      have c2' : ¬ a ∈ l := c2
      have c3' : ¬ b ∈ l := c3
      refine Or.inl ⟨same_len nd1 ndn (fun x => ?_), same_len nd2 nda (fun x => ?_)⟩
      · rw [gm_mem, hx' x, List.mem_singleton]
        constructor
        · rintro ⟨y1, y2⟩
          by_cases e : x = n
          · exact e
          · exfalso
            refine y2 (Or.inl ⟨y1, ?_⟩)
            rintro (w | w | w)
            · exact e w
            · rw [w] at y1; exact c2' y1
            · rw [w] at y1; exact c3' y1
        · intro e
          subst e
          exact ⟨c1', fun w => by rcases w with w | w; (exact w.2 (Or.inl rfl)); (exact w.1 c1')⟩
      · rw [gm_mem, hx' x]
        simp only [List.mem_cons, List.not_mem_nil, or_false]
        constructor
        · rintro ⟨y1 | y1, y2⟩
          · exact absurd y1.1 y2
          · rcases y1.2 with w | w
            · rw [w] at y2; exact absurd c1' y2
            · exact w
        · intro e
          have hxl : ¬ x ∈ l := by
            rcases e with w | w
            · rw [w]; exact c2'
            · rw [w]; exact c3'
          exact ⟨Or.inr ⟨hxl, Or.inr e⟩, hxl⟩
    · have c1' : ¬ n ∈ l := c1
      have c2' : a ∈ l := c2
      have c3' : b ∈ l := c3
      refine Or.inr ⟨same_len nd1 nda (fun x => ?_), same_len nd2 ndn (fun x => ?_)⟩
      · rw [gm_mem, hx' x]
        simp only [List.mem_cons, List.not_mem_nil, or_false]
        constructor
        · rintro ⟨y1, y2⟩
          by_cases e : x = a ∨ x = b
          · exact e
          · exfalso
            refine y2 (Or.inl ⟨y1, ?_⟩)
            rintro (w | w)
            · rw [w] at y1; exact c1' y1
            · exact e w
        · intro e
          have hxl : x ∈ l := by
            rcases e with w | w
            · rw [w]; exact c2'
            · rw [w]; exact c3'
          exact ⟨hxl, fun w => by rcases w with w | w; (exact w.2 (Or.inr e)); (exact w.1 hxl)⟩
      · rw [gm_mem, hx' x, List.mem_singleton]
        constructor
        · rintro ⟨y1 | y1, y2⟩
          · exact absurd y1.1 y2
          · rcases y1.2 with w | w | w
            · exact w
            · rw [w] at y2; exact absurd c2' y2
            · rw [w] at y2; exact absurd c3' y2
        · intro e
          subst e
          exact ⟨Or.inr ⟨c1', Or.inl rfl⟩, c1'⟩
theorem hop_one {s s' : Nat × Nat × Nat} (hs : s ∈ swN 58) (hs' : s' ∈ swN 58) {l l' : List Nat} (h : hop s l l') (h' : hop s' l l') : s = s' := by
  obtain ⟨n, a, b⟩ := s
  obtain ⟨n', a', b'⟩ := s'
  have ok := sw_ok _ hs
  have ok' := sw_ok _ hs'
  have o2 : n < a := ok.2.1
  have o3 : a < b := ok.2.2.1
  have p2 : n' < a' := ok'.2.1
  have p3 : a' < b' := ok'.2.2.1
  have k1 : ∀ x, x ∈ l' ↔ ((x ∈ l ∧ ¬ (x = n ∨ x = a ∨ x = b)) ∨ (¬ x ∈ l ∧ (x = n ∨ x = a ∨ x = b))) := h.2
  have k2 : ∀ x, x ∈ l' ↔ ((x ∈ l ∧ ¬ (x = n' ∨ x = a' ∨ x = b')) ∨ (¬ x ∈ l ∧ (x = n' ∨ x = a' ∨ x = b'))) := h'.2
  have key : ∀ x, (x = n ∨ x = a ∨ x = b) ↔ (x = n' ∨ x = a' ∨ x = b') := by
    intro x
    have e := (k1 x).symm.trans (k2 x)
    by_cases c : x ∈ l
    · simp only [c, true_and, not_true, false_and, or_false] at e
      exact Decidable.not_iff_not.mp e
    · simp only [c, false_and, not_false_eq_true, true_and, false_or] at e
      exact e
  have u1 : upL [n, a, b] := by unfold upL; simp; omega
  have u2 : upL [n', a', b'] := by unfold upL; simp; omega
  have := up_ext [n, a, b] [n', a', b'] u1 u2 (fun x => by simpa using key x)
  simp at this
  simp [this]
theorem bits8 {Q : Int → Prop} {v : Int} {m : List Nat} (hm : m.Nodup) (hb : ∀ x ∈ m, x ≤ 60) (hv : ∀ i, bt v i = decide (i ∈ m)) (h : Q (m.length : Nat)) : wp_X8_bits Q v := by
  have hall : wsn (fun _ => 1) m 61 = m.length := by
    rw [wsn_all m (fun x hx => by have := hb x hx; omega), sum_ones]
  have hlen : m.length ≤ 61 := by
    have := nodup_le m (List.range 61) hm (fun y hy => List.mem_range.mpr (by have := hb y hy; omega))
    rw [List.length_range] at this
    exact this
  have loop : ∀ (c j : Nat), j + c = 61 → wp_X8_bits_4 Q (c + 1) v (wsn (fun _ => 1) m j : Nat) j := by
    intro c
    induction c with
    | zero =>
      intro j hj
      have e : j = 61 := by omega
      subst e
      rw [wp_X8_bits_4, hall]
      exact ⟨fun _ => h, fun z => absurd z (by omega)⟩
    | succ c ih =>
      intro j hj
      have hs := wsn_s (w := fun _ => 1) (n := j) m hm
      have hmo := wsn_mono (w := fun _ => 1) (show j + 1 ≤ 61 by omega) m
      have hn := ih (j + 1) (by omega)
      rw [wp_X8_bits_4, sbit (by omega), hv j]
      by_cases cj : j ∈ m
      · rw [if_pos cj] at hs
        rw [hs] at hn hmo
        rw [if_pos (decide_eq_true cj)]
        refine ⟨fun z => absurd z (by omega), fun _ => ⟨⟨by omega, by omega⟩, ⟨by omega, by omega⟩, fun x hx => ⟨⟨by omega, by omega⟩, ?_⟩⟩⟩
        rw [hx]
        exact hn
      · rw [if_neg cj] at hs
        rw [hs] at hn hmo
        rw [decide_eq_false cj, if_neg (by simp)]
        refine ⟨fun z => absurd z (by omega), fun _ => ⟨⟨by omega, by omega⟩, ⟨by omega, by omega⟩, fun x hx => ⟨⟨by omega, by omega⟩, ?_⟩⟩⟩
        rw [hx, Int.add_zero]
        exact hn
  have h0 := loop 61 0 (by omega)
  rw [wsn_0 m (fun y _ => Nat.zero_le y)] at h0
  exact ⟨_, h0⟩
theorem set_out {s s' : Int} {l l' : List Nat} (h : SetR s l) (h' : SetR s' l') (hb : ∀ x ∈ l, 2 ≤ x ∧ x ≤ 60) : ∀ i, bt (land64 s (lxor64 s' (-1))) i = decide (i ∈ l.filter (fun x => !decide (x ∈ l'))) := by
  intro i
  rw [bt_land, bt_lxor, h.2, h'.2, bt_n1, Bool.eq_iff_iff, decide_eq_true_eq, gm_mem]
  by_cases c : i ∈ l
  · have := hb i c
    by_cases c2 : i ∈ l'
    · simp [c, c2]; omega
    · simp [c, c2]; omega
  · simp [c]
theorem isCut8 {Q : Int → Prop} {D : List (List Nat)} {k : Nat} {ma sh st : Int → Int} (hD : DD D k) (hS : Stor D ma sh st) {i j : Nat} {l l' : List Nat} (hl : D[i]? = some l) (hl' : D[j]? = some l') (h1 : cutR l l' → Q 1) (h0 : ¬ cutR l l' → Q 0) : wp_X8_isCut Q ma st i j := by
  have hi := (List.getElem?_eq_some_iff.mp hl).1
  have hj := (List.getElem?_eq_some_iff.mp hl').1
  have hDl := hD.1
  have hd := hD.2.2.2.1 l (List.mem_of_getElem? hl)
  have hd' := hD.2.2.2.1 l' (List.mem_of_getElem? hl')
  have h6 := hD.2.2.1
  have g1 := hd.1.2.1
  have g2 := hd'.1.2.1
  obtain ⟨s1, _, s3⟩ := hS i l hl
  obtain ⟨t1, _, t3⟩ := hS j l' hl'
  have hlen := gm_len hd.2 hd'.2
  have inner : wp_X8_isCut_26 Q ma st i j := by
    unfold wp_X8_isCut_26 wp_X8_isCut_82 wp_X8_isCut_94 wp_X8_isCut_98 wp_X8_isCut_99
    refine ⟨by omega, by omega, by omega, by omega, bits8 (upL_nd (List.Pairwise.filter _ hd.2)) (fun x hx => (hd.1.2.2 x ((gm_mem x).mp hx).1).2) (set_out s3 t3 hd.1.2.2) ⟨by omega, by omega, by omega, by omega, bits8 (upL_nd (List.Pairwise.filter _ hd'.2)) (fun x hx => (hd'.1.2.2 x ((gm_mem x).mp hx).1).2) (set_out t3 s3 hd'.1.2.2) ?_⟩⟩
    have eg : (l.filter (fun x => !decide (x ∈ l'))).length = gm l l' := rfl
    have eg' : (l'.filter (fun x => !decide (x ∈ l))).length = gm l' l := rfl
    rw [eg, eg']
    refine ⟨fun a => ⟨fun b => ⟨Or.inl rfl, h0 (fun w => ?_)⟩, fun b => ⟨fun c => ⟨Or.inl rfl, h0 (fun w => ?_)⟩, fun c => ⟨Or.inr rfl, h1 (Or.inr ⟨by omega, by omega⟩)⟩⟩⟩, fun a => ⟨fun b => ⟨Or.inr rfl, h1 (Or.inl ⟨by omega, by omega⟩)⟩, fun b => ⟨fun c => ⟨Or.inl rfl, h0 (fun w => ?_)⟩, fun c => absurd c (by omega)⟩⟩⟩
    · rcases w with w | w <;> omega
    · rcases w with w | w <;> omega
    · rcases w with w | w <;> omega
  unfold wp_X8_isCut
  rw [s1, t1]
  refine ⟨by omega, by omega, by omega, by omega, ⟨by omega, by omega⟩, fun x13 h13 => ⟨fun _ => inner, fun a => ⟨fun _ => inner, fun b => h0 (fun w => ?_)⟩⟩⟩
  rcases w with w | w <;> omega
