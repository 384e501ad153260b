/-! ===== the class's search itself ===== -/
theorem PD_len {nums : List Nat} {pt lm : Nat} {nu we wa gr pf : Int → Int} (h : PD nums pt lm nu we wa gr pf) : nums.length ≤ 59 := by
  obtain ⟨p1, p2, p3, _⟩ := h
  have := nodup_le nums (rl lm (lm - 1)) (p1.imp (fun h => Nat.ne_of_lt h)) (fun x hx => by
    have := p2 x hx
    exact (rl_mem (n := lm) (lm - 1) x (by omega)).mpr (by omega))
  have hl : ∀ n m, (rl n m).length = m := by
    intro n m
    induction m with
    | zero => rfl
    | succ m ih => rw [rl, List.length_cons, ih]
  rw [hl] at this
  omega
theorem sum_le_mul {c : Nat → Nat} {m : Nat} : ∀ l : List Nat, (∀ x ∈ l, c x ≤ m) → (l.map c).sum ≤ m * l.length := by
  intro l
  induction l with
  | nil => intro _; simp
  | cons a r ih =>
    intro h
    rw [List.map_cons, List.sum_cons, List.length_cons, Nat.mul_succ]
    have := ih (fun x hx => h x (List.mem_cons_of_mem _ hx))
    have := h a List.mem_cons_self
    omega
theorem canMake2 {Q : Int → Prop} {nums : List Nat} {pt lm t i s : Nat} {nu we wa gr pf : Int → Int} (h : PD nums pt lm nu we wa gr pf) (hi : i < nums.length) (hs : s ≤ 6)
    (h0 : SL (fun v => pt / v) (nums.drop i) s t = [] → Q 0) (h1 : Q 1) : wp_X2_canMake Q wa gr (nums.length : Nat) i s t := by
  have hlen := PD_len h
  obtain ⟨p1, p2, p3, p4, p5, p6, p7, p8, p9, p10⟩ := h
  unfold wp_X2_canMake wp_X2_canMake_48 wp_X2_canMake_49
  have hsum : ∀ j, ((nums.take j).map (fun v => pt / v)).sum ≤ 10000000000000000 * 59 := by
    intro j
    have h2 := sum_le_mul (c := fun v => pt / v) (m := 10000000000000000) (nums.take j) (fun x _ => Nat.le_trans (Nat.div_le_self _ _) p5)
    have h3 : (nums.take j).length ≤ 59 := by rw [List.length_take]; omega
    have h4 : 10000000000000000 * (nums.take j).length ≤ 10000000000000000 * 59 := Nat.mul_le_mul_left _ h3
    omega
  have eS : (i : Int) + (s : Int) = ((i + s : Nat) : Int) := rfl
  have split : ((nums.take (i + s)).map (fun v => pt / v)).sum = ((nums.take i).map (fun v => pt / v)).sum + (((nums.drop i).take s).map (fun v => pt / v)).sum := by
    rw [List.take_add, List.map_append, List.sum_append]
  have emin : nums.take (min (i + s) nums.length) = nums.take (i + s) := by
    rcases Nat.le_total (i + s) nums.length with w | w
    · rw [Nat.min_eq_left w]
    · rw [Nat.min_eq_right w, List.take_length, List.take_of_length_le w]
  rw [eS]
  refine ⟨⟨by omega, by omega⟩, fun x hx => ?_⟩
  have ex : x = ((min (i + s) nums.length : Nat) : Int) := by omega
  have w1 := p8 (min (i + s) nums.length) (by omega)
  have w2 := p8 i (by omega)
  rw [emin, split] at w1
  have b1 := hsum i
  have b2 := hsum (i + s)
  rw [split] at b2
  rw [ex, w1, w2]
  obtain ⟨g, hg, hg0, hgd⟩ := p9 i hi
  rw [hg, nm_tmod]
  generalize hA : ((nums.take i).map (fun v => pt / v)).sum = A at *
  generalize hB : (((nums.drop i).take s).map (fun v => pt / v)).sum = B at *
  refine ⟨by omega, by omega, by omega, by omega, ⟨by omega, by omega⟩, fun w => ⟨Or.inl rfl, h0 (SL_top (c := fun v => pt / v) (nums.drop i) s t ?_ (by rw [hB]; omega))⟩, fun w => ⟨by omega, by omega, by omega, fun u => ⟨Or.inl rfl, h0 (SL_gcd hgd (fun d => u (by rw [Nat.mod_eq_zero_of_dvd d]; rfl)))⟩, fun u => ⟨Or.inr rfl, h1⟩⟩⟩
  refine List.Pairwise.imp_of_mem ?_ (List.Pairwise.sublist (List.drop_sublist i nums) p1)
  intro a b ha hb hab
  have := p2 a (List.mem_of_mem_drop ha)
  exact Nat.div_le_div_left (Nat.le_of_lt hab) (by omega)
theorem extend2 {z : Nat} {nums : List Nat} {pt lm : Nat} {nu we wa gr pf : Int → Int} (hz : z ≤ 2001) (h : PD nums pt lm nu we wa gr pf) : ∀ (s : Nat), 1 ≤ s → s ≤ 6 → ∀ (Q : (Int → Int) → Int → Prop) (f : Int → Int) (n v : Int) (fr t : Nat) (D : List (List Nat)) (P : List Nat), fr ≤ 60 → 1 ≤ t → t < pt → RS z D f n → isRow v P →
    (∀ f' n', RS z (D ++ (SL (fun v => pt / v) (nums.drop fr) s t).map (fun l => P ++ l)) f' n' → Q f' n') → wp_X2_extend s Q z f nu we wa gr pf lm (nums.length : Nat) pt n s fr t v := by
  have hlen := PD_len h
  have hpd := h
  obtain ⟨p1, p2, p3, p4, p5, p6, p7, p8, p9, p10⟩ := h
  intro s
  induction s with
  | zero => intro hs; omega
  | succ s ih =>
    intro hs hs6 Q f n v fr t D P hfr ht htp hS hv hQ
    rw [wp_X2_extend]
    refine ⟨fun w => fna hpd ht htp (fun j hj h1 h2 x hx => ?_), fun w => ?_⟩
    · have hs1 : 1 ≤ s := by omega
      have ex : x = ((max fr j : Nat) : Int) := by omega
      have eSkip : SL (fun v => pt / v) (nums.drop fr) (s + 1) t = SL (fun v => pt / v) (nums.drop (max fr j)) (s + 1) t := by
        rcases Nat.le_total fr j with u | u
        · rw [Nat.max_eq_right u]
          have e : nums.drop fr = (nums.drop fr).take (j - fr) ++ nums.drop j := by
            have h6 : nums.drop j = (nums.drop fr).drop (j - fr) := by rw [List.drop_drop]; congr 1; omega
            rw [h6, List.take_append_drop]
          rw [e]
          refine SL_skip _ _ (fun y hy => h1 y ?_)
          obtain ⟨i, hi⟩ := List.mem_iff_getElem?.mp hy
          have hilt : i < j - fr := by
            have := (List.getElem?_eq_some_iff.mp hi).1
            rw [List.length_take] at this
            omega
          rw [List.getElem?_take_of_lt hilt, List.getElem?_drop] at hi
          rw [List.mem_iff_getElem?]
          exact ⟨fr + i, by rw [List.getElem?_take_of_lt (by omega)]; exact hi⟩
        · rw [Nat.max_eq_left u]
      rw [eSkip] at hQ
      have hsm : ∀ y ∈ nums.drop (max fr j), pt / y ≤ t := by
        intro y hy
        refine h2 y ?_
        have e : nums.drop (max fr j) = (nums.drop j).drop (max fr j - j) := by rw [List.drop_drop]; congr 1; omega
        rw [e] at hy
        exact List.mem_of_mem_drop hy
      rw [ex]
      have hm60 : max fr j ≤ 60 := by omega
      generalize max fr j = i0 at *
      -- the loop over the places
      have loop : ∀ (c i : Nat) (f : Int → Int) (n : Int) (D : List (List Nat)), i + c = 61 → i ≤ 60 → (∀ y ∈ nums.drop i, pt / y ≤ t) → RS z D f n → (∀ f' n', RS z (D ++ (SL (fun v => pt / v) (nums.drop i) (s + 1) t).map (fun l => P ++ l)) f' n' → Q f' n') → wp_X2_extend_28 Q (wp_X2_extend s) z nu we wa gr pf lm (nums.length : Nat) pt (c + 1) f n ((s + 1 : Nat) : Int) t v i := by
        intro c
        induction c with
        | zero => intro i f n D hi hi2; omega
        | succ c ihc =>
          intro i f n D hi hi60 hsm hS hQ
          rw [wp_X2_extend_28]
          unfold wp_X2_extend_125 wp_X2_extend_119
          refine ⟨fun u => ?_, fun u => ⟨fun y => hQ f n (RS_full hS (by have := hS.1; omega)), fun y => ?_⟩⟩
          · have e : nums.drop i = [] := List.drop_eq_nil_of_le (by omega)
            rw [e] at hQ
            have := hQ f n (by rw [SL, List.map_nil, List.append_nil]; exact hS)
            exact this
          · have hil : i < nums.length := by omega
            have hget : nums[i]? = some nums[i] := List.getElem?_eq_getElem hil
            have hdrop : nums.drop i = nums[i] :: nums.drop (i + 1) := List.drop_eq_getElem_cons hil
            have hwe : we i = ((pt / nums[i] : Nat) : Int) := p7 i _ (by rw [List.getElem?_map, hget]; rfl)
            have hnu : nu i = (nums[i] : Nat) := p6 i _ hget
            have hxm := p2 nums[i] (List.getElem_mem hil)
            have hle := hsm nums[i] (by rw [hdrop]; exact List.mem_cons_self)
            generalize nums[i] = X at *
            have hsm2 : ∀ y ∈ nums.drop (i + 1), pt / y ≤ t := fun y hy => hsm y (by rw [hdrop]; exact List.mem_cons_of_mem _ hy)
            have hc0 : (0 : Int) ≤ ((pt / X : Nat) : Int) := Int.natCast_nonneg _
            have e1 : (i : Int) + 1 = ((i + 1 : Nat) : Int) := rfl
            have e2 : ((s + 1 : Nat) : Int) - 1 = (s : Int) := by omega
            rw [hwe, hnu, e1, e2]
            refine canMake2 hpd hil hs6 (fun hnil => ⟨fun q => absurd rfl q, fun _ => ?_⟩) ⟨fun _ => ⟨by omega, by omega, bit4 hxm.1 (by omega) (fun x72 h72 => ⟨by omega, by omega, ⟨by omega, by omega⟩, fun x84 h84 => ⟨fun q => ?_, fun q => ?_⟩⟩)⟩, fun q => absurd q (by omega)⟩
            · rw [hnil, List.map_nil, List.append_nil] at hQ
              exact hQ f n hS
            · have hlt : pt / X < t := by omega
              have ex84 : x84 = ((t - pt / X : Nat) : Int) := by omega
              rw [ex84, h72]
              refine ⟨⟨by omega, by omega⟩, ⟨by omega, by omega⟩, ih hs1 (by omega) _ f n _ (i + 1) (t - pt / X) D (P ++ [X]) (by omega) (by omega) (by omega) hS (isRow_add hv hxm.1 (by omega)) (fun f' n' hr => ⟨⟨by omega, by omega⟩, ihc (i + 1) f' n' _ (by omega) (by omega) hsm2 hr (fun f2 n2 hr2 => hQ f2 n2 ?_)⟩)⟩
              rw [hdrop, SL, if_neg (by omega), if_pos hlt, List.map_append, List.map_map]
              have efun : ((fun l => P ++ l) ∘ fun l => X :: l) = (fun l : List Nat => (P ++ [X]) ++ l) := by
                funext l
                simp
              rw [efun, ← List.append_assoc]
              exact hr2
            · have heq : pt / X = t := by omega
              rw [h72]
              refine keep2 hz hS (isRow_add hv hxm.1 (by omega)) (fun f' n' hr => ⟨⟨by omega, by omega⟩, ihc (i + 1) f' n' _ (by omega) (by omega) hsm2 hr (fun f2 n2 hr2 => hQ f2 n2 ?_)⟩)
              rw [hdrop, SL, if_pos heq, List.map_append, List.map_singleton, ← List.append_assoc]
              exact hr2
      exact ⟨61 - i0 + 1, loop (61 - i0) i0 f n D (by omega) hm60 hsm hS hQ⟩
    · have e1 : s = 0 := by omega
      subst e1
      exact endWith2 hz hpd ht htp hS hv hQ
