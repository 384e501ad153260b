/-! ===== which numbers the divisors make: a row of bits ===== -/
def gb (f : Int → Int) (x : Nat) : Bool := bt (f ((x / 64 : Nat) : Int)) (x % 64)
/-- the word that is shifted in -/
theorem moved_bit {f : Int → Int} {d i b : Nat} (hb : b < 64) (hi : d / 64 ≤ i) :
    (d % 64 = 0 ∨ i = d / 64 → bt (shl64 (f ((i - d / 64 : Nat) : Int)) ((d % 64 : Nat) : Int)) b = (decide (d ≤ 64 * i + b) && gb f (64 * i + b - d))) ∧
    (0 < d % 64 → d / 64 < i → bt (lor64 (shl64 (f ((i - d / 64 : Nat) : Int)) ((d % 64 : Nat) : Int)) (ushr64 (f ((i - d / 64 - 1 : Nat) : Int)) ((64 - d % 64 : Nat) : Int))) b = (decide (d ≤ 64 * i + b) && gb f (64 * i + b - d))) := by
  have hd := Nat.div_add_mod d 64
  have hm := Nat.mod_lt d (show 0 < 64 by omega)
  generalize d / 64 = w at *
  generalize d % 64 = s at *
  have hi1 : ∀ c, b = s + c → (64 * i + b - d) / 64 = i - w ∧ (64 * i + b - d) % 64 = c := by
    intro c hc
    omega
  refine ⟨fun hor => ?_, fun hs hw => ?_⟩
  · rw [bt_shl hm]
    by_cases hbs : b < s
    · have h1 : ¬ d ≤ 64 * i + b := by omega
      rw [decide_eq_true hbs, decide_eq_false h1]
      simp
    · have h1 : d ≤ 64 * i + b := by omega
      obtain ⟨e1, e2⟩ := hi1 (b - s) (by omega)
      rw [decide_eq_true h1, decide_eq_true hb, decide_eq_false hbs]
      unfold gb
      rw [e1, e2]
      simp
  · have h1 : d ≤ 64 * i + b := by omega
    rw [bt_lor, bt_shl hm, bt_ushr (by omega), decide_eq_true h1, decide_eq_true hb]
    by_cases hbs : b < s
    · have e1 : (64 * i + b - d) / 64 = i - w - 1 := by omega
      have e2 : (64 * i + b - d) % 64 = 64 - s + b := by omega
      unfold gb
      rw [e1, e2, decide_eq_true hbs]
      simp
    · obtain ⟨e1, e2⟩ := hi1 (b - s) (by omega)
      unfold gb
      rw [e1, e2, decide_eq_false hbs, bt_ge (show 64 ≤ 64 - s + b by omega)]
      simp
theorem ash14 {Q : (Int → Int) → Prop} {d lw : Nat} {g : Int → Int} (hd1 : 1 ≤ d) (hd : d ≤ 5000) (hlw : lw < 79)
    (h : ∀ f, (∀ x, x < 64 * (lw + 1) → gb f x = (gb g x || (decide (d ≤ x) && gb g (x - d)))) → Q f) :
    ∀ (k : Nat) (f : Int → Int), k ≤ lw + 1 → (∀ j : Nat, j < k → f j = g j) → (∀ x, 64 * k ≤ x → x < 64 * (lw + 1) → gb f x = (gb g x || (decide (d ≤ x) && gb g (x - d)))) →
      wp_X0_addShifted_14 Q (k + 1) f ((d / 64 : Nat) : Int) ((d % 64 : Nat) : Int) ((k : Int) - 1) := by
  intro k
  -- the words below d / 64 don't change
  have fin : ∀ (k : Nat) (f : Int → Int), k ≤ d / 64 → k ≤ lw + 1 → (∀ j : Nat, j < k → f j = g j) → (∀ x, 64 * k ≤ x → x < 64 * (lw + 1) → gb f x = (gb g x || (decide (d ≤ x) && gb g (x - d)))) → Q f := by
    intro k f hk hkl hf1 hf2
    refine h f (fun x hx => ?_)
    rcases Nat.lt_or_ge x (64 * k) with w | w
    · have h1 : ¬ d ≤ x := by omega
      rw [decide_eq_false h1, Bool.false_and, Bool.or_false]
      unfold gb
      rw [hf1 (x / 64) (by omega)]
    · exact hf2 x w hx
  induction k with
  | zero =>
    intro f hk hf1 hf2
    rw [wp_X0_addShifted_14]
    exact ⟨fun _ => fin 0 f (by omega) (by omega) hf1 hf2, fun z => absurd z (by omega)⟩
  | succ k ih =>
    intro f hk hf1 hf2
    rw [wp_X0_addShifted_14]
    unfold wp_X0_addShifted_67
    have e0 : ((k + 1 : Nat) : Int) - 1 = (k : Int) := by omega
    rw [e0]
    have e9 : (k : Int) + (-1) = (k : Int) - 1 := rfl
    rw [e9]
    have hm := Nat.mod_lt d (show 0 < 64 by omega)
    have hmv := fun (b : Nat) (hb : b < 64) (hi : d / 64 ≤ k) => moved_bit (f := f) (d := d) (i := k) hb hi
    -- what follows once the word is made
    have step : ∀ w : Int, d / 64 ≤ k → (∀ b, b < 64 → bt w b = (decide (d ≤ 64 * k + b) && gb f (64 * k + b - d))) → (0 ≤ (k : Int) ∧ (k : Int) < 79 ∧ ∀ x78 : Int, x78 = lor64 (f k) w → 0 ≤ (k : Int) ∧ (k : Int) < 79 ∧ r32 ((k : Int) - 1) ∧ wp_X0_addShifted_14 Q (k + 1) (ups f k x78) ((d / 64 : Nat) : Int) ((d % 64 : Nat) : Int) ((k : Int) - 1)) := by
      intro w hwk hw
      refine ⟨by omega, by omega, fun x hx => ⟨by omega, by omega, ⟨by omega, by omega⟩, ih _ (by omega) (fun j hj => ?_) (fun y hy1 hy2 => ?_)⟩⟩
      · rw [ups_n (by omega)]; exact hf1 j (by omega)
      · by_cases hyk : y / 64 = k
        · have ey : y = 64 * k + y % 64 := by omega
          have eg : gb (ups f (k : Int) x) y = bt x (y % 64) := by
            unfold gb
            rw [hyk, ups_s]
          rw [eg, hx, bt_lor, hw (y % 64) (by omega), ← ey]
          have e1 : bt (f (k : Int)) (y % 64) = gb g y := by
            unfold gb
            rw [hyk, hf1 k (by omega)]
          rw [e1]
          by_cases hdy : d ≤ y
          · have e2 : gb f (y - d) = gb g (y - d) := by
              unfold gb
              rw [hf1 ((y - d) / 64) (by omega)]
            rw [e2]
          · rw [decide_eq_false hdy, Bool.false_and, Bool.false_and]
        · have eg : gb (ups f (k : Int) x) y = gb f y := by
            unfold gb
            rw [ups_n (by omega)]
          rw [eg]
          exact hf2 y (by omega) hy2
    generalize hW : d / 64 = W at *
    generalize hS : d % 64 = S at *
    refine ⟨fun z => fin (k + 1) f (by omega) (by omega) hf1 hf2, fun z => ?_⟩
    have hWk : W ≤ k := by omega
    have e1 : (k : Int) - (W : Int) = ((k - W : Nat) : Int) := by omega
    rw [e1]
    refine ⟨⟨by omega, by omega⟩, by omega, by omega, fun x hx => ⟨fun w => ?_, fun w => ⟨fun y => ?_, fun y => ?_⟩⟩⟩
    · rw [hx]
      exact step _ hWk (fun b hb => (hmv b hb hWk).1 (Or.inl (by omega)))
    · rw [hx]
      exact step _ hWk (fun b hb => (hmv b hb hWk).1 (Or.inr (by omega)))
    · have e2 : ((k - W : Nat) : Int) - 1 = ((k - W - 1 : Nat) : Int) := by omega
      have e3 : (64 : Int) - (S : Int) = ((64 - S : Nat) : Int) := by omega
      rw [e2, e3]
      refine ⟨⟨by omega, by omega⟩, ⟨by omega, by omega⟩, by omega, by omega, ⟨by omega, by omega⟩, fun v hv => ?_⟩
      rw [hv, hx]
      exact step _ hWk (fun b hb => (hmv b hb hWk).2 (by omega) (by omega))
theorem addShifted0 {Q : (Int → Int) → Prop} {d lw : Nat} {g : Int → Int} (hd1 : 1 ≤ d) (hd : d ≤ 5000) (hlw : lw < 79)
    (h : ∀ f, (∀ x, x < 64 * (lw + 1) → gb f x = (gb g x || (decide (d ≤ x) && gb g (x - d)))) → Q f) : wp_X0_addShifted Q g d lw := by
  intro x hx y hy
  have e1 : x = ((d / 64 : Nat) : Int) := by rw [hx]; exact nm_tdiv d 64
  have e2 : y = ((d % 64 : Nat) : Int) := by rw [hy]; exact nm_tmod d 64
  rw [e1, e2]
  refine ⟨lw + 1 + 1, ?_⟩
  have := ash14 (Q := Q) (g := g) hd1 hd hlw h (lw + 1) g (Nat.le_refl _) (fun j _ => rfl) (fun x h1 h2 => by omega)
  have e3 : ((lw + 1 : Nat) : Int) - 1 = (lw : Int) := by omega
  rw [e3] at this
  exact this
/-- the places of a falling list, counted from its end -/
theorem drop_s {F : List Nat} {dv : Int → Int} (hdv : rep dv F.reverse) {k : Nat} (hk : k < F.length) : ∃ d, d ∈ F ∧ dv k = (d : Nat) ∧ F.drop (F.length - (k + 1)) = d :: F.drop (F.length - k) := by
  have hlt : F.length - (k + 1) < F.length := by omega
  have hdrop : F.drop (F.length - (k + 1)) = F[F.length - (k + 1)] :: F.drop (F.length - k) := by
    rw [List.drop_eq_getElem_cons hlt]
    congr 2
    omega
  have hget : F.reverse[k]? = some F[F.length - (k + 1)] := by
    rw [List.getElem?_reverse (by omega), List.getElem?_eq_getElem (by omega)]
    congr 2
    omega
  exact ⟨_, List.getElem_mem hlt, hdv _ _ hget, hdrop⟩
theorem cm68 {Q : Int → (Int → Int) → Prop} {F : List Nat} {dv : Int → Int} {t : Nat} (ht : t ≤ 5000) (hF : F.length ≤ 48) (hFd : ∀ d ∈ F, 1 ≤ d ∧ d ≤ 5000) (hdv : rep dv F.reverse) (h : ∀ f, Q (if rch F t = true then 1 else 0) f) :
    ∀ (c k : Nat) (f : Int → Int), k + c = F.length → (∀ x, x < 64 * (t / 64 + 1) → gb f x = rch (F.drop (F.length - k)) x) → wp_X0_canMake_68 Q dv (F.length : Nat) (c + 1) f t ((t / 64 : Nat) : Int) k := by
  intro c
  induction c with
  | zero =>
    intro k f hk hf
    rw [wp_X0_canMake_68]
    unfold wp_X0_canMake_118
    have e : (t : Int).tmod 64 = ((t % 64 : Nat) : Int) := nm_tmod t 64
    rw [e, ubit (Nat.mod_lt t (by omega))]
    have e2 := hf t (by omega)
    have e3 : k = F.length := by omega
    rw [e3, Nat.sub_self, List.drop_zero] at e2
    unfold gb at e2
    rw [e2]
    have hq := h f
    refine ⟨fun _ => ⟨by omega, by omega, fun z => ⟨Or.inl rfl, ?_⟩, fun z => ⟨Or.inr rfl, ?_⟩⟩, fun z => absurd z (by omega)⟩
    · by_cases w : rch F t = true
      · rw [if_pos w] at z; exact absurd z (by omega)
      · rw [if_neg w] at hq; exact hq
    · by_cases w : rch F t = true
      · rw [if_pos w] at hq; exact hq
      · rw [if_neg w] at z; exact absurd rfl z
  | succ c ih =>
    intro k f hk hf
    rw [wp_X0_canMake_68]
    obtain ⟨d, hd, hdk, hdrop⟩ := drop_s hdv (show k < F.length by omega)
    have e1 : (k : Int) + 1 = ((k + 1 : Nat) : Int) := rfl
    rw [hdk, e1]
    refine ⟨fun z => absurd z (by omega), fun _ => ⟨by omega, by omega, addShifted0 (hFd d hd).1 (hFd d hd).2 (by omega) (fun f' hf' => ⟨⟨by omega, by omega⟩, ih (k + 1) f' (by omega) (fun x hx => ?_)⟩)⟩⟩
    rw [hf' x hx, hdrop, rch, hf x hx, hf (x - d) (by omega)]
theorem cm4 {Q : Int → (Int → Int) → Prop} {F : List Nat} {dv : Int → Int} {t : Nat} (ht : t ≤ 5000) (hF : F.length ≤ 48) (hFd : ∀ d ∈ F, 1 ≤ d ∧ d ≤ 5000) (hdv : rep dv F.reverse) (h : ∀ f, Q (if rch F t = true then 1 else 0) f) :
    ∀ (c k : Nat) (f : Int → Int), k + c = F.length → wp_X0_canMake_4 Q dv (F.length : Nat) (c + 1) f t ((F.drop (F.length - k)).sum : Nat) k := by
  have hsum : ∀ l : List Nat, (∀ d ∈ l, 1 ≤ d ∧ d ≤ 5000) → l.sum ≤ 5000 * l.length := by
    intro l
    induction l with
    | nil => intro _; exact Nat.le_refl _
    | cons a r ih =>
      intro hl
      rw [List.sum_cons, List.length_cons]
      have := ih (fun d hd => hl d (List.mem_cons_of_mem _ hd))
      have := hl a List.mem_cons_self
      omega
  intro c
  induction c with
  | zero =>
    intro k f hk
    rw [wp_X0_canMake_4]
    unfold wp_X0_canMake_43
    have e3 : k = F.length := by omega
    subst e3
    rw [Nat.sub_self, List.drop_zero]
    refine ⟨fun _ => ⟨fun z => ?_, fun z => ⟨fun w => absurd w (by omega), fun _ => ⟨fun _ x hx => ?_, fun w => absurd w (by omega)⟩⟩⟩, fun z => absurd z (by omega)⟩
    · have hq := h f
      have : ¬ rch F t = true := fun w => by have := rch_sum F t w; omega
      rw [if_neg this] at hq
      exact hq
    · have ex : x = ((t / 64 : Nat) : Int) := by rw [hx]; exact nm_tdiv t 64
      rw [ex]
      refine fillL (by omega) (fun f' hf' => ⟨F.length + 1, cm68 ht hF hFd hdv h F.length 0 _ (by omega) (fun y hy => ?_)⟩) f
      rw [Nat.sub_zero, List.drop_length, rch]
      unfold gb
      by_cases h0 : y / 64 = 0
      · rw [h0]
        have e0 : ups f' 0 1 ((0 : Nat) : Int) = 1 := if_pos rfl
        rw [e0, bt_1]
        have : y % 64 = y := by omega
        rw [this]
      · rw [ups_n (by omega), hf' (y / 64) (by omega), bt_0]
        have : ¬ y = 0 := by omega
        rw [decide_eq_false this]
  | succ c ih =>
    intro k f hk
    rw [wp_X0_canMake_4]
    obtain ⟨d, hd, hdk, hdrop⟩ := drop_s hdv (show k < F.length by omega)
    have e1 : (k : Int) + 1 = ((k + 1 : Nat) : Int) := rfl
    rw [hdk, e1]
    have hb := hsum (F.drop (F.length - k)) (fun x hx => hFd x (List.mem_of_mem_drop hx))
    have hlen : (F.drop (F.length - k)).length ≤ 48 := by rw [List.length_drop]; omega
    have nx := ih (k + 1) f (by omega)
    rw [hdrop, List.sum_cons] at nx
    have := (hFd d hd).2
    generalize (F.drop (F.length - k)).sum = S at *
    refine ⟨fun z => absurd z (by omega), fun _ => ⟨by omega, by omega, ⟨by omega, by omega⟩, fun x hx => ⟨⟨by omega, by omega⟩, ?_⟩⟩⟩
    have ex : x = ((d + S : Nat) : Int) := by omega
    rw [ex]
    exact nx
theorem canMake0 {Q : Int → (Int → Int) → Prop} {F : List Nat} {dv f : Int → Int} {t : Nat} (ht : t ≤ 5000) (hF : F.length ≤ 48) (hFd : ∀ d ∈ F, 1 ≤ d ∧ d ≤ 5000) (hdv : rep dv F.reverse) (h : ∀ f, Q (if rch F t = true then 1 else 0) f) : wp_X0_canMake Q dv f (F.length : Nat) t := by
  refine ⟨F.length + 1, ?_⟩
  have := cm4 (Q := Q) ht hF hFd hdv h F.length 0 f (by omega)
  rw [Nat.sub_zero, List.drop_length] at this
  exact this
