/-! once: the items unfolded -/
def rp (n : Nat) (x : List Nat) : List Nat := match n with
  | 0 => []
  | n + 1 => x ++ rp n x
theorem rp_len (x : List Nat) : ∀ n, (rp n x).length = n * x.length := by
  intro n
  induction n with
  | zero => rw [Nat.zero_mul]; rfl
  | succ n ih => rw [rp, List.length_append, ih, Nat.succ_mul, Nat.add_comm]
theorem rp_comm (x : List Nat) : ∀ n, rp n x ++ x = x ++ rp n x := by
  intro n
  induction n with
  | zero => rw [rp, List.nil_append, List.append_nil]
  | succ n ih => rw [rp, List.append_assoc, ih]
def unr (R rw : Nat → Nat) (sp : Nat → Nat → Nat) : Nat → Nat → Nat → Nat → List Nat
  | 0, _, _, _ => []
  | f + 1, i, j, a => rp (gcR R rw i j / a) (if i = j then [rw i] else unr R rw sp f i (sp i j) (gcR R rw i j) ++ unr R rw sp f (sp i j + 1) j (gcR R rw i j))
theorem sum_split (f : Nat → Nat) (a : Nat) : ∀ b, sumTo f (a + b) = sumTo f a + sumTo (fun e => f (a + e)) b := by
  intro b
  induction b with
  | zero => rfl
  | succ b ih => rw [← Nat.add_assoc, sumTo, ih, sumTo]; omega
theorem sum_mul (c : Nat) (f : Nat → Nat) : ∀ n, c * sumTo f n = sumTo (fun e => c * f e) n := by
  intro n
  induction n with
  | zero => rfl
  | succ n ih => rw [sumTo, sumTo, Nat.mul_add, ih]
theorem div_two {a g r : Nat} (h0 : 1 ≤ g) (ha : a ∣ g) (hg : g ∣ r) : g / a * (r / g) = r / a := by
  obtain ⟨k, rfl⟩ := hg
  obtain ⟨m, rfl⟩ := ha
  have a0 : 0 < a := Nat.pos_of_ne_zero (fun q => by rw [q, Nat.zero_mul] at h0; omega)
  rw [Nat.mul_div_cancel_left m a0, Nat.mul_div_cancel_left k h0, Nat.mul_assoc, Nat.mul_div_cancel_left _ a0]
theorem unr_len {N : NG} {R rw : Nat → Nat} {sp : Nat → Nat → Nat} (h : ROK N R rw) (hs : SPok N sp) : ∀ f i j a, i ≤ j → j < nP N → j - i < f → a ∣ gcR R rw i j → (unr R rw sp f i j a).length = sumTo (fun e => R (rw (i + e)) / a) (j - i + 1) := by
  intro f
  induction f with
  | zero => intro i j a _ _ h; omega
  | succ f ih =>
    intro i j a hij hj hf hd
    have hgv := gcR_ok h hij hj
    rw [unr, rp_len]
    by_cases e : i = j
    · subst e
      rw [if_pos rfl, Nat.sub_self, gcR_self]
      show R (rw i) / a * 1 = 0 + R (rw (i + 0)) / a
      rw [Nat.mul_one, Nat.zero_add]; rfl
    · obtain ⟨s1, s2⟩ := hs i j (by omega) hj
      have d1 : gcR R rw i j ∣ gcR R rw i (sp i j) := gcR_sub (Nat.le_refl _) s1 (by omega)
      have d2 : gcR R rw i j ∣ gcR R rw (sp i j + 1) j := gcR_sub (by omega) (by omega) (Nat.le_refl _)
      rw [if_neg e, List.length_append, ih i (sp i j) _ s1 (by omega) (by omega) d1, ih (sp i j + 1) j _ (by omega) hj (by omega) d2]
      have e1 : sumTo (fun e => R (rw (i + e)) / gcR R rw i j) (sp i j - i + 1) + sumTo (fun e => R (rw (sp i j + 1 + e)) / gcR R rw i j) (j - (sp i j + 1) + 1) = sumTo (fun e => R (rw (i + e)) / gcR R rw i j) (j - i + 1) := by
        rw [show j - i + 1 = (sp i j - i + 1) + (j - (sp i j + 1) + 1) by omega, sum_split _ (sp i j - i + 1) (j - (sp i j + 1) + 1)]
        congr 1
        refine sumTo_congr (fun t _ => ?_)
        show R (rw (sp i j + 1 + t)) / _ = R (rw (i + (sp i j - i + 1 + t))) / _
        rw [show i + (sp i j - i + 1 + t) = sp i j + 1 + t by omega]
      rw [e1, sum_mul]
      refine sumTo_congr (fun t ht => ?_)
      exact div_two hgv.1 hd (gcR_dvd (by omega) (by omega))
theorem unr_pos {N : NG} {R rw : Nat → Nat} {sp : Nat → Nat → Nat} (h : ROK N R rw) (hs : SPok N sp) {f i j a : Nat} (hij : i ≤ j) (hj : j < nP N) (hf : j - i < f) (hd : a ∣ gcR R rw i j) : 1 ≤ (unr R rw sp f i j a).length := by
  rw [unr_len h hs f i j a hij hj hf hd]
  have hgv := gcR_ok h hij hj
  obtain ⟨a1, -, -, -⟩ := dvd_le hd hgv.1
  have hri := h.2 _ (h.1 i (by omega)).1.1
  have hp : 0 < R (rw i) := by omega
  have h1 : 1 ≤ R (rw (i + 0)) / a := Nat.div_pos (Nat.le_of_dvd hp (Nat.dvd_trans hd (gcR_dvd (Nat.le_refl _) hij))) a1
  exact Nat.le_trans h1 (sumTo_ge (f := fun e => R (rw (i + e)) / a) (by omega))
theorem unr_mem {N : NG} {R rw : Nat → Nat} {sp : Nat → Nat → Nat} (h : ROK N R rw) (hs : SPok N sp) : ∀ f i j a, i ≤ j → j < nP N → j - i < f → a ∣ gcR R rw i j → (∀ x, x ∈ unr R rw sp f i j a → x < nP N) ∧ ∀ k, i ≤ k → k ≤ j → rw k ∈ unr R rw sp f i j a := by
  intro f
  induction f with
  | zero => intro i j a _ _ h; omega
  | succ f ih =>
    intro i j a hij hj hf hd
    have hgv := gcR_ok h hij hj
    obtain ⟨a1, a2, n1, ea⟩ := dvd_le hd hgv.1
    have hrp : ∀ n (x : List Nat) y, y ∈ rp n x → y ∈ x := by
      intro n x y
      induction n with
      | zero => intro q; cases q
      | succ n ihn => intro q; rw [rp, List.mem_append] at q; exact q.elim id ihn
    have hrp2 : ∀ n (x : List Nat) y, 1 ≤ n → y ∈ x → y ∈ rp n x := by
      intro n x y hn q
      obtain ⟨m, rfl⟩ : ∃ m, n = m + 1 := ⟨n - 1, by omega⟩
      rw [rp, List.mem_append]; exact Or.inl q
    rw [unr]
    by_cases e : i = j
    · subst e
      rw [if_pos rfl]
      refine ⟨fun x hx => ?_, fun k h1 h2 => ?_⟩
      · have := hrp _ _ _ hx
        rw [List.mem_singleton] at this
        rw [this]; exact (h.1 i hj).1.1
      · rw [show k = i by omega]
        exact hrp2 _ _ _ n1 (List.mem_singleton.mpr rfl)
    · obtain ⟨s1, s2⟩ := hs i j (by omega) hj
      have d1 : gcR R rw i j ∣ gcR R rw i (sp i j) := gcR_sub (Nat.le_refl _) s1 (by omega)
      have d2 : gcR R rw i j ∣ gcR R rw (sp i j + 1) j := gcR_sub (by omega) (by omega) (Nat.le_refl _)
      obtain ⟨x1, x2⟩ := ih i (sp i j) _ s1 (by omega) (by omega) d1
      obtain ⟨y1, y2⟩ := ih (sp i j + 1) j _ (by omega) hj (by omega) d2
      rw [if_neg e]
      refine ⟨fun x hx => ?_, fun k h1 h2 => ?_⟩
      · have := hrp _ _ _ hx
        rw [List.mem_append] at this
        exact this.elim (x1 x) (y1 x)
      · refine hrp2 _ _ _ n1 ?_
        rw [List.mem_append]
        by_cases z : k ≤ sp i j
        · exact Or.inl (x2 k h1 z)
        · exact Or.inr (y2 k (by omega) h2)
theorem gdl {α : Type} {l1 l2 : List α} {d : α} {t : Nat} (h : t < l1.length) : (l1 ++ l2).getD t d = l1.getD t d := by simp [List.getD, List.getElem?_append_left h]
theorem gdr {α : Type} {l1 l2 : List α} {d : α} {t : Nat} (h : l1.length ≤ t) : (l1 ++ l2).getD t d = l2.getD (t - l1.length) d := by simp [List.getD, List.getElem?_append_right h]
/-! the class's -/
def OC (M : tM) (L : List Nat) : Prop := mI M 6 0 8 = nI L.length ∧ ∀ t, t < L.length → mI M 902 0 t = nI (L.getD t 0)
theorem c_unroll {N : NG} {R rw : Nat → Nat} {sp : Nat → Nat → Nat} (hN : NOK N) (h : ROK N R rw) (hs : SPok N sp) : ∀ f i j a dep L M, i ≤ j → j < nP N → j - i < f → dep + (j - i) ≤ 12 → a ∣ gcR R rw i j → L.length + (unr R rw sp f i j a).length ≤ 2000 → Len M → TC M N R rw sp → OC M L →
    Ok (fX6_unrollRow f 902 0 (nI i) (nI j) (nI a) (nI dep) M) (fun m => Fr [902, 70008] M m ∧ OC m (L ++ unr R rw sp f i j a)) := by
  have hb := hN.1
  intro f
  induction f with
  | zero => intro i j a dep L M _ _ h; omega
  | succ f ih =>
    intro i j a dep L M hij hj hf hdep hd hL hl hT hI
    have hgv := gcR_ok h hij hj
    obtain ⟨a1, a2, n1, ea⟩ := dvd_le hd hgv.1
    have nb : gcR R rw i j / a ≤ 1000 := Nat.le_trans (Nat.div_le_self _ _) hgv.2
    rw [unr] at hL ⊢
    rw [rp_len] at hL
    rw [fX6_unrollRow, fX6_unrollRow_b, if_pos (show nI dep ≤ (12 : Int32) from nI_le (b := 12) (by omega) (by omega)), c_times hN hl h hT.2.1 hij hj a1 (by omega), Option.bind_some, ix12, ln705 hl, chk_nI (by omega) (by omega), bnd_eq, nI_clamp (by omega)]
    generalize hx : (if i = j then [rw i] else unr R rw sp f i (sp i j) (gcR R rw i j) ++ unr R rw sp f (sp i j + 1) j (gcR R rw i j)) = x at *
    generalize hnn : gcR R rw i j / a = nn at *
    refine ok_call (P := fun m => Fr [902, 70008] M m ∧ OC m (L ++ rp nn x)) ?_ (fun _ h => ok_some h)
    refine loop0 (fun n k m => fX6_unrollRow_l34 (fX6_unrollRow f) 902 0 (nI i) (nI j) (nI a) (nI dep) (nI nn) (mI M 705 0 (12 * i + j)) n k m) nn (fun k m => Fr [902, 70008] M m ∧ OC m (L ++ rp k x)) _ (by omega) ?_ ?_ M ⟨Fr.refl, by rw [rp, List.append_nil]; exact hI⟩
    · rintro n m hm
      rw [fX6_unrollRow_l34, if_pos (nI_le (Nat.le_refl _) (by omega))]
      exact ok_some hm
    · rintro n k m hk ⟨F, I⟩ kk
      have hlm := hl.fr F
      have hTm := hT.fr F (by decide)
      have lenk : (L ++ rp k x).length + x.length ≤ 2000 := by
        rw [List.length_append, rp_len]
        have : (k + 1) * x.length ≤ nn * x.length := Nat.mul_le_mul_right _ (by omega)
        rw [Nat.succ_mul] at this
        omega
      have fin : L ++ rp k x ++ x = L ++ rp (k + 1) x := by rw [List.append_assoc, rp_comm, rp]
      rw [fX6_unrollRow_l34, if_neg (nI_ge hk (by omega))]
      refine ok_call (P := fun m2 => Fr [902, 70008] M m2 ∧ OC m2 (L ++ rp (k + 1) x)) ?_ ?_
      · by_cases e : i = j
        · subst e
          rw [if_pos rfl] at hx
          subst hx
          have l1 : ([rw i] : List Nat).length = 1 := rfl
          rw [if_pos (nI_le (Nat.le_refl _) (by omega)), chk_tr (by decide), chk_tr (by decide), F.n, ln902 hl, I.1, if_neg (nI_ge (show (L ++ rp k [rw i]).length < 2000 by omega) (by omega)), F.n, ln701 hl, chk_nI (by omega) (by omega), chk_tr (by decide), chk_nI (by omega) (by omega), bnd_eq, nI_clamp (by omega), nI_clamp (by omega), hTm.1 i hj, bnd_eq, mI_sI, if_neg (by simp), I.1, nI_1]
          refine ok_some ⟨(F.wI (by decide)).wIo (by decide), ?_⟩
          rw [← fin]
          refine ⟨by rw [mI_sI, if_pos ⟨rfl, rfl, rfl⟩, List.length_append (bs := [rw i])]; rfl, fun t ht => ?_⟩
          rw [List.length_append (bs := [rw i]), l1] at ht
          rw [mI_sI, if_neg (by simp), mI_sI]
          by_cases z : t = (L ++ rp k [rw i]).length
          · rw [if_pos ⟨rfl, rfl, z⟩, gdr (by omega), z, Nat.sub_self]; rfl
          · rw [if_neg (fun y => z y.2.2), gdl (by omega)]
            exact I.2 t (by omega)
        · obtain ⟨s1, s2⟩ := hs i j (by omega) hj
          have d1 : gcR R rw i j ∣ gcR R rw i (sp i j) := gcR_sub (Nat.le_refl _) s1 (by omega)
          have d2 : gcR R rw i j ∣ gcR R rw (sp i j + 1) j := gcR_sub (by omega) (by omega) (Nat.le_refl _)
          have em : nI a * nI nn = nI (gcR R rw i j) := by rw [pk_mul, ea]
          rw [if_neg e] at hx
          subst hx
          have lx : (unr R rw sp f i (sp i j) (gcR R rw i j) ++ unr R rw sp f (sp i j + 1) j (gcR R rw i j)).length = (unr R rw sp f i (sp i j) (gcR R rw i j)).length + (unr R rw sp f (sp i j + 1) j (gcR R rw i j)).length := List.length_append
          rw [if_neg (nI_ge (by omega) (by omega)), em, hT.2.2 i j (by omega) hj, nI_1, nI_1]
          refine ok_call (ih i (sp i j) (gcR R rw i j) (dep + 1) _ m s1 (by omega) (by omega) (by omega) d1 (by omega) hlm hTm I) ?_
          rintro M2 ⟨F2, I2⟩
          refine ok_call (ih (sp i j + 1) j (gcR R rw i j) (dep + 1) _ M2 (by omega) hj (by omega) (by omega) d2 (by rw [List.length_append (bs := unr R rw sp f i (sp i j) (gcR R rw i j))]; omega) (hlm.fr F2) (hTm.fr F2 (by decide)) I2) ?_
          rintro M3 ⟨F3, I3⟩
          refine ok_some ⟨(F.step F2 (by decide)).step F3 (by decide), ?_⟩
          rw [← fin, ← List.append_assoc]
          exact I3
      · rintro m2 h2
        rw [bnd_eq, nI_1]
        exact kk m2 h2
/-! the model's -/
def cst (R rw : Nat → Nat) (sp : Nat → Nat → Nat) : Nat → Nat → Nat → Nat → Nat
  | 0, _, _, _ => 0
  | f + 1, i, j, a => if gcR R rw i j / a ≤ 1 then (if i = j then 1 else cst R rw sp f i (sp i j) (gcR R rw i j) + cst R rw sp f (sp i j + 1) j (gcR R rw i j)) else 1 + (gcR R rw i j / a) * ((if i = j then 1 else cst R rw sp f i (sp i j) (gcR R rw i j) + cst R rw sp f (sp i j + 1) j (gcR R rw i j)) + 1)
theorem cst_le {N : NG} {R rw : Nat → Nat} {sp : Nat → Nat → Nat} (h : ROK N R rw) (hs : SPok N sp) : ∀ f i j a, i ≤ j → j < nP N → j - i < f → a ∣ gcR R rw i j → cst R rw sp f i j a ≤ (2 * (j - i) + 3) * (unr R rw sp f i j a).length := by
  intro f
  induction f with
  | zero => intro i j a _ _ h; omega
  | succ f ih =>
    intro i j a hij hj hf hd
    have hgv := gcR_ok h hij hj
    obtain ⟨a1, a2, n1, ea⟩ := dvd_le hd hgv.1
    have hbody : (if i = j then 1 else cst R rw sp f i (sp i j) (gcR R rw i j) + cst R rw sp f (sp i j + 1) j (gcR R rw i j)) ≤ (2 * (j - i) + 1) * (if i = j then [rw i] else unr R rw sp f i (sp i j) (gcR R rw i j) ++ unr R rw sp f (sp i j + 1) j (gcR R rw i j)).length ∧ 1 ≤ (if i = j then [rw i] else unr R rw sp f i (sp i j) (gcR R rw i j) ++ unr R rw sp f (sp i j + 1) j (gcR R rw i j)).length := by
      by_cases e : i = j
      · rw [if_pos e, if_pos e]
        show 1 ≤ (2 * (j - i) + 1) * 1 ∧ 1 ≤ 1
        omega
      · obtain ⟨s1, s2⟩ := hs i j (by omega) hj
        have d1 : gcR R rw i j ∣ gcR R rw i (sp i j) := gcR_sub (Nat.le_refl _) s1 (by omega)
        have d2 : gcR R rw i j ∣ gcR R rw (sp i j + 1) j := gcR_sub (by omega) (by omega) (Nat.le_refl _)
        have h1 := ih i (sp i j) _ s1 (by omega) (by omega) d1
        have h2 := ih (sp i j + 1) j _ (by omega) hj (by omega) d2
        have h3 := unr_pos h hs s1 (show sp i j < nP N by omega) (show sp i j - i < f by omega) d1
        rw [if_neg e, if_neg e, List.length_append, Nat.mul_add]
        have m1 : (2 * (sp i j - i) + 3) * (unr R rw sp f i (sp i j) (gcR R rw i j)).length ≤ (2 * (j - i) + 1) * (unr R rw sp f i (sp i j) (gcR R rw i j)).length := Nat.mul_le_mul_right _ (by omega)
        have m2 : (2 * (j - (sp i j + 1)) + 3) * (unr R rw sp f (sp i j + 1) j (gcR R rw i j)).length ≤ (2 * (j - i) + 1) * (unr R rw sp f (sp i j + 1) j (gcR R rw i j)).length := Nat.mul_le_mul_right _ (by omega)
        omega
    rw [cst, unr, rp_len]
    generalize (if i = j then 1 else cst R rw sp f i (sp i j) (gcR R rw i j) + cst R rw sp f (sp i j + 1) j (gcR R rw i j)) = b at *
    generalize (if i = j then [rw i] else unr R rw sp f i (sp i j) (gcR R rw i j) ++ unr R rw sp f (sp i j + 1) j (gcR R rw i j)).length = x at *
    generalize gcR R rw i j / a = nn at *
    obtain ⟨hb1, hb2⟩ := hbody
    by_cases c : nn ≤ 1
    · rw [if_pos c, show nn = 1 by omega, Nat.one_mul]
      refine Nat.le_trans hb1 (Nat.mul_le_mul_right _ (by omega))
    · rw [if_neg c]
      have e1 : (2 * (j - i) + 3) * (nn * x) = nn * ((2 * (j - i) + 1) * x) + 2 * (nn * x) := by
        rw [show 2 * (j - i) + 3 = (2 * (j - i) + 1) + 2 by omega, Nat.add_mul]
        congr 1
        rw [Nat.mul_left_comm]
      have e2 : nn * b ≤ nn * ((2 * (j - i) + 1) * x) := Nat.mul_le_mul_left _ hb1
      have e3 : nn * 1 ≤ nn * x := Nat.mul_le_mul_left _ hb2
      rw [e1, Nat.mul_add]
      omega
def OX (X : tM) (L : List Nat) : Prop := ∀ t, t < L.length → mI X 1245 0 t = nI (L.getD t 0)
def IA (X : tM) (q : Nat) (l : List Int32) : Prop := ∀ t, t < l.length → mI X 1259 0 (q + t) = l.getD t 0
theorem IA_app {X : tM} {q : Nat} {l1 l2 : List Int32} (h : IA X q (l1 ++ l2)) : IA X q l1 ∧ IA X (q + l1.length) l2 := by
  refine ⟨fun t ht => ?_, fun t ht => ?_⟩
  · rw [h t (by rw [List.length_append]; omega), gdl ht]
  · have := h (l1.length + t) (by rw [List.length_append]; omega)
    rw [← Nat.add_assoc] at this
    rw [this, gdr (by omega), Nat.add_sub_cancel_left]
theorem IA.fr {ks : List Nat} {X X2 : tM} {q : Nat} {l : List Int32} (h : IA X q l) (hF : Fr ks X X2) (hd : disj ks [1259] = true) : IA X2 q l := fun t ht => (hF.gI hd 1259 (by decide) _ _).trans (h t ht)
theorem neg_it : ∀ p, p < 12 → ((-1 : Int32) - nI p ≤ 0 ∧ ¬ (0 : Int32) ≤ (-1) - nI p ∧ (-1 : Int32) - ((-1) - nI p) = nI p) := by decide
def kUn : List Nat := [1245, 1262, 1263]
set_option maxHeartbeats 1000000 in
theorem m_unf {N : NG} {R rw : Nat → Nat} {sp : Nat → Nat → Nat} (hN : NOK N) (h : ROK N R rw) (hs : SPok N sp) (Q : Int32 × tM → Prop) {m : Nat} (hm : m ≤ 190) : ∀ f i j a q y L n X, i ≤ j → j < nP N → j - i < f → a ∣ gcR R rw i j → q + (its R rw sp f i j a).length ≤ m → y + (j - i) + 1 ≤ 40 → L.length + (unr R rw sp f i j a).length ≤ 2000 → Len X → mI X 11 0 60 = nI m → IA X q (its R rw sp f i j a) → OX X L →
    (∀ X', Fr kUn X X' → OX X' (L ++ unr R rw sp f i j a) → (∀ u, u < y → mI X' 1262 0 u = mI X 1262 0 u ∧ mI X' 1263 0 u = mI X 1263 0 u) → Ok (fX11_unfold_l6 n (nI (L ++ unr R rw sp f i j a).length) (nI y) (nI (q + (its R rw sp f i j a).length)) X') Q) →
    Ok (fX11_unfold_l6 (n + cst R rw sp f i j a) (nI L.length) (nI y) (nI q) X) Q := by
  have hb := hN.1
  intro f
  induction f with
  | zero => intro i j a q y L n X _ _ h; omega
  | succ f ih =>
    intro i j a q y L n X hij hj hf hd hq hy hL hl h60 hA hO cont
    have hgv := gcR_ok h hij hj
    obtain ⟨a1, a2, n1, ea⟩ := dvd_le hd hgv.1
    have nb : gcR R rw i j / a ≤ 1000 := Nat.le_trans (Nat.div_le_self _ _) hgv.2
    rw [unr] at hL cont
    rw [its] at hq hA cont
    rw [cst]
    -- the body
    have body : ∀ q1 y1 L1 n1 X1, q1 + (if i = j then [(-1) - nI (rw i)] else its R rw sp f i (sp i j) (gcR R rw i j) ++ its R rw sp f (sp i j + 1) j (gcR R rw i j)).length ≤ m → y1 + (j - i) ≤ 40 → L1.length + (if i = j then [rw i] else unr R rw sp f i (sp i j) (gcR R rw i j) ++ unr R rw sp f (sp i j + 1) j (gcR R rw i j)).length ≤ 2000 → Len X1 → mI X1 11 0 60 = nI m → IA X1 q1 (if i = j then [(-1) - nI (rw i)] else its R rw sp f i (sp i j) (gcR R rw i j) ++ its R rw sp f (sp i j + 1) j (gcR R rw i j)) → OX X1 L1 →
        (∀ X', Fr kUn X1 X' → OX X' (L1 ++ (if i = j then [rw i] else unr R rw sp f i (sp i j) (gcR R rw i j) ++ unr R rw sp f (sp i j + 1) j (gcR R rw i j))) → (∀ u, u < y1 → mI X' 1262 0 u = mI X1 1262 0 u ∧ mI X' 1263 0 u = mI X1 1263 0 u) → Ok (fX11_unfold_l6 n1 (nI (L1 ++ (if i = j then [rw i] else unr R rw sp f i (sp i j) (gcR R rw i j) ++ unr R rw sp f (sp i j + 1) j (gcR R rw i j))).length) (nI y1) (nI (q1 + (if i = j then [(-1) - nI (rw i)] else its R rw sp f i (sp i j) (gcR R rw i j) ++ its R rw sp f (sp i j + 1) j (gcR R rw i j)).length)) X') Q) →
        Ok (fX11_unfold_l6 (n1 + (if i = j then 1 else cst R rw sp f i (sp i j) (gcR R rw i j) + cst R rw sp f (sp i j + 1) j (gcR R rw i j))) (nI L1.length) (nI y1) (nI q1) X1) Q := fun q1 y1 L1 n1 X1 b1 b2 b3 bl b60 bA bO ct => by
      by_cases e : i = j
      · subst e
        simp only [if_true] at b1 b3 bA ct ⊢
        have hri := (h.1 i hj).1.1
        have l1 : ([(-1 : Int32) - nI (rw i)] : List Int32).length = 1 := rfl
        have l2 : ([rw i] : List Nat).length = 1 := rfl
        have v : mI X1 1259 0 q1 = (-1) - nI (rw i) := bA 0 (by omega)
        obtain ⟨g1, g2, g3⟩ := neg_it (rw i) (by omega)
        rw [fX11_unfold_l6, b60, if_neg (nI_ge (show q1 < m by omega) (by omega)), ln1259 bl, chk_nI (by omega) (by omega), bnd_eq, nI_clamp (by omega), v, bnd_eq, nI_1, if_pos g1, if_neg g2, ln1245 bl, chk_nI (by omega) (by omega), bnd_eq, g3, bnd_eq, nI_1, nI_clamp (by omega), Option.bind_some]
        have := ct (sI X1 1245 0 L1.length (nI (rw i))) (Fr.refl.wI (by decide)) (fun t ht => by
          rw [List.length_append, l2] at ht
          rw [mI_sI]
          by_cases z : t = L1.length
          · rw [if_pos ⟨rfl, rfl, z⟩, gdr (by omega), z, Nat.sub_self]; rfl
          · rw [if_neg (fun w => z w.2.2), gdl (by omega)]; exact bO t (by omega)) (fun u _ => ⟨by rw [mI_sI, if_neg (by simp)], by rw [mI_sI, if_neg (by simp)]⟩)
        rw [List.length_append, l1, l2] at this
        exact this
      · simp only [if_neg e] at b1 b3 bA ct ⊢
        obtain ⟨s1, s2⟩ := hs i j (by omega) hj
        have d1 : gcR R rw i j ∣ gcR R rw i (sp i j) := gcR_sub (Nat.le_refl _) s1 (by omega)
        have d2 : gcR R rw i j ∣ gcR R rw (sp i j + 1) j := gcR_sub (by omega) (by omega) (Nat.le_refl _)
        obtain ⟨bA1, bA2⟩ := IA_app bA
        rw [List.length_append] at b1 b3
        have ef : n1 + (cst R rw sp f i (sp i j) (gcR R rw i j) + cst R rw sp f (sp i j + 1) j (gcR R rw i j)) = n1 + cst R rw sp f (sp i j + 1) j (gcR R rw i j) + cst R rw sp f i (sp i j) (gcR R rw i j) := by omega
        rw [ef]
        refine ih i (sp i j) (gcR R rw i j) q1 y1 L1 _ X1 s1 (by omega) (by omega) d1 (by omega) (by omega) (by omega) bl b60 bA1 bO ?_
        intro X2 F2 O2 u2
        refine ih (sp i j + 1) j (gcR R rw i j) _ y1 _ n1 X2 (by omega) hj (by omega) d2 (by omega) (by omega) (by rw [List.length_append]; omega) (bl.fr F2) ((F2.oI (by decide)).trans b60) (bA2.fr F2 (by decide)) O2 ?_
        intro X3 F3 O3 u3
        have := ct X3 (F2.step F3 (by decide)) (by rw [← List.append_assoc]; exact O3) (fun u hu => ⟨(u3 u hu).1.trans (u2 u hu).1, (u3 u hu).2.trans (u2 u hu).2⟩)
        rw [← List.append_assoc, List.length_append (as := its R rw sp f i (sp i j) (gcR R rw i j)), ← Nat.add_assoc] at this
        exact this
    generalize hbi : (if i = j then [(-1) - nI (rw i)] else its R rw sp f i (sp i j) (gcR R rw i j) ++ its R rw sp f (sp i j + 1) j (gcR R rw i j)) = bi at *
    generalize hbx : (if i = j then [rw i] else unr R rw sp f i (sp i j) (gcR R rw i j) ++ unr R rw sp f (sp i j + 1) j (gcR R rw i j)) = bx at *
    generalize hbc : (if i = j then 1 else cst R rw sp f i (sp i j) (gcR R rw i j) + cst R rw sp f (sp i j + 1) j (gcR R rw i j)) = bc at *
    generalize hnn : gcR R rw i j / a = nn at *
    by_cases c : nn ≤ 1
    · have en : nn = 1 := by omega
      rw [if_pos c, if_pos c, List.nil_append, List.append_nil] at hq hA cont
      rw [if_pos c]
      have er : rp nn bx = bx := by rw [en, rp, rp, List.append_nil]
      rw [er] at hL cont
      exact body q y L n X hq (by omega) hL hl h60 hA hO cont
    · rw [if_neg c, if_neg c] at hq hA cont
      rw [if_neg c]
      have hA' : IA X q ([nI (nn + 1)] ++ (bi ++ [0])) := by rw [← List.append_assoc]; exact hA
      obtain ⟨hA1, hA2⟩ := IA_app hA'
      obtain ⟨hA2, hA3⟩ := IA_app hA2
      have l1 : ([nI (nn + 1)] : List Int32).length = 1 := rfl
      have l0 : ([0] : List Int32).length = 1 := rfl
      rw [List.length_append, List.length_append, l1, l0] at hq
      rw [l1] at hA2 hA3
      have v0 : mI X 1259 0 q = nI (nn + 1) := hA1 0 (by rw [l1]; omega)
      have ef : n + (1 + nn * (bc + 1)) = (n + nn * (bc + 1)) + 1 := by omega
      have e2 : nI (nn + 1) - 2 = nI (nn - 1) := by rw [L32 2, pk_sub (by omega)]; congr 1
      rw [ef, fX11_unfold_l6, h60, if_neg (nI_ge (show q < m by omega) (by omega)), ln1259 hl, chk_nI (by omega) (by omega), bnd_eq, nI_clamp (show q < 2 ^ 31 by omega), v0, bnd_eq, nI_1 q, if_neg (nI_nle (by omega) (by omega)), ln1262 hl, chk_nI (by omega) (by omega), bnd_eq, nI_clamp (show y < 2 ^ 31 by omega), mN_sI, ln1263 hl, chk_nI (by omega) (by omega), bnd_eq, e2, bnd_eq, nI_1 y, Option.bind_some]
      show Ok (fX11_unfold_l6 (n + nn * (bc + 1)) (nI L.length) (nI (y + 1)) (nI (q + 1)) (sI (sI X 1262 0 y (nI (q + 1))) 1263 0 y (nI (nn - 1)))) Q
      rw [rp_len] at hL
      -- r turns more behind this one
      have turns : ∀ r k X1, k + (r + 1) = nn → Fr kUn X X1 → mI X1 1262 0 y = nI (q + 1) → mI X1 1263 0 y = nI r → (∀ u, u < y → mI X1 1262 0 u = mI X 1262 0 u ∧ mI X1 1263 0 u = mI X 1263 0 u) → OX X1 (L ++ rp k bx) → Ok (fX11_unfold_l6 (n + (r + 1) * (bc + 1)) (nI (L ++ rp k bx).length) (nI (y + 1)) (nI (q + 1)) X1) Q := by
        intro r
        induction r with
        | zero =>
          intro k X1 hk F1 w62 w63 wu O1
          have lk : (L ++ rp k bx).length + bx.length ≤ 2000 := by
            rw [List.length_append, rp_len]
            have : (k + 1) * bx.length ≤ nn * bx.length := Nat.mul_le_mul_right _ (by omega)
            rw [Nat.succ_mul] at this; omega
          have ef : n + (0 + 1) * (bc + 1) = (n + 1) + bc := by omega
          rw [ef]
          refine body (q + 1) (y + 1) _ (n + 1) X1 (by omega) (by omega) lk (hl.fr F1) ((F1.oI (by decide)).trans h60) (hA2.fr F1 (by decide)) O1 ?_
          intro X2 F2 O2 u2
          have G2 : Fr kUn X X2 := F1.step F2 (by decide)
          have v3 : mI X2 1259 0 (q + 1 + bi.length) = 0 := by
            have := hA3 0 (by rw [l0]; omega)
            rw [G2.aI (by decide)]; exact this
          have ey : nI (y + 1) - 1 = nI y := by rw [L32 1, pk_sub (by omega)]; rfl
          have ey2 : nI (y + 1) + (-1) = nI y := pk_m1 y
          have z63 : mI X2 1263 0 y = nI 0 := (u2 y (by omega)).2.trans w63
          rw [fX11_unfold_l6, G2.oI (by decide), h60, if_neg (nI_ge (show q + 1 + bi.length < m by omega) (by omega)), G2.n, ln1259 hl, chk_nI (by omega) (by omega), bnd_eq, nI_clamp (by omega), v3, bnd_eq, nI_1, if_pos (by decide), if_pos (by decide), ey, G2.n, ln1263 hl, chk_nI (by omega) (by omega), nI_clamp (show y < 2 ^ 31 by omega), z63, if_pos (by decide), bnd_eq, ey2, Option.bind_some]
          have er : L ++ rp k bx ++ bx = L ++ rp nn bx := by rw [List.append_assoc, rp_comm, ← hk, rp]
          rw [er] at O2 ⊢
          have := cont X2 G2 O2 (fun u hu => ⟨(u2 u (by omega)).1.trans (wu u hu).1, (u2 u (by omega)).2.trans (wu u hu).2⟩)
          rw [List.length_append (as := [nI (nn + 1)] ++ bi), List.length_append (as := [nI (nn + 1)]), l1, l0, show q + (1 + bi.length + 1) = q + 1 + bi.length + 1 by omega] at this
          exact this
        | succ r ihr =>
          intro k X1 hk F1 w62 w63 wu O1
          have lk : (L ++ rp k bx).length + bx.length ≤ 2000 := by
            rw [List.length_append, rp_len]
            have : (k + 1) * bx.length ≤ nn * bx.length := Nat.mul_le_mul_right _ (by omega)
            rw [Nat.succ_mul] at this; omega
          have ef : n + (r + 1 + 1) * (bc + 1) = (n + (r + 1) * (bc + 1) + 1) + bc := by rw [Nat.succ_mul (r + 1)]; omega
          rw [ef]
          refine body (q + 1) (y + 1) _ _ X1 (by omega) (by omega) lk (hl.fr F1) ((F1.oI (by decide)).trans h60) (hA2.fr F1 (by decide)) O1 ?_
          intro X2 F2 O2 u2
          have G2 : Fr kUn X X2 := F1.step F2 (by decide)
          have v3 : mI X2 1259 0 (q + 1 + bi.length) = 0 := by
            have := hA3 0 (by rw [l0]; omega)
            rw [G2.aI (by decide)]; exact this
          have ey : nI (y + 1) - 1 = nI y := by rw [L32 1, pk_sub (by omega)]; rfl
          have z63 : mI X2 1263 0 y = nI (r + 1) := (u2 y (by omega)).2.trans w63
          have z62 : mI X2 1262 0 y = nI (q + 1) := (u2 y (by omega)).1.trans w62
          have er1 : nI (r + 1) - 1 = nI r := by rw [L32 1, pk_sub (by omega)]; rfl
          rw [fX11_unfold_l6, G2.oI (by decide), h60, if_neg (nI_ge (show q + 1 + bi.length < m by omega) (by omega)), G2.n, ln1259 hl, chk_nI (by omega) (by omega), bnd_eq, nI_clamp (by omega), v3, bnd_eq, if_pos (by decide), if_pos (by decide), ey, G2.n, ln1263 hl, chk_nI (by omega) (by omega), nI_clamp (show y < 2 ^ 31 by omega), z63, if_neg (nI_nle (by omega) (by omega)), bnd_eq, chk_nI (by omega) (by omega), chk_nI (by omega) (by omega), bnd_eq, nI_clamp (show y < 2 ^ 31 by omega), z63, er1, mN_sI, G2.n, ln1262 hl, chk_nI (by omega) (by omega), bnd_eq, mI_sI, if_neg (by simp), z62, Option.bind_some]
          have er : L ++ rp k bx ++ bx = L ++ rp (k + 1) bx := by rw [List.append_assoc, rp_comm, rp]
          rw [er] at O2 ⊢
          have F3 : Fr [1263] X2 (sI X2 1263 0 y (nI r)) := Fr.refl.wI (by decide)
          refine ihr (k + 1) (sI X2 1263 0 y (nI r)) (by omega) (G2.step F3 (by decide)) ?_ ?_ (fun u hu => ⟨?_, ?_⟩) (fun t ht => (F3.aI (by decide)).trans (O2 t ht))
          · rw [F3.aI (by decide)]; exact z62
          · rw [mI_sI, if_pos ⟨rfl, rfl, rfl⟩]
          · rw [F3.aI (by decide)]; exact (u2 u (by omega)).1.trans (wu u hu).1
          · rw [mI_sI, if_neg (by omega)]; exact (u2 u (by omega)).2.trans (wu u hu).2
      obtain ⟨r, hr⟩ : ∃ r, nn = r + 1 := ⟨nn - 1, by omega⟩
      have := turns r 0 (sI (sI X 1262 0 y (nI (q + 1))) 1263 0 y (nI (nn - 1))) (by omega) ((Fr.refl.wI (by decide)).wI (by decide)) (by rw [mI_sI, if_neg (by simp), mI_sI, if_pos ⟨rfl, rfl, rfl⟩]) (by rw [mI_sI, if_pos ⟨rfl, rfl, rfl⟩, show nn - 1 = r by omega]) (fun u hu => ⟨by rw [mI_sI, if_neg (by simp), mI_sI, if_neg (by omega)], by rw [mI_sI, if_neg (by omega), mI_sI, if_neg (by simp)]⟩) (fun t ht => by
        rw [rp, List.append_nil] at ht ⊢
        rw [mI_sI, if_neg (by simp), mI_sI, if_neg (by simp)]; exact hO t ht)
      rw [rp, List.append_nil, ← hr] at this
      exact this
