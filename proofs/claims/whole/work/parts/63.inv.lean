/-! the relation between the class, the reference and the graph behind them -/
def lenL : List (Nat × Nat) := [(104, 12), (105, 60), (107, 1260), (108, 1260), (109, 1260), (111, 60), (112, 60), (200, 12), (201, 20), (208, 12), (209, 144), (302, 20), (402, 40), (404, 40), (405, 800), (601, 20), (602, 20), (603, 12), (604, 12), (605, 12), (701, 12), (702, 12), (703, 144), (704, 144), (705, 144), (706, 60), (902, 2000), (904, 20), (905, 4), (1005, 3), (1107, 200), (1110, 6), (1201, 6), (1203, 12), (1204, 12), (1205, 12), (1206, 12), (1207, 144), (1208, 12), (1209, 144), (1210, 12), (1211, 12), (1213, 20), (1214, 20), (1215, 80), (1216, 80), (1217, 20), (1218, 1200), (1219, 12), (1220, 12), (1221, 20), (1222, 9000), (1223, 20), (1224, 4000), (1227, 3), (1230, 4), (1231, 12), (1232, 12), (1233, 12), (1234, 12), (1235, 12), (1238, 20), (1239, 12), (1240, 12), (1241, 20), (1242, 2000), (1244, 20), (1245, 2000), (1246, 20), (1247, 12), (1249, 41), (1250, 41), (1251, 820), (1252, 40), (1253, 20), (1254, 12), (1255, 12), (1256, 144), (1257, 144), (1258, 144), (1259, 200), (1261, 200), (1262, 40), (1263, 40), (1264, 200), (1266, 13), (1267, 60), (1268, 1400), (1269, 1400), (1270, 1400), (1272, 60), (1273, 60)]
/-- the lengths of the single arrays -/
def Len (M : tM) : Prop := ∀ q ∈ lenL, mN M q.1 0 = q.2
theorem ln104 {M : tM} (h : Len M) : mN M 104 0 = 12 := h (104, 12) (by decide)
theorem ln105 {M : tM} (h : Len M) : mN M 105 0 = 60 := h (105, 60) (by decide)
theorem ln107 {M : tM} (h : Len M) : mN M 107 0 = 1260 := h (107, 1260) (by decide)
theorem ln108 {M : tM} (h : Len M) : mN M 108 0 = 1260 := h (108, 1260) (by decide)
theorem ln109 {M : tM} (h : Len M) : mN M 109 0 = 1260 := h (109, 1260) (by decide)
theorem ln111 {M : tM} (h : Len M) : mN M 111 0 = 60 := h (111, 60) (by decide)
theorem ln112 {M : tM} (h : Len M) : mN M 112 0 = 60 := h (112, 60) (by decide)
theorem ln200 {M : tM} (h : Len M) : mN M 200 0 = 12 := h (200, 12) (by decide)
theorem ln201 {M : tM} (h : Len M) : mN M 201 0 = 20 := h (201, 20) (by decide)
theorem ln208 {M : tM} (h : Len M) : mN M 208 0 = 12 := h (208, 12) (by decide)
theorem ln209 {M : tM} (h : Len M) : mN M 209 0 = 144 := h (209, 144) (by decide)
theorem ln302 {M : tM} (h : Len M) : mN M 302 0 = 20 := h (302, 20) (by decide)
theorem ln402 {M : tM} (h : Len M) : mN M 402 0 = 40 := h (402, 40) (by decide)
theorem ln404 {M : tM} (h : Len M) : mN M 404 0 = 40 := h (404, 40) (by decide)
theorem ln405 {M : tM} (h : Len M) : mN M 405 0 = 800 := h (405, 800) (by decide)
theorem ln601 {M : tM} (h : Len M) : mN M 601 0 = 20 := h (601, 20) (by decide)
theorem ln602 {M : tM} (h : Len M) : mN M 602 0 = 20 := h (602, 20) (by decide)
theorem ln603 {M : tM} (h : Len M) : mN M 603 0 = 12 := h (603, 12) (by decide)
theorem ln604 {M : tM} (h : Len M) : mN M 604 0 = 12 := h (604, 12) (by decide)
theorem ln605 {M : tM} (h : Len M) : mN M 605 0 = 12 := h (605, 12) (by decide)
theorem ln701 {M : tM} (h : Len M) : mN M 701 0 = 12 := h (701, 12) (by decide)
theorem ln702 {M : tM} (h : Len M) : mN M 702 0 = 12 := h (702, 12) (by decide)
theorem ln703 {M : tM} (h : Len M) : mN M 703 0 = 144 := h (703, 144) (by decide)
theorem ln704 {M : tM} (h : Len M) : mN M 704 0 = 144 := h (704, 144) (by decide)
theorem ln705 {M : tM} (h : Len M) : mN M 705 0 = 144 := h (705, 144) (by decide)
theorem ln706 {M : tM} (h : Len M) : mN M 706 0 = 60 := h (706, 60) (by decide)
theorem ln902 {M : tM} (h : Len M) : mN M 902 0 = 2000 := h (902, 2000) (by decide)
theorem ln904 {M : tM} (h : Len M) : mN M 904 0 = 20 := h (904, 20) (by decide)
theorem ln905 {M : tM} (h : Len M) : mN M 905 0 = 4 := h (905, 4) (by decide)
theorem ln1005 {M : tM} (h : Len M) : mN M 1005 0 = 3 := h (1005, 3) (by decide)
theorem ln1107 {M : tM} (h : Len M) : mN M 1107 0 = 200 := h (1107, 200) (by decide)
theorem ln1110 {M : tM} (h : Len M) : mN M 1110 0 = 6 := h (1110, 6) (by decide)
theorem ln1201 {M : tM} (h : Len M) : mN M 1201 0 = 6 := h (1201, 6) (by decide)
theorem ln1203 {M : tM} (h : Len M) : mN M 1203 0 = 12 := h (1203, 12) (by decide)
theorem ln1204 {M : tM} (h : Len M) : mN M 1204 0 = 12 := h (1204, 12) (by decide)
theorem ln1205 {M : tM} (h : Len M) : mN M 1205 0 = 12 := h (1205, 12) (by decide)
theorem ln1206 {M : tM} (h : Len M) : mN M 1206 0 = 12 := h (1206, 12) (by decide)
theorem ln1207 {M : tM} (h : Len M) : mN M 1207 0 = 144 := h (1207, 144) (by decide)
theorem ln1208 {M : tM} (h : Len M) : mN M 1208 0 = 12 := h (1208, 12) (by decide)
theorem ln1209 {M : tM} (h : Len M) : mN M 1209 0 = 144 := h (1209, 144) (by decide)
theorem ln1210 {M : tM} (h : Len M) : mN M 1210 0 = 12 := h (1210, 12) (by decide)
theorem ln1211 {M : tM} (h : Len M) : mN M 1211 0 = 12 := h (1211, 12) (by decide)
theorem ln1213 {M : tM} (h : Len M) : mN M 1213 0 = 20 := h (1213, 20) (by decide)
theorem ln1214 {M : tM} (h : Len M) : mN M 1214 0 = 20 := h (1214, 20) (by decide)
theorem ln1215 {M : tM} (h : Len M) : mN M 1215 0 = 80 := h (1215, 80) (by decide)
theorem ln1216 {M : tM} (h : Len M) : mN M 1216 0 = 80 := h (1216, 80) (by decide)
theorem ln1217 {M : tM} (h : Len M) : mN M 1217 0 = 20 := h (1217, 20) (by decide)
theorem ln1218 {M : tM} (h : Len M) : mN M 1218 0 = 1200 := h (1218, 1200) (by decide)
theorem ln1219 {M : tM} (h : Len M) : mN M 1219 0 = 12 := h (1219, 12) (by decide)
theorem ln1220 {M : tM} (h : Len M) : mN M 1220 0 = 12 := h (1220, 12) (by decide)
theorem ln1221 {M : tM} (h : Len M) : mN M 1221 0 = 20 := h (1221, 20) (by decide)
theorem ln1222 {M : tM} (h : Len M) : mN M 1222 0 = 9000 := h (1222, 9000) (by decide)
theorem ln1223 {M : tM} (h : Len M) : mN M 1223 0 = 20 := h (1223, 20) (by decide)
theorem ln1224 {M : tM} (h : Len M) : mN M 1224 0 = 4000 := h (1224, 4000) (by decide)
theorem ln1227 {M : tM} (h : Len M) : mN M 1227 0 = 3 := h (1227, 3) (by decide)
theorem ln1230 {M : tM} (h : Len M) : mN M 1230 0 = 4 := h (1230, 4) (by decide)
theorem ln1231 {M : tM} (h : Len M) : mN M 1231 0 = 12 := h (1231, 12) (by decide)
theorem ln1232 {M : tM} (h : Len M) : mN M 1232 0 = 12 := h (1232, 12) (by decide)
theorem ln1233 {M : tM} (h : Len M) : mN M 1233 0 = 12 := h (1233, 12) (by decide)
theorem ln1234 {M : tM} (h : Len M) : mN M 1234 0 = 12 := h (1234, 12) (by decide)
theorem ln1235 {M : tM} (h : Len M) : mN M 1235 0 = 12 := h (1235, 12) (by decide)
theorem ln1238 {M : tM} (h : Len M) : mN M 1238 0 = 20 := h (1238, 20) (by decide)
theorem ln1239 {M : tM} (h : Len M) : mN M 1239 0 = 12 := h (1239, 12) (by decide)
theorem ln1240 {M : tM} (h : Len M) : mN M 1240 0 = 12 := h (1240, 12) (by decide)
theorem ln1241 {M : tM} (h : Len M) : mN M 1241 0 = 20 := h (1241, 20) (by decide)
theorem ln1242 {M : tM} (h : Len M) : mN M 1242 0 = 2000 := h (1242, 2000) (by decide)
theorem ln1244 {M : tM} (h : Len M) : mN M 1244 0 = 20 := h (1244, 20) (by decide)
theorem ln1245 {M : tM} (h : Len M) : mN M 1245 0 = 2000 := h (1245, 2000) (by decide)
theorem ln1246 {M : tM} (h : Len M) : mN M 1246 0 = 20 := h (1246, 20) (by decide)
theorem ln1247 {M : tM} (h : Len M) : mN M 1247 0 = 12 := h (1247, 12) (by decide)
theorem ln1249 {M : tM} (h : Len M) : mN M 1249 0 = 41 := h (1249, 41) (by decide)
theorem ln1250 {M : tM} (h : Len M) : mN M 1250 0 = 41 := h (1250, 41) (by decide)
theorem ln1251 {M : tM} (h : Len M) : mN M 1251 0 = 820 := h (1251, 820) (by decide)
theorem ln1252 {M : tM} (h : Len M) : mN M 1252 0 = 40 := h (1252, 40) (by decide)
theorem ln1253 {M : tM} (h : Len M) : mN M 1253 0 = 20 := h (1253, 20) (by decide)
theorem ln1254 {M : tM} (h : Len M) : mN M 1254 0 = 12 := h (1254, 12) (by decide)
theorem ln1255 {M : tM} (h : Len M) : mN M 1255 0 = 12 := h (1255, 12) (by decide)
theorem ln1256 {M : tM} (h : Len M) : mN M 1256 0 = 144 := h (1256, 144) (by decide)
theorem ln1257 {M : tM} (h : Len M) : mN M 1257 0 = 144 := h (1257, 144) (by decide)
theorem ln1258 {M : tM} (h : Len M) : mN M 1258 0 = 144 := h (1258, 144) (by decide)
theorem ln1259 {M : tM} (h : Len M) : mN M 1259 0 = 200 := h (1259, 200) (by decide)
theorem ln1261 {M : tM} (h : Len M) : mN M 1261 0 = 200 := h (1261, 200) (by decide)
theorem ln1262 {M : tM} (h : Len M) : mN M 1262 0 = 40 := h (1262, 40) (by decide)
theorem ln1263 {M : tM} (h : Len M) : mN M 1263 0 = 40 := h (1263, 40) (by decide)
theorem ln1264 {M : tM} (h : Len M) : mN M 1264 0 = 200 := h (1264, 200) (by decide)
theorem ln1266 {M : tM} (h : Len M) : mN M 1266 0 = 13 := h (1266, 13) (by decide)
theorem ln1267 {M : tM} (h : Len M) : mN M 1267 0 = 60 := h (1267, 60) (by decide)
theorem ln1268 {M : tM} (h : Len M) : mN M 1268 0 = 1400 := h (1268, 1400) (by decide)
theorem ln1269 {M : tM} (h : Len M) : mN M 1269 0 = 1400 := h (1269, 1400) (by decide)
theorem ln1270 {M : tM} (h : Len M) : mN M 1270 0 = 1400 := h (1270, 1400) (by decide)
theorem ln1272 {M : tM} (h : Len M) : mN M 1272 0 = 60 := h (1272, 60) (by decide)
theorem ln1273 {M : tM} (h : Len M) : mN M 1273 0 = 60 := h (1273, 60) (by decide)
theorem Len.fr {ks : List Nat} {M M' : tM} (h : Len M) (hf : Fr ks M M') : Len M' := fun q hq => (hf.n _ _).trans (h q hq)
/-- a graph: how many PARTS, LINES; from, to; gives, takes by PHASES; PHASES, KIND of a PART; FIRST THINGS of a LINE -/
abbrev NG : Type := Nat × Nat × (Nat → Nat) × (Nat → Nat) × (Nat → Nat → Nat) × (Nat → Nat → Nat) × (Nat → Nat) × (Nat → Nat) × (Nat → Nat)
def nP (N : NG) : Nat := N.1
def nL (N : NG) : Nat := N.2.1
def nF (N : NG) : Nat → Nat := N.2.2.1
def nT (N : NG) : Nat → Nat := N.2.2.2.1
def nG (N : NG) : Nat → Nat → Nat := N.2.2.2.2.1
def nK (N : NG) : Nat → Nat → Nat := N.2.2.2.2.2.1
def nH (N : NG) : Nat → Nat := N.2.2.2.2.2.2.1
def nD (N : NG) : Nat → Nat := N.2.2.2.2.2.2.2.1
def nS (N : NG) : Nat → Nat := N.2.2.2.2.2.2.2.2
/-- its bounds -/
def NOK (N : NG) : Prop := (nP N ≤ 12 ∧ nL N ≤ 20) ∧ (∀ p, p < nP N → nD N p ≤ 5 ∧ 1 ≤ nH N p ∧ nH N p ≤ 4 ∧ (¬ nD N p = 4 → nH N p = 1)) ∧ (∀ l, l < nL N → nF N l < nP N ∧ nT N l < nP N ∧ nS N l ≤ 60) ∧
  (∀ l i, l < nL N → i < 4 → nG N l i ≤ 50 ∧ nK N l i ≤ 50 ∧ (¬ nD N (nF N l) = 4 → 1 ≤ nG N l i) ∧ (¬ nD N (nT N l) = 4 → 1 ≤ nK N l i))
/-- the reference's arrays hold it -/
def Gr (X : tM) (N : NG) : Prop := (mI X 11 0 2 = nI (nP N) ∧ mI X 11 0 12 = nI (nL N)) ∧ (∀ p, p < nP N → mI X 1203 0 p = nI (nD N p) ∧ mI X 1205 0 p = nI (nH N p)) ∧ (∀ l, l < nL N → mI X 1213 0 l = nI (nF N l) ∧ mI X 1214 0 l = nI (nT N l) ∧ mI X 1217 0 l = nI (nS N l)) ∧
  (∀ l i, l < nL N → i < 4 → mI X 1215 0 (4 * l + i) = nI (nG N l i) ∧ mI X 1216 0 (4 * l + i) = nI (nK N l i))
/-- the next LINE from i on at the end f of which the PART p is; of L LINES -/
def nxd (f : Nat → Nat) (p L : Nat) : Nat → Option Nat
  | 0 => none
  | d + 1 => if f (L - (d + 1)) = p then some (L - (d + 1)) else nxd f p L d
def nx (f : Nat → Nat) (p L i : Nat) : Option Nat := nxd f p L (L - i)
/-- the last such LINE -/
def lst (f : Nat → Nat) (p : Nat) : Nat → Option Nat
  | 0 => none
  | L + 1 => if f L = p then some L else lst f p L
theorem nx_end {f : Nat → Nat} {p L i : Nat} (h : L ≤ i) : nx f p L i = none := by
  unfold nx
  rw [Nat.sub_eq_zero_of_le h]
  rfl
theorem nx_eq {f : Nat → Nat} {p L i : Nat} (h : i < L) : nx f p L i = if f i = p then some i else nx f p L (i + 1) := by
  unfold nx
  obtain ⟨d, hd⟩ : ∃ d, L - i = d + 1 := ⟨L - i - 1, by omega⟩
  rw [hd, nxd, show L - (d + 1) = i by omega, show L - (i + 1) = d by omega]
theorem nx_hit {f : Nat → Nat} {p L i : Nat} (h : i < L) (hp : f i = p) : nx f p L i = some i := by rw [nx_eq h, if_pos hp]
theorem nx_miss {f : Nat → Nat} {p L i : Nat} (h : i < L) (hp : ¬ f i = p) : nx f p L i = nx f p L (i + 1) := by rw [nx_eq h, if_neg hp]
/-- a walk along a chain of LINES: as a walk over all of them -/
theorem loopC {β σ : Type} (F : Nat → Option Nat → σ → Option β) (f : Nat → Nat) (p L : Nat) (P : Nat → σ → Prop) (Q : β → Prop)
    (hend : ∀ n s, P L s → Ok (F (n + 1) none s) Q)
    (hskip : ∀ i s, i < L → ¬ f i = p → P i s → P (i + 1) s)
    (hstep : ∀ n i s, i < L → f i = p → P i s → (∀ s', P (i + 1) s' → Ok (F n (nx f p L (i + 1)) s') Q) → Ok (F (n + 1) (some i) s) Q) :
    ∀ d n i s, d = L - i → i ≤ L → L - i < n → P i s → Ok (F n (nx f p L i) s) Q := by
  intro d
  induction d with
  | zero =>
    intro n i s hd hi hn hp
    obtain ⟨n, rfl⟩ : ∃ m, n = m + 1 := ⟨n - 1, by omega⟩
    have : i = L := by omega
    subst this
    rw [nx_end (Nat.le_refl _)]
    exact hend n s hp
  | succ d ih =>
    intro n i s hd hi hn hp
    by_cases e : f i = p
    · rw [nx_hit (by omega) e]
      obtain ⟨n, rfl⟩ : ∃ m, n = m + 1 := ⟨n - 1, by omega⟩
      exact hstep n i s (by omega) e hp (fun s' hs' => ih n (i + 1) s' (by omega) (by omega) (by omega) hs')
    · rw [nx_miss (by omega) e]
      exact ih n (i + 1) s (by omega) (by omega) (by omega) (hskip i s (by omega) e hp)
theorem loopC0 {β σ : Type} (F : Nat → Option Nat → σ → Option β) (f : Nat → Nat) (p L : Nat) (P : Nat → σ → Prop) (Q : β → Prop) (hL : L ≤ 20)
    (hend : ∀ n s, P L s → Ok (F (n + 1) none s) Q)
    (hskip : ∀ i s, i < L → ¬ f i = p → P i s → P (i + 1) s)
    (hstep : ∀ n i s, i < L → f i = p → P i s → (∀ s', P (i + 1) s' → Ok (F n (nx f p L (i + 1)) s') Q) → Ok (F (n + 1) (some i) s) Q)
    (s : σ) (h : P 0 s) : Ok (F FU (nx f p L 0) s) Q :=
  loopC F f p L P Q hend hskip hstep _ FU 0 s rfl (Nat.zero_le _) (FU_lt (by omega)) h
/-- the class's PARTS and LINES as they were told -/
def Cp (M X : tM) (N : NG) (p : Nat) : Prop := mR M 200 0 p = some p ∧ mI M 7 p 0 = nI p ∧ mI M 7 p 1 = nI (nD N p) ∧ mL M 7 p 2 = mL X 1204 0 p ∧ mI M 7 p 3 = nI (nH N p) ∧ mR M 7 p 11 = nx (nT N) p (nL N) 0 ∧ mR M 7 p 12 = lst (nT N) p (nL N) ∧ mR M 7 p 13 = nx (nF N) p (nL N) 0 ∧ mR M 7 p 14 = lst (nF N) p (nL N)
/-- a DELAY's ROW as told: none, or r places -/
def Cw (M X : tM) (N : NG) (p : Nat) : Prop := (mI X 1206 0 p = (-9) ∧ mR M 7 p 9 = none) ∨ (∃ r, nD N p = 5 ∧ r ≤ 12 ∧ mI X 1206 0 p = nI r ∧ mR M 7 p 9 = some p ∧ mN M 809 p = r ∧ mN M 810 p = r ∧ ∀ j, j < r → mL M 809 p j = mL X 1207 0 (12 * p + j))
def Cl (M X : tM) (N : NG) (l : Nat) : Prop := mR M 201 0 l = some l ∧ mI M 4 l 0 = nI l ∧ mR M 4 l 1 = some (nF N l) ∧ mR M 4 l 2 = some (nT N l) ∧ mI M 4 l 6 = nI (nS N l) ∧ mR M 4 l 12 = nx (nT N) (nT N l) (nL N) (l + 1) ∧ mR M 4 l 13 = nx (nF N) (nF N l) (nL N) (l + 1)
def Cn (M X : tM) (N : NG) (l : Nat) : Prop := mN M 503 l = nH N (nF N l) ∧ mN M 504 l = nH N (nT N l) ∧ mN M 505 l = 60 ∧ mN M 507 l = 400 ∧ mN M 510 l = 200 ∧ (∀ i, i < nH N (nF N l) → mI M 503 l i = nI (nG N l i)) ∧ (∀ i, i < nH N (nT N l) → mI M 504 l i = nI (nK N l i)) ∧ (∀ i, i < nS N l → mL M 505 l i = mL X 1218 0 (60 * l + i))
/-- what is not yet made -/
def Ce (M : tM) (N : NG) : Prop := (∀ p, nP N ≤ p → mE M 7 p = false ∧ mE M 19 p = false ∧ mE M 809 p = false ∧ mE M 810 p = false) ∧ (∀ l, nL N ≤ l → mE M 4 l = false ∧ mE M 16 l = false ∧ mE M 503 l = false ∧ mE M 504 l = false ∧ mE M 505 l = false ∧ mE M 507 l = false ∧ mE M 510 l = false)
/-- the class's graph as told -/
def Cg (M X : tM) (N : NG) : Prop := (mI M 1 0 2 = nI (nP N) ∧ mI M 1 0 3 = nI (nL N)) ∧ (∀ p, p < nP N → Cp M X N p ∧ Cw M X N p) ∧ (∀ l, l < nL N → Cl M X N l ∧ Cn M X N l) ∧ Ce M N
/-- TIMES, THREADS -/
def Ct (M X : tM) (N : NG) : Prop := ∀ p, p < nP N → (mI M 7 p 4 = mI X 1210 0 p ∧ mI M 7 p 5 = mI X 1211 0 p) ∧ (∃ t, t ≤ 1000 ∧ mI X 1210 0 p = nI t) ∧ (∃ t, t ≤ 3 ∧ mI X 1211 0 p = nI t)
/-- THE STATE -/
def Cvp (M X : tM) (N : NG) (p : Nat) : Prop := (∃ h, h < nH N p ∧ mI X 1219 0 p = nI h) ∧ mI X 1208 0 p = mI X 1206 0 p ∧ mI M 7 p 7 = mI X 1219 0 p ∧ mL M 7 p 8 = mL X 1220 0 p ∧ mR M 7 p 10 = mR M 7 p 9 ∧ (∀ r, mI X 1206 0 p = nI r → r ≤ 12 → ∀ j, j < r → mL M 810 p j = mL X 1209 0 (12 * p + j))
def Cvl (M X : tM) (f l : Nat) : Prop := ∃ o h g, o ≤ 400 ∧ h < 400 ∧ g ≤ 50 * f ∧ mI X 1221 0 l = nI o ∧ mI M 4 l 9 = nI o ∧ mI M 4 l 8 = nI h ∧ (∀ i, i < o → mL M 507 l ((h + i) % 400) = mL X 1222 0 (450 * l + i)) ∧ mI X 1223 0 l = nI g ∧ mI M 4 l 11 = nI (min g 200) ∧ (∀ i, i < min g 200 → mL M 510 l i = mL X 1224 0 (200 * l + i))
def Cv (M X : tM) (N : NG) : Prop := ∃ f, f ≤ 5000 ∧ mI X 11 0 25 = nI f ∧ mI M 9 0 1 = nI f ∧ (∀ p, p < nP N → Cvp M X N p) ∧ (∀ l, l < nL N → Cvl M X f l)
/-- findings, asked, gave, trace, draft, tries, ONCE -/
def Cf (M X : tM) : Prop := mI M 10 0 9 = mI X 11 0 0 ∧ (∀ j, j < 6 → mI M 1110 0 j = mI X 1201 0 j) ∧ mL M 10 0 11 = mL X 11 0 29 ∧ mL M 9 0 2 = mL X 11 0 26 ∧ mI M 3 0 3 = mI X 11 0 48
def Cr (M X : tM) : Prop := ∃ t, t ≤ 3 ∧ mI X 11 0 28 = nI t ∧ mI M 9 0 6 = nI t ∧ ∀ j, j < t → mI M 1005 0 j = mI X 1227 0 j
def Cd (M X : tM) (N : NG) : Prop := ∃ d, d ≤ 200 ∧ mI X 11 0 65 = nI d ∧ mI M 10 0 8 = nI d ∧ ∀ j, j < d → ∃ p, p < nP N ∧ mI X 1264 0 j = nI p ∧ mI M 1107 0 j = nI p
def Co (M X : tM) : Prop := (mI X 11 0 60 = (-9) ∧ mI M 6 0 7 = 0) ∨ ∃ m, m ≤ 60 ∧ mI X 11 0 60 = nI m ∧ mI M 6 0 7 = nI m ∧ ∀ j, j < m → mI M 706 0 j = mI X 1259 0 j
/-- the latest SCHEDULE -/
def Cs (M X : tM) (N : NG) : Prop := (mI X 11 0 43 = (-9) ∧ mI M 8 0 3 = 0 ∧ ∀ t, t < 4 → mI X 1230 0 t = 0 ∧ mI M 905 0 t = 0) ∨
  ∃ z, 1 ≤ z ∧ z ≤ 2000 ∧ mI X 11 0 43 = nI z ∧ mI M 8 0 3 = nI z ∧ (∀ i, i < z → ∃ p, p < nP N ∧ mI X 1242 0 i = nI p ∧ mI M 902 0 i = nI p) ∧ (∀ p, p < nP N → ∃ i, i < z ∧ mI X 1242 0 i = nI p) ∧ (∀ l, l < nL N → mI M 904 0 l = mI X 1244 0 l) ∧ (∀ t, t < 4 → ∃ a, a ≤ z ∧ mI M 905 0 t = nI a ∧ mI X 1230 0 t = nI (a % z))
