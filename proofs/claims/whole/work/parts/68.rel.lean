/-! what is kept from call to call: caches of the class, all parts together; each part stays where nothing that it reads is written -/
def stk (N : NG) (R fs : Nat → Nat) : Prop := ∃ ps, okRun N R fs (fun _ => 0) ps ∧ dead N R fs (toRun (fun _ => 0) ps) ∧ ∃ p, p < nP N ∧ toRun (fun _ => 0) ps p < R p
def RndC (M : tM) (N : NG) : Prop := (nP N = 0 ∧ mI M 1 0 7 = (-4)) ∨ (0 < nP N ∧ ((∃ R, rndOf N = .inl R ∧ mI M 1 0 7 = 0 ∧ mI M 1 0 4 = nI (sumTo R (nP N)) ∧ mI M 1 0 5 = (-9) ∧ ∀ p, p < nP N → mI M 7 p 6 = nI (R p)) ∨ (∃ l, l < nL N ∧ rndOf N = .inr (some l) ∧ mI M 1 0 7 = (-9) ∧ mI M 1 0 5 = nI l) ∨ (rndOf N = .inr none ∧ mI M 1 0 7 = (-6) ∧ mI M 1 0 5 = (-9))))
def Cc1 (M : tM) (N : NG) : Prop := mI M 1 0 6 = 0 ∨ (mI M 1 0 6 = 1 ∧ RndC M N)
def StkC (M : tM) (N : NG) : Prop := ∃ R, rndOf N = .inl R ∧ 0 < nP N ∧ ((mI M 2 0 4 = 1 ∧ stk N R (nS N)) ∨ (mI M 2 0 4 = 0 ∧ ¬ stk N R (nS N)))
def Cc2 (M : tM) (N : NG) : Prop := (mI M 2 0 3 = 0 ∧ mI M 2 0 5 = 0) ∨ (mI M 2 0 3 = 1 ∧ StkC M N ∧ ((mI M 2 0 5 = 0 ∧ ∀ l, l < nL N → mI M 302 0 l = 0) ∨ (mI M 2 0 5 = 1 ∧ mI M 2 0 4 = 1 ∧ ∀ X l, Len X → Gr X N → l < nL N → ∃ X', fX11_lacks (nI l) X = some (mI M 302 0 l, X'))))
def Cc3 (M : tM) (N : NG) : Prop := mI M 0 0 3 = 0 ∨ (mI M 0 0 3 = 1 ∧ ∀ X, Len X → Gr X N → (∀ p, p < nP N → mI X 1210 0 p = mI M 7 p 4) → (∃ X', fX11_beat 0 X = some ((mL M 0 0 1).toInt32, X')) ∧ (∃ X', fX11_beat 1 X = some ((mL M 0 0 2).toInt32, X')))
def Al (M : tM) (N : NG) : Prop := (NOK N ∧ Len M ∧ Gr M N) ∧ Cg M M N ∧ Ct M M N ∧ Cv M M N ∧ Cf M M ∧ Cr M M ∧ Cd M M N ∧ Co M M ∧ Cs M M N ∧ Cc1 M N ∧ Cc2 M N ∧ Cc3 M N
def Rel (M : tM) : Prop := ∃ N, Al M N
def disj (ks rs : List Nat) : Bool := rs.all (fun r => !ks.contains r)
theorem disj_of {ks rs : List Nat} (h : disj ks rs = true) {r : Nat} (hr : rs.contains r = true) : (!ks.contains r) = true := List.all_eq_true.mp h r (by simpa using hr)
theorem Fr.gI {ks rs : List Nat} {M M2 : tM} (hF : Fr ks M M2) (hd : disj ks rs = true) (k : Nat) (hk : (decide (24 ≤ k) && rs.contains k) = true) (i j : Nat) : mI M2 k i j = mI M k i j := by
  simp only [Bool.and_eq_true] at hk
  exact hF.aI (by rw [hk.1, disj_of hd hk.2]; rfl)
theorem Fr.gL {ks rs : List Nat} {M M2 : tM} (hF : Fr ks M M2) (hd : disj ks rs = true) (k : Nat) (hk : (decide (24 ≤ k) && rs.contains k) = true) (i j : Nat) : mL M2 k i j = mL M k i j := by
  simp only [Bool.and_eq_true] at hk
  exact hF.aL (by rw [hk.1, disj_of hd hk.2]; rfl)
theorem Fr.gR {ks rs : List Nat} {M M2 : tM} (hF : Fr ks M M2) (hd : disj ks rs = true) (k : Nat) (hk : (decide (24 ≤ k) && rs.contains k) = true) (i j : Nat) : mR M2 k i j = mR M k i j := by
  simp only [Bool.and_eq_true] at hk
  exact hF.aR (by rw [hk.1, disj_of hd hk.2]; rfl)
theorem Fr.hI {ks rs : List Nat} {M M2 : tM} (hF : Fr ks M M2) (hd : disj ks rs = true) (k j : Nat) (hk : (rs.contains k && rs.contains ((k + 1) * 10000 + j)) = true) (i : Nat) : mI M2 k i j = mI M k i j := by
  simp only [Bool.and_eq_true] at hk
  exact hF.oI (by rw [disj_of hd hk.1, disj_of hd hk.2]; rfl)
theorem Fr.hL {ks rs : List Nat} {M M2 : tM} (hF : Fr ks M M2) (hd : disj ks rs = true) (k j : Nat) (hk : (rs.contains k && rs.contains ((k + 1) * 10000 + j)) = true) (i : Nat) : mL M2 k i j = mL M k i j := by
  simp only [Bool.and_eq_true] at hk
  exact hF.oL (by rw [disj_of hd hk.1, disj_of hd hk.2]; rfl)
theorem Fr.hR {ks rs : List Nat} {M M2 : tM} (hF : Fr ks M M2) (hd : disj ks rs = true) (k j : Nat) (hk : (rs.contains k && rs.contains ((k + 1) * 10000 + j)) = true) (i : Nat) : mR M2 k i j = mR M k i j := by
  simp only [Bool.and_eq_true] at hk
  exact hF.oR (by rw [disj_of hd hk.1, disj_of hd hk.2]; rfl)
def rsGr : List Nat := [11, 1203, 1205, 1213, 1214, 1215, 1216, 1217, 120002, 120012]
theorem Gr.fr {ks : List Nat} {M M2 : tM} {N : NG} (h : Gr M N) (hF : Fr ks M M2) (hd : disj ks rsGr = true) : Gr M2 N := by
  simp only [Gr] at h ⊢
  simp only [hF.gI hd 1203 (by decide), hF.gI hd 1205 (by decide), hF.gI hd 1213 (by decide), hF.gI hd 1214 (by decide), hF.gI hd 1215 (by decide), hF.gI hd 1216 (by decide), hF.gI hd 1217 (by decide), hF.hI hd 11 2 (by decide), hF.hI hd 11 12 (by decide), hF.n, hF.e]
  exact h
def rsCg : List Nat := [1, 4, 7, 200, 201, 503, 504, 505, 809, 1204, 1206, 1207, 1218, 20002, 20003, 50000, 50001, 50002, 50006, 50012, 50013, 80000, 80001, 80002, 80003, 80009, 80011, 80012, 80013, 80014]
theorem Cg.fr {ks : List Nat} {M M2 : tM} {N : NG} (h : Cg M M N) (hF : Fr ks M M2) (hd : disj ks rsCg = true) : Cg M2 M2 N := by
  simp only [Cg, Cp, Cw, Cl, Cn, Ce] at h ⊢
  simp only [hF.gI hd 503 (by decide), hF.gI hd 504 (by decide), hF.gI hd 1206 (by decide), hF.hI hd 1 2 (by decide), hF.hI hd 1 3 (by decide), hF.hI hd 7 0 (by decide), hF.hI hd 7 1 (by decide), hF.hI hd 7 3 (by decide), hF.hI hd 4 0 (by decide), hF.hI hd 4 6 (by decide), hF.gL hd 505 (by decide), hF.gL hd 809 (by decide), hF.gL hd 1204 (by decide), hF.gL hd 1207 (by decide), hF.gL hd 1218 (by decide), hF.hL hd 7 2 (by decide), hF.gR hd 200 (by decide), hF.gR hd 201 (by decide), hF.hR hd 7 9 (by decide), hF.hR hd 7 11 (by decide), hF.hR hd 7 12 (by decide), hF.hR hd 7 13 (by decide), hF.hR hd 7 14 (by decide), hF.hR hd 4 1 (by decide), hF.hR hd 4 2 (by decide), hF.hR hd 4 12 (by decide), hF.hR hd 4 13 (by decide), hF.n, hF.e]
  exact h
def rsCt : List Nat := [7, 1210, 1211, 80004, 80005]
theorem Ct.fr {ks : List Nat} {M M2 : tM} {N : NG} (h : Ct M M N) (hF : Fr ks M M2) (hd : disj ks rsCt = true) : Ct M2 M2 N := by
  simp only [Ct] at h ⊢
  simp only [hF.gI hd 1210 (by decide), hF.gI hd 1211 (by decide), hF.hI hd 7 4 (by decide), hF.hI hd 7 5 (by decide), hF.n, hF.e]
  exact h
def rsCv : List Nat := [4, 7, 9, 11, 507, 510, 810, 1206, 1208, 1209, 1219, 1220, 1221, 1222, 1223, 1224, 50008, 50009, 50011, 80007, 80008, 80009, 80010, 100001, 120025]
theorem Cv.fr {ks : List Nat} {M M2 : tM} {N : NG} (h : Cv M M N) (hF : Fr ks M M2) (hd : disj ks rsCv = true) : Cv M2 M2 N := by
  simp only [Cv, Cvp, Cvl] at h ⊢
  simp only [hF.gI hd 1219 (by decide), hF.gI hd 1208 (by decide), hF.gI hd 1206 (by decide), hF.gI hd 1221 (by decide), hF.gI hd 1223 (by decide), hF.hI hd 9 1 (by decide), hF.hI hd 7 7 (by decide), hF.hI hd 4 8 (by decide), hF.hI hd 4 9 (by decide), hF.hI hd 4 11 (by decide), hF.hI hd 11 25 (by decide), hF.gL hd 810 (by decide), hF.gL hd 507 (by decide), hF.gL hd 510 (by decide), hF.gL hd 1220 (by decide), hF.gL hd 1209 (by decide), hF.gL hd 1222 (by decide), hF.gL hd 1224 (by decide), hF.hL hd 7 8 (by decide), hF.hR hd 7 10 (by decide), hF.hR hd 7 9 (by decide), hF.n, hF.e]
  exact h
def rsCf : List Nat := [3, 9, 10, 11, 1110, 1201, 40003, 100002, 110009, 110011, 120000, 120026, 120029, 120048]
theorem Cf.fr {ks : List Nat} {M M2 : tM} (h : Cf M M) (hF : Fr ks M M2) (hd : disj ks rsCf = true) : Cf M2 M2 := by
  simp only [Cf] at h ⊢
  simp only [hF.gI hd 1110 (by decide), hF.gI hd 1201 (by decide), hF.hI hd 10 9 (by decide), hF.hI hd 3 3 (by decide), hF.hI hd 11 0 (by decide), hF.hI hd 11 48 (by decide), hF.hL hd 10 11 (by decide), hF.hL hd 9 2 (by decide), hF.hL hd 11 29 (by decide), hF.hL hd 11 26 (by decide), hF.n, hF.e]
  exact h
def rsCr : List Nat := [9, 11, 1005, 1227, 100006, 120028]
theorem Cr.fr {ks : List Nat} {M M2 : tM} (h : Cr M M) (hF : Fr ks M M2) (hd : disj ks rsCr = true) : Cr M2 M2 := by
  simp only [Cr] at h ⊢
  simp only [hF.gI hd 1005 (by decide), hF.gI hd 1227 (by decide), hF.hI hd 11 28 (by decide), hF.hI hd 9 6 (by decide), hF.n, hF.e]
  exact h
def rsCd : List Nat := [10, 11, 1107, 1264, 110008, 120065]
theorem Cd.fr {ks : List Nat} {M M2 : tM} {N : NG} (h : Cd M M N) (hF : Fr ks M M2) (hd : disj ks rsCd = true) : Cd M2 M2 N := by
  simp only [Cd] at h ⊢
  simp only [hF.gI hd 1264 (by decide), hF.gI hd 1107 (by decide), hF.hI hd 11 65 (by decide), hF.hI hd 10 8 (by decide), hF.n, hF.e]
  exact h
def rsCo : List Nat := [6, 11, 706, 1259, 70007, 120060]
theorem Co.fr {ks : List Nat} {M M2 : tM} (h : Co M M) (hF : Fr ks M M2) (hd : disj ks rsCo = true) : Co M2 M2 := by
  simp only [Co] at h ⊢
  simp only [hF.gI hd 706 (by decide), hF.gI hd 1259 (by decide), hF.hI hd 11 60 (by decide), hF.hI hd 6 7 (by decide), hF.n, hF.e]
  exact h
def rsCs : List Nat := [8, 11, 902, 904, 905, 1230, 1242, 1244, 90003, 120043]
theorem Cs.fr {ks : List Nat} {M M2 : tM} {N : NG} (h : Cs M M N) (hF : Fr ks M M2) (hd : disj ks rsCs = true) : Cs M2 M2 N := by
  simp only [Cs] at h ⊢
  simp only [hF.gI hd 1230 (by decide), hF.gI hd 905 (by decide), hF.gI hd 1242 (by decide), hF.gI hd 902 (by decide), hF.gI hd 904 (by decide), hF.gI hd 1244 (by decide), hF.hI hd 11 43 (by decide), hF.hI hd 8 3 (by decide), hF.n, hF.e]
  exact h
def rsCc1 : List Nat := [1, 7, 20004, 20005, 20006, 20007, 80006]
theorem Cc1.fr {ks : List Nat} {M M2 : tM} {N : NG} (h : Cc1 M N) (hF : Fr ks M M2) (hd : disj ks rsCc1 = true) : Cc1 M2 N := by
  simp only [Cc1, RndC] at h ⊢
  simp only [hF.hI hd 1 4 (by decide), hF.hI hd 1 5 (by decide), hF.hI hd 1 6 (by decide), hF.hI hd 1 7 (by decide), hF.hI hd 7 6 (by decide), hF.n, hF.e]
  exact h
def rsCc2 : List Nat := [2, 302, 30003, 30004, 30005]
theorem Cc2.fr {ks : List Nat} {M M2 : tM} {N : NG} (h : Cc2 M N) (hF : Fr ks M M2) (hd : disj ks rsCc2 = true) : Cc2 M2 N := by
  simp only [Cc2, StkC] at h ⊢
  simp only [hF.gI hd 302 (by decide), hF.hI hd 2 3 (by decide), hF.hI hd 2 4 (by decide), hF.hI hd 2 5 (by decide), hF.n, hF.e]
  exact h
def rsCc3 : List Nat := [0, 7, 10001, 10002, 10003, 80004]
theorem Cc3.fr {ks : List Nat} {M M2 : tM} {N : NG} (h : Cc3 M N) (hF : Fr ks M M2) (hd : disj ks rsCc3 = true) : Cc3 M2 N := by
  simp only [Cc3] at h ⊢
  simp only [hF.hI hd 0 3 (by decide), hF.hI hd 7 4 (by decide), hF.hL hd 0 1 (by decide), hF.hL hd 0 2 (by decide), hF.n, hF.e]
  exact h
