/-! the cells of the class and of the reference, by number -/
def zz_fTab : List (Nat ⊕ Bool) := [.inl 1, .inl 2, .inl 3, .inr false, .inr false]
def zz_fLex : List (Nat ⊕ Bool) := [.inl 1, .inl 2, .inl 3, .inl 4, .inl 5, .inl 6, .inr false]
def zz_fScr : List (Nat ⊕ Bool) := [.inl 1, .inr false, .inl 2, .inl 9, .inr false, .inr false, .inr false]
def zz_fHis : List (Nat ⊕ Bool) := [.inl 1, .inl 2, .inl 3, .inr false, .inr false]
def zz_fSig : List (Nat ⊕ Bool) := [.inl 1, .inl 2, .inl 3, .inr false]
def zz_fCha : List (Nat ⊕ Bool) := [.inl 1, .inl 2, .inl 3, .inl 4, .inl 5, .inl 6, .inr false, .inr false, .inr false]
def zz_fRan : List (Nat ⊕ Bool) := [.inl 1, .inl 2, .inl 3, .inr false, .inr false]
def zz_fWor : List (Nat ⊕ Bool) := [.inl 1, .inl 14, .inl 21, .inl 25, .inl 29, .inl 33, .inl 37, .inl 44, .inl 48, .inl 52, .inr false, .inr false, .inr true]
def zz_dC : List zz_D := [.inr (7, zz_fWor), .inr (4, zz_fScr), .inl (0, 110), .inr (2, zz_fLex), .inl (0, 7), .inl (0, 40), .inl (0, 8), .inl (0, 8), .inl (0, 8), .inl (0, 8), .inr (6, zz_fTab), .inl (0, 24), .inl (0, 9), .inl (0, 8), .inr (2, zz_fLex), .inl (0, 7), .inl (0, 40), .inl (0, 8), .inl (0, 8), .inl (0, 8), .inl (0, 8), .inr (6, zz_fTab), .inl (0, 24), .inl (0, 9), .inl (0, 8), .inr (6, zz_fTab), .inl (0, 24), .inl (0, 9), .inl (0, 8), .inr (1, zz_fHis), .inl (0, 14), .inl (0, 14), .inl (0, 14), .inr (5, zz_fSig), .inl (0, 6), .inl (0, 6), .inl (1, 6), .inr (0, zz_fCha), .inl (0, 25), .inl (0, 25), .inl (0, 8), .inl (0, 8), .inl (2, 200), .inl (2, 200), .inr (3, zz_fRan), .inl (3, 0), .inl (0, 8), .inl (0, 8), .inr (6, zz_fTab), .inl (0, 24), .inl (0, 9), .inl (0, 8), .inr (6, zz_fTab), .inl (0, 24), .inl (0, 9), .inl (0, 8)]
def zz_fMod : List (Nat ⊕ Bool) := [.inr false, .inl 1, .inr false, .inr false, .inl 2, .inr false, .inl 3, .inl 4, .inl 5, .inl 6, .inl 7, .inr false, .inl 8, .inl 9, .inl 10, .inl 11, .inl 12, .inl 13, .inl 14, .inl 15, .inl 16, .inr false, .inl 17, .inl 18, .inr false, .inl 19, .inl 20, .inl 21, .inr true, .inl 22, .inl 23, .inl 24, .inl 25, .inr false, .inr false, .inl 26]
def zz_dM : List zz_D := [.inr (8, zz_fMod), .inl (0, 110), .inl (0, 7), .inl (0, 8), .inl (0, 40), .inl (0, 8), .inl (0, 8), .inl (0, 7), .inl (0, 8), .inl (0, 40), .inl (0, 8), .inl (0, 8), .inl (1, 9), .inl (0, 43), .inl (0, 43), .inl (0, 43), .inl (0, 602), .inl (0, 86), .inl (1, 2), .inl (0, 6), .inl (0, 6), .inl (0, 6), .inl (2, 16425), .inl (2, 225), .inl (2, 225), .inl (0, 8), .inl (2, 256)]
theorem zdC_0 : zz_dC[0]? = some (.inr (7, zz_fWor)) := rfl
theorem zdC_1 : zz_dC[1]? = some (.inr (4, zz_fScr)) := rfl
theorem zdC_2 : zz_dC[2]? = some (.inl (0, 110)) := rfl
theorem zdC_3 : zz_dC[3]? = some (.inr (2, zz_fLex)) := rfl
theorem zdC_4 : zz_dC[4]? = some (.inl (0, 7)) := rfl
theorem zdC_5 : zz_dC[5]? = some (.inl (0, 40)) := rfl
theorem zdC_6 : zz_dC[6]? = some (.inl (0, 8)) := rfl
theorem zdC_7 : zz_dC[7]? = some (.inl (0, 8)) := rfl
theorem zdC_8 : zz_dC[8]? = some (.inl (0, 8)) := rfl
theorem zdC_9 : zz_dC[9]? = some (.inl (0, 8)) := rfl
theorem zdC_10 : zz_dC[10]? = some (.inr (6, zz_fTab)) := rfl
theorem zdC_11 : zz_dC[11]? = some (.inl (0, 24)) := rfl
theorem zdC_12 : zz_dC[12]? = some (.inl (0, 9)) := rfl
theorem zdC_13 : zz_dC[13]? = some (.inl (0, 8)) := rfl
theorem zdC_14 : zz_dC[14]? = some (.inr (2, zz_fLex)) := rfl
theorem zdC_15 : zz_dC[15]? = some (.inl (0, 7)) := rfl
theorem zdC_16 : zz_dC[16]? = some (.inl (0, 40)) := rfl
theorem zdC_17 : zz_dC[17]? = some (.inl (0, 8)) := rfl
theorem zdC_18 : zz_dC[18]? = some (.inl (0, 8)) := rfl
theorem zdC_19 : zz_dC[19]? = some (.inl (0, 8)) := rfl
theorem zdC_20 : zz_dC[20]? = some (.inl (0, 8)) := rfl
theorem zdC_21 : zz_dC[21]? = some (.inr (6, zz_fTab)) := rfl
theorem zdC_22 : zz_dC[22]? = some (.inl (0, 24)) := rfl
theorem zdC_23 : zz_dC[23]? = some (.inl (0, 9)) := rfl
theorem zdC_24 : zz_dC[24]? = some (.inl (0, 8)) := rfl
theorem zdC_25 : zz_dC[25]? = some (.inr (6, zz_fTab)) := rfl
theorem zdC_26 : zz_dC[26]? = some (.inl (0, 24)) := rfl
theorem zdC_27 : zz_dC[27]? = some (.inl (0, 9)) := rfl
theorem zdC_28 : zz_dC[28]? = some (.inl (0, 8)) := rfl
theorem zdC_29 : zz_dC[29]? = some (.inr (1, zz_fHis)) := rfl
theorem zdC_30 : zz_dC[30]? = some (.inl (0, 14)) := rfl
theorem zdC_31 : zz_dC[31]? = some (.inl (0, 14)) := rfl
theorem zdC_32 : zz_dC[32]? = some (.inl (0, 14)) := rfl
theorem zdC_33 : zz_dC[33]? = some (.inr (5, zz_fSig)) := rfl
theorem zdC_34 : zz_dC[34]? = some (.inl (0, 6)) := rfl
theorem zdC_35 : zz_dC[35]? = some (.inl (0, 6)) := rfl
theorem zdC_36 : zz_dC[36]? = some (.inl (1, 6)) := rfl
theorem zdC_37 : zz_dC[37]? = some (.inr (0, zz_fCha)) := rfl
theorem zdC_38 : zz_dC[38]? = some (.inl (0, 25)) := rfl
theorem zdC_39 : zz_dC[39]? = some (.inl (0, 25)) := rfl
theorem zdC_40 : zz_dC[40]? = some (.inl (0, 8)) := rfl
theorem zdC_41 : zz_dC[41]? = some (.inl (0, 8)) := rfl
theorem zdC_42 : zz_dC[42]? = some (.inl (2, 200)) := rfl
theorem zdC_43 : zz_dC[43]? = some (.inl (2, 200)) := rfl
theorem zdC_44 : zz_dC[44]? = some (.inr (3, zz_fRan)) := rfl
theorem zdC_45 : zz_dC[45]? = some (.inl (3, 0)) := rfl
theorem zdC_46 : zz_dC[46]? = some (.inl (0, 8)) := rfl
theorem zdC_47 : zz_dC[47]? = some (.inl (0, 8)) := rfl
theorem zdC_48 : zz_dC[48]? = some (.inr (6, zz_fTab)) := rfl
theorem zdC_49 : zz_dC[49]? = some (.inl (0, 24)) := rfl
theorem zdC_50 : zz_dC[50]? = some (.inl (0, 9)) := rfl
theorem zdC_51 : zz_dC[51]? = some (.inl (0, 8)) := rfl
theorem zdC_52 : zz_dC[52]? = some (.inr (6, zz_fTab)) := rfl
theorem zdC_53 : zz_dC[53]? = some (.inl (0, 24)) := rfl
theorem zdC_54 : zz_dC[54]? = some (.inl (0, 9)) := rfl
theorem zdC_55 : zz_dC[55]? = some (.inl (0, 8)) := rfl
theorem zdM_0 : zz_dM[0]? = some (.inr (8, zz_fMod)) := rfl
theorem zdM_1 : zz_dM[1]? = some (.inl (0, 110)) := rfl
theorem zdM_2 : zz_dM[2]? = some (.inl (0, 7)) := rfl
theorem zdM_3 : zz_dM[3]? = some (.inl (0, 8)) := rfl
theorem zdM_4 : zz_dM[4]? = some (.inl (0, 40)) := rfl
theorem zdM_5 : zz_dM[5]? = some (.inl (0, 8)) := rfl
theorem zdM_6 : zz_dM[6]? = some (.inl (0, 8)) := rfl
theorem zdM_7 : zz_dM[7]? = some (.inl (0, 7)) := rfl
theorem zdM_8 : zz_dM[8]? = some (.inl (0, 8)) := rfl
theorem zdM_9 : zz_dM[9]? = some (.inl (0, 40)) := rfl
theorem zdM_10 : zz_dM[10]? = some (.inl (0, 8)) := rfl
theorem zdM_11 : zz_dM[11]? = some (.inl (0, 8)) := rfl
theorem zdM_12 : zz_dM[12]? = some (.inl (1, 9)) := rfl
theorem zdM_13 : zz_dM[13]? = some (.inl (0, 43)) := rfl
theorem zdM_14 : zz_dM[14]? = some (.inl (0, 43)) := rfl
theorem zdM_15 : zz_dM[15]? = some (.inl (0, 43)) := rfl
theorem zdM_16 : zz_dM[16]? = some (.inl (0, 602)) := rfl
theorem zdM_17 : zz_dM[17]? = some (.inl (0, 86)) := rfl
theorem zdM_18 : zz_dM[18]? = some (.inl (1, 2)) := rfl
theorem zdM_19 : zz_dM[19]? = some (.inl (0, 6)) := rfl
theorem zdM_20 : zz_dM[20]? = some (.inl (0, 6)) := rfl
theorem zdM_21 : zz_dM[21]? = some (.inl (0, 6)) := rfl
theorem zdM_22 : zz_dM[22]? = some (.inl (2, 16425)) := rfl
theorem zdM_23 : zz_dM[23]? = some (.inl (2, 225)) := rfl
theorem zdM_24 : zz_dM[24]? = some (.inl (2, 225)) := rfl
theorem zdM_25 : zz_dM[25]? = some (.inl (0, 8)) := rfl
theorem zdM_26 : zz_dM[26]? = some (.inl (2, 256)) := rfl
/-- a tablet, a lexicon: the object and its rows behind it -/
def zz_isT (k : Nat) : Prop := zz_dC[k]? = some (.inr (6, zz_fTab)) ∧ zz_dC[k + 1]? = some (.inl (0, 24)) ∧ zz_dC[k + 2]? = some (.inl (0, 9)) ∧ zz_dC[k + 3]? = some (.inl (0, 8))
def zz_isX (k : Nat) : Prop := zz_dC[k]? = some (.inr (2, zz_fLex)) ∧ zz_dC[k + 1]? = some (.inl (0, 7)) ∧ zz_dC[k + 2]? = some (.inl (0, 40)) ∧ zz_dC[k + 3]? = some (.inl (0, 8)) ∧ zz_dC[k + 4]? = some (.inl (0, 8)) ∧ zz_dC[k + 5]? = some (.inl (0, 8)) ∧ zz_dC[k + 6]? = some (.inl (0, 8))
theorem zz_isT_10 : zz_isT 10 := ⟨rfl, rfl, rfl, rfl⟩
theorem zz_isT_21 : zz_isT 21 := ⟨rfl, rfl, rfl, rfl⟩
theorem zz_isT_25 : zz_isT 25 := ⟨rfl, rfl, rfl, rfl⟩
theorem zz_isT_48 : zz_isT 48 := ⟨rfl, rfl, rfl, rfl⟩
theorem zz_isT_52 : zz_isT 52 := ⟨rfl, rfl, rfl, rfl⟩
theorem zz_isX_3 : zz_isX 3 := ⟨rfl, rfl, rfl, rfl, rfl, rfl, rfl⟩
theorem zz_isX_14 : zz_isX 14 := ⟨rfl, rfl, rfl, rfl, rfl, rfl, rfl⟩
