/-! METHODS THAT MAY THROW: the judgement over the picture -/
def xNSE : String := "java/util/NoSuchElementException"
def xNames : List String := ["java/lang/RuntimeException", "java/lang/Exception"]
def xWs : List Cond := vx_at0 "RoadsWithTides" 143 xNSE xNames
def xW0 : Cond := .castable xNSE xNSE
def xW1 : Cond := .declares ⟨"java/lang/RuntimeException", "<init>", "()V"⟩
def xW2 : Cond := .declares ⟨"java/lang/Exception", "<init>", "()V"⟩
def xW3 : Cond := .declares ⟨"java/lang/Throwable", "<init>", "()V"⟩
theorem xWs_good : ∀ w ∈ xWs.filter goodWord, w ∈ lw_tbl := by decide +kernel
theorem xWs_bad : ∀ w ∈ xWs.filter (fun w => !goodWord w), w ∈ [xW0, xW1, xW2, xW3] := by decide +kernel
theorem xWs_ot : ∀ w ∈ Cond.classLink "RoadsWithTides" 141 xNSE :: Cond.initialized xNSE :: vx_at0 "RoadsWithTides" 143 xNSE xNames, vx_ot w = true := by decide +kernel
theorem xW_tbl : xW0 ∈ lw_tbl ∧ xW1 ∈ lw_tbl ∧ xW2 ∈ lw_tbl ∧ xW3 ∈ lw_tbl := ⟨List.mem_of_getElem? (i := 1180) (by decide +kernel), List.mem_of_getElem? (i := 1181) (by decide +kernel), List.mem_of_getElem? (i := 1183) (by decide +kernel), List.mem_of_getElem? (i := 1185) (by decide +kernel)⟩
