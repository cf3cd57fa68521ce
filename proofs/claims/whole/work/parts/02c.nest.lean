/-! links to private members of the nest -/
def zNm : List (String × Nat × MethodName) := [("FuseMinutes", 11, ⟨"FuseMinutes$Store", "<init>", "()V"⟩), ("FuseMinutes$Store", 11, ⟨"FuseMinutes$Pit", "<init>", "()V"⟩), ("FuseMinutes$Steps", 17, ⟨"FuseMinutes$Pit", "<init>", "()V"⟩), ("FuseMinutes", 21, ⟨"FuseMinutes$Reader", "<init>", "()V"⟩), ("FuseMinutes", 56, ⟨"FuseMinutes$Bundles", "<init>", "()V"⟩), ("FuseMinutes", 61, ⟨"FuseMinutes$Text", "<init>", "()V"⟩), ("FuseMinutes$Reader", 87, ⟨"FuseMinutes", "within", "(III)Z"⟩), ("FuseMinutes$Rows", 38, ⟨"FuseMinutes", "isSpan", "(I)Z"⟩), ("FuseMinutes", 294, ⟨"FuseMinutes$Crews", "outcome", "(IIIII)I"⟩)]
def zNf : Cond := .fieldLinkNest "FuseMinutes$Rows" 79 "FuseMinutes" "THREES" "[I" "FuseMinutes"
/-! the two texts of the Reader -/
def zLen : List Nat := [126, 11]
def zByt : List (List Int32) := [[108, 105, 103, 104, 116, 115, 32, 102, 97, 105, 108, 115, 32, 99, 111, 114, 100, 32, 112, 114, 105, 99, 101, 32, 104, 97, 110, 100, 115, 32, 108, 101, 102, 116, 32, 114, 105, 103, 104, 116, 32, 115, 110, 117, 102, 102, 32, 114, 101, 110, 101, 119, 32, 98, 117, 114, 110, 32, 109, 105, 110, 117, 116, 101, 32, 116, 119, 111, 115, 32, 111, 117, 116, 32, 105, 102, 32, 116, 104, 101, 110, 32, 101, 108, 115, 101, 32, 101, 110, 100, 32, 111, 114, 32, 97, 110, 100, 32, 110, 111, 116, 32, 116, 105, 109, 101, 32, 114, 101, 115, 116, 32, 108, 111, 110, 103, 32, 108, 105, 116, 32, 115, 105, 100, 101, 32], [60, 62, 61, 35, 43, 45, 42, 47, 40, 41, 59]]
def zS0 : Nat := 148
def zTx0 : String := "lights fails cord price hands left right snuff renew burn minute twos out if then else end or and not time rest long lit side "
def zS1 : Nat := 163
def zTx1 : String := "<>=#+-*/();"
def slen (n : Nat) : Nat := zLen.getD n 0
def sbyt (n j : Nat) : Int32 := (zByt.getD n []).getD j 0
