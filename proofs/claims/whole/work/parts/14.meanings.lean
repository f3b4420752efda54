/-! the meanings: a name for each entry and each place where roads meet -/
def jx_w1 (m : jx_Mem) (a k : Nat) (v : Int32) : jx_Mem := (jx_up m.1 a k v, m.2)
def jx_w2 (m : jx_Mem) (a k : Nat) (v : Int64) : jx_Mem := (m.1, jx_up m.2 a k v)
def jx_wc (m : jx_Mem) (s sp d dp n : Nat) : jx_Mem := (jx_cpy m.1 s sp d dp n, m.2)
def jx_ushr (x y : Int32) : Int32 := (x.toUInt32 >>> (y.toUInt32 &&& Int32.toUInt32 31)).toInt32
def jx_lushr (x : Int64) (y : Int32) : Int64 := (x.toUInt64 >>> (y.toInt64.toUInt64 &&& Int64.toUInt64 63)).toInt64
def jx_chr (q : Nat) (x : Int32) : Int32 := (match jx_str[q]? with | some t => t | none => []).getD x.toNatClampNeg 0
theorem jx_h0 : jx_cd 0 = jx_C0 := rfl
theorem jx_w0_ : jx_wf jx_C0 = true := by decide +kernel
theorem jx_h1 : jx_cd 1 = jx_C1 := rfl
theorem jx_w1_ : jx_wf jx_C1 = true := by decide +kernel
theorem jx_h2 : jx_cd 2 = jx_C2 := rfl
theorem jx_w2_ : jx_wf jx_C2 = true := by decide +kernel
theorem jx_h3 : jx_cd 3 = jx_C3 := rfl
theorem jx_w3_ : jx_wf jx_C3 = true := by decide +kernel
theorem jx_h4 : jx_cd 4 = jx_C4 := rfl
theorem jx_w4_ : jx_wf jx_C4 = true := by decide +kernel
theorem jx_h5 : jx_cd 5 = jx_C5 := rfl
theorem jx_w5_ : jx_wf jx_C5 = true := by decide +kernel
theorem jx_h6 : jx_cd 6 = jx_C6 := rfl
theorem jx_w6_ : jx_wf jx_C6 = true := by decide +kernel
theorem jx_h7 : jx_cd 7 = jx_C7 := rfl
theorem jx_w7_ : jx_wf jx_C7 = true := by decide +kernel
theorem jx_h8 : jx_cd 8 = jx_C8 := rfl
theorem jx_w8_ : jx_wf jx_C8 = true := by decide +kernel
theorem jx_h9 : jx_cd 9 = jx_C9 := rfl
theorem jx_w9_ : jx_wf jx_C9 = true := by decide +kernel
theorem jx_h10 : jx_cd 10 = jx_C10 := rfl
theorem jx_w10_ : jx_wf jx_C10 = true := by decide +kernel
theorem jx_h11 : jx_cd 11 = jx_C11 := rfl
theorem jx_w11_ : jx_wf jx_C11 = true := by decide +kernel
theorem jx_h12 : jx_cd 12 = jx_C12 := rfl
theorem jx_w12_ : jx_wf jx_C12 = true := by decide +kernel
theorem jx_h13 : jx_cd 13 = jx_C13 := rfl
theorem jx_w13_ : jx_wf jx_C13 = true := by decide +kernel
theorem jx_h14 : jx_cd 14 = jx_C14 := rfl
theorem jx_w14_ : jx_wf jx_C14 = true := by decide +kernel
theorem jx_h15 : jx_cd 15 = jx_C15 := rfl
theorem jx_w15_ : jx_wf jx_C15 = true := by decide +kernel
theorem jx_h16 : jx_cd 16 = jx_C16 := rfl
theorem jx_w16_ : jx_wf jx_C16 = true := by decide +kernel
theorem jx_h17 : jx_cd 17 = jx_C17 := rfl
theorem jx_w17_ : jx_wf jx_C17 = true := by decide +kernel
theorem jx_h18 : jx_cd 18 = jx_C18 := rfl
theorem jx_w18_ : jx_wf jx_C18 = true := by decide +kernel
theorem jx_h19 : jx_cd 19 = jx_C19 := rfl
theorem jx_w19_ : jx_wf jx_C19 = true := by decide +kernel
theorem jx_h20 : jx_cd 20 = jx_C20 := rfl
theorem jx_w20_ : jx_wf jx_C20 = true := by decide +kernel
theorem jx_h21 : jx_cd 21 = jx_C21 := rfl
theorem jx_w21_ : jx_wf jx_C21 = true := by decide +kernel
theorem jx_h22 : jx_cd 22 = jx_C22 := rfl
theorem jx_w22_ : jx_wf jx_C22 = true := by decide +kernel
theorem jx_h23 : jx_cd 23 = jx_C23 := rfl
theorem jx_w23_ : jx_wf jx_C23 = true := by decide +kernel
theorem jx_h24 : jx_cd 24 = jx_C24 := rfl
theorem jx_w24_ : jx_wf jx_C24 = true := by decide +kernel
theorem jx_h25 : jx_cd 25 = jx_C25 := rfl
theorem jx_w25_ : jx_wf jx_C25 = true := by decide +kernel
theorem jx_h26 : jx_cd 26 = jx_C26 := rfl
theorem jx_w26_ : jx_wf jx_C26 = true := by decide +kernel
theorem jx_h27 : jx_cd 27 = jx_C27 := rfl
theorem jx_w27_ : jx_wf jx_C27 = true := by decide +kernel
theorem jx_h28 : jx_cd 28 = jx_C28 := rfl
theorem jx_w28_ : jx_wf jx_C28 = true := by decide +kernel
theorem jx_h29 : jx_cd 29 = jx_C29 := rfl
theorem jx_w29_ : jx_wf jx_C29 = true := by decide +kernel
theorem jx_h30 : jx_cd 30 = jx_C30 := rfl
theorem jx_w30_ : jx_wf jx_C30 = true := by decide +kernel
theorem jx_h31 : jx_cd 31 = jx_C31 := rfl
theorem jx_w31_ : jx_wf jx_C31 = true := by decide +kernel
theorem jx_h32 : jx_cd 32 = jx_C32 := rfl
theorem jx_w32_ : jx_wf jx_C32 = true := by decide +kernel
theorem jx_h33 : jx_cd 33 = jx_C33 := rfl
theorem jx_w33_ : jx_wf jx_C33 = true := by decide +kernel
theorem jx_h34 : jx_cd 34 = jx_C34 := rfl
theorem jx_w34_ : jx_wf jx_C34 = true := by decide +kernel
theorem jx_h35 : jx_cd 35 = jx_C35 := rfl
theorem jx_w35_ : jx_wf jx_C35 = true := by decide +kernel
theorem jx_h36 : jx_cd 36 = jx_C36 := rfl
theorem jx_w36_ : jx_wf jx_C36 = true := by decide +kernel
theorem jx_h37 : jx_cd 37 = jx_C37 := rfl
theorem jx_w37_ : jx_wf jx_C37 = true := by decide +kernel
theorem jx_h38 : jx_cd 38 = jx_C38 := rfl
theorem jx_w38_ : jx_wf jx_C38 = true := by decide +kernel
theorem jx_h39 : jx_cd 39 = jx_C39 := rfl
theorem jx_w39_ : jx_wf jx_C39 = true := by decide +kernel
theorem jx_h40 : jx_cd 40 = jx_C40 := rfl
theorem jx_w40_ : jx_wf jx_C40 = true := by decide +kernel
theorem jx_h41 : jx_cd 41 = jx_C41 := rfl
theorem jx_w41_ : jx_wf jx_C41 = true := by decide +kernel
theorem jx_h42 : jx_cd 42 = jx_C42 := rfl
theorem jx_w42_ : jx_wf jx_C42 = true := by decide +kernel
theorem jx_h43 : jx_cd 43 = jx_C43 := rfl
theorem jx_w43_ : jx_wf jx_C43 = true := by decide +kernel
theorem jx_h44 : jx_cd 44 = jx_C44 := rfl
theorem jx_w44_ : jx_wf jx_C44 = true := by decide +kernel
theorem jx_h45 : jx_cd 45 = jx_C45 := rfl
theorem jx_w45_ : jx_wf jx_C45 = true := by decide +kernel
theorem jx_h46 : jx_cd 46 = jx_C46 := rfl
theorem jx_w46_ : jx_wf jx_C46 = true := by decide +kernel
theorem jx_h47 : jx_cd 47 = jx_C47 := rfl
theorem jx_w47_ : jx_wf jx_C47 = true := by decide +kernel
theorem jx_h48 : jx_cd 48 = jx_C48 := rfl
theorem jx_w48_ : jx_wf jx_C48 = true := by decide +kernel
theorem jx_h49 : jx_cd 49 = jx_C49 := rfl
theorem jx_w49_ : jx_wf jx_C49 = true := by decide +kernel
theorem jx_h50 : jx_cd 50 = jx_C50 := rfl
theorem jx_w50_ : jx_wf jx_C50 = true := by decide +kernel
theorem jx_h51 : jx_cd 51 = jx_C51 := rfl
theorem jx_w51_ : jx_wf jx_C51 = true := by decide +kernel
theorem jx_h52 : jx_cd 52 = jx_C52 := rfl
theorem jx_w52_ : jx_wf jx_C52 = true := by decide +kernel
theorem jx_h53 : jx_cd 53 = jx_C53 := rfl
theorem jx_w53_ : jx_wf jx_C53 = true := by decide +kernel
theorem jx_h54 : jx_cd 54 = jx_C54 := rfl
theorem jx_w54_ : jx_wf jx_C54 = true := by decide +kernel
theorem jx_h55 : jx_cd 55 = jx_C55 := rfl
theorem jx_w55_ : jx_wf jx_C55 = true := by decide +kernel
theorem jx_h56 : jx_cd 56 = jx_C56 := rfl
theorem jx_w56_ : jx_wf jx_C56 = true := by decide +kernel
theorem jx_h57 : jx_cd 57 = jx_C57 := rfl
theorem jx_w57_ : jx_wf jx_C57 = true := by decide +kernel
theorem jx_h58 : jx_cd 58 = jx_C58 := rfl
theorem jx_w58_ : jx_wf jx_C58 = true := by decide +kernel
theorem jx_h59 : jx_cd 59 = jx_C59 := rfl
theorem jx_w59_ : jx_wf jx_C59 = true := by decide +kernel
theorem jx_h60 : jx_cd 60 = jx_C60 := rfl
theorem jx_w60_ : jx_wf jx_C60 = true := by decide +kernel
theorem jx_h61 : jx_cd 61 = jx_C61 := rfl
theorem jx_w61_ : jx_wf jx_C61 = true := by decide +kernel
theorem jx_h62 : jx_cd 62 = jx_C62 := rfl
theorem jx_w62_ : jx_wf jx_C62 = true := by decide +kernel
theorem jx_h63 : jx_cd 63 = jx_C63 := rfl
theorem jx_w63_ : jx_wf jx_C63 = true := by decide +kernel
theorem jx_h64 : jx_cd 64 = jx_C64 := rfl
theorem jx_w64_ : jx_wf jx_C64 = true := by decide +kernel
theorem jx_h65 : jx_cd 65 = jx_C65 := rfl
theorem jx_w65_ : jx_wf jx_C65 = true := by decide +kernel
theorem jx_h66 : jx_cd 66 = jx_C66 := rfl
theorem jx_w66_ : jx_wf jx_C66 = true := by decide +kernel
theorem jx_h67 : jx_cd 67 = jx_C67 := rfl
theorem jx_w67_ : jx_wf jx_C67 = true := by decide +kernel
theorem jx_h68 : jx_cd 68 = jx_C68 := rfl
theorem jx_w68_ : jx_wf jx_C68 = true := by decide +kernel
theorem jx_h69 : jx_cd 69 = jx_C69 := rfl
theorem jx_w69_ : jx_wf jx_C69 = true := by decide +kernel
theorem jx_h70 : jx_cd 70 = jx_C70 := rfl
theorem jx_w70_ : jx_wf jx_C70 = true := by decide +kernel
theorem jx_h71 : jx_cd 71 = jx_C71 := rfl
theorem jx_w71_ : jx_wf jx_C71 = true := by decide +kernel
theorem jx_h72 : jx_cd 72 = jx_C72 := rfl
theorem jx_w72_ : jx_wf jx_C72 = true := by decide +kernel
theorem jx_h73 : jx_cd 73 = jx_C73 := rfl
theorem jx_w73_ : jx_wf jx_C73 = true := by decide +kernel
theorem jx_h74 : jx_cd 74 = jx_C74 := rfl
theorem jx_w74_ : jx_wf jx_C74 = true := by decide +kernel
theorem jx_h75 : jx_cd 75 = jx_C75 := rfl
theorem jx_w75_ : jx_wf jx_C75 = true := by decide +kernel
theorem jx_h76 : jx_cd 76 = jx_C76 := rfl
theorem jx_w76_ : jx_wf jx_C76 = true := by decide +kernel
theorem jx_h77 : jx_cd 77 = jx_C77 := rfl
theorem jx_w77_ : jx_wf jx_C77 = true := by decide +kernel
theorem jx_h78 : jx_cd 78 = jx_C78 := rfl
theorem jx_w78_ : jx_wf jx_C78 = true := by decide +kernel
theorem jx_h79 : jx_cd 79 = jx_C79 := rfl
theorem jx_w79_ : jx_wf jx_C79 = true := by decide +kernel
theorem jx_h80 : jx_cd 80 = jx_C80 := rfl
theorem jx_w80_ : jx_wf jx_C80 = true := by decide +kernel
theorem jx_h81 : jx_cd 81 = jx_C81 := rfl
theorem jx_w81_ : jx_wf jx_C81 = true := by decide +kernel
theorem jx_h82 : jx_cd 82 = jx_C82 := rfl
theorem jx_w82_ : jx_wf jx_C82 = true := by decide +kernel
theorem jx_h83 : jx_cd 83 = jx_C83 := rfl
theorem jx_w83_ : jx_wf jx_C83 = true := by decide +kernel
theorem jx_h84 : jx_cd 84 = jx_C84 := rfl
theorem jx_w84_ : jx_wf jx_C84 = true := by decide +kernel
theorem jx_h85 : jx_cd 85 = jx_C85 := rfl
theorem jx_w85_ : jx_wf jx_C85 = true := by decide +kernel
theorem jx_h86 : jx_cd 86 = jx_C86 := rfl
theorem jx_w86_ : jx_wf jx_C86 = true := by decide +kernel
theorem jx_h87 : jx_cd 87 = jx_C87 := rfl
theorem jx_w87_ : jx_wf jx_C87 = true := by decide +kernel
theorem jx_h88 : jx_cd 88 = jx_C88 := rfl
theorem jx_w88_ : jx_wf jx_C88 = true := by decide +kernel
theorem jx_h89 : jx_cd 89 = jx_C89 := rfl
theorem jx_w89_ : jx_wf jx_C89 = true := by decide +kernel
theorem jx_h90 : jx_cd 90 = jx_C90 := rfl
theorem jx_w90_ : jx_wf jx_C90 = true := by decide +kernel
theorem jx_h91 : jx_cd 91 = jx_C91 := rfl
theorem jx_w91_ : jx_wf jx_C91 = true := by decide +kernel
theorem jx_h92 : jx_cd 92 = jx_C92 := rfl
theorem jx_w92_ : jx_wf jx_C92 = true := by decide +kernel
theorem jx_h93 : jx_cd 93 = jx_C93 := rfl
theorem jx_w93_ : jx_wf jx_C93 = true := by decide +kernel
theorem jx_h94 : jx_cd 94 = jx_C94 := rfl
theorem jx_w94_ : jx_wf jx_C94 = true := by decide +kernel
theorem jx_h95 : jx_cd 95 = jx_C95 := rfl
theorem jx_w95_ : jx_wf jx_C95 = true := by decide +kernel
theorem jx_h96 : jx_cd 96 = jx_C96 := rfl
theorem jx_w96_ : jx_wf jx_C96 = true := by decide +kernel
theorem jx_h97 : jx_cd 97 = jx_C97 := rfl
theorem jx_w97_ : jx_wf jx_C97 = true := by decide +kernel
theorem jx_h98 : jx_cd 98 = jx_C98 := rfl
theorem jx_w98_ : jx_wf jx_C98 = true := by decide +kernel
theorem jx_h99 : jx_cd 99 = jx_C99 := rfl
theorem jx_w99_ : jx_wf jx_C99 = true := by decide +kernel
theorem jx_h100 : jx_cd 100 = jx_C100 := rfl
theorem jx_w100_ : jx_wf jx_C100 = true := by decide +kernel
theorem jx_h101 : jx_cd 101 = jx_C101 := rfl
theorem jx_w101_ : jx_wf jx_C101 = true := by decide +kernel
theorem jx_h102 : jx_cd 102 = jx_C102 := rfl
theorem jx_w102_ : jx_wf jx_C102 = true := by decide +kernel
theorem jx_h103 : jx_cd 103 = jx_C103 := rfl
theorem jx_w103_ : jx_wf jx_C103 = true := by decide +kernel
theorem jx_h104 : jx_cd 104 = jx_C104 := rfl
theorem jx_w104_ : jx_wf jx_C104 = true := by decide +kernel
theorem jx_h105 : jx_cd 105 = jx_C105 := rfl
theorem jx_w105_ : jx_wf jx_C105 = true := by decide +kernel
theorem jx_h106 : jx_cd 106 = jx_C106 := rfl
theorem jx_w106_ : jx_wf jx_C106 = true := by decide +kernel
theorem jx_h107 : jx_cd 107 = jx_C107 := rfl
theorem jx_w107_ : jx_wf jx_C107 = true := by decide +kernel
theorem jx_h108 : jx_cd 108 = jx_C108 := rfl
theorem jx_w108_ : jx_wf jx_C108 = true := by decide +kernel
theorem jx_h109 : jx_cd 109 = jx_C109 := rfl
theorem jx_w109_ : jx_wf jx_C109 = true := by decide +kernel
theorem jx_h110 : jx_cd 110 = jx_C110 := rfl
theorem jx_w110_ : jx_wf jx_C110 = true := by decide +kernel
theorem jx_h111 : jx_cd 111 = jx_C111 := rfl
theorem jx_w111_ : jx_wf jx_C111 = true := by decide +kernel
theorem jx_h112 : jx_cd 112 = jx_C112 := rfl
theorem jx_w112_ : jx_wf jx_C112 = true := by decide +kernel
theorem jx_h113 : jx_cd 113 = jx_C113 := rfl
theorem jx_w113_ : jx_wf jx_C113 = true := by decide +kernel
theorem jx_h114 : jx_cd 114 = jx_C114 := rfl
theorem jx_w114_ : jx_wf jx_C114 = true := by decide +kernel
theorem jx_h115 : jx_cd 115 = jx_C115 := rfl
theorem jx_w115_ : jx_wf jx_C115 = true := by decide +kernel
theorem jx_h116 : jx_cd 116 = jx_C116 := rfl
theorem jx_w116_ : jx_wf jx_C116 = true := by decide +kernel
theorem jx_h117 : jx_cd 117 = jx_C117 := rfl
theorem jx_w117_ : jx_wf jx_C117 = true := by decide +kernel
theorem jx_h118 : jx_cd 118 = jx_C118 := rfl
theorem jx_w118_ : jx_wf jx_C118 = true := by decide +kernel
theorem jx_h119 : jx_cd 119 = jx_C119 := rfl
theorem jx_w119_ : jx_wf jx_C119 = true := by decide +kernel
theorem jx_h120 : jx_cd 120 = jx_C120 := rfl
theorem jx_w120_ : jx_wf jx_C120 = true := by decide +kernel
theorem jx_h121 : jx_cd 121 = jx_C121 := rfl
theorem jx_w121_ : jx_wf jx_C121 = true := by decide +kernel
theorem jx_h122 : jx_cd 122 = jx_C122 := rfl
theorem jx_w122_ : jx_wf jx_C122 = true := by decide +kernel
theorem jx_h123 : jx_cd 123 = jx_C123 := rfl
theorem jx_w123_ : jx_wf jx_C123 = true := by decide +kernel
theorem jx_h124 : jx_cd 124 = jx_C124 := rfl
theorem jx_w124_ : jx_wf jx_C124 = true := by decide +kernel
theorem jx_h125 : jx_cd 125 = jx_C125 := rfl
theorem jx_w125_ : jx_wf jx_C125 = true := by decide +kernel
theorem jx_h126 : jx_cd 126 = jx_C126 := rfl
theorem jx_w126_ : jx_wf jx_C126 = true := by decide +kernel
theorem jx_h127 : jx_cd 127 = jx_C127 := rfl
theorem jx_w127_ : jx_wf jx_C127 = true := by decide +kernel
theorem jx_h128 : jx_cd 128 = jx_C128 := rfl
theorem jx_w128_ : jx_wf jx_C128 = true := by decide +kernel
theorem jx_h129 : jx_cd 129 = jx_C129 := rfl
theorem jx_w129_ : jx_wf jx_C129 = true := by decide +kernel
theorem jx_h130 : jx_cd 130 = jx_C130 := rfl
theorem jx_w130_ : jx_wf jx_C130 = true := by decide +kernel
theorem jx_h131 : jx_cd 131 = jx_C131 := rfl
theorem jx_w131_ : jx_wf jx_C131 = true := by decide +kernel
theorem jx_h132 : jx_cd 132 = jx_C132 := rfl
theorem jx_w132_ : jx_wf jx_C132 = true := by decide +kernel
theorem jx_h133 : jx_cd 133 = jx_C133 := rfl
theorem jx_w133_ : jx_wf jx_C133 = true := by decide +kernel
theorem jx_h134 : jx_cd 134 = jx_C134 := rfl
theorem jx_w134_ : jx_wf jx_C134 = true := by decide +kernel
theorem jx_h135 : jx_cd 135 = jx_C135 := rfl
theorem jx_w135_ : jx_wf jx_C135 = true := by decide +kernel
theorem jx_h136 : jx_cd 136 = jx_C136 := rfl
theorem jx_w136_ : jx_wf jx_C136 = true := by decide +kernel
theorem jx_h137 : jx_cd 137 = jx_C137 := rfl
theorem jx_w137_ : jx_wf jx_C137 = true := by decide +kernel
theorem jx_h138 : jx_cd 138 = jx_C138 := rfl
theorem jx_w138_ : jx_wf jx_C138 = true := by decide +kernel
theorem jx_h139 : jx_cd 139 = jx_C139 := rfl
theorem jx_w139_ : jx_wf jx_C139 = true := by decide +kernel
theorem jx_h140 : jx_cd 140 = jx_C140 := rfl
theorem jx_w140_ : jx_wf jx_C140 = true := by decide +kernel
theorem jx_h141 : jx_cd 141 = jx_C141 := rfl
theorem jx_w141_ : jx_wf jx_C141 = true := by decide +kernel
theorem jx_h142 : jx_cd 142 = jx_C142 := rfl
theorem jx_w142_ : jx_wf jx_C142 = true := by decide +kernel
theorem jx_h143 : jx_cd 143 = jx_C143 := rfl
theorem jx_w143_ : jx_wf jx_C143 = true := by decide +kernel
theorem jx_h144 : jx_cd 144 = jx_C144 := rfl
theorem jx_w144_ : jx_wf jx_C144 = true := by decide +kernel
theorem jx_h145 : jx_cd 145 = jx_C145 := rfl
theorem jx_w145_ : jx_wf jx_C145 = true := by decide +kernel
theorem jx_h146 : jx_cd 146 = jx_C146 := rfl
theorem jx_w146_ : jx_wf jx_C146 = true := by decide +kernel
theorem jx_h147 : jx_cd 147 = jx_C147 := rfl
theorem jx_w147_ : jx_wf jx_C147 = true := by decide +kernel
theorem jx_h148 : jx_cd 148 = jx_C148 := rfl
theorem jx_w148_ : jx_wf jx_C148 = true := by decide +kernel
theorem jx_h149 : jx_cd 149 = jx_C149 := rfl
theorem jx_w149_ : jx_wf jx_C149 = true := by decide +kernel
theorem jx_h150 : jx_cd 150 = jx_C150 := rfl
theorem jx_w150_ : jx_wf jx_C150 = true := by decide +kernel
theorem jx_h151 : jx_cd 151 = jx_C151 := rfl
theorem jx_w151_ : jx_wf jx_C151 = true := by decide +kernel
theorem jx_h152 : jx_cd 152 = jx_C152 := rfl
theorem jx_w152_ : jx_wf jx_C152 = true := by decide +kernel
theorem jx_h153 : jx_cd 153 = jx_C153 := rfl
theorem jx_w153_ : jx_wf jx_C153 = true := by decide +kernel
theorem jx_h154 : jx_cd 154 = jx_C154 := rfl
theorem jx_w154_ : jx_wf jx_C154 = true := by decide +kernel
theorem jx_h155 : jx_cd 155 = jx_C155 := rfl
theorem jx_w155_ : jx_wf jx_C155 = true := by decide +kernel
theorem jx_h156 : jx_cd 156 = jx_C156 := rfl
theorem jx_w156_ : jx_wf jx_C156 = true := by decide +kernel
theorem jx_h157 : jx_cd 157 = jx_C157 := rfl
theorem jx_w157_ : jx_wf jx_C157 = true := by decide +kernel
theorem jx_h158 : jx_cd 158 = jx_C158 := rfl
theorem jx_w158_ : jx_wf jx_C158 = true := by decide +kernel
theorem jx_h159 : jx_cd 159 = jx_C159 := rfl
theorem jx_w159_ : jx_wf jx_C159 = true := by decide +kernel
theorem jx_h160 : jx_cd 160 = jx_C160 := rfl
theorem jx_w160_ : jx_wf jx_C160 = true := by decide +kernel
theorem jx_h161 : jx_cd 161 = jx_C161 := rfl
theorem jx_w161_ : jx_wf jx_C161 = true := by decide +kernel
theorem jx_h162 : jx_cd 162 = jx_C162 := rfl
theorem jx_w162_ : jx_wf jx_C162 = true := by decide +kernel
theorem jx_h163 : jx_cd 163 = jx_C163 := rfl
theorem jx_w163_ : jx_wf jx_C163 = true := by decide +kernel
theorem jx_h164 : jx_cd 164 = jx_C164 := rfl
theorem jx_w164_ : jx_wf jx_C164 = true := by decide +kernel
theorem jx_h165 : jx_cd 165 = jx_C165 := rfl
theorem jx_w165_ : jx_wf jx_C165 = true := by decide +kernel
theorem jx_h166 : jx_cd 166 = jx_C166 := rfl
theorem jx_w166_ : jx_wf jx_C166 = true := by decide +kernel
theorem jx_h167 : jx_cd 167 = jx_C167 := rfl
theorem jx_w167_ : jx_wf jx_C167 = true := by decide +kernel
theorem jx_h168 : jx_cd 168 = jx_C168 := rfl
theorem jx_w168_ : jx_wf jx_C168 = true := by decide +kernel
theorem jx_h169 : jx_cd 169 = jx_C169 := rfl
theorem jx_w169_ : jx_wf jx_C169 = true := by decide +kernel
theorem jx_h170 : jx_cd 170 = jx_C170 := rfl
theorem jx_w170_ : jx_wf jx_C170 = true := by decide +kernel
theorem jx_h171 : jx_cd 171 = jx_C171 := rfl
theorem jx_w171_ : jx_wf jx_C171 = true := by decide +kernel
theorem jx_h172 : jx_cd 172 = jx_C172 := rfl
theorem jx_w172_ : jx_wf jx_C172 = true := by decide +kernel
theorem jx_h173 : jx_cd 173 = jx_C173 := rfl
theorem jx_w173_ : jx_wf jx_C173 = true := by decide +kernel
theorem jx_h174 : jx_cd 174 = jx_C174 := rfl
theorem jx_w174_ : jx_wf jx_C174 = true := by decide +kernel
theorem jx_h175 : jx_cd 175 = jx_C175 := rfl
theorem jx_w175_ : jx_wf jx_C175 = true := by decide +kernel
theorem jx_h176 : jx_cd 176 = jx_C176 := rfl
theorem jx_w176_ : jx_wf jx_C176 = true := by decide +kernel
theorem jx_h177 : jx_cd 177 = jx_C177 := rfl
theorem jx_w177_ : jx_wf jx_C177 = true := by decide +kernel
theorem jx_h178 : jx_cd 178 = jx_C178 := rfl
theorem jx_w178_ : jx_wf jx_C178 = true := by decide +kernel
theorem jx_h179 : jx_cd 179 = jx_C179 := rfl
theorem jx_w179_ : jx_wf jx_C179 = true := by decide +kernel
theorem jx_h180 : jx_cd 180 = jx_C180 := rfl
theorem jx_w180_ : jx_wf jx_C180 = true := by decide +kernel
theorem jx_h181 : jx_cd 181 = jx_C181 := rfl
theorem jx_w181_ : jx_wf jx_C181 = true := by decide +kernel
theorem jx_h182 : jx_cd 182 = jx_C182 := rfl
theorem jx_w182_ : jx_wf jx_C182 = true := by decide +kernel
theorem jx_h183 : jx_cd 183 = jx_C183 := rfl
theorem jx_w183_ : jx_wf jx_C183 = true := by decide +kernel
theorem jx_h184 : jx_cd 184 = jx_C184 := rfl
theorem jx_w184_ : jx_wf jx_C184 = true := by decide +kernel
theorem jx_h185 : jx_cd 185 = jx_C185 := rfl
theorem jx_w185_ : jx_wf jx_C185 = true := by decide +kernel
theorem jx_h186 : jx_cd 186 = jx_C186 := rfl
theorem jx_w186_ : jx_wf jx_C186 = true := by decide +kernel
theorem jx_h187 : jx_cd 187 = jx_C187 := rfl
theorem jx_w187_ : jx_wf jx_C187 = true := by decide +kernel
theorem jx_h188 : jx_cd 188 = jx_C188 := rfl
theorem jx_w188_ : jx_wf jx_C188 = true := by decide +kernel
theorem jx_h189 : jx_cd 189 = jx_C189 := rfl
theorem jx_w189_ : jx_wf jx_C189 = true := by decide +kernel
theorem jx_h190 : jx_cd 190 = jx_C190 := rfl
theorem jx_w190_ : jx_wf jx_C190 = true := by decide +kernel
theorem jx_h191 : jx_cd 191 = jx_C191 := rfl
theorem jx_w191_ : jx_wf jx_C191 = true := by decide +kernel
theorem jx_h192 : jx_cd 192 = jx_C192 := rfl
theorem jx_w192_ : jx_wf jx_C192 = true := by decide +kernel
theorem jx_h193 : jx_cd 193 = jx_C193 := rfl
theorem jx_w193_ : jx_wf jx_C193 = true := by decide +kernel
theorem jx_h194 : jx_cd 194 = jx_C194 := rfl
theorem jx_w194_ : jx_wf jx_C194 = true := by decide +kernel
theorem jx_h195 : jx_cd 195 = jx_C195 := rfl
theorem jx_w195_ : jx_wf jx_C195 = true := by decide +kernel
theorem jx_h196 : jx_cd 196 = jx_C196 := rfl
theorem jx_w196_ : jx_wf jx_C196 = true := by decide +kernel
theorem jx_h197 : jx_cd 197 = jx_C197 := rfl
theorem jx_w197_ : jx_wf jx_C197 = true := by decide +kernel
theorem jx_h198 : jx_cd 198 = jx_C198 := rfl
theorem jx_w198_ : jx_wf jx_C198 = true := by decide +kernel
theorem jx_h199 : jx_cd 199 = jx_C199 := rfl
theorem jx_w199_ : jx_wf jx_C199 = true := by decide +kernel
theorem jx_h200 : jx_cd 200 = jx_C200 := rfl
theorem jx_w200_ : jx_wf jx_C200 = true := by decide +kernel
theorem jx_h201 : jx_cd 201 = jx_C201 := rfl
theorem jx_w201_ : jx_wf jx_C201 = true := by decide +kernel
theorem jx_h202 : jx_cd 202 = jx_C202 := rfl
theorem jx_w202_ : jx_wf jx_C202 = true := by decide +kernel
theorem jx_h203 : jx_cd 203 = jx_C203 := rfl
theorem jx_w203_ : jx_wf jx_C203 = true := by decide +kernel
theorem jx_h204 : jx_cd 204 = jx_C204 := rfl
theorem jx_w204_ : jx_wf jx_C204 = true := by decide +kernel
theorem jx_h205 : jx_cd 205 = jx_C205 := rfl
theorem jx_w205_ : jx_wf jx_C205 = true := by decide +kernel
theorem jx_h206 : jx_cd 206 = jx_C206 := rfl
theorem jx_w206_ : jx_wf jx_C206 = true := by decide +kernel
theorem jx_h207 : jx_cd 207 = jx_C207 := rfl
theorem jx_w207_ : jx_wf jx_C207 = true := by decide +kernel
theorem jx_h208 : jx_cd 208 = jx_C208 := rfl
theorem jx_w208_ : jx_wf jx_C208 = true := by decide +kernel
theorem jx_h209 : jx_cd 209 = jx_C209 := rfl
theorem jx_w209_ : jx_wf jx_C209 = true := by decide +kernel
theorem jx_h210 : jx_cd 210 = jx_C210 := rfl
theorem jx_w210_ : jx_wf jx_C210 = true := by decide +kernel
theorem jx_h211 : jx_cd 211 = jx_C211 := rfl
theorem jx_w211_ : jx_wf jx_C211 = true := by decide +kernel
theorem jx_h212 : jx_cd 212 = jx_C212 := rfl
theorem jx_w212_ : jx_wf jx_C212 = true := by decide +kernel
theorem jx_h213 : jx_cd 213 = jx_C213 := rfl
theorem jx_w213_ : jx_wf jx_C213 = true := by decide +kernel
theorem jx_h214 : jx_cd 214 = jx_C214 := rfl
theorem jx_w214_ : jx_wf jx_C214 = true := by decide +kernel
theorem jx_h215 : jx_cd 215 = jx_C215 := rfl
theorem jx_w215_ : jx_wf jx_C215 = true := by decide +kernel
theorem jx_h216 : jx_cd 216 = jx_C216 := rfl
theorem jx_w216_ : jx_wf jx_C216 = true := by decide +kernel
theorem jx_h217 : jx_cd 217 = jx_C217 := rfl
theorem jx_w217_ : jx_wf jx_C217 = true := by decide +kernel
theorem jx_h218 : jx_cd 218 = jx_C218 := rfl
theorem jx_w218_ : jx_wf jx_C218 = true := by decide +kernel
theorem jx_h219 : jx_cd 219 = jx_C219 := rfl
theorem jx_w219_ : jx_wf jx_C219 = true := by decide +kernel
theorem jx_h220 : jx_cd 220 = jx_C220 := rfl
theorem jx_w220_ : jx_wf jx_C220 = true := by decide +kernel
theorem jx_h221 : jx_cd 221 = jx_C221 := rfl
theorem jx_w221_ : jx_wf jx_C221 = true := by decide +kernel
theorem jx_h222 : jx_cd 222 = jx_C222 := rfl
theorem jx_w222_ : jx_wf jx_C222 = true := by decide +kernel
theorem jx_h223 : jx_cd 223 = jx_C223 := rfl
theorem jx_w223_ : jx_wf jx_C223 = true := by decide +kernel
theorem jx_h224 : jx_cd 224 = jx_C224 := rfl
theorem jx_w224_ : jx_wf jx_C224 = true := by decide +kernel
theorem jx_h225 : jx_cd 225 = jx_C225 := rfl
theorem jx_w225_ : jx_wf jx_C225 = true := by decide +kernel
theorem jx_h226 : jx_cd 226 = jx_C226 := rfl
theorem jx_w226_ : jx_wf jx_C226 = true := by decide +kernel
theorem jx_h227 : jx_cd 227 = jx_C227 := rfl
theorem jx_w227_ : jx_wf jx_C227 = true := by decide +kernel
theorem jx_h228 : jx_cd 228 = jx_C228 := rfl
theorem jx_w228_ : jx_wf jx_C228 = true := by decide +kernel
theorem jx_h229 : jx_cd 229 = jx_C229 := rfl
theorem jx_w229_ : jx_wf jx_C229 = true := by decide +kernel
theorem jx_h230 : jx_cd 230 = jx_C230 := rfl
theorem jx_w230_ : jx_wf jx_C230 = true := by decide +kernel
theorem jx_h231 : jx_cd 231 = jx_C231 := rfl
theorem jx_w231_ : jx_wf jx_C231 = true := by decide +kernel
theorem jx_h232 : jx_cd 232 = jx_C232 := rfl
theorem jx_w232_ : jx_wf jx_C232 = true := by decide +kernel
theorem jx_h233 : jx_cd 233 = jx_C233 := rfl
theorem jx_w233_ : jx_wf jx_C233 = true := by decide +kernel
theorem jx_h234 : jx_cd 234 = jx_C234 := rfl
theorem jx_w234_ : jx_wf jx_C234 = true := by decide +kernel
theorem jx_h235 : jx_cd 235 = jx_C235 := rfl
theorem jx_w235_ : jx_wf jx_C235 = true := by decide +kernel
theorem jx_h236 : jx_cd 236 = jx_C236 := rfl
theorem jx_w236_ : jx_wf jx_C236 = true := by decide +kernel
theorem jx_h237 : jx_cd 237 = jx_C237 := rfl
theorem jx_w237_ : jx_wf jx_C237 = true := by decide +kernel
theorem jx_h238 : jx_cd 238 = jx_C238 := rfl
theorem jx_w238_ : jx_wf jx_C238 = true := by decide +kernel
theorem jx_h239 : jx_cd 239 = jx_C239 := rfl
theorem jx_w239_ : jx_wf jx_C239 = true := by decide +kernel
theorem jx_h240 : jx_cd 240 = jx_C240 := rfl
theorem jx_w240_ : jx_wf jx_C240 = true := by decide +kernel
theorem jx_h241 : jx_cd 241 = jx_C241 := rfl
theorem jx_w241_ : jx_wf jx_C241 = true := by decide +kernel
theorem jx_h242 : jx_cd 242 = jx_C242 := rfl
theorem jx_w242_ : jx_wf jx_C242 = true := by decide +kernel
theorem jx_h243 : jx_cd 243 = jx_C243 := rfl
theorem jx_w243_ : jx_wf jx_C243 = true := by decide +kernel
theorem jx_h244 : jx_cd 244 = jx_C244 := rfl
theorem jx_w244_ : jx_wf jx_C244 = true := by decide +kernel
theorem jx_h245 : jx_cd 245 = jx_C245 := rfl
theorem jx_w245_ : jx_wf jx_C245 = true := by decide +kernel
theorem jx_h246 : jx_cd 246 = jx_C246 := rfl
theorem jx_w246_ : jx_wf jx_C246 = true := by decide +kernel
theorem jx_h247 : jx_cd 247 = jx_C247 := rfl
theorem jx_w247_ : jx_wf jx_C247 = true := by decide +kernel
theorem jx_h248 : jx_cd 248 = jx_C248 := rfl
theorem jx_w248_ : jx_wf jx_C248 = true := by decide +kernel
theorem jx_h249 : jx_cd 249 = jx_C249 := rfl
theorem jx_w249_ : jx_wf jx_C249 = true := by decide +kernel
theorem jx_h250 : jx_cd 250 = jx_C250 := rfl
theorem jx_w250_ : jx_wf jx_C250 = true := by decide +kernel
theorem jx_h251 : jx_cd 251 = jx_C251 := rfl
theorem jx_w251_ : jx_wf jx_C251 = true := by decide +kernel
theorem jx_h252 : jx_cd 252 = jx_C252 := rfl
theorem jx_w252_ : jx_wf jx_C252 = true := by decide +kernel
theorem jx_h253 : jx_cd 253 = jx_C253 := rfl
theorem jx_w253_ : jx_wf jx_C253 = true := by decide +kernel
theorem jx_h254 : jx_cd 254 = jx_C254 := rfl
theorem jx_w254_ : jx_wf jx_C254 = true := by decide +kernel
theorem jx_h255 : jx_cd 255 = jx_C255 := rfl
theorem jx_w255_ : jx_wf jx_C255 = true := by decide +kernel
theorem jx_h256 : jx_cd 256 = jx_C256 := rfl
theorem jx_w256_ : jx_wf jx_C256 = true := by decide +kernel
theorem jx_h257 : jx_cd 257 = jx_C257 := rfl
theorem jx_w257_ : jx_wf jx_C257 = true := by decide +kernel
theorem jx_h258 : jx_cd 258 = jx_C258 := rfl
theorem jx_w258_ : jx_wf jx_C258 = true := by decide +kernel
theorem jx_h259 : jx_cd 259 = jx_C259 := rfl
theorem jx_w259_ : jx_wf jx_C259 = true := by decide +kernel
theorem jx_h260 : jx_cd 260 = jx_C260 := rfl
theorem jx_w260_ : jx_wf jx_C260 = true := by decide +kernel
theorem jx_h261 : jx_cd 261 = jx_C261 := rfl
theorem jx_w261_ : jx_wf jx_C261 = true := by decide +kernel
theorem jx_h262 : jx_cd 262 = jx_C262 := rfl
theorem jx_w262_ : jx_wf jx_C262 = true := by decide +kernel
theorem jx_h263 : jx_cd 263 = jx_C263 := rfl
theorem jx_w263_ : jx_wf jx_C263 = true := by decide +kernel
theorem jx_h264 : jx_cd 264 = jx_C264 := rfl
theorem jx_w264_ : jx_wf jx_C264 = true := by decide +kernel
theorem jx_h265 : jx_cd 265 = jx_C265 := rfl
theorem jx_w265_ : jx_wf jx_C265 = true := by decide +kernel
theorem jx_h266 : jx_cd 266 = jx_C266 := rfl
theorem jx_w266_ : jx_wf jx_C266 = true := by decide +kernel
theorem jx_h267 : jx_cd 267 = jx_C267 := rfl
theorem jx_w267_ : jx_wf jx_C267 = true := by decide +kernel
theorem jx_h268 : jx_cd 268 = jx_C268 := rfl
theorem jx_w268_ : jx_wf jx_C268 = true := by decide +kernel
theorem jx_h269 : jx_cd 269 = jx_C269 := rfl
theorem jx_w269_ : jx_wf jx_C269 = true := by decide +kernel
theorem jx_h270 : jx_cd 270 = jx_C270 := rfl
theorem jx_w270_ : jx_wf jx_C270 = true := by decide +kernel
theorem jx_h271 : jx_cd 271 = jx_C271 := rfl
theorem jx_w271_ : jx_wf jx_C271 = true := by decide +kernel
theorem jx_h272 : jx_cd 272 = jx_C272 := rfl
theorem jx_w272_ : jx_wf jx_C272 = true := by decide +kernel
theorem jx_h273 : jx_cd 273 = jx_C273 := rfl
theorem jx_w273_ : jx_wf jx_C273 = true := by decide +kernel
theorem jx_h274 : jx_cd 274 = jx_C274 := rfl
theorem jx_w274_ : jx_wf jx_C274 = true := by decide +kernel
theorem jx_h275 : jx_cd 275 = jx_C275 := rfl
theorem jx_w275_ : jx_wf jx_C275 = true := by decide +kernel
theorem jx_h276 : jx_cd 276 = jx_C276 := rfl
theorem jx_w276_ : jx_wf jx_C276 = true := by decide +kernel
theorem jx_h277 : jx_cd 277 = jx_C277 := rfl
theorem jx_w277_ : jx_wf jx_C277 = true := by decide +kernel
theorem jx_h278 : jx_cd 278 = jx_C278 := rfl
theorem jx_w278_ : jx_wf jx_C278 = true := by decide +kernel
theorem jx_h279 : jx_cd 279 = jx_C279 := rfl
theorem jx_w279_ : jx_wf jx_C279 = true := by decide +kernel
theorem jx_h280 : jx_cd 280 = jx_C280 := rfl
theorem jx_w280_ : jx_wf jx_C280 = true := by decide +kernel
theorem jx_h281 : jx_cd 281 = jx_C281 := rfl
theorem jx_w281_ : jx_wf jx_C281 = true := by decide +kernel
theorem jx_h282 : jx_cd 282 = jx_C282 := rfl
theorem jx_w282_ : jx_wf jx_C282 = true := by decide +kernel
theorem jx_h283 : jx_cd 283 = jx_C283 := rfl
theorem jx_w283_ : jx_wf jx_C283 = true := by decide +kernel
theorem jx_h284 : jx_cd 284 = jx_C284 := rfl
theorem jx_w284_ : jx_wf jx_C284 = true := by decide +kernel
theorem jx_h285 : jx_cd 285 = jx_C285 := rfl
theorem jx_w285_ : jx_wf jx_C285 = true := by decide +kernel
theorem jx_h286 : jx_cd 286 = jx_C286 := rfl
theorem jx_w286_ : jx_wf jx_C286 = true := by decide +kernel
theorem jx_h287 : jx_cd 287 = jx_C287 := rfl
theorem jx_w287_ : jx_wf jx_C287 = true := by decide +kernel
theorem jx_h288 : jx_cd 288 = jx_C288 := rfl
theorem jx_w288_ : jx_wf jx_C288 = true := by decide +kernel
theorem jx_h289 : jx_cd 289 = jx_C289 := rfl
theorem jx_w289_ : jx_wf jx_C289 = true := by decide +kernel
theorem jx_h290 : jx_cd 290 = jx_C290 := rfl
theorem jx_w290_ : jx_wf jx_C290 = true := by decide +kernel
theorem jx_h291 : jx_cd 291 = jx_C291 := rfl
theorem jx_w291_ : jx_wf jx_C291 = true := by decide +kernel
theorem jx_h292 : jx_cd 292 = jx_C292 := rfl
theorem jx_w292_ : jx_wf jx_C292 = true := by decide +kernel
theorem jx_h293 : jx_cd 293 = jx_C293 := rfl
theorem jx_w293_ : jx_wf jx_C293 = true := by decide +kernel
theorem jx_h294 : jx_cd 294 = jx_C294 := rfl
theorem jx_w294_ : jx_wf jx_C294 = true := by decide +kernel
theorem jx_h295 : jx_cd 295 = jx_C295 := rfl
theorem jx_w295_ : jx_wf jx_C295 = true := by decide +kernel
theorem jx_h296 : jx_cd 296 = jx_C296 := rfl
theorem jx_w296_ : jx_wf jx_C296 = true := by decide +kernel
theorem jx_h297 : jx_cd 297 = jx_C297 := rfl
theorem jx_w297_ : jx_wf jx_C297 = true := by decide +kernel
theorem jx_h298 : jx_cd 298 = jx_C298 := rfl
theorem jx_w298_ : jx_wf jx_C298 = true := by decide +kernel
theorem jx_h299 : jx_cd 299 = jx_C299 := rfl
theorem jx_w299_ : jx_wf jx_C299 = true := by decide +kernel
theorem jx_h300 : jx_cd 300 = jx_C300 := rfl
theorem jx_w300_ : jx_wf jx_C300 = true := by decide +kernel
theorem jx_h301 : jx_cd 301 = jx_C301 := rfl
theorem jx_w301_ : jx_wf jx_C301 = true := by decide +kernel
theorem jx_h302 : jx_cd 302 = jx_C302 := rfl
theorem jx_w302_ : jx_wf jx_C302 = true := by decide +kernel
theorem jx_h303 : jx_cd 303 = jx_C303 := rfl
theorem jx_w303_ : jx_wf jx_C303 = true := by decide +kernel
theorem jx_h304 : jx_cd 304 = jx_C304 := rfl
theorem jx_w304_ : jx_wf jx_C304 = true := by decide +kernel
theorem jx_h305 : jx_cd 305 = jx_C305 := rfl
theorem jx_w305_ : jx_wf jx_C305 = true := by decide +kernel
theorem jx_h306 : jx_cd 306 = jx_C306 := rfl
theorem jx_w306_ : jx_wf jx_C306 = true := by decide +kernel
theorem jx_h307 : jx_cd 307 = jx_C307 := rfl
theorem jx_w307_ : jx_wf jx_C307 = true := by decide +kernel
theorem jx_h308 : jx_cd 308 = jx_C308 := rfl
theorem jx_w308_ : jx_wf jx_C308 = true := by decide +kernel
theorem jx_h309 : jx_cd 309 = jx_C309 := rfl
theorem jx_w309_ : jx_wf jx_C309 = true := by decide +kernel
theorem jx_h310 : jx_cd 310 = jx_C310 := rfl
theorem jx_w310_ : jx_wf jx_C310 = true := by decide +kernel
theorem jx_h311 : jx_cd 311 = jx_C311 := rfl
theorem jx_w311_ : jx_wf jx_C311 = true := by decide +kernel
theorem jx_h312 : jx_cd 312 = jx_C312 := rfl
theorem jx_w312_ : jx_wf jx_C312 = true := by decide +kernel
theorem jx_h313 : jx_cd 313 = jx_C313 := rfl
theorem jx_w313_ : jx_wf jx_C313 = true := by decide +kernel
theorem jx_h314 : jx_cd 314 = jx_C314 := rfl
theorem jx_w314_ : jx_wf jx_C314 = true := by decide +kernel
theorem jx_h315 : jx_cd 315 = jx_C315 := rfl
theorem jx_w315_ : jx_wf jx_C315 = true := by decide +kernel
theorem jx_h316 : jx_cd 316 = jx_C316 := rfl
theorem jx_w316_ : jx_wf jx_C316 = true := by decide +kernel
theorem jx_h317 : jx_cd 317 = jx_C317 := rfl
theorem jx_w317_ : jx_wf jx_C317 = true := by decide +kernel
theorem jx_h318 : jx_cd 318 = jx_C318 := rfl
theorem jx_w318_ : jx_wf jx_C318 = true := by decide +kernel
theorem jx_h319 : jx_cd 319 = jx_C319 := rfl
theorem jx_w319_ : jx_wf jx_C319 = true := by decide +kernel
theorem jx_h320 : jx_cd 320 = jx_C320 := rfl
theorem jx_w320_ : jx_wf jx_C320 = true := by decide +kernel
theorem jx_h321 : jx_cd 321 = jx_C321 := rfl
theorem jx_w321_ : jx_wf jx_C321 = true := by decide +kernel
theorem jx_h322 : jx_cd 322 = jx_C322 := rfl
theorem jx_w322_ : jx_wf jx_C322 = true := by decide +kernel
noncomputable def f_F_tunnel (x1 : Int32) (x2 : Int32) (x3 : Int32) (m : jx_Mem) : Option (Int32 × jx_Mem) := jx_K jx_kI 161 0 0 [(0, .ref 0), (1, .int x1), (2, .int x2), (3, .int x3)] [] m
noncomputable def f_F_wall (x1 : Int32) (x2 : Int32) (m : jx_Mem) : Option (Int32 × jx_Mem) := jx_K jx_kI 162 0 0 [(0, .ref 0), (1, .int x1), (2, .int x2)] [] m
noncomputable def f_F_far (x1 : Int32) (x2 : Int32) (m : jx_Mem) : Option (Int32 × jx_Mem) := jx_K jx_kI 163 0 0 [(0, .ref 0), (1, .int x1), (2, .int x2)] [] m
noncomputable def f_F_person (x1 : Int32) (x2 : Int32) (x3 : Int32) (m : jx_Mem) : Option (Int32 × jx_Mem) := jx_K jx_kI 164 0 0 [(0, .ref 0), (1, .int x1), (2, .int x2), (3, .int x3)] [] m
noncomputable def f_F_walk (x1 : Int32) (x2 : Int32) (m : jx_Mem) : Option (Int32 × jx_Mem) := jx_K jx_kI 165 0 0 [(0, .ref 0), (1, .int x1), (2, .int x2)] [] m
noncomputable def f_F_of (x1 : Int32) (x2 : Int32) (m : jx_Mem) : Option (Int32 × jx_Mem) := jx_K jx_kI 166 0 0 [(0, .ref 0), (1, .int x1), (2, .int x2)] [] m
noncomputable def f_F_good (x1 : Int32) (m : jx_Mem) : Option (Int32 × jx_Mem) := jx_K jx_kI 167 0 0 [(0, .ref 0), (1, .int x1)] [] m
noncomputable def f_F_test (x1 : Int32) (m : jx_Mem) : Option (Int32 × jx_Mem) := jx_K jx_kI 168 0 0 [(0, .ref 0), (1, .int x1)] [] m
noncomputable def f_F_answer (x1 : Int32) (x2 : Int32) (x3 : Int32) (m : jx_Mem) : Option (Int32 × jx_Mem) := jx_K jx_kI 169 0 0 [(0, .ref 0), (1, .int x1), (2, .int x2), (3, .int x3)] [] m
noncomputable def f_F_sheet (x1 : Int32) (x2 : Int32) (x3 : Int32) (x4 : Int32) (x5 : Int32) (m : jx_Mem) : Option (Int32 × jx_Mem) := jx_K jx_kI 170 0 0 [(0, .ref 0), (1, .int x1), (2, .int x2), (3, .int x3), (4, .int x4), (5, .int x5)] [] m
noncomputable def f_F_apart (x1 : Int32) (x2 : Int32) (m : jx_Mem) : Option (Int32 × jx_Mem) := jx_K jx_kI 171 0 0 [(0, .ref 0), (1, .int x1), (2, .int x2)] [] m
noncomputable def f_F_sure (x1 : Int32) (x2 : Int32) (m : jx_Mem) : Option (Int32 × jx_Mem) := jx_K jx_kI 172 0 0 [(0, .ref 0), (1, .int x1), (2, .int x2)] [] m
noncomputable def f_F_keep (x1 : Int32) (m : jx_Mem) : Option (Int32 × jx_Mem) := jx_K jx_kI 173 0 0 [(0, .ref 0), (1, .int x1)] [] m
noncomputable def f_F_ban (x1 : Int32) (x2 : Int32) (m : jx_Mem) : Option (Int32 × jx_Mem) := jx_K jx_kI 174 0 0 [(0, .ref 0), (1, .int x1), (2, .int x2)] [] m
noncomputable def f_F_tree (x1 : Int32) (m : jx_Mem) : Option (Int32 × jx_Mem) := jx_K jx_kI 175 0 0 [(0, .ref 0), (1, .int x1)] [] m
noncomputable def f_F_copper (x1 : Int32) (x2 : Int32) (m : jx_Mem) : Option (Int32 × jx_Mem) := jx_K jx_kI 176 0 0 [(0, .ref 0), (1, .int x1), (2, .int x2)] [] m
noncomputable def f_F_asks (x1 : Int32) (x2 : Int32) (m : jx_Mem) : Option (Int32 × jx_Mem) := jx_K jx_kI 177 0 0 [(0, .ref 0), (1, .int x1), (2, .int x2)] [] m
noncomputable def f_F_sign (x1 : Int32) (m : jx_Mem) : Option (Int32 × jx_Mem) := jx_K jx_kI 178 0 0 [(0, .ref 0), (1, .int x1)] [] m
noncomputable def f_F_end (x1 : Int32) (m : jx_Mem) : Option (Int32 × jx_Mem) := jx_K jx_kI 179 0 0 [(0, .ref 0), (1, .int x1)] [] m
noncomputable def f_F_rule  (m : jx_Mem) : Option (Int32 × jx_Mem) := jx_K jx_kI 180 0 0 [(0, .ref 0)] [] m
noncomputable def f_F_first (x1 : Int32) (x2 : Int32) (m : jx_Mem) : Option (Int32 × jx_Mem) := jx_K jx_kI 181 0 0 [(0, .ref 0), (1, .int x1), (2, .int x2)] [] m
noncomputable def f_F_order  (m : jx_Mem) : Option (Int32 × jx_Mem) := jx_K jx_kI 182 0 0 [(0, .ref 0)] [] m
noncomputable def f_F_want (x1 : Int32) (x2 : Int32) (x3 : Int32) (m : jx_Mem) : Option (Int32 × jx_Mem) := jx_K jx_kI 183 0 0 [(0, .ref 0), (1, .int x1), (2, .int x2), (3, .int x3)] [] m
noncomputable def f_F_item (x1 : Int32) (x2 : Int32) (x3 : Int32) (m : jx_Mem) : Option (Int32 × jx_Mem) := jx_K jx_kI 184 0 0 [(0, .ref 0), (1, .int x1), (2, .int x2), (3, .int x3)] [] m
noncomputable def f_F_thing (x1 : Int32) (x2 : Int32) (m : jx_Mem) : Option (Int32 × jx_Mem) := jx_K jx_kI 185 0 0 [(0, .ref 0), (1, .int x1), (2, .int x2)] [] m
noncomputable def f_F_wind (x1 : Int32) (m : jx_Mem) : Option (Int32 × jx_Mem) := jx_K jx_kI 186 0 0 [(0, .ref 0), (1, .int x1)] [] m
noncomputable def f_F_rounds (x1 : Int32) (m : jx_Mem) : Option (Int32 × jx_Mem) := jx_K jx_kI 187 0 0 [(0, .ref 0), (1, .int x1)] [] m
noncomputable def f_F_settles  (m : jx_Mem) : Option (Int32 × jx_Mem) := jx_K jx_kI 188 0 0 [(0, .ref 0)] [] m
noncomputable def f_F_buy (x1 : Int32) (x2 : Int32) (m : jx_Mem) : Option (Int32 × jx_Mem) := jx_K jx_kI 189 0 0 [(0, .ref 0), (1, .int x1), (2, .int x2)] [] m
noncomputable def f_F_undo  (m : jx_Mem) : Option (Int32 × jx_Mem) := jx_K jx_kI 190 0 0 [(0, .ref 0)] [] m
noncomputable def f_F_counted (x1 : Int32) (x2 : Int32) (x3 : Int32) (m : jx_Mem) : Option (Int32 × jx_Mem) := jx_K jx_kI 191 0 0 [(0, .ref 0), (1, .int x1), (2, .int x2), (3, .int x3)] [] m
noncomputable def f_F_been (x1 : Int32) (x2 : Int32) (x3 : Int32) (x4 : Int32) (m : jx_Mem) : Option (Int32 × jx_Mem) := jx_K jx_kI 192 0 0 [(0, .ref 0), (1, .int x1), (2, .int x2), (3, .int x3), (4, .int x4)] [] m
noncomputable def f_F_missing (x1 : Int32) (m : jx_Mem) : Option (Int32 × jx_Mem) := jx_K jx_kI 193 0 0 [(0, .ref 0), (1, .int x1)] [] m
noncomputable def f_F_suspects (x1 : Int32) (x2 : Int32) (m : jx_Mem) : Option (Int32 × jx_Mem) := jx_K jx_kI 194 0 0 [(0, .ref 0), (1, .int x1), (2, .int x2)] [] m
noncomputable def f_F_gang  (m : jx_Mem) : Option (Int32 × jx_Mem) := jx_K jx_kI 195 0 0 [(0, .ref 0)] [] m
noncomputable def f_F_clink (x1 : Int32) (x2 : Int32) (x3 : Int32) (m : jx_Mem) : Option (Int32 × jx_Mem) := jx_K jx_kI 196 0 0 [(0, .ref 0), (1, .int x1), (2, .int x2), (3, .int x3)] [] m
noncomputable def f_F_hands  (m : jx_Mem) : Option (Int32 × jx_Mem) := jx_K jx_kI 197 0 0 [(0, .ref 0)] [] m
noncomputable def f_F_loud (x1 : Int32) (m : jx_Mem) : Option (Int32 × jx_Mem) := jx_K jx_kI 198 0 0 [(0, .ref 0), (1, .int x1)] [] m
noncomputable def f_F_loudest  (m : jx_Mem) : Option (Int32 × jx_Mem) := jx_K jx_kI 199 0 0 [(0, .ref 0)] [] m
noncomputable def f_F_heard (x1 : Int32) (x2 : Int32) (m : jx_Mem) : Option (Int32 × jx_Mem) := jx_K jx_kI 200 0 0 [(0, .ref 0), (1, .int x1), (2, .int x2)] [] m
noncomputable def f_F_crowds (x1 : Int32) (x2 : Int32) (m : jx_Mem) : Option (Int32 × jx_Mem) := jx_K jx_kI 201 0 0 [(0, .ref 0), (1, .int x1), (2, .int x2)] [] m
noncomputable def f_F_gas (x1 : Int32) (x2 : Int32) (m : jx_Mem) : Option (Int32 × jx_Mem) := jx_K jx_kI 202 0 0 [(0, .ref 0), (1, .int x1), (2, .int x2)] [] m
noncomputable def f_F_lasts  (m : jx_Mem) : Option (Int32 × jx_Mem) := jx_K jx_kI 203 0 0 [(0, .ref 0)] [] m
noncomputable def f_F_leave  (m : jx_Mem) : Option (Int32 × jx_Mem) := jx_K jx_kI 204 0 0 [(0, .ref 0)] [] m
noncomputable def f_F_ear (x1 : Int32) (x2 : Int32) (m : jx_Mem) : Option (Int32 × jx_Mem) := jx_K jx_kI 205 0 0 [(0, .ref 0), (1, .int x1), (2, .int x2)] [] m
noncomputable def f_F_sound (x1 : Int32) (x2 : Int32) (m : jx_Mem) : Option (Int32 × jx_Mem) := jx_K jx_kI 206 0 0 [(0, .ref 0), (1, .int x1), (2, .int x2)] [] m
noncomputable def f_F_judge (x1 : Int32) (x2 : Int32) (x3 : Int32) (m : jx_Mem) : Option (Int32 × jx_Mem) := jx_K jx_kI 207 0 0 [(0, .ref 0), (1, .int x1), (2, .int x2), (3, .int x3)] [] m
noncomputable def f_F_who (x1 : Int32) (x2 : Int32) (x3 : Int32) (m : jx_Mem) : Option (Int32 × jx_Mem) := jx_K jx_kI 208 0 0 [(0, .ref 0), (1, .int x1), (2, .int x2), (3, .int x3)] [] m
noncomputable def f_F_lamp (x1 : Int32) (m : jx_Mem) : Option (Int32 × jx_Mem) := jx_K jx_kI 209 0 0 [(0, .ref 0), (1, .int x1)] [] m
noncomputable def f_F_count (x1 : Int32) (m : jx_Mem) : Option (Int32 × jx_Mem) := jx_K jx_kI 210 0 0 [(0, .ref 0), (1, .int x1)] [] m
noncomputable def f_F_row (x1 : Int32) (m : jx_Mem) : Option (Int64 × jx_Mem) := jx_K jx_kL 211 0 0 [(0, .ref 0), (1, .int x1)] [] m
noncomputable def f_M_thrown  (m : jx_Mem) : Option (Int32 × jx_Mem) := jx_K jx_kI 214 0 0 [(0, .ref 63)] [] m
noncomputable def f_M_tunnel (x1 : Int32) (x2 : Int32) (x3 : Int32) (m : jx_Mem) : Option (Int32 × jx_Mem) := jx_K jx_kI 226 0 0 [(0, .ref 63), (1, .int x1), (2, .int x2), (3, .int x3)] [] m
noncomputable def f_M_wall (x1 : Int32) (x2 : Int32) (m : jx_Mem) : Option (Int32 × jx_Mem) := jx_K jx_kI 227 0 0 [(0, .ref 63), (1, .int x1), (2, .int x2)] [] m
noncomputable def f_M_far (x1 : Int32) (x2 : Int32) (m : jx_Mem) : Option (Int32 × jx_Mem) := jx_K jx_kI 228 0 0 [(0, .ref 63), (1, .int x1), (2, .int x2)] [] m
noncomputable def f_M_person (x1 : Int32) (x2 : Int32) (x3 : Int32) (m : jx_Mem) : Option (Int32 × jx_Mem) := jx_K jx_kI 229 0 0 [(0, .ref 63), (1, .int x1), (2, .int x2), (3, .int x3)] [] m
noncomputable def f_M_walk (x1 : Int32) (x2 : Int32) (m : jx_Mem) : Option (Int32 × jx_Mem) := jx_K jx_kI 230 0 0 [(0, .ref 63), (1, .int x1), (2, .int x2)] [] m
noncomputable def f_M_of (x1 : Int32) (x2 : Int32) (m : jx_Mem) : Option (Int32 × jx_Mem) := jx_K jx_kI 231 0 0 [(0, .ref 63), (1, .int x1), (2, .int x2)] [] m
noncomputable def f_M_good (x1 : Int32) (m : jx_Mem) : Option (Int32 × jx_Mem) := jx_K jx_kI 236 0 0 [(0, .ref 63), (1, .int x1)] [] m
noncomputable def f_M_test (x1 : Int32) (m : jx_Mem) : Option (Int32 × jx_Mem) := jx_K jx_kI 237 0 0 [(0, .ref 63), (1, .int x1)] [] m
noncomputable def f_M_answer (x1 : Int32) (x2 : Int32) (x3 : Int32) (m : jx_Mem) : Option (Int32 × jx_Mem) := jx_K jx_kI 239 0 0 [(0, .ref 63), (1, .int x1), (2, .int x2), (3, .int x3)] [] m
noncomputable def f_M_sheet (x1 : Int32) (x2 : Int32) (x3 : Int32) (x4 : Int32) (x5 : Int32) (m : jx_Mem) : Option (Int32 × jx_Mem) := jx_K jx_kI 240 0 0 [(0, .ref 63), (1, .int x1), (2, .int x2), (3, .int x3), (4, .int x4), (5, .int x5)] [] m
noncomputable def f_M_apart (x1 : Int32) (x2 : Int32) (m : jx_Mem) : Option (Int32 × jx_Mem) := jx_K jx_kI 242 0 0 [(0, .ref 63), (1, .int x1), (2, .int x2)] [] m
noncomputable def f_M_sure (x1 : Int32) (x2 : Int32) (m : jx_Mem) : Option (Int32 × jx_Mem) := jx_K jx_kI 245 0 0 [(0, .ref 63), (1, .int x1), (2, .int x2)] [] m
noncomputable def f_M_keep (x1 : Int32) (m : jx_Mem) : Option (Int32 × jx_Mem) := jx_K jx_kI 248 0 0 [(0, .ref 63), (1, .int x1)] [] m
noncomputable def f_M_ban (x1 : Int32) (x2 : Int32) (m : jx_Mem) : Option (Int32 × jx_Mem) := jx_K jx_kI 249 0 0 [(0, .ref 63), (1, .int x1), (2, .int x2)] [] m
noncomputable def f_M_tree (x1 : Int32) (m : jx_Mem) : Option (Int32 × jx_Mem) := jx_K jx_kI 253 0 0 [(0, .ref 63), (1, .int x1)] [] m
noncomputable def f_M_copper (x1 : Int32) (x2 : Int32) (m : jx_Mem) : Option (Int32 × jx_Mem) := jx_K jx_kI 255 0 0 [(0, .ref 63), (1, .int x1), (2, .int x2)] [] m
noncomputable def f_M_asks (x1 : Int32) (x2 : Int32) (m : jx_Mem) : Option (Int32 × jx_Mem) := jx_K jx_kI 256 0 0 [(0, .ref 63), (1, .int x1), (2, .int x2)] [] m
noncomputable def f_M_sign (x1 : Int32) (m : jx_Mem) : Option (Int32 × jx_Mem) := jx_K jx_kI 257 0 0 [(0, .ref 63), (1, .int x1)] [] m
noncomputable def f_M_end (x1 : Int32) (m : jx_Mem) : Option (Int32 × jx_Mem) := jx_K jx_kI 258 0 0 [(0, .ref 63), (1, .int x1)] [] m
noncomputable def f_M_rule  (m : jx_Mem) : Option (Int32 × jx_Mem) := jx_K jx_kI 265 0 0 [(0, .ref 63)] [] m
noncomputable def f_M_first (x1 : Int32) (x2 : Int32) (m : jx_Mem) : Option (Int32 × jx_Mem) := jx_K jx_kI 270 0 0 [(0, .ref 63), (1, .int x1), (2, .int x2)] [] m
noncomputable def f_M_order  (m : jx_Mem) : Option (Int32 × jx_Mem) := jx_K jx_kI 271 0 0 [(0, .ref 63)] [] m
noncomputable def f_M_want (x1 : Int32) (x2 : Int32) (x3 : Int32) (m : jx_Mem) : Option (Int32 × jx_Mem) := jx_K jx_kI 273 0 0 [(0, .ref 63), (1, .int x1), (2, .int x2), (3, .int x3)] [] m
noncomputable def f_M_item (x1 : Int32) (x2 : Int32) (x3 : Int32) (m : jx_Mem) : Option (Int32 × jx_Mem) := jx_K jx_kI 274 0 0 [(0, .ref 63), (1, .int x1), (2, .int x2), (3, .int x3)] [] m
noncomputable def f_M_thing_II (x1 : Int32) (x2 : Int32) (m : jx_Mem) : Option (Int32 × jx_Mem) := jx_K jx_kI 275 0 0 [(0, .ref 63), (1, .int x1), (2, .int x2)] [] m
noncomputable def f_M_wind (x1 : Int32) (m : jx_Mem) : Option (Int32 × jx_Mem) := jx_K jx_kI 276 0 0 [(0, .ref 63), (1, .int x1)] [] m
noncomputable def f_M_rounds (x1 : Int32) (m : jx_Mem) : Option (Int32 × jx_Mem) := jx_K jx_kI 280 0 0 [(0, .ref 63), (1, .int x1)] [] m
noncomputable def f_M_settles  (m : jx_Mem) : Option (Int32 × jx_Mem) := jx_K jx_kI 284 0 0 [(0, .ref 63)] [] m
noncomputable def f_M_buy (x1 : Int32) (x2 : Int32) (m : jx_Mem) : Option (Int32 × jx_Mem) := jx_K jx_kI 285 0 0 [(0, .ref 63), (1, .int x1), (2, .int x2)] [] m
noncomputable def f_M_undo  (m : jx_Mem) : Option (Int32 × jx_Mem) := jx_K jx_kI 286 0 0 [(0, .ref 63)] [] m
noncomputable def f_M_counted (x1 : Int32) (x2 : Int32) (x3 : Int32) (m : jx_Mem) : Option (Int32 × jx_Mem) := jx_K jx_kI 288 0 0 [(0, .ref 63), (1, .int x1), (2, .int x2), (3, .int x3)] [] m
noncomputable def f_M_been (x1 : Int32) (x2 : Int32) (x3 : Int32) (x4 : Int32) (m : jx_Mem) : Option (Int32 × jx_Mem) := jx_K jx_kI 289 0 0 [(0, .ref 63), (1, .int x1), (2, .int x2), (3, .int x3), (4, .int x4)] [] m
noncomputable def f_M_missing (x1 : Int32) (m : jx_Mem) : Option (Int32 × jx_Mem) := jx_K jx_kI 291 0 0 [(0, .ref 63), (1, .int x1)] [] m
noncomputable def f_M_suspects (x1 : Int32) (x2 : Int32) (m : jx_Mem) : Option (Int32 × jx_Mem) := jx_K jx_kI 293 0 0 [(0, .ref 63), (1, .int x1), (2, .int x2)] [] m
noncomputable def f_M_gang  (m : jx_Mem) : Option (Int32 × jx_Mem) := jx_K jx_kI 295 0 0 [(0, .ref 63)] [] m
noncomputable def f_M_clink (x1 : Int32) (x2 : Int32) (x3 : Int32) (m : jx_Mem) : Option (Int32 × jx_Mem) := jx_K jx_kI 296 0 0 [(0, .ref 63), (1, .int x1), (2, .int x2), (3, .int x3)] [] m
noncomputable def f_M_hands  (m : jx_Mem) : Option (Int32 × jx_Mem) := jx_K jx_kI 298 0 0 [(0, .ref 63)] [] m
noncomputable def f_M_loud (x1 : Int32) (m : jx_Mem) : Option (Int32 × jx_Mem) := jx_K jx_kI 301 0 0 [(0, .ref 63), (1, .int x1)] [] m
noncomputable def f_M_loudest  (m : jx_Mem) : Option (Int32 × jx_Mem) := jx_K jx_kI 302 0 0 [(0, .ref 63)] [] m
noncomputable def f_M_heard (x1 : Int32) (x2 : Int32) (m : jx_Mem) : Option (Int32 × jx_Mem) := jx_K jx_kI 303 0 0 [(0, .ref 63), (1, .int x1), (2, .int x2)] [] m
noncomputable def f_M_crowds (x1 : Int32) (x2 : Int32) (m : jx_Mem) : Option (Int32 × jx_Mem) := jx_K jx_kI 305 0 0 [(0, .ref 63), (1, .int x1), (2, .int x2)] [] m
noncomputable def f_M_gas (x1 : Int32) (x2 : Int32) (m : jx_Mem) : Option (Int32 × jx_Mem) := jx_K jx_kI 306 0 0 [(0, .ref 63), (1, .int x1), (2, .int x2)] [] m
noncomputable def f_M_lasts  (m : jx_Mem) : Option (Int32 × jx_Mem) := jx_K jx_kI 308 0 0 [(0, .ref 63)] [] m
noncomputable def f_M_leave  (m : jx_Mem) : Option (Int32 × jx_Mem) := jx_K jx_kI 309 0 0 [(0, .ref 63)] [] m
noncomputable def f_M_ear (x1 : Int32) (x2 : Int32) (m : jx_Mem) : Option (Int32 × jx_Mem) := jx_K jx_kI 310 0 0 [(0, .ref 63), (1, .int x1), (2, .int x2)] [] m
noncomputable def f_M_sound (x1 : Int32) (x2 : Int32) (m : jx_Mem) : Option (Int32 × jx_Mem) := jx_K jx_kI 315 0 0 [(0, .ref 63), (1, .int x1), (2, .int x2)] [] m
noncomputable def f_M_judge (x1 : Int32) (x2 : Int32) (x3 : Int32) (m : jx_Mem) : Option (Int32 × jx_Mem) := jx_K jx_kI 316 0 0 [(0, .ref 63), (1, .int x1), (2, .int x2), (3, .int x3)] [] m
noncomputable def f_M_who (x1 : Int32) (x2 : Int32) (x3 : Int32) (m : jx_Mem) : Option (Int32 × jx_Mem) := jx_K jx_kI 317 0 0 [(0, .ref 63), (1, .int x1), (2, .int x2), (3, .int x3)] [] m
noncomputable def f_M_lamp (x1 : Int32) (m : jx_Mem) : Option (Int32 × jx_Mem) := jx_K jx_kI 318 0 0 [(0, .ref 63), (1, .int x1)] [] m
noncomputable def f_M_count (x1 : Int32) (m : jx_Mem) : Option (Int32 × jx_Mem) := jx_K jx_kI 321 0 0 [(0, .ref 63), (1, .int x1)] [] m
noncomputable def f_M_row (x1 : Int32) (m : jx_Mem) : Option (Int64 × jx_Mem) := jx_K jx_kL 322 0 0 [(0, .ref 63), (1, .int x1)] [] m
noncomputable def f_Mine_addTunnel (x1 : Int32) (x2 : Int32) (x3 : Int32) (m : jx_Mem) : Option (Int32 × jx_Mem) := jx_K jx_kI 16 0 0 [(0, .ref 3), (1, .int x1), (2, .int x2), (3, .int x3)] [] m
noncomputable def f_Mine_setWall (x1 : Int32) (x2 : Int32) (m : jx_Mem) : Option (Int32 × jx_Mem) := jx_K jx_kI 19 0 0 [(0, .ref 3), (1, .int x1), (2, .int x2)] [] m
noncomputable def f_Mine_isPlace (x1 : Int32) (m : jx_Mem) : Option (Int32 × jx_Mem) := jx_K jx_kI 12 0 0 [(0, .ref 3), (1, .int x1)] [] m
noncomputable def f_F_far_34  (m : jx_Mem) : Option (Int32 × jx_Mem) := jx_K jx_kI 163 0 34 [] [] m
noncomputable def f_Mine_distance (x1 : Int32) (x2 : Int32) (m : jx_Mem) : Option (Int32 × jx_Mem) := jx_K jx_kI 17 0 0 [(0, .ref 3), (1, .int x1), (2, .int x2)] [] m
noncomputable def f_F_far_35 (y0 : Int32) (m : jx_Mem) : Option (Int32 × jx_Mem) := jx_K jx_kI 163 0 35 [] [.int y0] m
noncomputable def f_Mine_addPerson (x1 : Int32) (x2 : Int32) (x3 : Int32) (m : jx_Mem) : Option (Int32 × jx_Mem) := jx_K jx_kI 21 0 0 [(0, .ref 3), (1, .int x1), (2, .int x2), (3, .int x3)] [] m
noncomputable def f_Mine_move (x1 : Int32) (x2 : Int32) (m : jx_Mem) : Option (Int32 × jx_Mem) := jx_K jx_kI 22 0 0 [(0, .ref 3), (1, .int x1), (2, .int x2)] [] m
noncomputable def f_Mine_isPerson (x1 : Int32) (m : jx_Mem) : Option (Int32 × jx_Mem) := jx_K jx_kI 13 0 0 [(0, .ref 3), (1, .int x1)] [] m
noncomputable def f_F_of_20  (m : jx_Mem) : Option (Int32 × jx_Mem) := jx_K jx_kI 166 0 20 [] [] m
noncomputable def f_F_within (x0 : Int32) (x1 : Int32) (x2 : Int32) (m : jx_Mem) : Option (Int32 × jx_Mem) := jx_K jx_kI 212 0 0 [(0, .int x0), (1, .int x1), (2, .int x2)] [] m
noncomputable def f_Mine_loadOf (x1 : Int32) (m : jx_Mem) : Option (Int32 × jx_Mem) := jx_K jx_kI 26 0 0 [(0, .ref 3), (1, .int x1)] [] m
noncomputable def f_F_of_65 (y0 : Int32) (m : jx_Mem) : Option (Int32 × jx_Mem) := jx_K jx_kI 166 0 65 [] [.int y0] m
noncomputable def f_Mine_purseOf (x1 : Int32) (m : jx_Mem) : Option (Int32 × jx_Mem) := jx_K jx_kI 24 0 0 [(0, .ref 3), (1, .int x1)] [] m
noncomputable def f_Mine_placeOf (x1 : Int32) (m : jx_Mem) : Option (Int32 × jx_Mem) := jx_K jx_kI 23 0 0 [(0, .ref 3), (1, .int x1)] [] m
noncomputable def f_Goods_addGood (x1 : Int32) (m : jx_Mem) : Option (Int32 × jx_Mem) := jx_K jx_kI 38 0 0 [(0, .ref 9), (1, .int x1)] [] m
noncomputable def f_Goods_addTest (x1 : Int32) (m : jx_Mem) : Option (Int32 × jx_Mem) := jx_K jx_kI 39 0 0 [(0, .ref 9), (1, .int x1)] [] m
noncomputable def f_Goods_setAnswer (x1 : Int32) (x2 : Int32) (x3 : Int32) (m : jx_Mem) : Option (Int32 × jx_Mem) := jx_K jx_kI 42 0 0 [(0, .ref 9), (1, .int x1), (2, .int x2), (3, .int x3)] [] m
noncomputable def f_Goods_readSheet (x1 : Int32) (x2 : Int32) (x3 : Int32) (x4 : Int32) (x5 : Int32) (m : jx_Mem) : Option (Int32 × jx_Mem) := jx_K jx_kI 43 0 0 [(0, .ref 9), (1, .int x1), (2, .int x2), (3, .int x3), (4, .int x4), (5, .int x5)] [] m
noncomputable def f_Goods_isGood (x1 : Int32) (m : jx_Mem) : Option (Int32 × jx_Mem) := jx_K jx_kI 34 0 0 [(0, .ref 9), (1, .int x1)] [] m
noncomputable def f_F_apart_34  (m : jx_Mem) : Option (Int32 × jx_Mem) := jx_K jx_kI 171 0 34 [] [] m
noncomputable def f_Goods_unlike (x1 : Int32) (x2 : Int32) (m : jx_Mem) : Option (Int32 × jx_Mem) := jx_K jx_kI 45 0 0 [(0, .ref 9), (1, .int x1), (2, .int x2)] [] m
noncomputable def f_F_apart_35 (y0 : Int32) (m : jx_Mem) : Option (Int32 × jx_Mem) := jx_K jx_kI 171 0 35 [] [.int y0] m
noncomputable def f_Goods_areGoods (x1 : Int32) (m : jx_Mem) : Option (Int32 × jx_Mem) := jx_K jx_kI 36 0 0 [(0, .ref 9), (1, .int x1)] [] m
noncomputable def f_F_sure_22  (m : jx_Mem) : Option (Int32 × jx_Mem) := jx_K jx_kI 172 0 22 [] [] m
noncomputable def f_Goods_areTests (x1 : Int32) (m : jx_Mem) : Option (Int32 × jx_Mem) := jx_K jx_kI 37 0 0 [(0, .ref 9), (1, .int x1)] [] m
noncomputable def f_Goods_toldBy (x1 : Int32) (x2 : Int32) (m : jx_Mem) : Option (Int32 × jx_Mem) := jx_K jx_kI 50 0 0 [(0, .ref 9), (1, .int x1), (2, .int x2)] [] m
noncomputable def f_Row_tell_J (x1 : Int64) (m : jx_Mem) : Option jx_Mem := jx_K jx_kV 5 0 0 [(0, .ref 1), (1, .long x1)] [] m
noncomputable def f_Int_bitCount (x0 : Int32) (m : jx_Mem) : Option (Int32 × jx_Mem) := jx_K jx_kI 0 0 0 [(0, .int x0)] [] m
noncomputable def f_Goods_fewestTests (x1 : Int32) (m : jx_Mem) : Option (Int32 × jx_Mem) := jx_K jx_kI 51 0 0 [(0, .ref 9), (1, .int x1)] [] m
noncomputable def f_F_ban_22  (m : jx_Mem) : Option (Int32 × jx_Mem) := jx_K jx_kI 174 0 22 [] [] m
noncomputable def f_Goods_toBan (x1 : Int32) (x2 : Int32) (m : jx_Mem) : Option (Int32 × jx_Mem) := jx_K jx_kI 54 0 0 [(0, .ref 9), (1, .int x1), (2, .int x2)] [] m
noncomputable def f_Tree_grow (x1 : Int32) (m : jx_Mem) : Option (Int32 × jx_Mem) := jx_K jx_kI 56 0 0 [(0, .ref 14), (1, .int x1)] [] m
noncomputable def f_Tree_firstTest (x1 : Int32) (m : jx_Mem) : Option (Int32 × jx_Mem) := jx_K jx_kI 60 0 0 [(0, .ref 14), (1, .int x1)] [] m
noncomputable def f_Tree_dearest (x1 : Int32) (m : jx_Mem) : Option (Int32 × jx_Mem) := jx_K jx_kI 61 0 0 [(0, .ref 14), (1, .int x1)] [] m
noncomputable def f_Row_tell_JJ (x1 : Int64) (x3 : Int64) (m : jx_Mem) : Option jx_Mem := jx_K jx_kV 6 0 0 [(0, .ref 1), (1, .long x1), (3, .long x3)] [] m
noncomputable def f_F_copper_21  (m : jx_Mem) : Option (Int32 × jx_Mem) := jx_K jx_kI 176 0 21 [] [] m
noncomputable def f_Tree_toldWithin (x1 : Int32) (x2 : Int32) (m : jx_Mem) : Option (Int32 × jx_Mem) := jx_K jx_kI 64 0 0 [(0, .ref 14), (1, .int x1), (2, .int x2)] [] m
noncomputable def f_F_asks_30  (m : jx_Mem) : Option (Int32 × jx_Mem) := jx_K jx_kI 177 0 30 [] [] m
noncomputable def f_F_has (x0 : Int32) (x1 : Int32) (m : jx_Mem) : Option (Int32 × jx_Mem) := jx_K jx_kI 213 0 0 [(0, .int x0), (1, .int x1)] [] m
noncomputable def f_Tree_tellPath (x1 : Int32) (x2 : Int32) (m : jx_Mem) : Option (Int32 × jx_Mem) := jx_K jx_kI 63 0 0 [(0, .ref 14), (1, .int x1), (2, .int x2), (3, .ref 1)] [] m
noncomputable def f_Rule_append (x1 : Int32) (m : jx_Mem) : Option (Int32 × jx_Mem) := jx_K jx_kI 69 0 0 [(0, .ref 18), (1, .int x1)] [] m
noncomputable def f_Rule_cut (x1 : Int32) (m : jx_Mem) : Option (Int32 × jx_Mem) := jx_K jx_kI 70 0 0 [(0, .ref 18), (1, .int x1)] [] m
noncomputable def f_Rule_read  (m : jx_Mem) : Option (Int32 × jx_Mem) := jx_K jx_kI 71 0 0 [(0, .ref 18)] [] m
noncomputable def f_F_first_27  (m : jx_Mem) : Option (Int32 × jx_Mem) := jx_K jx_kI 181 0 27 [] [] m
noncomputable def f_Rule_valueFor (x1 : Int32) (m : jx_Mem) : Option (Int32 × jx_Mem) := jx_K jx_kI 85 0 0 [(0, .ref 18), (1, .int x1)] [] m
noncomputable def f_F_first_83 (y0 : Int32) (m : jx_Mem) : Option (Int32 × jx_Mem) := jx_K jx_kI 181 0 83 [] [.int y0] m
noncomputable def f_Rule_tellOrder  (m : jx_Mem) : Option (Int32 × jx_Mem) := jx_K jx_kI 90 0 0 [(0, .ref 18), (1, .ref 1)] [] m
noncomputable def f_F_want_32  (m : jx_Mem) : Option (Int32 × jx_Mem) := jx_K jx_kI 183 0 32 [] [] m
noncomputable def f_Asking_setWants (x1 : Int32) (x2 : Int32) (x3 : Int32) (m : jx_Mem) : Option (Int32 × jx_Mem) := jx_K jx_kI 105 0 0 [(0, .ref 33), (1, .int x1), (2, .int x2), (3, .int x3)] [] m
noncomputable def f_F_item_32  (m : jx_Mem) : Option (Int32 × jx_Mem) := jx_K jx_kI 184 0 32 [] [] m
noncomputable def f_Items_addItem (x1 : Int32) (x2 : Int32) (m : jx_Mem) : Option (Int32 × jx_Mem) := jx_K jx_kI 100 0 0 [(0, .ref 26), (1, .int x1), (2, .int x2)] [] m
noncomputable def f_F_item_61 (x4 : Int32) (m : jx_Mem) : Option (Int32 × jx_Mem) := jx_K jx_kI 184 0 61 [(4, .int x4)] [] m
noncomputable def f_Asking_startPrice (x1 : Int32) (x2 : Int32) (m : jx_Mem) : Option jx_Mem := jx_K jx_kV 108 0 0 [(0, .ref 33), (1, .int x1), (2, .int x2)] [] m
noncomputable def f_Items_isItem (x1 : Int32) (m : jx_Mem) : Option (Int32 × jx_Mem) := jx_K jx_kI 96 0 0 [(0, .ref 26), (1, .int x1)] [] m
noncomputable def f_F_thing_20  (m : jx_Mem) : Option (Int32 × jx_Mem) := jx_K jx_kI 185 0 20 [] [] m
noncomputable def f_Items_isSold (x1 : Int32) (m : jx_Mem) : Option (Int32 × jx_Mem) := jx_K jx_kI 97 0 0 [(0, .ref 26), (1, .int x1)] [] m
noncomputable def f_F_thing_85 (y0 : Int32) (m : jx_Mem) : Option (Int32 × jx_Mem) := jx_K jx_kI 185 0 85 [] [.int y0] m
noncomputable def f_Asking_priceOf (x1 : Int32) (m : jx_Mem) : Option (Int32 × jx_Mem) := jx_K jx_kI 109 0 0 [(0, .ref 33), (1, .int x1)] [] m
noncomputable def f_Items_ownerOf (x1 : Int32) (m : jx_Mem) : Option (Int32 × jx_Mem) := jx_K jx_kI 99 0 0 [(0, .ref 26), (1, .int x1)] [] m
noncomputable def f_Items_goodOf (x1 : Int32) (m : jx_Mem) : Option (Int32 × jx_Mem) := jx_K jx_kI 98 0 0 [(0, .ref 26), (1, .int x1)] [] m
noncomputable def f_Asking_setWind (x1 : Int32) (m : jx_Mem) : Option (Int32 × jx_Mem) := jx_K jx_kI 107 0 0 [(0, .ref 33), (1, .int x1)] [] m
noncomputable def f_Asking_askOn (x1 : Int32) (m : jx_Mem) : Option (Int32 × jx_Mem) := jx_K jx_kI 110 0 0 [(0, .ref 33), (1, .int x1)] [] m
noncomputable def f_Asking_tellAskers  (m : jx_Mem) : Option jx_Mem := jx_K jx_kV 111 0 0 [(0, .ref 33), (1, .ref 1)] [] m
noncomputable def f_Asking_foresee  (m : jx_Mem) : Option (Int32 × jx_Mem) := jx_K jx_kI 112 0 0 [(0, .ref 33)] [] m
noncomputable def f_Items_sell (x1 : Int32) (x2 : Int32) (x3 : Int32) (m : jx_Mem) : Option (Int32 × jx_Mem) := jx_K jx_kI 102 0 0 [(0, .ref 26), (1, .int x1), (2, .int x2), (3, .int x3)] [] m
noncomputable def f_Items_takeBack  (m : jx_Mem) : Option (Int32 × jx_Mem) := jx_K jx_kI 104 0 0 [(0, .ref 26)] [] m
noncomputable def f_Watch_addCount (x1 : Int32) (x2 : Int32) (x3 : Int32) (m : jx_Mem) : Option (Int32 × jx_Mem) := jx_K jx_kI 121 0 0 [(0, .ref 38), (1, .int x1), (2, .int x2), (3, .int x3)] [] m
noncomputable def f_Watch_addStay (x1 : Int32) (x2 : Int32) (x3 : Int32) (x4 : Int32) (m : jx_Mem) : Option (Int32 × jx_Mem) := jx_K jx_kI 122 0 0 [(0, .ref 38), (1, .int x1), (2, .int x2), (3, .int x3), (4, .int x4)] [] m
noncomputable def f_F_missing_27 (y0 : Int32) (m : jx_Mem) : Option (Int32 × jx_Mem) := jx_K jx_kI 193 0 27 [] [.int y0] m
noncomputable def f_Watch_tellThefts (x1 : Int32) (m : jx_Mem) : Option (Int32 × jx_Mem) := jx_K jx_kI 126 0 0 [(0, .ref 38), (1, .int x1), (2, .ref 1)] [] m
noncomputable def f_F_suspects_27  (m : jx_Mem) : Option (Int32 × jx_Mem) := jx_K jx_kI 194 0 27 [] [] m
noncomputable def f_Watch_suspectsOf (x1 : Int32) (x2 : Int32) (m : jx_Mem) : Option (Int32 × jx_Mem) := jx_K jx_kI 127 0 0 [(0, .ref 38), (1, .int x1), (2, .int x2)] [] m
noncomputable def f_F_suspects_28 (y0 : Int32) (m : jx_Mem) : Option (Int32 × jx_Mem) := jx_K jx_kI 194 0 28 [] [.int y0] m
noncomputable def f_Watch_smallestGang  (m : jx_Mem) : Option (Int32 × jx_Mem) := jx_K jx_kI 130 0 0 [(0, .ref 38)] [] m
noncomputable def f_Watch_addClink (x1 : Int32) (x2 : Int32) (x3 : Int32) (m : jx_Mem) : Option (Int32 × jx_Mem) := jx_K jx_kI 123 0 0 [(0, .ref 38), (1, .int x1), (2, .int x2), (3, .int x3)] [] m
noncomputable def f_Watch_tellHands  (m : jx_Mem) : Option (Int32 × jx_Mem) := jx_K jx_kI 132 0 0 [(0, .ref 38), (1, .ref 1)] [] m
noncomputable def f_F_loud_23 (y0 : Int32) (m : jx_Mem) : Option (Int32 × jx_Mem) := jx_K jx_kI 198 0 23 [] [.int y0] m
noncomputable def f_Noise_loudAt (x1 : Int32) (m : jx_Mem) : Option (Int32 × jx_Mem) := jx_K jx_kI 139 0 0 [(0, .ref 52), (1, .int x1)] [] m
noncomputable def f_Noise_tellLoudest  (m : jx_Mem) : Option (Int32 × jx_Mem) := jx_K jx_kI 140 0 0 [(0, .ref 52), (1, .ref 1)] [] m
noncomputable def f_Noise_addHeard (x1 : Int32) (x2 : Int32) (m : jx_Mem) : Option (Int32 × jx_Mem) := jx_K jx_kI 141 0 0 [(0, .ref 52), (1, .int x1), (2, .int x2)] [] m
noncomputable def f_F_crowds_20  (m : jx_Mem) : Option (Int32 × jx_Mem) := jx_K jx_kI 201 0 20 [] [] m
noncomputable def f_Noise_tellCrowds (x1 : Int32) (x2 : Int32) (m : jx_Mem) : Option (Int32 × jx_Mem) := jx_K jx_kI 142 0 0 [(0, .ref 52), (1, .int x1), (2, .int x2), (3, .ref 1)] [] m
noncomputable def f_Air_set (x1 : Int32) (x2 : Int32) (m : jx_Mem) : Option (Int32 × jx_Mem) := jx_K jx_kI 148 0 0 [(0, .ref 59), (1, .int x1), (2, .int x2)] [] m
noncomputable def f_Air_stay  (m : jx_Mem) : Option (Int32 × jx_Mem) := jx_K jx_kI 150 0 0 [(0, .ref 59)] [] m
noncomputable def f_Air_tellLeaving  (m : jx_Mem) : Option (Int32 × jx_Mem) := jx_K jx_kI 151 0 0 [(0, .ref 59), (1, .ref 1)] [] m
noncomputable def f_Ears_setChance (x1 : Int32) (x2 : Int32) (m : jx_Mem) : Option (Int32 × jx_Mem) := jx_K jx_kI 153 0 0 [(0, .ref 60), (1, .int x1), (2, .int x2)] [] m
noncomputable def f_Ears_tellSound (x1 : Int32) (x2 : Int32) (m : jx_Mem) : Option (Int32 × jx_Mem) := jx_K jx_kI 155 0 0 [(0, .ref 60), (1, .int x1), (2, .int x2), (3, .ref 1)] [] m
noncomputable def f_F_judge_23  (m : jx_Mem) : Option (Int32 × jx_Mem) := jx_K jx_kI 207 0 23 [] [] m
noncomputable def f_Ears_canHear (x1 : Int32) (x2 : Int32) (m : jx_Mem) : Option (Int32 × jx_Mem) := jx_K jx_kI 154 0 0 [(0, .ref 60), (1, .int x1), (2, .int x2)] [] m
noncomputable def f_Ears_tellPlace (x1 : Int32) (x2 : Int32) (x3 : Int32) (m : jx_Mem) : Option (Int32 × jx_Mem) := jx_K jx_kI 158 0 0 [(0, .ref 60), (1, .int x1), (2, .int x2), (3, .int x3), (4, .ref 1)] [] m
noncomputable def f_F_who_23  (m : jx_Mem) : Option (Int32 × jx_Mem) := jx_K jx_kI 208 0 23 [] [] m
noncomputable def f_Ears_tellClapper (x1 : Int32) (x2 : Int32) (x3 : Int32) (m : jx_Mem) : Option (Int32 × jx_Mem) := jx_K jx_kI 159 0 0 [(0, .ref 60), (1, .int x1), (2, .int x2), (3, .int x3), (4, .ref 1)] [] m
noncomputable def f_Air_burns  (m : jx_Mem) : Option (Int32 × jx_Mem) := jx_K jx_kI 149 0 0 [(0, .ref 59)] [] m
noncomputable def f_Mine_peopleNear (x1 : Int32) (x2 : Int32) (m : jx_Mem) : Option (Int32 × jx_Mem) := jx_K jx_kI 29 0 0 [(0, .ref 3), (1, .int x1), (2, .int x2)] [] m
noncomputable def f_Items_ownedBy (x1 : Int32) (m : jx_Mem) : Option (Int32 × jx_Mem) := jx_K jx_kI 101 0 0 [(0, .ref 26), (1, .int x1)] [] m
noncomputable def f_Asking_wantedByTwo (x1 : Int32) (x2 : Int32) (m : jx_Mem) : Option (Int32 × jx_Mem) := jx_K jx_kI 119 0 0 [(0, .ref 33), (1, .int x1), (2, .int x2)] [] m
noncomputable def f_Mine_dropPurses  (m : jx_Mem) : Option jx_Mem := jx_K jx_kV 30 0 0 [(0, .ref 3)] [] m
noncomputable def f_Rule_signs  (m : jx_Mem) : Option (Int32 × jx_Mem) := jx_K jx_kI 68 0 0 [(0, .ref 18)] [] m
noncomputable def f_Row_size  (m : jx_Mem) : Option (Int32 × jx_Mem) := jx_K jx_kI 8 0 0 [(0, .ref 1)] [] m
noncomputable def f_Mine_allPurses  (m : jx_Mem) : Option (Int32 × jx_Mem) := jx_K jx_kI 31 0 0 [(0, .ref 3)] [] m
noncomputable def f_Items_sales  (m : jx_Mem) : Option (Int32 × jx_Mem) := jx_K jx_kI 94 0 0 [(0, .ref 26)] [] m
noncomputable def f_Items_soldOnes  (m : jx_Mem) : Option (Int32 × jx_Mem) := jx_K jx_kI 95 0 0 [(0, .ref 26)] [] m
noncomputable def f_Items_size  (m : jx_Mem) : Option (Int32 × jx_Mem) := jx_K jx_kI 93 0 0 [(0, .ref 26)] [] m
noncomputable def f_Goods_tests  (m : jx_Mem) : Option (Int32 × jx_Mem) := jx_K jx_kI 33 0 0 [(0, .ref 9)] [] m
noncomputable def f_Goods_goods  (m : jx_Mem) : Option (Int32 × jx_Mem) := jx_K jx_kI 32 0 0 [(0, .ref 9)] [] m
noncomputable def f_Mine_people  (m : jx_Mem) : Option (Int32 × jx_Mem) := jx_K jx_kI 15 0 0 [(0, .ref 3)] [] m
noncomputable def f_Mine_tunnels  (m : jx_Mem) : Option (Int32 × jx_Mem) := jx_K jx_kI 14 0 0 [(0, .ref 3)] [] m
noncomputable def f_Row_holds (x1 : Int32) (m : jx_Mem) : Option (Int32 × jx_Mem) := jx_K jx_kI 9 0 0 [(0, .ref 1), (1, .int x1)] [] m
noncomputable def f_Row_get (x1 : Int32) (m : jx_Mem) : Option (Int64 × jx_Mem) := jx_K jx_kL 10 0 0 [(0, .ref 1), (1, .int x1)] [] m
noncomputable def f_M_isPlace (x0 : Int32) (m : jx_Mem) : Option (Int32 × jx_Mem) := jx_K jx_kI 222 0 0 [(0, .int x0)] [] m
noncomputable def f_M_tunnel_45  (m : jx_Mem) : Option (Int32 × jx_Mem) := jx_K jx_kI 226 0 45 [] [] m
noncomputable def f_M_in (x0 : Int64) (x2 : Int64) (x4 : Int64) (m : jx_Mem) : Option (Int32 × jx_Mem) := jx_K jx_kI 216 0 0 [(0, .long x0), (2, .long x2), (4, .long x4)] [] m
noncomputable def f_M_shortens (x1 : Int32) (x2 : Int32) (x3 : Int32) (m : jx_Mem) : Option jx_Mem := jx_K jx_kV 225 0 0 [(0, .ref 63), (1, .int x1), (2, .int x2), (3, .int x3)] [] m
noncomputable def f_M_tunnel_57 (x4 : Int32) (m : jx_Mem) : Option (Int32 × jx_Mem) := jx_K jx_kI 226 0 57 [(0, .ref 63), (4, .int x4)] [] m
noncomputable def f_M_wall_24  (m : jx_Mem) : Option (Int32 × jx_Mem) := jx_K jx_kI 227 0 24 [] [] m
noncomputable def f_M_far_28  (m : jx_Mem) : Option (Int32 × jx_Mem) := jx_K jx_kI 228 0 28 [] [] m
noncomputable def f_M_farOf (x1 : Int32) (x2 : Int32) (m : jx_Mem) : Option (Int32 × jx_Mem) := jx_K jx_kI 224 0 0 [(0, .ref 63), (1, .int x1), (2, .int x2)] [] m
noncomputable def f_M_far_29 (y0 : Int32) (m : jx_Mem) : Option (Int32 × jx_Mem) := jx_K jx_kI 228 0 29 [] [.int y0] m
noncomputable def f_M_person_45  (m : jx_Mem) : Option (Int32 × jx_Mem) := jx_K jx_kI 229 0 45 [] [] m
noncomputable def f_M_isPerson (x1 : Int32) (m : jx_Mem) : Option (Int32 × jx_Mem) := jx_K jx_kI 223 0 0 [(0, .ref 63), (1, .int x1)] [] m
noncomputable def f_M_walk_20  (m : jx_Mem) : Option (Int32 × jx_Mem) := jx_K jx_kI 230 0 20 [] [] m
noncomputable def f_M_of_25  (m : jx_Mem) : Option (Int32 × jx_Mem) := jx_K jx_kI 231 0 25 [(0, .ref 63)] [] m
noncomputable def f_M_of_63 (y0 : Int32) (m : jx_Mem) : Option (Int32 × jx_Mem) := jx_K jx_kI 231 0 63 [] [.int y0] m
noncomputable def f_M_good_26  (m : jx_Mem) : Option (Int32 × jx_Mem) := jx_K jx_kI 236 0 26 [] [] m
noncomputable def f_M_test_26  (m : jx_Mem) : Option (Int32 × jx_Mem) := jx_K jx_kI 237 0 26 [] [] m
noncomputable def f_M_isGood (x1 : Int32) (m : jx_Mem) : Option (Int32 × jx_Mem) := jx_K jx_kI 232 0 0 [(0, .ref 63), (1, .int x1)] [] m
noncomputable def f_M_answer_33  (m : jx_Mem) : Option (Int32 × jx_Mem) := jx_K jx_kI 239 0 33 [] [] m
noncomputable def f_M_isTest (x1 : Int32) (m : jx_Mem) : Option (Int32 × jx_Mem) := jx_K jx_kI 233 0 0 [(0, .ref 63), (1, .int x1)] [] m
noncomputable def f_M_answerOf (x1 : Int32) (x2 : Int32) (m : jx_Mem) : Option (Int32 × jx_Mem) := jx_K jx_kI 238 0 0 [(0, .ref 63), (1, .int x1), (2, .int x2)] [] m
noncomputable def f_M_sheet_31  (m : jx_Mem) : Option (Int32 × jx_Mem) := jx_K jx_kI 240 0 31 [] [] m
noncomputable def f_M_sheet_45 (x1 : Int32) (x2 : Int32) (x3 : Int32) (x4 : Int32) (x5 : Int32) (m : jx_Mem) : Option (Int32 × jx_Mem) := jx_K jx_kI 240 0 45 [(0, .ref 63), (1, .int x1), (2, .int x2), (3, .int x3), (4, .int x4), (5, .int x5)] [] m
noncomputable def f_M_apart_30  (m : jx_Mem) : Option (Int32 × jx_Mem) := jx_K jx_kI 242 0 30 [] [] m
noncomputable def f_M_partedBy (x1 : Int32) (x2 : Int32) (m : jx_Mem) : Option (Int32 × jx_Mem) := jx_K jx_kI 241 0 0 [(0, .ref 63), (1, .int x1), (2, .int x2)] [] m
noncomputable def f_M_apart_31 (y0 : Int32) (m : jx_Mem) : Option (Int32 × jx_Mem) := jx_K jx_kI 242 0 31 [] [.int y0] m
noncomputable def f_M_areGoods (x1 : Int32) (m : jx_Mem) : Option (Int32 × jx_Mem) := jx_K jx_kI 234 0 0 [(0, .ref 63), (1, .int x1)] [] m
noncomputable def f_M_sure_21  (m : jx_Mem) : Option (Int32 × jx_Mem) := jx_K jx_kI 245 0 21 [] [] m
noncomputable def f_M_areTests (x1 : Int32) (m : jx_Mem) : Option (Int32 × jx_Mem) := jx_K jx_kI 235 0 0 [(0, .ref 63), (1, .int x1)] [] m
noncomputable def f_M_mixed (x1 : Int32) (x2 : Int32) (m : jx_Mem) : Option (Int32 × jx_Mem) := jx_K jx_kI 244 0 0 [(0, .ref 63), (1, .int x1), (2, .int x2)] [] m
noncomputable def f_M_enters (x1 : Int64) (m : jx_Mem) : Option jx_Mem := jx_K jx_kV 219 0 0 [(0, .ref 63), (1, .long x1)] [] m
noncomputable def f_M_keep_19 (x1 : Int32) (x2 : Int32) (x3 : Int32) (m : jx_Mem) : Option (Int32 × jx_Mem) := jx_K jx_kI 248 0 19 [(0, .ref 63), (1, .int x1), (2, .int x2), (3, .int x3)] [] m
noncomputable def f_M_ban_21  (m : jx_Mem) : Option (Int32 × jx_Mem) := jx_K jx_kI 249 0 21 [] [] m
noncomputable def f_M_ban_28 (x1 : Int32) (x2 : Int32) (x3 : Int32) (x4 : Int32) (m : jx_Mem) : Option (Int32 × jx_Mem) := jx_K jx_kI 249 0 28 [(0, .ref 63), (1, .int x1), (2, .int x2), (3, .int x3), (4, .int x4)] [] m
noncomputable def f_M_trees (x1 : Int32) (m : jx_Mem) : Option jx_Mem := jx_K jx_kV 252 0 0 [(0, .ref 63), (1, .int x1)] [] m
noncomputable def f_M_copper_25  (m : jx_Mem) : Option (Int32 × jx_Mem) := jx_K jx_kI 255 0 25 [] [] m
noncomputable def f_M_copper_37 (x1 : Int32) (x3 : Int32) (x4 : Int32) (m : jx_Mem) : Option (Int32 × jx_Mem) := jx_K jx_kI 255 0 37 [(0, .ref 63), (1, .int x1), (3, .int x3), (4, .int x4)] [] m
noncomputable def f_M_asks_29  (m : jx_Mem) : Option (Int32 × jx_Mem) := jx_K jx_kI 256 0 29 [] [] m
noncomputable def f_M_has (x0 : Int32) (x1 : Int32) (m : jx_Mem) : Option (Int32 × jx_Mem) := jx_K jx_kI 217 0 0 [(0, .int x0), (1, .int x1)] [] m
noncomputable def f_M_asks_46 (x2 : Int32) (x3 : Int32) (x4 : Int32) (m : jx_Mem) : Option (Int32 × jx_Mem) := jx_K jx_kI 256 0 46 [(0, .ref 63), (2, .int x2), (3, .int x3), (4, .int x4)] [] m
noncomputable def f_M_sign_18 (x1 : Int32) (x2 : Int32) (m : jx_Mem) : Option (Int32 × jx_Mem) := jx_K jx_kI 257 0 18 [(0, .ref 63), (1, .int x1), (2, .int x2)] [] m
noncomputable def f_M_rule_54 (x1 : Int32) (m : jx_Mem) : Option (Int32 × jx_Mem) := jx_K jx_kI 265 0 54 [(0, .ref 63), (1, .int x1)] [] m
noncomputable def f_M_ranked (lev : Nat) (x1 : Int32) (m : jx_Mem) : Option (Int32 × jx_Mem) := jx_K jx_kI 264 lev 0 [(0, .ref 63), (1, .int x1)] [] m
noncomputable def f_M_rule_59 (x1 : Int32) (y0 : Int32) (m : jx_Mem) : Option (Int32 × jx_Mem) := jx_K jx_kI 265 0 59 [(0, .ref 63), (1, .int x1)] [.int y0] m
noncomputable def f_M_first_26  (m : jx_Mem) : Option (Int32 × jx_Mem) := jx_K jx_kI 270 0 26 [] [] m
noncomputable def f_M_right (x1 : Int32) (m : jx_Mem) : Option (Int32 × jx_Mem) := jx_K jx_kI 269 0 0 [(0, .ref 63), (1, .int x1)] [] m
noncomputable def f_M_first_84 (y0 : Int32) (m : jx_Mem) : Option (Int32 × jx_Mem) := jx_K jx_kI 270 0 84 [] [.int y0] m
noncomputable def f_M_order_16 (x1 : Int32) (x2 : Int32) (x3 : Int32) (m : jx_Mem) : Option (Int32 × jx_Mem) := jx_K jx_kI 271 0 16 [(0, .ref 63), (1, .int x1), (2, .int x2), (3, .int x3)] [] m
noncomputable def f_M_want_33  (m : jx_Mem) : Option (Int32 × jx_Mem) := jx_K jx_kI 273 0 33 [] [] m
noncomputable def f_M_item_42  (m : jx_Mem) : Option (Int32 × jx_Mem) := jx_K jx_kI 274 0 42 [] [] m
noncomputable def f_M_item_77 (x3 : Int32) (x4 : Int32) (m : jx_Mem) : Option (Int32 × jx_Mem) := jx_K jx_kI 274 0 77 [(0, .ref 63), (3, .int x3), (4, .int x4)] [] m
noncomputable def f_M_isItem (x1 : Int32) (m : jx_Mem) : Option (Int32 × jx_Mem) := jx_K jx_kI 272 0 0 [(0, .ref 63), (1, .int x1)] [] m
noncomputable def f_M_thing_II_25  (m : jx_Mem) : Option (Int32 × jx_Mem) := jx_K jx_kI 275 0 25 [(0, .ref 63)] [] m
noncomputable def f_M_flag (x0 : Int32) (m : jx_Mem) : Option (Int32 × jx_Mem) := jx_K jx_kI 218 0 0 [(0, .int x0)] [] m
noncomputable def f_M_thing_II_80 (y0 : Int32) (m : jx_Mem) : Option (Int32 × jx_Mem) := jx_K jx_kI 275 0 80 [] [.int y0] m
noncomputable def f_M_rounds_23 (x1 : Int32) (x2 : Int32) (x3 : Int32) (m : jx_Mem) : Option (Int32 × jx_Mem) := jx_K jx_kI 280 0 23 [(0, .ref 63), (1, .int x1), (2, .int x2), (3, .int x3)] [] m
noncomputable def f_M_settling  (m : jx_Mem) : Option (Int32 × jx_Mem) := jx_K jx_kI 283 0 0 [(0, .ref 63)] [] m
noncomputable def f_M_settles_12 (x1 : Int32) (x2 : Int32) (m : jx_Mem) : Option (Int32 × jx_Mem) := jx_K jx_kI 284 0 12 [(0, .ref 63), (1, .int x1), (2, .int x2)] [] m
noncomputable def f_M_buy_21  (m : jx_Mem) : Option (Int32 × jx_Mem) := jx_K jx_kI 285 0 21 [] [] m
noncomputable def f_M_buy_62  (m : jx_Mem) : Option (Int32 × jx_Mem) := jx_K jx_kI 285 0 62 [] [] m
noncomputable def f_M_counted_40  (m : jx_Mem) : Option (Int32 × jx_Mem) := jx_K jx_kI 288 0 40 [] [] m
noncomputable def f_M_isMinute (x0 : Int32) (m : jx_Mem) : Option (Int32 × jx_Mem) := jx_K jx_kI 287 0 0 [(0, .int x0)] [] m
noncomputable def f_M_been_50  (m : jx_Mem) : Option (Int32 × jx_Mem) := jx_K jx_kI 289 0 50 [] [] m
noncomputable def f_M_findsThefts (x1 : Int32) (m : jx_Mem) : Option jx_Mem := jx_K jx_kV 290 0 0 [(0, .ref 63), (1, .int x1)] [] m
noncomputable def f_M_missing_62  (m : jx_Mem) : Option (Int32 × jx_Mem) := jx_K jx_kI 291 0 62 [(0, .ref 63)] [] m
noncomputable def f_M_suspects_16  (m : jx_Mem) : Option (Int32 × jx_Mem) := jx_K jx_kI 293 0 16 [] [] m
noncomputable def f_M_suspects_53 (y0 : Int32) (m : jx_Mem) : Option (Int32 × jx_Mem) := jx_K jx_kI 293 0 53 [] [.int y0] m
noncomputable def f_M_there (x1 : Int32) (x2 : Int32) (x3 : Int32) (m : jx_Mem) : Option (Int32 × jx_Mem) := jx_K jx_kI 292 0 0 [(0, .ref 63), (1, .int x1), (2, .int x2), (3, .int x3)] [] m
noncomputable def f_M_gang_9 (x1 : Int32) (x2 : Int32) (m : jx_Mem) : Option (Int32 × jx_Mem) := jx_K jx_kI 295 0 9 [(0, .ref 63), (1, .int x1), (2, .int x2)] [] m
noncomputable def f_M_clink_40  (m : jx_Mem) : Option (Int32 × jx_Mem) := jx_K jx_kI 296 0 40 [] [] m
noncomputable def f_M_hands_7 (x1 : Int32) (m : jx_Mem) : Option (Int32 × jx_Mem) := jx_K jx_kI 298 0 7 [(0, .ref 63), (1, .int x1)] [] m
noncomputable def f_M_loud_21 (y0 : Int32) (m : jx_Mem) : Option (Int32 × jx_Mem) := jx_K jx_kI 301 0 21 [] [.int y0] m
noncomputable def f_M_loudAt (x1 : Int32) (m : jx_Mem) : Option (Int32 × jx_Mem) := jx_K jx_kI 300 0 0 [(0, .ref 63), (1, .int x1)] [] m
noncomputable def f_M_loudest_11 (x1 : Int32) (x2 : Int32) (x3 : Int32) (m : jx_Mem) : Option (Int32 × jx_Mem) := jx_K jx_kI 302 0 11 [(0, .ref 63), (1, .int x1), (2, .int x2), (3, .int x3)] [] m
noncomputable def f_M_heard_33  (m : jx_Mem) : Option (Int32 × jx_Mem) := jx_K jx_kI 303 0 33 [] [] m
noncomputable def f_M_crowds_29  (m : jx_Mem) : Option (Int32 × jx_Mem) := jx_K jx_kI 305 0 29 [] [] m
noncomputable def f_M_crowds_36 (x1 : Int32) (x2 : Int32) (x3 : Int32) (x4 : Int32) (m : jx_Mem) : Option (Int32 × jx_Mem) := jx_K jx_kI 305 0 36 [(0, .ref 63), (1, .int x1), (2, .int x2), (3, .int x3), (4, .int x4)] [] m
noncomputable def f_M_gas_48  (m : jx_Mem) : Option (Int32 × jx_Mem) := jx_K jx_kI 306 0 48 [] [] m
noncomputable def f_M_gas_28 (x1 : Int32) (x2 : Int32) (y0 : Int64) (y1 : Int64) (m : jx_Mem) : Option (Int32 × jx_Mem) := jx_K jx_kI 306 0 28 [(0, .ref 63), (1, .int x1), (2, .int x2)] [.long y0, .long y1] m
noncomputable def f_M_waysOut  (m : jx_Mem) : Option (Int32 × jx_Mem) := jx_K jx_kI 307 0 0 [(0, .ref 63)] [] m
noncomputable def f_M_lasts_35 (x1 : Int32) (x2 : Int32) (x3 : Int32) (m : jx_Mem) : Option (Int32 × jx_Mem) := jx_K jx_kI 308 0 35 [(0, .ref 63), (1, .int x1), (2, .int x2), (3, .int x3)] [] m
noncomputable def f_M_leave_32 (x1 : Int32) (x2 : Int32) (x3 : Int32) (y0 : Int32) (m : jx_Mem) : Option (Int32 × jx_Mem) := jx_K jx_kI 309 0 32 [(0, .ref 63), (1, .int x1), (2, .int x2), (3, .int x3)] [.int y0] m
noncomputable def f_M_ear_68  (m : jx_Mem) : Option (Int32 × jx_Mem) := jx_K jx_kI 310 0 68 [] [] m
noncomputable def f_M_sound_19  (m : jx_Mem) : Option (Int32 × jx_Mem) := jx_K jx_kI 315 0 19 [] [] m
noncomputable def f_M_sound_44 (x1 : Int32) (x2 : Int32) (x3 : Int32) (x4 : Int32) (x5 : Int32) (m : jx_Mem) : Option (Int32 × jx_Mem) := jx_K jx_kI 315 0 44 [(0, .ref 63), (1, .int x1), (2, .int x2), (3, .int x3), (4, .int x4), (5, .int x5)] [] m
noncomputable def f_M_judge_32  (m : jx_Mem) : Option (Int32 × jx_Mem) := jx_K jx_kI 316 0 32 [] [] m
noncomputable def f_M_areLate (x0 : Int32) (x1 : Int32) (m : jx_Mem) : Option (Int32 × jx_Mem) := jx_K jx_kI 313 0 0 [(0, .int x0), (1, .int x1)] [] m
noncomputable def f_M_judges (x1 : Int32) (x2 : Int32) (x3 : Int32) (x4 : Int32) (m : jx_Mem) : Option (Int32 × jx_Mem) := jx_K jx_kI 314 0 0 [(0, .ref 63), (1, .int x1), (2, .int x2), (3, .int x3), (4, .int x4)] [] m
noncomputable def f_M_judge_33 (y0 : Int32) (m : jx_Mem) : Option (Int32 × jx_Mem) := jx_K jx_kI 316 0 33 [] [.int y0] m
noncomputable def f_M_who_32  (m : jx_Mem) : Option (Int32 × jx_Mem) := jx_K jx_kI 317 0 32 [] [] m
noncomputable def f_M_who_33 (y0 : Int32) (m : jx_Mem) : Option (Int32 × jx_Mem) := jx_K jx_kI 317 0 33 [] [.int y0] m
noncomputable def f_M_lamp_55 (x1 : Int32) (x2 : Int32) (x3 : Int32) (m : jx_Mem) : Option (Int32 × jx_Mem) := jx_K jx_kI 318 0 55 [(0, .ref 63), (1, .int x1), (2, .int x2), (3, .int x3)] [] m
noncomputable def f_M_lamp_27 (x2 : Int32) (m : jx_Mem) : Option (Int32 × jx_Mem) := jx_K jx_kI 318 0 27 [(0, .ref 63), (2, .int x2)] [] m
noncomputable def f_M_purses  (m : jx_Mem) : Option (Int32 × jx_Mem) := jx_K jx_kI 320 0 0 [(0, .ref 63)] [] m
noncomputable def f_M_soldBits  (m : jx_Mem) : Option (Int32 × jx_Mem) := jx_K jx_kI 319 0 0 [(0, .ref 63)] [] m
noncomputable def f_Mine_addTunnel_21  (m : jx_Mem) : Option (Int32 × jx_Mem) := jx_K jx_kI 16 0 21 [] [] m
noncomputable def f_Mine_addTunnel_42  (m : jx_Mem) : Option (Int32 × jx_Mem) := jx_K jx_kI 16 0 42 [] [] m
noncomputable def f_Mine_addTunnel_47 (x1 : Int32) (x2 : Int32) (x3 : Int32) (x4 : Int32) (m : jx_Mem) : Option (Int32 × jx_Mem) := jx_K jx_kI 16 0 47 [(0, .ref 3), (1, .int x1), (2, .int x2), (3, .int x3), (4, .int x4)] [] m
noncomputable def f_Mine_setWall_18  (m : jx_Mem) : Option (Int32 × jx_Mem) := jx_K jx_kI 19 0 18 [] [] m
noncomputable def f_Mine_isPlace_14  (m : jx_Mem) : Option (Int32 × jx_Mem) := jx_K jx_kI 12 0 14 [] [] m
noncomputable def f_Mine_isPlace_15 (y0 : Int32) (m : jx_Mem) : Option (Int32 × jx_Mem) := jx_K jx_kI 12 0 15 [] [.int y0] m
noncomputable def f_Mine_distance_30  (m : jx_Mem) : Option (Int32 × jx_Mem) := jx_K jx_kI 17 0 30 [] [] m
noncomputable def f_Mine_distance_33 (y0 : Int32) (m : jx_Mem) : Option (Int32 × jx_Mem) := jx_K jx_kI 17 0 33 [] [.int y0] m
noncomputable def f_Mine_addPerson_29  (m : jx_Mem) : Option (Int32 × jx_Mem) := jx_K jx_kI 21 0 29 [] [] m
noncomputable def f_Mine_move_16  (m : jx_Mem) : Option (Int32 × jx_Mem) := jx_K jx_kI 22 0 16 [] [] m
noncomputable def f_Mine_isPerson_16  (m : jx_Mem) : Option (Int32 × jx_Mem) := jx_K jx_kI 13 0 16 [] [] m
noncomputable def f_Mine_isPerson_17 (y0 : Int32) (m : jx_Mem) : Option (Int32 × jx_Mem) := jx_K jx_kI 13 0 17 [] [.int y0] m
noncomputable def f_F_within_14  (m : jx_Mem) : Option (Int32 × jx_Mem) := jx_K jx_kI 212 0 14 [] [] m
noncomputable def f_F_within_15 (y0 : Int32) (m : jx_Mem) : Option (Int32 × jx_Mem) := jx_K jx_kI 212 0 15 [] [.int y0] m
noncomputable def f_Mine_loadOf_18 (y0 : Int32) (m : jx_Mem) : Option (Int32 × jx_Mem) := jx_K jx_kI 26 0 18 [] [.int y0] m
noncomputable def f_Mine_purseOf_18 (y0 : Int32) (m : jx_Mem) : Option (Int32 × jx_Mem) := jx_K jx_kI 24 0 18 [] [.int y0] m
noncomputable def f_Mine_placeOf_18 (y0 : Int32) (m : jx_Mem) : Option (Int32 × jx_Mem) := jx_K jx_kI 23 0 18 [] [.int y0] m
noncomputable def f_Goods_addGood_19  (m : jx_Mem) : Option (Int32 × jx_Mem) := jx_K jx_kI 38 0 19 [] [] m
noncomputable def f_Goods_addGood_33 (x2 : Int32) (m : jx_Mem) : Option (Int32 × jx_Mem) := jx_K jx_kI 38 0 33 [(0, .ref 9), (2, .int x2)] [] m
noncomputable def f_Goods_addTest_19  (m : jx_Mem) : Option (Int32 × jx_Mem) := jx_K jx_kI 39 0 19 [] [] m
noncomputable def f_Goods_setAnswer_26  (m : jx_Mem) : Option (Int32 × jx_Mem) := jx_K jx_kI 42 0 26 [] [] m
noncomputable def f_Goods_isTest (x1 : Int32) (m : jx_Mem) : Option (Int32 × jx_Mem) := jx_K jx_kI 35 0 0 [(0, .ref 9), (1, .int x1)] [] m
noncomputable def f_Goods_readSheet_23  (m : jx_Mem) : Option (Int32 × jx_Mem) := jx_K jx_kI 43 0 23 [] [] m
noncomputable def f_Goods_readSheet_37 (x1 : Int32) (x2 : Int32) (x3 : Int32) (x4 : Int32) (x5 : Int32) (m : jx_Mem) : Option (Int32 × jx_Mem) := jx_K jx_kI 43 0 37 [(0, .ref 9), (1, .int x1), (2, .int x2), (3, .int x3), (4, .int x4), (5, .int x5)] [] m
noncomputable def f_Goods_isGood_16  (m : jx_Mem) : Option (Int32 × jx_Mem) := jx_K jx_kI 34 0 16 [] [] m
noncomputable def f_Goods_isGood_17 (y0 : Int32) (m : jx_Mem) : Option (Int32 × jx_Mem) := jx_K jx_kI 34 0 17 [] [.int y0] m
noncomputable def f_Goods_unlike_5 (x1 : Int32) (x2 : Int32) (x3 : Int32) (x4 : Int32) (m : jx_Mem) : Option (Int32 × jx_Mem) := jx_K jx_kI 45 0 5 [(0, .ref 9), (1, .int x1), (2, .int x2), (3, .int x3), (4, .int x4)] [] m
noncomputable def f_Goods_areGoods_19  (m : jx_Mem) : Option (Int32 × jx_Mem) := jx_K jx_kI 36 0 19 [] [] m
noncomputable def f_Goods_areGoods_20 (y0 : Int32) (m : jx_Mem) : Option (Int32 × jx_Mem) := jx_K jx_kI 36 0 20 [] [.int y0] m
noncomputable def f_Goods_areTests_18  (m : jx_Mem) : Option (Int32 × jx_Mem) := jx_K jx_kI 37 0 18 [] [] m
noncomputable def f_Goods_areTests_19 (y0 : Int32) (m : jx_Mem) : Option (Int32 × jx_Mem) := jx_K jx_kI 37 0 19 [] [.int y0] m
noncomputable def f_Goods_toldBy_5 (x1 : Int32) (x2 : Int32) (x3 : Int32) (x4 : Int32) (m : jx_Mem) : Option (Int32 × jx_Mem) := jx_K jx_kI 50 0 5 [(0, .ref 9), (1, .int x1), (2, .int x2), (3, .int x3), (4, .int x4)] [] m
noncomputable def f_Row_clear  (m : jx_Mem) : Option jx_Mem := jx_K jx_kV 3 0 0 [(0, .ref 1)] [] m
noncomputable def f_Row_add (x1 : Int64) (m : jx_Mem) : Option jx_Mem := jx_K jx_kV 4 0 0 [(0, .ref 1), (1, .long x1)] [] m
noncomputable def f_Goods_fewestTests_4 (x1 : Int32) (x2 : Int32) (x3 : Int32) (m : jx_Mem) : Option (Int32 × jx_Mem) := jx_K jx_kI 51 0 4 [(0, .ref 9), (1, .int x1), (2, .int x2), (3, .int x3)] [] m
noncomputable def f_Goods_toBan_5 (x1 : Int32) (x2 : Int32) (x3 : Int32) (x4 : Int32) (m : jx_Mem) : Option (Int32 × jx_Mem) := jx_K jx_kI 54 0 5 [(0, .ref 9), (1, .int x1), (2, .int x2), (3, .int x3), (4, .int x4)] [] m
noncomputable def f_Arr_fill_r15 (x1 : Int32) (m : jx_Mem) : Option jx_Mem := jx_K jx_kV 2 0 0 [(0, .ref 15), (1, .int x1)] [] m
noncomputable def f_Tree_least (lev : Nat) (x1 : Int32) (x2 : Int32) (m : jx_Mem) : Option (Int32 × jx_Mem) := jx_K jx_kI 58 lev 0 [(0, .ref 14), (1, .int x1), (2, .int x2)] [] m
noncomputable def f_Tree_isSet (x0 : Int32) (m : jx_Mem) : Option (Int32 × jx_Mem) := jx_K jx_kI 57 0 0 [(0, .int x0)] [] m
noncomputable def f_Tree_firstTest_26  (m : jx_Mem) : Option (Int32 × jx_Mem) := jx_K jx_kI 60 0 26 [] [] m
noncomputable def f_Tree_firstTest_27 (y0 : Int32) (m : jx_Mem) : Option (Int32 × jx_Mem) := jx_K jx_kI 60 0 27 [] [.int y0] m
noncomputable def f_Tree_dearest_4 (x1 : Int32) (x2 : Int32) (x3 : Int32) (m : jx_Mem) : Option (Int32 × jx_Mem) := jx_K jx_kI 61 0 4 [(0, .ref 14), (1, .int x1), (2, .int x2), (3, .int x3)] [] m
noncomputable def f_Arr_fill_r17 (x1 : Int32) (m : jx_Mem) : Option jx_Mem := jx_K jx_kV 2 0 0 [(0, .ref 17), (1, .int x1)] [] m
noncomputable def f_Tree_mostTold (lev : Nat) (x1 : Int32) (x2 : Int32) (x3 : Int32) (m : jx_Mem) : Option (Int32 × jx_Mem) := jx_K jx_kI 65 lev 0 [(0, .ref 14), (1, .int x1), (2, .int x2), (3, .int x3)] [] m
noncomputable def f_F_has_13 (y0 : Int32) (m : jx_Mem) : Option (Int32 × jx_Mem) := jx_K jx_kI 213 0 13 [] [.int y0] m
noncomputable def f_Tree_tellPath_10 (x2 : Int32) (x4 : Int32) (x5 : Int32) (m : jx_Mem) : Option (Int32 × jx_Mem) := jx_K jx_kI 63 0 10 [(0, .ref 14), (2, .int x2), (3, .ref 1), (4, .int x4), (5, .int x5)] [] m
noncomputable def f_Rule_append_16 (x1 : Int32) (x2 : Int32) (m : jx_Mem) : Option (Int32 × jx_Mem) := jx_K jx_kI 69 0 16 [(0, .ref 18), (1, .int x1), (2, .int x2)] [] m
noncomputable def f_Rule_cut_12  (m : jx_Mem) : Option (Int32 × jx_Mem) := jx_K jx_kI 70 0 12 [] [] m
noncomputable def f_Rule_startDraft  (m : jx_Mem) : Option jx_Mem := jx_K jx_kV 72 0 0 [(0, .ref 18)] [] m
noncomputable def f_Rule_read_27 (x1 : Int32) (x2 : Int32) (m : jx_Mem) : Option (Int32 × jx_Mem) := jx_K jx_kI 71 0 27 [(0, .ref 18), (1, .int x1), (2, .int x2)] [] m
noncomputable def f_Rule_valueFor_4 (x1 : Int32) (x2 : Int32) (x3 : Int32) (m : jx_Mem) : Option (Int32 × jx_Mem) := jx_K jx_kI 85 0 4 [(0, .ref 18), (1, .int x1), (2, .int x2), (3, .int x3)] [] m
noncomputable def f_Rule_tellOrder_10 (x2 : Int32) (x3 : Int32) (m : jx_Mem) : Option (Int32 × jx_Mem) := jx_K jx_kI 90 0 10 [(0, .ref 18), (1, .ref 1), (2, .int x2), (3, .int x3)] [] m
noncomputable def f_Asking_wantsOf (x1 : Int32) (x2 : Int32) (m : jx_Mem) : Option (Int32 × jx_Mem) := jx_K jx_kI 106 0 0 [(0, .ref 33), (1, .int x1), (2, .int x2)] [] m
noncomputable def f_Asking_setWants_41 (x4 : Int32) (m : jx_Mem) : Option (Int32 × jx_Mem) := jx_K jx_kI 105 0 41 [(4, .int x4)] [] m
noncomputable def f_Asking_startPrice_14 (x1 : Int32) (x2 : Int32) (x3 : Int32) (m : jx_Mem) : Option jx_Mem := jx_K jx_kV 108 0 14 [(0, .ref 33), (1, .int x1), (2, .int x2), (3, .int x3)] [] m
noncomputable def f_Items_isItem_16  (m : jx_Mem) : Option (Int32 × jx_Mem) := jx_K jx_kI 96 0 16 [] [] m
noncomputable def f_Items_isItem_17 (y0 : Int32) (m : jx_Mem) : Option (Int32 × jx_Mem) := jx_K jx_kI 96 0 17 [] [.int y0] m
noncomputable def f_Items_isSold_23  (m : jx_Mem) : Option (Int32 × jx_Mem) := jx_K jx_kI 97 0 23 [] [] m
noncomputable def f_Items_isSold_24 (y0 : Int32) (m : jx_Mem) : Option (Int32 × jx_Mem) := jx_K jx_kI 97 0 24 [] [.int y0] m
noncomputable def f_Asking_priceOf_24 (y0 : Int32) (m : jx_Mem) : Option (Int32 × jx_Mem) := jx_K jx_kI 109 0 24 [] [.int y0] m
noncomputable def f_Items_ownerOf_18 (y0 : Int32) (m : jx_Mem) : Option (Int32 × jx_Mem) := jx_K jx_kI 99 0 18 [] [.int y0] m
noncomputable def f_Items_goodOf_18 (y0 : Int32) (m : jx_Mem) : Option (Int32 × jx_Mem) := jx_K jx_kI 98 0 18 [] [.int y0] m
noncomputable def f_Asking_findLates  (m : jx_Mem) : Option jx_Mem := jx_K jx_kV 114 0 0 [(0, .ref 33)] [] m
noncomputable def f_Arr_fill_r37 (x1 : Int32) (m : jx_Mem) : Option jx_Mem := jx_K jx_kV 2 0 0 [(0, .ref 37), (1, .int x1)] [] m
noncomputable def f_Asking_askOn_29 (x1 : Int32) (x2 : Int32) (x3 : Int32) (m : jx_Mem) : Option (Int32 × jx_Mem) := jx_K jx_kI 110 0 29 [(0, .ref 33), (1, .int x1), (2, .int x2), (3, .int x3)] [] m
noncomputable def f_Asking_tellAskers_6 (x2 : Int32) (m : jx_Mem) : Option jx_Mem := jx_K jx_kV 111 0 6 [(0, .ref 33), (1, .ref 1), (2, .int x2)] [] m
noncomputable def f_Asking_foresee_6 (x1 : Int32) (m : jx_Mem) : Option (Int32 × jx_Mem) := jx_K jx_kI 112 0 6 [(0, .ref 33), (1, .int x1)] [] m
noncomputable def f_Items_sell_19  (m : jx_Mem) : Option (Int32 × jx_Mem) := jx_K jx_kI 102 0 19 [] [] m
noncomputable def f_Items_sell_58  (m : jx_Mem) : Option (Int32 × jx_Mem) := jx_K jx_kI 102 0 58 [] [] m
noncomputable def f_Mine_joined (x1 : Int32) (x2 : Int32) (m : jx_Mem) : Option (Int32 × jx_Mem) := jx_K jx_kI 18 0 0 [(0, .ref 3), (1, .int x1), (2, .int x2)] [] m
noncomputable def f_Items_note (x1 : Int32) (x2 : Int32) (x3 : Int32) (m : jx_Mem) : Option jx_Mem := jx_K jx_kV 103 0 0 [(0, .ref 26), (1, .int x1), (2, .int x2), (3, .int x3)] [] m
noncomputable def f_Mine_setPurse (x1 : Int32) (x2 : Int32) (m : jx_Mem) : Option jx_Mem := jx_K jx_kV 25 0 0 [(0, .ref 3), (1, .int x1), (2, .int x2)] [] m
noncomputable def f_Watch_addCount_32  (m : jx_Mem) : Option (Int32 × jx_Mem) := jx_K jx_kI 121 0 32 [] [] m
noncomputable def f_Watch_addCount_51 (x1 : Int32) (x2 : Int32) (x3 : Int32) (x4 : Int32) (m : jx_Mem) : Option (Int32 × jx_Mem) := jx_K jx_kI 121 0 51 [(0, .ref 38), (1, .int x1), (2, .int x2), (3, .int x3), (4, .int x4)] [] m
noncomputable def f_Watch_addStay_31  (m : jx_Mem) : Option (Int32 × jx_Mem) := jx_K jx_kI 122 0 31 [] [] m
noncomputable def f_Watch_addStay_56  (m : jx_Mem) : Option (Int32 × jx_Mem) := jx_K jx_kI 122 0 56 [] [] m
noncomputable def f_Watch_tellThefts_11 (x1 : Int32) (x3 : Int32) (x4 : Int32) (x5 : Int32) (x6 : Int32) (m : jx_Mem) : Option (Int32 × jx_Mem) := jx_K jx_kI 126 0 11 [(0, .ref 38), (1, .int x1), (2, .ref 1), (3, .int x3), (4, .int x4), (5, .int x5), (6, .int x6)] [] m
noncomputable def f_Watch_suspectsOf_5 (x1 : Int32) (x2 : Int32) (x3 : Int32) (x4 : Int32) (m : jx_Mem) : Option (Int32 × jx_Mem) := jx_K jx_kI 127 0 5 [(0, .ref 38), (1, .int x1), (2, .int x2), (3, .int x3), (4, .int x4)] [] m
noncomputable def f_Watch_smallestGang_4 (x1 : Int32) (x2 : Int32) (m : jx_Mem) : Option (Int32 × jx_Mem) := jx_K jx_kI 130 0 4 [(0, .ref 38), (1, .int x1), (2, .int x2)] [] m
noncomputable def f_Watch_addClink_32  (m : jx_Mem) : Option (Int32 × jx_Mem) := jx_K jx_kI 123 0 32 [] [] m
noncomputable def f_Watch_tellHands_27 (x2 : Int32) (x3 : Int32) (x4 : Int32) (m : jx_Mem) : Option (Int32 × jx_Mem) := jx_K jx_kI 132 0 27 [(0, .ref 38), (1, .ref 1), (2, .int x2), (3, .int x3), (4, .int x4)] [] m
noncomputable def f_Noise_loudAt_4 (x1 : Int32) (x2 : Int32) (x3 : Int32) (m : jx_Mem) : Option (Int32 × jx_Mem) := jx_K jx_kI 139 0 4 [(0, .ref 52), (1, .int x1), (2, .int x2), (3, .int x3)] [] m
noncomputable def f_Noise_tellLoudest_14 (x2 : Int32) (x3 : Int32) (x4 : Int32) (x5 : Int32) (m : jx_Mem) : Option (Int32 × jx_Mem) := jx_K jx_kI 140 0 14 [(0, .ref 52), (1, .ref 1), (2, .int x2), (3, .int x3), (4, .int x4), (5, .int x5)] [] m
noncomputable def f_Noise_addHeard_31  (m : jx_Mem) : Option (Int32 × jx_Mem) := jx_K jx_kI 141 0 31 [] [] m
noncomputable def f_Arr_fill_r57 (x1 : Int32) (m : jx_Mem) : Option jx_Mem := jx_K jx_kV 2 0 0 [(0, .ref 57), (1, .int x1)] [] m
noncomputable def f_Noise_findRests  (m : jx_Mem) : Option jx_Mem := jx_K jx_kV 143 0 0 [(0, .ref 52)] [] m
noncomputable def f_Noise_fill (lev : Nat) (x1 : Int32) (m : jx_Mem) : Option (Int32 × jx_Mem) := jx_K jx_kI 144 lev 0 [(0, .ref 52), (1, .int x1)] [] m
noncomputable def f_Noise_tellCrowds_50 (x4 : Int32) (x5 : Int32) (m : jx_Mem) : Option (Int32 × jx_Mem) := jx_K jx_kI 142 0 50 [(0, .ref 52), (3, .ref 1), (4, .int x4), (5, .int x5)] [] m
noncomputable def f_Air_set_30 (x1 : Int32) (x2 : Int32) (x3 : Int32) (m : jx_Mem) : Option (Int32 × jx_Mem) := jx_K jx_kI 148 0 30 [(0, .ref 59), (1, .int x1), (2, .int x2), (3, .int x3)] [] m
noncomputable def f_Air_set_113 (x3 : Int32) (m : jx_Mem) : Option (Int32 × jx_Mem) := jx_K jx_kI 148 0 113 [(3, .int x3)] [] m
noncomputable def f_Air_stay_20 (x1 : Int32) (x2 : Int32) (x3 : Int32) (m : jx_Mem) : Option (Int32 × jx_Mem) := jx_K jx_kI 150 0 20 [(0, .ref 59), (1, .int x1), (2, .int x2), (3, .int x3)] [] m
noncomputable def f_Air_tellLeaving_23 (x2 : Int32) (x3 : Int32) (x4 : Int32) (x5 : Int32) (m : jx_Mem) : Option (Int32 × jx_Mem) := jx_K jx_kI 151 0 23 [(0, .ref 59), (1, .ref 1), (2, .int x2), (3, .int x3), (4, .int x4), (5, .int x5)] [] m
noncomputable def f_Ears_setChance_19  (m : jx_Mem) : Option (Int32 × jx_Mem) := jx_K jx_kI 153 0 19 [] [] m
noncomputable def f_Ears_setChance_26 (x1 : Int32) (x2 : Int32) (x3 : Int32) (x4 : Int32) (m : jx_Mem) : Option (Int32 × jx_Mem) := jx_K jx_kI 153 0 26 [(0, .ref 60), (1, .int x1), (2, .int x2), (3, .int x3), (4, .int x4)] [] m
noncomputable def f_Ears_tellSound_22  (m : jx_Mem) : Option (Int32 × jx_Mem) := jx_K jx_kI 155 0 22 [] [] m
noncomputable def f_Ears_tellSound_52 (x1 : Int32) (x2 : Int32) (x4 : Int32) (x5 : Int32) (x6 : Int32) (m : jx_Mem) : Option (Int32 × jx_Mem) := jx_K jx_kI 155 0 52 [(0, .ref 60), (1, .int x1), (2, .int x2), (3, .ref 1), (4, .int x4), (5, .int x5), (6, .int x6)] [] m
noncomputable def f_Ears_canHear_26  (m : jx_Mem) : Option (Int32 × jx_Mem) := jx_K jx_kI 154 0 26 [] [] m
noncomputable def f_Ears_canHear_27 (y0 : Int32) (m : jx_Mem) : Option (Int32 × jx_Mem) := jx_K jx_kI 154 0 27 [] [.int y0] m
noncomputable def f_Ears_tellPlace_3 (x1 : Int32) (x2 : Int32) (x3 : Int32) (x5 : Int32) (m : jx_Mem) : Option (Int32 × jx_Mem) := jx_K jx_kI 158 0 3 [(0, .ref 60), (1, .int x1), (2, .int x2), (3, .int x3), (4, .ref 1), (5, .int x5)] [] m
noncomputable def f_Ears_tellClapper_17 (x1 : Int32) (x2 : Int32) (x3 : Int32) (x5 : Int32) (x6 : Int32) (m : jx_Mem) : Option (Int32 × jx_Mem) := jx_K jx_kI 159 0 17 [(0, .ref 60), (1, .int x1), (2, .int x2), (3, .int x3), (4, .ref 1), (5, .int x5), (6, .int x6)] [] m
noncomputable def f_Air_burns_16 (y0 : Int32) (m : jx_Mem) : Option (Int32 × jx_Mem) := jx_K jx_kI 149 0 16 [] [.int y0] m
noncomputable def f_Mine_peopleNear_5 (x1 : Int32) (x2 : Int32) (x3 : Int32) (x4 : Int32) (m : jx_Mem) : Option (Int32 × jx_Mem) := jx_K jx_kI 29 0 5 [(0, .ref 3), (1, .int x1), (2, .int x2), (3, .int x3), (4, .int x4)] [] m
noncomputable def f_Items_ownedBy_4 (x1 : Int32) (x2 : Int32) (x3 : Int32) (m : jx_Mem) : Option (Int32 × jx_Mem) := jx_K jx_kI 101 0 4 [(0, .ref 26), (1, .int x1), (2, .int x2), (3, .int x3)] [] m
noncomputable def f_Asking_wantedByTwo_5 (x1 : Int32) (x2 : Int32) (x3 : Int32) (x4 : Int32) (m : jx_Mem) : Option (Int32 × jx_Mem) := jx_K jx_kI 119 0 5 [(0, .ref 33), (1, .int x1), (2, .int x2), (3, .int x3), (4, .int x4)] [] m
noncomputable def f_Arr_fill_r7 (x1 : Int32) (m : jx_Mem) : Option jx_Mem := jx_K jx_kV 2 0 0 [(0, .ref 7), (1, .int x1)] [] m
noncomputable def f_Mine_allPurses_4 (x1 : Int32) (x2 : Int32) (m : jx_Mem) : Option (Int32 × jx_Mem) := jx_K jx_kI 31 0 4 [(0, .ref 3), (1, .int x1), (2, .int x2)] [] m
noncomputable def f_Row_holds_16  (m : jx_Mem) : Option (Int32 × jx_Mem) := jx_K jx_kI 9 0 16 [] [] m
noncomputable def f_Row_holds_17 (y0 : Int32) (m : jx_Mem) : Option (Int32 × jx_Mem) := jx_K jx_kI 9 0 17 [] [.int y0] m
noncomputable def f_Row_get_18 (y0 : Int64) (m : jx_Mem) : Option (Int64 × jx_Mem) := jx_K jx_kL 10 0 18 [] [.long y0] m
noncomputable def f_M_in_17  (m : jx_Mem) : Option (Int32 × jx_Mem) := jx_K jx_kI 216 0 17 [] [] m
noncomputable def f_M_in_18 (y0 : Int32) (m : jx_Mem) : Option (Int32 × jx_Mem) := jx_K jx_kI 216 0 18 [] [.int y0] m
noncomputable def f_M_shortens_39  (m : jx_Mem) : Option jx_Mem := jx_K jx_kV 225 0 39 [] [] m
noncomputable def f_M_tunnel_67 (x4 : Int32) (x5 : Int32) (m : jx_Mem) : Option (Int32 × jx_Mem) := jx_K jx_kI 226 0 67 [(0, .ref 63), (4, .int x4), (5, .int x5)] [] m
noncomputable def f_M_farOf_40 (y0 : Int32) (m : jx_Mem) : Option (Int32 × jx_Mem) := jx_K jx_kI 224 0 40 [] [.int y0] m
noncomputable def f_M_refuse  (m : jx_Mem) : Option (Int32 × jx_Mem) := jx_K jx_kI 215 0 0 [(0, .ref 63)] [] m
noncomputable def f_M_sheet_55 (x1 : Int32) (x2 : Int32) (x3 : Int32) (x5 : Int32) (x6 : Int32) (x7 : Int32) (x8 : Int32) (m : jx_Mem) : Option (Int32 × jx_Mem) := jx_K jx_kI 240 0 55 [(0, .ref 63), (1, .int x1), (2, .int x2), (3, .int x3), (5, .int x5), (6, .int x6), (7, .int x7), (8, .int x8)] [] m
noncomputable def f_M_partedBy_5 (x1 : Int32) (x2 : Int32) (x3 : Int32) (x4 : Int32) (m : jx_Mem) : Option (Int32 × jx_Mem) := jx_K jx_kI 241 0 5 [(0, .ref 63), (1, .int x1), (2, .int x2), (3, .int x3), (4, .int x4)] [] m
noncomputable def f_M_mixed_5 (x1 : Int32) (x2 : Int32) (x3 : Int32) (x4 : Int32) (m : jx_Mem) : Option (Int32 × jx_Mem) := jx_K jx_kI 244 0 5 [(0, .ref 63), (1, .int x1), (2, .int x2), (3, .int x3), (4, .int x4)] [] m
noncomputable def f_M_keep_55 (x1 : Int32) (x2 : Int32) (x3 : Int32) (m : jx_Mem) : Option (Int32 × jx_Mem) := jx_K jx_kI 248 0 55 [(0, .ref 63), (1, .int x1), (2, .int x2), (3, .int x3)] [] m
noncomputable def f_M_isBetter_r71 (x1 : Int32) (x2 : Int32) (m : jx_Mem) : Option (Int32 × jx_Mem) := jx_K jx_kI 247 0 0 [(0, .ref 63), (1, .int x1), (2, .int x2), (3, .ref 71)] [] m
noncomputable def f_M_keep_56 (x1 : Int32) (x3 : Int32) (y0 : Int32) (m : jx_Mem) : Option (Int32 × jx_Mem) := jx_K jx_kI 248 0 56 [(0, .ref 63), (1, .int x1), (3, .int x3)] [.int y0] m
noncomputable def f_M_ban_61 (x1 : Int32) (x2 : Int32) (x3 : Int32) (x4 : Int32) (m : jx_Mem) : Option (Int32 × jx_Mem) := jx_K jx_kI 249 0 61 [(0, .ref 63), (1, .int x1), (2, .int x2), (3, .int x3), (4, .int x4)] [] m
noncomputable def f_M_ban_62 (x1 : Int32) (x2 : Int32) (x3 : Int32) (x4 : Int32) (y0 : Int32) (m : jx_Mem) : Option (Int32 × jx_Mem) := jx_K jx_kI 249 0 62 [(0, .ref 63), (1, .int x1), (2, .int x2), (3, .int x3), (4, .int x4)] [.int y0] m
noncomputable def f_M_trees_2 (x1 : Int32) (x2 : Int32) (m : jx_Mem) : Option jx_Mem := jx_K jx_kV 252 0 2 [(0, .ref 63), (1, .int x1), (2, .int x2)] [] m
noncomputable def f_M_copper_46 (x1 : Int32) (x3 : Int32) (x4 : Int32) (x5 : Int32) (m : jx_Mem) : Option (Int32 × jx_Mem) := jx_K jx_kI 255 0 46 [(0, .ref 63), (1, .int x1), (3, .int x3), (4, .int x4), (5, .int x5)] [] m
noncomputable def f_M_has_14 (y0 : Int32) (m : jx_Mem) : Option (Int32 × jx_Mem) := jx_K jx_kI 217 0 14 [] [.int y0] m
noncomputable def f_M_partOf (x1 : Int32) (x2 : Int32) (x3 : Int32) (m : jx_Mem) : Option (Int32 × jx_Mem) := jx_K jx_kI 250 0 0 [(0, .ref 63), (1, .int x1), (2, .int x2), (3, .int x3)] [] m
noncomputable def f_M_ranked_51_r908 (lev : Nat) (x1 : Int32) (m : jx_Mem) : Option (Int32 × jx_Mem) := jx_K jx_kI 264 lev 51 [(0, .ref 63), (1, .int x1)] [.ref 908] m
noncomputable def f_M_ranked_51_r907 (lev : Nat) (x1 : Int32) (m : jx_Mem) : Option (Int32 × jx_Mem) := jx_K jx_kI 264 lev 51 [(0, .ref 63), (1, .int x1)] [.ref 907] m
noncomputable def f_M_ranked_51_r906 (lev : Nat) (x1 : Int32) (m : jx_Mem) : Option (Int32 × jx_Mem) := jx_K jx_kI 264 lev 51 [(0, .ref 63), (1, .int x1)] [.ref 906] m
noncomputable def f_M_ranked_51_r905 (lev : Nat) (x1 : Int32) (m : jx_Mem) : Option (Int32 × jx_Mem) := jx_K jx_kI 264 lev 51 [(0, .ref 63), (1, .int x1)] [.ref 905] m
noncomputable def f_M_ranked_51_r904 (lev : Nat) (x1 : Int32) (m : jx_Mem) : Option (Int32 × jx_Mem) := jx_K jx_kI 264 lev 51 [(0, .ref 63), (1, .int x1)] [.ref 904] m
noncomputable def f_M_ahead (lev : Nat)  (m : jx_Mem) : Option (Int32 × jx_Mem) := jx_K jx_kI 263 lev 0 [(0, .ref 63)] [] m
noncomputable def f_M_rule_79 (x1 : Int32) (m : jx_Mem) : Option (Int32 × jx_Mem) := jx_K jx_kI 265 0 79 [(0, .ref 63), (1, .int x1)] [] m
noncomputable def f_M_rule_80 (x1 : Int32) (y0 : Int32) (m : jx_Mem) : Option (Int32 × jx_Mem) := jx_K jx_kI 265 0 80 [(0, .ref 63), (1, .int x1)] [.int y0] m
noncomputable def f_M_right_15 (x1 : Int32) (x2 : Int32) (x3 : Int32) (m : jx_Mem) : Option (Int32 × jx_Mem) := jx_K jx_kI 269 0 15 [(0, .ref 63), (1, .int x1), (2, .int x2), (3, .int x3)] [] m
noncomputable def f_M_order_30 (x1 : Int32) (x2 : Int32) (x3 : Int32) (x4 : Int32) (x5 : Int32) (m : jx_Mem) : Option (Int32 × jx_Mem) := jx_K jx_kI 271 0 30 [(0, .ref 63), (1, .int x1), (2, .int x2), (3, .int x3), (4, .int x4), (5, .int x5)] [] m
noncomputable def f_M_flag_9 (y0 : Int32) (m : jx_Mem) : Option (Int32 × jx_Mem) := jx_K jx_kI 218 0 9 [] [.int y0] m
noncomputable def f_M_rounds_46 (x1 : Int32) (x2 : Int32) (x3 : Int32) (m : jx_Mem) : Option (Int32 × jx_Mem) := jx_K jx_kI 280 0 46 [(0, .ref 63), (1, .int x1), (2, .int x2), (3, .int x3)] [] m
noncomputable def f_M_lays (x1 : Int32) (m : jx_Mem) : Option jx_Mem := jx_K jx_kV 281 0 0 [(0, .ref 63), (1, .int x1)] [] m
noncomputable def f_M_settling_7 (x1 : Int32) (m : jx_Mem) : Option (Int32 × jx_Mem) := jx_K jx_kI 283 0 7 [(0, .ref 63), (1, .int x1)] [] m
noncomputable def f_M_findsThefts_4 (x1 : Int32) (x2 : Int32) (x3 : Int32) (m : jx_Mem) : Option jx_Mem := jx_K jx_kV 290 0 4 [(0, .ref 63), (1, .int x1), (2, .int x2), (3, .int x3)] [] m
noncomputable def f_M_there_6 (x1 : Int32) (x2 : Int32) (x3 : Int32) (x4 : Int32) (x5 : Int32) (m : jx_Mem) : Option (Int32 × jx_Mem) := jx_K jx_kI 292 0 6 [(0, .ref 63), (1, .int x1), (2, .int x2), (3, .int x3), (4, .int x4), (5, .int x5)] [] m
noncomputable def f_M_gang_34 (x1 : Int32) (x2 : Int32) (m : jx_Mem) : Option (Int32 × jx_Mem) := jx_K jx_kI 295 0 34 [(0, .ref 63), (1, .int x1), (2, .int x2)] [] m
noncomputable def f_M_gang_44 (x1 : Int32) (x2 : Int32) (m : jx_Mem) : Option (Int32 × jx_Mem) := jx_K jx_kI 295 0 44 [(0, .ref 63), (1, .int x1), (2, .int x2)] [] m
noncomputable def f_M_gives (lev : Nat) (x1 : Int32) (m : jx_Mem) : Option (Int32 × jx_Mem) := jx_K jx_kI 297 lev 0 [(0, .ref 63), (1, .int x1)] [] m
noncomputable def f_M_hands_41 (x1 : Int32) (x2 : Int32) (m : jx_Mem) : Option (Int32 × jx_Mem) := jx_K jx_kI 298 0 41 [(0, .ref 63), (1, .int x1), (2, .int x2)] [] m
noncomputable def f_M_loudAt_4 (x1 : Int32) (x2 : Int32) (x3 : Int32) (m : jx_Mem) : Option (Int32 × jx_Mem) := jx_K jx_kI 300 0 4 [(0, .ref 63), (1, .int x1), (2, .int x2), (3, .int x3)] [] m
noncomputable def f_M_loudest_38 (x1 : Int32) (x3 : Int32) (x4 : Int32) (m : jx_Mem) : Option (Int32 × jx_Mem) := jx_K jx_kI 302 0 38 [(0, .ref 63), (1, .int x1), (3, .int x3), (4, .int x4)] [] m
noncomputable def f_M_loudest_59 (x1 : Int32) (x3 : Int32) (x4 : Int32) (y0 : Int32) (m : jx_Mem) : Option (Int32 × jx_Mem) := jx_K jx_kI 302 0 59 [(0, .ref 63), (1, .int x1), (3, .int x3), (4, .int x4)] [.int y0] m
noncomputable def f_M_crowds_63 (x1 : Int32) (x2 : Int32) (x3 : Int32) (x4 : Int32) (x5 : Int32) (m : jx_Mem) : Option (Int32 × jx_Mem) := jx_K jx_kI 305 0 63 [(0, .ref 63), (1, .int x1), (2, .int x2), (3, .int x3), (4, .int x4), (5, .int x5)] [] m
noncomputable def f_M_gas_42 (x1 : Int32) (x2 : Int32) (y0 : Int64) (y1 : Int64) (y2 : Int64) (m : jx_Mem) : Option (Int32 × jx_Mem) := jx_K jx_kI 306 0 42 [(0, .ref 63), (1, .int x1), (2, .int x2)] [.long y0, .long y1, .long y2] m
noncomputable def f_M_waysOut_4 (x1 : Int32) (x2 : Int32) (m : jx_Mem) : Option (Int32 × jx_Mem) := jx_K jx_kI 307 0 4 [(0, .ref 63), (1, .int x1), (2, .int x2)] [] m
noncomputable def f_M_lasts_74 (x1 : Int32) (x2 : Int32) (x3 : Int32) (x4 : Int32) (m : jx_Mem) : Option (Int32 × jx_Mem) := jx_K jx_kI 308 0 74 [(0, .ref 63), (1, .int x1), (2, .int x2), (3, .int x3), (4, .int x4)] [] m
noncomputable def f_M_leave_34 (x1 : Int32) (x2 : Int32) (x3 : Int32) (x4 : Int32) (m : jx_Mem) : Option (Int32 × jx_Mem) := jx_K jx_kI 309 0 34 [(0, .ref 63), (1, .int x1), (2, .int x2), (3, .int x3), (4, .int x4)] [] m
noncomputable def f_M_sound_87 (x1 : Int32) (x2 : Int32) (x3 : Int32) (x5 : Int32) (y0 : Int32) (m : jx_Mem) : Option (Int32 × jx_Mem) := jx_K jx_kI 315 0 87 [(0, .ref 63), (1, .int x1), (2, .int x2), (3, .int x3), (5, .int x5)] [.int y0] m
noncomputable def f_M_sound_88 (x1 : Int32) (x2 : Int32) (x3 : Int32) (x5 : Int32) (y0 : Int32) (y1 : Int32) (m : jx_Mem) : Option (Int32 × jx_Mem) := jx_K jx_kI 315 0 88 [(0, .ref 63), (1, .int x1), (2, .int x2), (3, .int x3), (5, .int x5)] [.int y0, .int y1] m
noncomputable def f_M_areLate_28  (m : jx_Mem) : Option (Int32 × jx_Mem) := jx_K jx_kI 313 0 28 [] [] m
noncomputable def f_M_areLate_29 (y0 : Int32) (m : jx_Mem) : Option (Int32 × jx_Mem) := jx_K jx_kI 313 0 29 [] [.int y0] m
noncomputable def f_M_judges_24 (x1 : Int32) (x2 : Int32) (x3 : Int32) (x4 : Int32) (x5 : Int32) (x6 : Int32) (x7 : Int32) (y0 : Int32) (m : jx_Mem) : Option (Int32 × jx_Mem) := jx_K jx_kI 314 0 24 [(0, .ref 63), (1, .int x1), (2, .int x2), (3, .int x3), (4, .int x4), (5, .int x5), (6, .int x6), (7, .int x7)] [.int y0] m
noncomputable def f_M_lamp_103 (x2 : Int32) (x3 : Int32) (x4 : Int32) (x5 : Int32) (m : jx_Mem) : Option (Int32 × jx_Mem) := jx_K jx_kI 318 0 103 [(0, .ref 63), (2, .int x2), (3, .int x3), (4, .int x4), (5, .int x5)] [] m
noncomputable def f_M_lamp_87 (x1 : Int32) (x3 : Int32) (y0 : Int32) (y1 : Int32) (m : jx_Mem) : Option (Int32 × jx_Mem) := jx_K jx_kI 318 0 87 [(0, .ref 63), (1, .int x1), (3, .int x3)] [.int y0, .int y1] m
noncomputable def f_M_purses_4 (x1 : Int32) (x2 : Int32) (m : jx_Mem) : Option (Int32 × jx_Mem) := jx_K jx_kI 320 0 4 [(0, .ref 63), (1, .int x1), (2, .int x2)] [] m
noncomputable def f_M_soldBits_4 (x1 : Int32) (x2 : Int32) (m : jx_Mem) : Option (Int32 × jx_Mem) := jx_K jx_kI 319 0 4 [(0, .ref 63), (1, .int x1), (2, .int x2)] [] m
noncomputable def f_Mine_addTunnel_57 (x1 : Int32) (x2 : Int32) (x3 : Int32) (x4 : Int32) (x5 : Int32) (m : jx_Mem) : Option (Int32 × jx_Mem) := jx_K jx_kI 16 0 57 [(0, .ref 3), (1, .int x1), (2, .int x2), (3, .int x3), (4, .int x4), (5, .int x5)] [] m
noncomputable def f_Goods_isTest_16  (m : jx_Mem) : Option (Int32 × jx_Mem) := jx_K jx_kI 35 0 16 [] [] m
noncomputable def f_Goods_isTest_17 (y0 : Int32) (m : jx_Mem) : Option (Int32 × jx_Mem) := jx_K jx_kI 35 0 17 [] [.int y0] m
noncomputable def f_Goods_readSheet_47 (x1 : Int32) (x2 : Int32) (x4 : Int32) (x5 : Int32) (y0 : Int32) (m : jx_Mem) : Option (Int32 × jx_Mem) := jx_K jx_kI 43 0 47 [(0, .ref 9), (1, .int x1), (2, .int x2), (4, .int x4), (5, .int x5)] [.int y0] m
noncomputable def f_Goods_answerOf (x1 : Int32) (x2 : Int32) (m : jx_Mem) : Option (Int32 × jx_Mem) := jx_K jx_kI 41 0 0 [(0, .ref 9), (1, .int x1), (2, .int x2)] [] m
noncomputable def f_Goods_unlike_38 (x1 : Int32) (x2 : Int32) (x3 : Int32) (x4 : Int32) (m : jx_Mem) : Option (Int32 × jx_Mem) := jx_K jx_kI 45 0 38 [(0, .ref 9), (1, .int x1), (2, .int x2), (3, .int x3), (4, .int x4)] [] m
noncomputable def f_Goods_toldBy_45 (x1 : Int32) (x2 : Int32) (x3 : Int32) (x4 : Int32) (m : jx_Mem) : Option (Int32 × jx_Mem) := jx_K jx_kI 50 0 45 [(0, .ref 9), (1, .int x1), (2, .int x2), (3, .int x3), (4, .int x4)] [] m
noncomputable def f_Goods_sameAs (x1 : Int32) (x2 : Int32) (x3 : Int32) (m : jx_Mem) : Option (Int32 × jx_Mem) := jx_K jx_kI 48 0 0 [(0, .ref 9), (1, .int x1), (2, .int x2), (3, .int x3)] [] m
noncomputable def f_Row_add_32  (m : jx_Mem) : Option jx_Mem := jx_K jx_kV 4 0 32 [] [] m
noncomputable def f_Goods_fewestTests_28 (x1 : Int32) (x2 : Int32) (x3 : Int32) (m : jx_Mem) : Option (Int32 × jx_Mem) := jx_K jx_kI 51 0 28 [(0, .ref 9), (1, .int x1), (2, .int x2), (3, .int x3)] [] m
noncomputable def f_Goods_betterTests (x1 : Int32) (x2 : Int32) (m : jx_Mem) : Option (Int32 × jx_Mem) := jx_K jx_kI 52 0 0 [(0, .ref 9), (1, .int x1), (2, .int x2)] [] m
noncomputable def f_Goods_fewestTests_40 (x1 : Int32) (x2 : Int32) (x3 : Int32) (m : jx_Mem) : Option (Int32 × jx_Mem) := jx_K jx_kI 51 0 40 [(0, .ref 9), (1, .int x1), (2, .int x2), (3, .int x3)] [] m
noncomputable def f_Goods_toBan_47 (x1 : Int32) (x2 : Int32) (x3 : Int32) (x4 : Int32) (m : jx_Mem) : Option (Int32 × jx_Mem) := jx_K jx_kI 54 0 47 [(0, .ref 9), (1, .int x1), (2, .int x2), (3, .int x3), (4, .int x4)] [] m
noncomputable def f_Goods_givesWay (x1 : Int32) (x2 : Int32) (m : jx_Mem) : Option (Int32 × jx_Mem) := jx_K jx_kI 55 0 0 [(0, .ref 9), (1, .int x1), (2, .int x2)] [] m
noncomputable def f_Arr_fill_5_r15 (x1 : Int32) (x2 : Int32) (x3 : Int32) (m : jx_Mem) : Option jx_Mem := jx_K jx_kV 2 0 5 [(0, .ref 15), (1, .int x1), (2, .int x2), (3, .int x3)] [] m
noncomputable def f_Tree_least_13 (lev : Nat)  (m : jx_Mem) : Option (Int32 × jx_Mem) := jx_K jx_kI 58 lev 13 [] [] m
noncomputable def f_Tree_least_40 (lev : Nat) (x1 : Int32) (x2 : Int32) (x3 : Int32) (x4 : Int32) (x5 : Int32) (m : jx_Mem) : Option (Int32 × jx_Mem) := jx_K jx_kI 58 lev 40 [(0, .ref 14), (1, .int x1), (2, .int x2), (3, .int x3), (4, .int x4), (5, .int x5)] [] m
noncomputable def f_Tree_isSet_15  (m : jx_Mem) : Option (Int32 × jx_Mem) := jx_K jx_kI 57 0 15 [] [] m
noncomputable def f_Tree_isSet_16 (y0 : Int32) (m : jx_Mem) : Option (Int32 × jx_Mem) := jx_K jx_kI 57 0 16 [] [.int y0] m
noncomputable def f_Tree_dearest_34 (x1 : Int32) (x2 : Int32) (x3 : Int32) (m : jx_Mem) : Option (Int32 × jx_Mem) := jx_K jx_kI 61 0 34 [(0, .ref 14), (1, .int x1), (2, .int x2), (3, .int x3)] [] m
noncomputable def f_Tree_costFor (x1 : Int32) (x2 : Int32) (m : jx_Mem) : Option (Int32 × jx_Mem) := jx_K jx_kI 62 0 0 [(0, .ref 14), (1, .int x1), (2, .int x2)] [] m
noncomputable def f_Arr_fill_5_r17 (x1 : Int32) (x2 : Int32) (x3 : Int32) (m : jx_Mem) : Option jx_Mem := jx_K jx_kV 2 0 5 [(0, .ref 17), (1, .int x1), (2, .int x2), (3, .int x3)] [] m
noncomputable def f_Tree_lowest (x0 : Int32) (m : jx_Mem) : Option (Int32 × jx_Mem) := jx_K jx_kI 67 0 0 [(0, .int x0)] [] m
noncomputable def f_Tree_mostTold_43 (lev : Nat)  (m : jx_Mem) : Option (Int32 × jx_Mem) := jx_K jx_kI 65 lev 43 [] [] m
noncomputable def f_Tree_mostTold_70 (lev : Nat) (x1 : Int32) (x2 : Int32) (x3 : Int32) (x4 : Int32) (x5 : Int32) (x6 : Int32) (m : jx_Mem) : Option (Int32 × jx_Mem) := jx_K jx_kI 65 lev 70 [(0, .ref 14), (1, .int x1), (2, .int x2), (3, .int x3), (4, .int x4), (5, .int x5), (6, .int x6)] [] m
noncomputable def f_Goods_oftenOf (x1 : Int32) (m : jx_Mem) : Option (Int32 × jx_Mem) := jx_K jx_kI 49 0 0 [(0, .ref 9), (1, .int x1)] [] m
noncomputable def f_Tree_tellPath_70 (x4 : Int32) (m : jx_Mem) : Option (Int32 × jx_Mem) := jx_K jx_kI 63 0 70 [(3, .ref 1), (4, .int x4)] [] m
noncomputable def f_Goods_part (x1 : Int32) (x2 : Int32) (x3 : Int32) (m : jx_Mem) : Option (Int32 × jx_Mem) := jx_K jx_kI 46 0 0 [(0, .ref 9), (1, .int x1), (2, .int x2), (3, .int x3)] [] m
noncomputable def f_Rule_read_83 (x1 : Int32) (m : jx_Mem) : Option (Int32 × jx_Mem) := jx_K jx_kI 71 0 83 [(0, .ref 18), (1, .int x1)] [] m
noncomputable def f_Rule_takesBehind (x1 : Int32) (m : jx_Mem) : Option (Int32 × jx_Mem) := jx_K jx_kI 74 0 0 [(0, .ref 18), (1, .int x1)] [] m
noncomputable def f_Rule_read_68 (x1 : Int32) (x2 : Int32) (y0 : Int32) (m : jx_Mem) : Option (Int32 × jx_Mem) := jx_K jx_kI 71 0 68 [(0, .ref 18), (1, .int x1), (2, .int x2)] [.int y0] m
noncomputable def f_Rule_takesThing (x1 : Int32) (m : jx_Mem) : Option (Int32 × jx_Mem) := jx_K jx_kI 73 0 0 [(0, .ref 18), (1, .int x1)] [] m
noncomputable def f_Rule_valueFor_180 (y0 : Int32) (m : jx_Mem) : Option (Int32 × jx_Mem) := jx_K jx_kI 85 0 180 [] [.int y0] m
noncomputable def f_Rule_valueFor_34 (x1 : Int32) (x2 : Int32) (x3 : Int32) (x4 : Int32) (m : jx_Mem) : Option (Int32 × jx_Mem) := jx_K jx_kI 85 0 34 [(0, .ref 18), (1, .int x1), (2, .int x2), (3, .int x3), (4, .int x4)] [] m
noncomputable def f_Rule_isSign (x0 : Int32) (m : jx_Mem) : Option (Int32 × jx_Mem) := jx_K jx_kI 79 0 0 [(0, .int x0)] [] m
noncomputable def f_Rule_valueFor_124 (x1 : Int32) (x2 : Int32) (x3 : Int32) (x4 : Int32) (m : jx_Mem) : Option (Int32 × jx_Mem) := jx_K jx_kI 85 0 124 [(0, .ref 18), (1, .int x1), (2, .int x2), (3, .int x3), (4, .int x4)] [] m
noncomputable def f_Rule_levelWaiting (x0 : Int32) (m : jx_Mem) : Option (Int32 × jx_Mem) := jx_K jx_kI 81 0 0 [(0, .int x0)] [] m
noncomputable def f_Rule_valueFor_117 (x1 : Int32) (x2 : Int32) (x3 : Int32) (y0 : Int32) (y1 : Int32) (m : jx_Mem) : Option (Int32 × jx_Mem) := jx_K jx_kI 85 0 117 [(0, .ref 18), (1, .int x1), (2, .int x2), (3, .int x3)] [.int y0, .int y1, .ref 24] m
noncomputable def f_Rule_valueFor_120 (x1 : Int32) (x2 : Int32) (x3 : Int32) (y0 : Int32) (y1 : Int32) (m : jx_Mem) : Option (Int32 × jx_Mem) := jx_K jx_kI 85 0 120 [(0, .ref 18), (1, .int x1), (2, .int x2), (3, .int x3)] [.int y0, .int y1, .ref 24] m
noncomputable def f_Rule_tellOrder_41 (x2 : Int32) (x3 : Int32) (x4 : Int32) (m : jx_Mem) : Option (Int32 × jx_Mem) := jx_K jx_kI 90 0 41 [(0, .ref 18), (1, .ref 1), (2, .int x2), (3, .int x3), (4, .int x4)] [] m
noncomputable def f_Asking_wantsOf_25 (x1 : Int32) (x2 : Int32) (m : jx_Mem) : Option (Int32 × jx_Mem) := jx_K jx_kI 106 0 25 [(0, .ref 33), (1, .int x1), (2, .int x2)] [] m
noncomputable def f_Asking_wantsOf_26 (x1 : Int32) (x2 : Int32) (y0 : Int32) (m : jx_Mem) : Option (Int32 × jx_Mem) := jx_K jx_kI 106 0 26 [(0, .ref 33), (1, .int x1), (2, .int x2)] [.int y0] m
noncomputable def f_Asking_findLates_2 (x1 : Int32) (m : jx_Mem) : Option jx_Mem := jx_K jx_kV 114 0 2 [(0, .ref 33), (1, .int x1)] [] m
noncomputable def f_Arr_fill_5_r37 (x1 : Int32) (x2 : Int32) (x3 : Int32) (m : jx_Mem) : Option jx_Mem := jx_K jx_kV 2 0 5 [(0, .ref 37), (1, .int x1), (2, .int x2), (3, .int x3)] [] m
noncomputable def f_Asking_askOnce (x1 : Int32) (m : jx_Mem) : Option (Int32 × jx_Mem) := jx_K jx_kI 116 0 0 [(0, .ref 33), (1, .int x1)] [] m
noncomputable def f_Asking_foresee_28 (x1 : Int32) (x2 : Int32) (m : jx_Mem) : Option (Int32 × jx_Mem) := jx_K jx_kI 112 0 28 [(0, .ref 33), (1, .int x1), (2, .int x2)] [] m
noncomputable def f_Mine_joined_17 (y0 : Int32) (m : jx_Mem) : Option (Int32 × jx_Mem) := jx_K jx_kI 18 0 17 [] [.int y0] m
noncomputable def f_Items_note_73  (m : jx_Mem) : Option jx_Mem := jx_K jx_kV 103 0 73 [] [] m
noncomputable def f_Mine_setPurse_21  (m : jx_Mem) : Option jx_Mem := jx_K jx_kV 25 0 21 [] [] m
noncomputable def f_Watch_addCount_123 (x1 : Int32) (x2 : Int32) (x3 : Int32) (x4 : Int32) (m : jx_Mem) : Option (Int32 × jx_Mem) := jx_K jx_kI 121 0 123 [(0, .ref 38), (1, .int x1), (2, .int x2), (3, .int x3), (4, .int x4)] [] m
noncomputable def f_Watch_countAhead (x1 : Int32) (m : jx_Mem) : Option (Int32 × jx_Mem) := jx_K jx_kI 124 0 0 [(0, .ref 38), (1, .int x1)] [] m
noncomputable def f_Watch_tellThefts_93 (x3 : Int32) (x4 : Int32) (x5 : Int32) (y0 : Int32) (m : jx_Mem) : Option (Int32 × jx_Mem) := jx_K jx_kI 126 0 93 [(0, .ref 38), (2, .ref 1), (3, .int x3), (4, .int x4), (5, .int x5)] [.int y0] m
noncomputable def f_Watch_tellThefts_67 (x1 : Int32) (x3 : Int32) (x4 : Int32) (x5 : Int32) (x6 : Int32) (m : jx_Mem) : Option (Int32 × jx_Mem) := jx_K jx_kI 126 0 67 [(0, .ref 38), (1, .int x1), (2, .ref 1), (3, .int x3), (4, .int x4), (5, .int x5), (6, .int x6)] [] m
noncomputable def f_Watch_takenBy (x1 : Int32) (m : jx_Mem) : Option (Int32 × jx_Mem) := jx_K jx_kI 125 0 0 [(0, .ref 38), (1, .int x1)] [] m
noncomputable def f_Watch_tellThefts_51 (x1 : Int32) (x3 : Int32) (x5 : Int32) (x6 : Int32) (y0 : Int32) (m : jx_Mem) : Option (Int32 × jx_Mem) := jx_K jx_kI 126 0 51 [(0, .ref 38), (1, .int x1), (2, .ref 1), (3, .int x3), (5, .int x5), (6, .int x6)] [.int y0] m
noncomputable def f_Watch_suspectsOf_49 (x1 : Int32) (x2 : Int32) (x3 : Int32) (x4 : Int32) (m : jx_Mem) : Option (Int32 × jx_Mem) := jx_K jx_kI 127 0 49 [(0, .ref 38), (1, .int x1), (2, .int x2), (3, .int x3), (4, .int x4)] [] m
noncomputable def f_Watch_suspectsBy (x1 : Int32) (m : jx_Mem) : Option (Int32 × jx_Mem) := jx_K jx_kI 128 0 0 [(0, .ref 38), (1, .int x1)] [] m
noncomputable def f_Watch_smallestGang_44 (x1 : Int32) (x2 : Int32) (x3 : Int32) (m : jx_Mem) : Option (Int32 × jx_Mem) := jx_K jx_kI 130 0 44 [(0, .ref 38), (1, .int x1), (2, .int x2), (3, .int x3)] [] m
noncomputable def f_Watch_smallestGang_34 (x1 : Int32) (x2 : Int32) (m : jx_Mem) : Option (Int32 × jx_Mem) := jx_K jx_kI 130 0 34 [(0, .ref 38), (1, .int x1), (2, .int x2)] [] m
noncomputable def f_Arr_fill_r51 (x1 : Int32) (m : jx_Mem) : Option jx_Mem := jx_K jx_kV 2 0 0 [(0, .ref 51), (1, .int x1)] [] m
noncomputable def f_Watch_tellHands_64 (x2 : Int32) (x3 : Int32) (x4 : Int64) (x6 : Int32) (m : jx_Mem) : Option (Int32 × jx_Mem) := jx_K jx_kI 132 0 64 [(0, .ref 38), (1, .ref 1), (2, .int x2), (3, .int x3), (4, .long x4), (6, .int x6)] [] m
noncomputable def f_Watch_giveTo (x1 : Int32) (x2 : Int32) (m : jx_Mem) : Option jx_Mem := jx_K jx_kV 133 0 0 [(0, .ref 38), (1, .int x1), (2, .int x2)] [] m
noncomputable def f_Noise_voice (x1 : Int32) (x2 : Int32) (m : jx_Mem) : Option (Int32 × jx_Mem) := jx_K jx_kI 138 0 0 [(0, .ref 52), (1, .int x1), (2, .int x2)] [] m
noncomputable def f_Noise_tellLoudest_56 (x2 : Int32) (x3 : Int32) (x4 : Int32) (x5 : Int32) (m : jx_Mem) : Option (Int32 × jx_Mem) := jx_K jx_kI 140 0 56 [(0, .ref 52), (1, .ref 1), (2, .int x2), (3, .int x3), (4, .int x4), (5, .int x5)] [] m
noncomputable def f_Arr_fill_5_r57 (x1 : Int32) (x2 : Int32) (x3 : Int32) (m : jx_Mem) : Option jx_Mem := jx_K jx_kV 2 0 5 [(0, .ref 57), (1, .int x1), (2, .int x2), (3, .int x3)] [] m
noncomputable def f_Arr_fill_r58 (x1 : Int32) (m : jx_Mem) : Option jx_Mem := jx_K jx_kV 2 0 0 [(0, .ref 58), (1, .int x1)] [] m
noncomputable def f_Noise_findRests_15 (x1 : Int32) (m : jx_Mem) : Option jx_Mem := jx_K jx_kV 143 0 15 [(0, .ref 52), (1, .int x1)] [] m
noncomputable def f_Noise_fill_16 (lev : Nat)  (m : jx_Mem) : Option (Int32 × jx_Mem) := jx_K jx_kI 144 lev 16 [] [] m
noncomputable def f_Noise_isHopeless (x1 : Int32) (m : jx_Mem) : Option (Int32 × jx_Mem) := jx_K jx_kI 145 0 0 [(0, .ref 52), (1, .int x1)] [] m
noncomputable def f_Noise_fill_36 (lev : Nat) (x1 : Int32) (x2 : Int32) (x3 : Int32) (m : jx_Mem) : Option (Int32 × jx_Mem) := jx_K jx_kI 144 lev 36 [(0, .ref 52), (1, .int x1), (2, .int x2), (3, .int x3)] [] m
noncomputable def f_Noise_keepFirst  (m : jx_Mem) : Option jx_Mem := jx_K jx_kV 147 0 0 [(0, .ref 52)] [] m
noncomputable def f_Noise_tellCrowds_84 (x4 : Int32) (m : jx_Mem) : Option (Int32 × jx_Mem) := jx_K jx_kI 142 0 84 [(4, .int x4)] [] m
noncomputable def f_Air_set_58 (x1 : Int32) (x2 : Int32) (x3 : Int32) (m : jx_Mem) : Option (Int32 × jx_Mem) := jx_K jx_kI 148 0 58 [(0, .ref 59), (1, .int x1), (2, .int x2), (3, .int x3)] [] m
noncomputable def f_Air_stay_93 (x2 : Int32) (m : jx_Mem) : Option (Int32 × jx_Mem) := jx_K jx_kI 150 0 93 [(2, .int x2)] [] m
noncomputable def f_Mine_farOut (x1 : Int32) (m : jx_Mem) : Option (Int32 × jx_Mem) := jx_K jx_kI 27 0 0 [(0, .ref 3), (1, .int x1)] [] m
noncomputable def f_Air_tellLeaving_107  (m : jx_Mem) : Option (Int32 × jx_Mem) := jx_K jx_kI 151 0 107 [(1, .ref 1)] [] m
noncomputable def f_Air_nearest (x1 : Int32) (m : jx_Mem) : Option (Int32 × jx_Mem) := jx_K jx_kI 152 0 0 [(0, .ref 59), (1, .int x1)] [] m
noncomputable def f_Ears_setChance_50 (x1 : Int32) (x2 : Int32) (x4 : Int32) (y0 : Int32) (y1 : Int32) (m : jx_Mem) : Option (Int32 × jx_Mem) := jx_K jx_kI 153 0 50 [(0, .ref 60), (1, .int x1), (2, .int x2), (4, .int x4)] [.int y0, .int y1] m
noncomputable def f_Mine_wallOf (x1 : Int32) (m : jx_Mem) : Option (Int32 × jx_Mem) := jx_K jx_kI 20 0 0 [(0, .ref 3), (1, .int x1)] [] m
noncomputable def f_Ears_tellSound_103 (x1 : Int32) (x2 : Int32) (x4 : Int32) (x5 : Int32) (x6 : Int32) (m : jx_Mem) : Option (Int32 × jx_Mem) := jx_K jx_kI 155 0 103 [(0, .ref 60), (1, .int x1), (2, .int x2), (3, .ref 1), (4, .int x4), (5, .int x5), (6, .int x6)] [] m
noncomputable def f_Ears_likeliest (x1 : Int32) (m : jx_Mem) : Option (Int32 × jx_Mem) := jx_K jx_kI 160 0 0 [(0, .ref 60), (1, .int x1), (2, .ref 1)] [] m
noncomputable def f_Ears_weightOf (x1 : Int32) (x2 : Int32) (x3 : Int32) (x4 : Int32) (m : jx_Mem) : Option (Int32 × jx_Mem) := jx_K jx_kI 157 0 0 [(0, .ref 60), (1, .int x1), (2, .int x2), (3, .int x3), (4, .int x4)] [] m
noncomputable def f_Ears_tellClapper_67 (x1 : Int32) (x2 : Int32) (x3 : Int32) (x5 : Int32) (x6 : Int32) (y0 : Int32) (y1 : Int32) (m : jx_Mem) : Option (Int32 × jx_Mem) := jx_K jx_kI 159 0 67 [(0, .ref 60), (1, .int x1), (2, .int x2), (3, .int x3), (4, .ref 1), (5, .int x5), (6, .int x6)] [.int y0, .int y1, .ref 62] m
noncomputable def f_Mine_peopleNear_37 (x1 : Int32) (x2 : Int32) (x3 : Int32) (x4 : Int32) (m : jx_Mem) : Option (Int32 × jx_Mem) := jx_K jx_kI 29 0 37 [(0, .ref 3), (1, .int x1), (2, .int x2), (3, .int x3), (4, .int x4)] [] m
noncomputable def f_Items_ownedBy_31 (x1 : Int32) (x2 : Int32) (x3 : Int32) (m : jx_Mem) : Option (Int32 × jx_Mem) := jx_K jx_kI 101 0 31 [(0, .ref 26), (1, .int x1), (2, .int x2), (3, .int x3)] [] m
noncomputable def f_Asking_wantedByTwo_56 (x1 : Int32) (x2 : Int32) (x3 : Int32) (x4 : Int32) (m : jx_Mem) : Option (Int32 × jx_Mem) := jx_K jx_kI 119 0 56 [(0, .ref 33), (1, .int x1), (2, .int x2), (3, .int x3), (4, .int x4)] [] m
noncomputable def f_Asking_wanters (x1 : Int32) (x2 : Int32) (m : jx_Mem) : Option (Int32 × jx_Mem) := jx_K jx_kI 120 0 0 [(0, .ref 33), (1, .int x1), (2, .int x2)] [] m
noncomputable def f_Arr_fill_5_r7 (x1 : Int32) (x2 : Int32) (x3 : Int32) (m : jx_Mem) : Option jx_Mem := jx_K jx_kV 2 0 5 [(0, .ref 7), (1, .int x1), (2, .int x2), (3, .int x3)] [] m
noncomputable def f_M_tunnel_77 (x4 : Int32) (x5 : Int32) (x6 : Int32) (m : jx_Mem) : Option (Int32 × jx_Mem) := jx_K jx_kI 226 0 77 [(0, .ref 63), (4, .int x4), (5, .int x5), (6, .int x6)] [] m
noncomputable def f_M_sheet_164 (y0 : Int32) (m : jx_Mem) : Option (Int32 × jx_Mem) := jx_K jx_kI 240 0 164 [] [.int y0] m
noncomputable def f_M_sheet_87 (x1 : Int32) (x2 : Int32) (x3 : Int32) (x5 : Int32) (x6 : Int32) (x7 : Int32) (x8 : Int32) (y0 : Int32) (m : jx_Mem) : Option (Int32 × jx_Mem) := jx_K jx_kI 240 0 87 [(0, .ref 63), (1, .int x1), (2, .int x2), (3, .int x3), (5, .int x5), (6, .int x6), (7, .int x7), (8, .int x8)] [.int y0] m
noncomputable def f_M_partedBy_40 (x1 : Int32) (x2 : Int32) (x4 : Int32) (y0 : Int32) (y1 : Int32) (m : jx_Mem) : Option (Int32 × jx_Mem) := jx_K jx_kI 241 0 40 [(0, .ref 63), (1, .int x1), (2, .int x2), (4, .int x4)] [.int y0, .int y1] m
noncomputable def f_M_mixed_42 (x1 : Int32) (x2 : Int32) (x4 : Int32) (y0 : Int32) (m : jx_Mem) : Option (Int32 × jx_Mem) := jx_K jx_kI 244 0 42 [(0, .ref 63), (1, .int x1), (2, .int x2), (4, .int x4)] [.int y0] m
noncomputable def f_M_isMixed (x1 : Int32) (x2 : Int32) (x3 : Int32) (m : jx_Mem) : Option (Int32 × jx_Mem) := jx_K jx_kI 243 0 0 [(0, .ref 63), (1, .int x1), (2, .int x2), (3, .int x3)] [] m
noncomputable def f_M_mixed_43 (x1 : Int32) (x2 : Int32) (x4 : Int32) (y0 : Int32) (y1 : Int32) (m : jx_Mem) : Option (Int32 × jx_Mem) := jx_K jx_kI 244 0 43 [(0, .ref 63), (1, .int x1), (2, .int x2), (4, .int x4)] [.int y0, .int y1] m
noncomputable def f_M_isBetter_40  (m : jx_Mem) : Option (Int32 × jx_Mem) := jx_K jx_kI 247 0 40 [] [] m
noncomputable def f_M_isBetter_44  (m : jx_Mem) : Option (Int32 × jx_Mem) := jx_K jx_kI 247 0 44 [] [] m
noncomputable def f_M_sumOf_r71 (x1 : Int32) (m : jx_Mem) : Option (Int32 × jx_Mem) := jx_K jx_kI 246 0 0 [(0, .ref 63), (1, .int x1), (2, .ref 71)] [] m
noncomputable def f_M_ban_88 (x1 : Int32) (x2 : Int32) (x3 : Int32) (x4 : Int32) (m : jx_Mem) : Option (Int32 × jx_Mem) := jx_K jx_kI 249 0 88 [(0, .ref 63), (1, .int x1), (2, .int x2), (3, .int x3), (4, .int x4)] [] m
noncomputable def f_M_isBetter_r70 (x1 : Int32) (x2 : Int32) (m : jx_Mem) : Option (Int32 × jx_Mem) := jx_K jx_kI 247 0 0 [(0, .ref 63), (1, .int x1), (2, .int x2), (3, .ref 70)] [] m
noncomputable def f_M_ban_89 (x1 : Int32) (x2 : Int32) (x4 : Int32) (y0 : Int32) (m : jx_Mem) : Option (Int32 × jx_Mem) := jx_K jx_kI 249 0 89 [(0, .ref 63), (1, .int x1), (2, .int x2), (4, .int x4)] [.int y0] m
noncomputable def f_M_trees_41 (x1 : Int32) (x2 : Int32) (x3 : Int32) (m : jx_Mem) : Option jx_Mem := jx_K jx_kV 252 0 41 [(0, .ref 63), (1, .int x1), (2, .int x2), (3, .int x3)] [] m
noncomputable def f_M_trees_209 (x1 : Int32) (x2 : Int32) (m : jx_Mem) : Option jx_Mem := jx_K jx_kV 252 0 209 [(0, .ref 63), (1, .int x1), (2, .int x2)] [] m
noncomputable def f_M_copper_75 (x1 : Int32) (x3 : Int32) (x4 : Int32) (m : jx_Mem) : Option (Int32 × jx_Mem) := jx_K jx_kI 255 0 75 [(0, .ref 63), (1, .int x1), (3, .int x3), (4, .int x4)] [] m
noncomputable def f_M_tells (x1 : Int32) (x2 : Int32) (m : jx_Mem) : Option jx_Mem := jx_K jx_kV 254 0 0 [(0, .ref 63), (1, .int x1), (2, .int x2)] [] m
noncomputable def f_M_partOf_6 (x1 : Int32) (x2 : Int32) (x3 : Int32) (x4 : Int32) (x5 : Int32) (m : jx_Mem) : Option (Int32 × jx_Mem) := jx_K jx_kI 250 0 6 [(0, .ref 63), (1, .int x1), (2, .int x2), (3, .int x3), (4, .int x4), (5, .int x5)] [] m
noncomputable def f_M_ranked_63_r908 (lev : Nat) (x1 : Int32) (x3 : Int32) (x4 : Int32) (m : jx_Mem) : Option (Int32 × jx_Mem) := jx_K jx_kI 264 lev 63 [(0, .ref 63), (1, .int x1), (2, .ref 908), (3, .int x3), (4, .int x4)] [] m
noncomputable def f_M_ranked_63_r907 (lev : Nat) (x1 : Int32) (x3 : Int32) (x4 : Int32) (m : jx_Mem) : Option (Int32 × jx_Mem) := jx_K jx_kI 264 lev 63 [(0, .ref 63), (1, .int x1), (2, .ref 907), (3, .int x3), (4, .int x4)] [] m
noncomputable def f_M_ranked_63_r906 (lev : Nat) (x1 : Int32) (x3 : Int32) (x4 : Int32) (m : jx_Mem) : Option (Int32 × jx_Mem) := jx_K jx_kI 264 lev 63 [(0, .ref 63), (1, .int x1), (2, .ref 906), (3, .int x3), (4, .int x4)] [] m
noncomputable def f_M_ranked_63_r905 (lev : Nat) (x1 : Int32) (x3 : Int32) (x4 : Int32) (m : jx_Mem) : Option (Int32 × jx_Mem) := jx_K jx_kI 264 lev 63 [(0, .ref 63), (1, .int x1), (2, .ref 905), (3, .int x3), (4, .int x4)] [] m
noncomputable def f_M_ranked_63_r904 (lev : Nat) (x1 : Int32) (x3 : Int32) (x4 : Int32) (m : jx_Mem) : Option (Int32 × jx_Mem) := jx_K jx_kI 264 lev 63 [(0, .ref 63), (1, .int x1), (2, .ref 904), (3, .int x3), (4, .int x4)] [] m
noncomputable def f_M_among_r903  (m : jx_Mem) : Option (Int32 × jx_Mem) := jx_K jx_kI 260 0 0 [(0, .ref 63), (1, .ref 903)] [] m
noncomputable def f_M_ahead_54 (lev : Nat) (x2 : Int32) (m : jx_Mem) : Option (Int32 × jx_Mem) := jx_K jx_kI 263 lev 54 [(2, .int x2)] [] m
noncomputable def f_M_ahead_50 (lev : Nat) (x2 : Int32) (y0 : Int32) (y1 : Int32) (m : jx_Mem) : Option (Int32 × jx_Mem) := jx_K jx_kI 263 lev 50 [(2, .int x2)] [.int y0, .int y1, .ref 63] m
noncomputable def f_M_thing_ (lev : Nat)  (m : jx_Mem) : Option (Int32 × jx_Mem) := jx_K jx_kI 262 lev 0 [(0, .ref 63)] [] m
noncomputable def f_M_rule_103 (x3 : Int32) (m : jx_Mem) : Option (Int32 × jx_Mem) := jx_K jx_kI 265 0 103 [(0, .ref 63), (3, .int x3)] [] m
noncomputable def f_M_rule_100  (m : jx_Mem) : Option (Int32 × jx_Mem) := jx_K jx_kI 265 0 100 [] [] m
noncomputable def f_M_right_146 (x1 : Int32) (x2 : Int32) (x3 : Int32) (x4 : Int32) (m : jx_Mem) : Option (Int32 × jx_Mem) := jx_K jx_kI 269 0 146 [(0, .ref 63), (1, .int x1), (2, .int x2), (3, .int x3), (4, .int x4)] [] m
noncomputable def f_M_right_177 (x1 : Int32) (x2 : Int32) (x3 : Int32) (m : jx_Mem) : Option (Int32 × jx_Mem) := jx_K jx_kI 269 0 177 [(0, .ref 63), (1, .int x1), (2, .int x2), (3, .int x3)] [] m
noncomputable def f_M_right_108 (x1 : Int32) (x2 : Int32) (x3 : Int32) (y0 : Int32) (y1 : Int32) (m : jx_Mem) : Option (Int32 × jx_Mem) := jx_K jx_kI 269 0 108 [(0, .ref 63), (1, .int x1), (2, .int x2), (3, .int x3)] [.int y0, .int y1, .ref 79] m
noncomputable def f_M_valueOf (x1 : Int32) (x2 : Int32) (m : jx_Mem) : Option (Int32 × jx_Mem) := jx_K jx_kI 266 0 0 [(0, .ref 63), (1, .int x1), (2, .int x2)] [] m
noncomputable def f_M_right_70 (x1 : Int32) (x2 : Int32) (x3 : Int32) (y0 : Int32) (y1 : Int32) (m : jx_Mem) : Option (Int32 × jx_Mem) := jx_K jx_kI 269 0 70 [(0, .ref 63), (1, .int x1), (2, .int x2), (3, .int x3)] [.int y0, .int y1, .ref 79] m
noncomputable def f_M_order_100 (x1 : Int32) (x2 : Int32) (x3 : Int32) (x5 : Int32) (m : jx_Mem) : Option (Int32 × jx_Mem) := jx_K jx_kI 271 0 100 [(0, .ref 63), (1, .int x1), (2, .int x2), (3, .int x3), (5, .int x5)] [] m
noncomputable def f_M_order_73 (x1 : Int32) (x2 : Int32) (x3 : Int32) (x4 : Int32) (x5 : Int32) (m : jx_Mem) : Option (Int32 × jx_Mem) := jx_K jx_kI 271 0 73 [(0, .ref 63), (1, .int x1), (2, .int x2), (3, .int x3), (4, .int x4), (5, .int x5)] [] m
noncomputable def f_M_order_68 (x1 : Int32) (x2 : Int32) (x3 : Int32) (x5 : Int32) (m : jx_Mem) : Option (Int32 × jx_Mem) := jx_K jx_kI 271 0 68 [(0, .ref 63), (1, .int x1), (2, .int x2), (3, .int x3), (5, .int x5)] [] m
noncomputable def f_M_rounds_69 (x2 : Int32) (x3 : Int32) (m : jx_Mem) : Option (Int32 × jx_Mem) := jx_K jx_kI 280 0 69 [(0, .ref 63), (2, .int x2), (3, .int x3)] [] m
noncomputable def f_M_goesRound  (m : jx_Mem) : Option (Int32 × jx_Mem) := jx_K jx_kI 279 0 0 [(0, .ref 63)] [] m
noncomputable def f_M_lays_2 (x1 : Int32) (x2 : Int32) (m : jx_Mem) : Option jx_Mem := jx_K jx_kV 281 0 2 [(0, .ref 63), (1, .int x1), (2, .int x2)] [] m
noncomputable def f_M_settling_23 (x1 : Int32) (x2 : Int32) (m : jx_Mem) : Option (Int32 × jx_Mem) := jx_K jx_kI 283 0 23 [(0, .ref 63), (1, .int x1), (2, .int x2)] [] m
noncomputable def f_M_findsThefts_107 (x2 : Int32) (x3 : Int32) (m : jx_Mem) : Option jx_Mem := jx_K jx_kV 290 0 107 [(0, .ref 63), (2, .int x2), (3, .int x3)] [] m
noncomputable def f_M_findsThefts_28 (x1 : Int32) (x2 : Int32) (x3 : Int32) (x4 : Int32) (m : jx_Mem) : Option jx_Mem := jx_K jx_kV 290 0 28 [(0, .ref 63), (1, .int x1), (2, .int x2), (3, .int x3), (4, .int x4)] [] m
noncomputable def f_M_findsThefts_89 (x1 : Int32) (x2 : Int32) (x3 : Int32) (m : jx_Mem) : Option jx_Mem := jx_K jx_kV 290 0 89 [(0, .ref 63), (1, .int x1), (2, .int x2), (3, .int x3)] [] m
noncomputable def f_M_there_62 (x1 : Int32) (x2 : Int32) (x3 : Int32) (x5 : Int32) (y0 : Int32) (m : jx_Mem) : Option (Int32 × jx_Mem) := jx_K jx_kI 292 0 62 [(0, .ref 63), (1, .int x1), (2, .int x2), (3, .int x3), (5, .int x5)] [.int y0] m
noncomputable def f_M_there_63 (x1 : Int32) (x2 : Int32) (x3 : Int32) (x5 : Int32) (y0 : Int32) (y1 : Int32) (m : jx_Mem) : Option (Int32 × jx_Mem) := jx_K jx_kI 292 0 63 [(0, .ref 63), (1, .int x1), (2, .int x2), (3, .int x3), (5, .int x5)] [.int y0, .int y1] m
noncomputable def f_M_isGang (x1 : Int32) (m : jx_Mem) : Option (Int32 × jx_Mem) := jx_K jx_kI 294 0 0 [(0, .ref 63), (1, .int x1)] [] m
noncomputable def f_M_gives_71 (lev : Nat) (x1 : Int32) (x2 : Int32) (x3 : Int32) (x4 : Int32) (m : jx_Mem) : Option (Int32 × jx_Mem) := jx_K jx_kI 297 lev 71 [(0, .ref 63), (1, .int x1), (2, .int x2), (3, .int x3), (4, .int x4)] [] m
noncomputable def f_M_gives_10 (lev : Nat) (x2 : Int32) (m : jx_Mem) : Option (Int32 × jx_Mem) := jx_K jx_kI 297 lev 10 [(0, .ref 63), (2, .int x2)] [] m
noncomputable def f_M_sounds (x0 : Int32) (m : jx_Mem) : Option (Int32 × jx_Mem) := jx_K jx_kI 299 0 0 [(0, .int x0)] [] m
noncomputable def f_M_loudest_75 (x2 : Int32) (x3 : Int32) (y0 : Int32) (m : jx_Mem) : Option (Int32 × jx_Mem) := jx_K jx_kI 302 0 75 [(0, .ref 63), (2, .int x2), (3, .int x3)] [.int y0] m
noncomputable def f_M_crowds_78 (x1 : Int32) (x2 : Int32) (x3 : Int32) (x4 : Int32) (x5 : Int32) (x6 : Int32) (x7 : Int32) (m : jx_Mem) : Option (Int32 × jx_Mem) := jx_K jx_kI 305 0 78 [(0, .ref 63), (1, .int x1), (2, .int x2), (3, .int x3), (4, .int x4), (5, .int x5), (6, .int x6), (7, .int x7)] [] m
noncomputable def f_M_gas_89 (x1 : Int32) (x2 : Int32) (y0 : Int32) (m : jx_Mem) : Option (Int32 × jx_Mem) := jx_K jx_kI 306 0 89 [(0, .ref 63), (1, .int x1), (2, .int x2)] [.int y0] m
noncomputable def f_M_lasts_115 (x1 : Int32) (x2 : Int32) (x3 : Int32) (x4 : Int32) (m : jx_Mem) : Option (Int32 × jx_Mem) := jx_K jx_kI 308 0 115 [(0, .ref 63), (1, .int x1), (2, .int x2), (3, .int x3), (4, .int x4)] [] m
noncomputable def f_M_lasts_120 (x1 : Int32) (x2 : Int32) (x3 : Int32) (x4 : Int32) (y0 : Int32) (m : jx_Mem) : Option (Int32 × jx_Mem) := jx_K jx_kI 308 0 120 [(0, .ref 63), (1, .int x1), (2, .int x2), (3, .int x3), (4, .int x4)] [.int y0] m
noncomputable def f_M_leave_45 (x1 : Int32) (x2 : Int32) (x3 : Int32) (x5 : Int32) (x6 : Int32) (m : jx_Mem) : Option (Int32 × jx_Mem) := jx_K jx_kI 309 0 45 [(0, .ref 63), (1, .int x1), (2, .int x2), (3, .int x3), (5, .int x5), (6, .int x6)] [] m
noncomputable def f_M_judges_29 (x1 : Int32) (x2 : Int32) (x3 : Int32) (x4 : Int32) (x5 : Int32) (x6 : Int32) (x7 : Int32) (x8 : Int32) (x9 : Int32) (m : jx_Mem) : Option (Int32 × jx_Mem) := jx_K jx_kI 314 0 29 [(0, .ref 63), (1, .int x1), (2, .int x2), (3, .int x3), (4, .int x4), (5, .int x5), (6, .int x6), (7, .int x7), (8, .int x8), (9, .int x9)] [] m
noncomputable def f_M_lamp_142 (x2 : Int32) (x3 : Int32) (x4 : Int32) (x5 : Int32) (x6 : Int32) (x7 : Int32) (m : jx_Mem) : Option (Int32 × jx_Mem) := jx_K jx_kI 318 0 142 [(0, .ref 63), (2, .int x2), (3, .int x3), (4, .int x4), (5, .int x5), (6, .int x6), (7, .int x7)] [] m
noncomputable def f_M_lamp_248 (x2 : Int32) (x3 : Int32) (x4 : Int32) (x5 : Int32) (m : jx_Mem) : Option (Int32 × jx_Mem) := jx_K jx_kI 318 0 248 [(0, .ref 63), (2, .int x2), (3, .int x3), (4, .int x4), (5, .int x5)] [] m
noncomputable def f_M_soldBits_29 (x2 : Int32) (y0 : Int32) (y1 : Int32) (m : jx_Mem) : Option (Int32 × jx_Mem) := jx_K jx_kI 319 0 29 [(0, .ref 63), (2, .int x2)] [.int y0, .int y1] m
noncomputable def f_Goods_readSheet_55 (x1 : Int32) (x2 : Int32) (x4 : Int32) (x5 : Int32) (x6 : Int32) (x7 : Int32) (x8 : Int32) (m : jx_Mem) : Option (Int32 × jx_Mem) := jx_K jx_kI 43 0 55 [(0, .ref 9), (1, .int x1), (2, .int x2), (4, .int x4), (5, .int x5), (6, .int x6), (7, .int x7), (8, .int x8)] [] m
noncomputable def f_Goods_answerOf_30  (m : jx_Mem) : Option (Int32 × jx_Mem) := jx_K jx_kI 41 0 30 [] [] m
noncomputable def f_Goods_answerOf_31 (y0 : Int32) (m : jx_Mem) : Option (Int32 × jx_Mem) := jx_K jx_kI 41 0 31 [] [.int y0] m
noncomputable def f_Goods_sameAs_6 (x1 : Int32) (x2 : Int32) (x4 : Int32) (x5 : Int32) (m : jx_Mem) : Option (Int32 × jx_Mem) := jx_K jx_kI 48 0 6 [(0, .ref 9), (1, .int x1), (2, .int x2), (4, .int x4), (5, .int x5)] [] m
noncomputable def f_Goods_betterTests_31  (m : jx_Mem) : Option (Int32 × jx_Mem) := jx_K jx_kI 52 0 31 [] [] m
noncomputable def f_Goods_betterTests_35  (m : jx_Mem) : Option (Int32 × jx_Mem) := jx_K jx_kI 52 0 35 [] [] m
noncomputable def f_Goods_costOfAll (x1 : Int32) (m : jx_Mem) : Option (Int32 × jx_Mem) := jx_K jx_kI 53 0 0 [(0, .ref 9), (1, .int x1)] [] m
noncomputable def f_Goods_givesWay_2 (x1 : Int32) (x2 : Int32) (x3 : Int32) (m : jx_Mem) : Option (Int32 × jx_Mem) := jx_K jx_kI 55 0 2 [(0, .ref 9), (1, .int x1), (2, .int x2), (3, .int x3)] [] m
noncomputable def f_Goods_parts (x1 : Int32) (x2 : Int32) (m : jx_Mem) : Option (Int32 × jx_Mem) := jx_K jx_kI 47 0 0 [(0, .ref 9), (1, .int x1), (2, .int x2)] [] m
noncomputable def f_Tree_least_115 (lev : Nat) (x1 : Int32) (x2 : Int32) (x3 : Int32) (x4 : Int32) (x5 : Int32) (m : jx_Mem) : Option (Int32 × jx_Mem) := jx_K jx_kI 58 lev 115 [(0, .ref 14), (1, .int x1), (2, .int x2), (3, .int x3), (4, .int x4), (5, .int x5)] [] m
noncomputable def f_Goods_costOf (x1 : Int32) (m : jx_Mem) : Option (Int32 × jx_Mem) := jx_K jx_kI 40 0 0 [(0, .ref 9), (1, .int x1)] [] m
noncomputable def f_Tree_leastOfParts (lev : Nat) (x1 : Int32) (x2 : Int32) (x3 : Int32) (m : jx_Mem) : Option (Int32 × jx_Mem) := jx_K jx_kI 59 lev 0 [(0, .ref 14), (1, .int x1), (2, .int x2), (3, .int x3)] [] m
noncomputable def f_Tree_least_108 (lev : Nat) (x1 : Int32) (x2 : Int32) (x5 : Int32) (x6 : Int32) (m : jx_Mem) : Option (Int32 × jx_Mem) := jx_K jx_kI 58 lev 108 [(0, .ref 14), (1, .int x1), (2, .int x2), (5, .int x5), (6, .int x6)] [] m
noncomputable def f_Tree_costFor_8 (x2 : Int32) (x3 : Int32) (x4 : Int32) (x5 : Int32) (m : jx_Mem) : Option (Int32 × jx_Mem) := jx_K jx_kI 62 0 8 [(0, .ref 14), (2, .int x2), (3, .int x3), (4, .int x4), (5, .int x5)] [] m
noncomputable def f_Tree_lowest_2 (x0 : Int32) (x1 : Int32) (m : jx_Mem) : Option (Int32 × jx_Mem) := jx_K jx_kI 67 0 2 [(0, .int x0), (1, .int x1)] [] m
noncomputable def f_Tree_mostTold_108 (lev : Nat) (x1 : Int32) (x2 : Int32) (x3 : Int32) (x4 : Int32) (x5 : Int32) (x6 : Int32) (m : jx_Mem) : Option (Int32 × jx_Mem) := jx_K jx_kI 65 lev 108 [(0, .ref 14), (1, .int x1), (2, .int x2), (3, .int x3), (4, .int x4), (5, .int x5), (6, .int x6)] [] m
noncomputable def f_Tree_mostTold_109 (lev : Nat) (x1 : Int32) (x2 : Int32) (x3 : Int32) (x4 : Int32) (x5 : Int32) (x6 : Int32) (y0 : Int32) (m : jx_Mem) : Option (Int32 × jx_Mem) := jx_K jx_kI 65 lev 109 [(0, .ref 14), (1, .int x1), (2, .int x2), (3, .int x3), (4, .int x4), (5, .int x5), (6, .int x6)] [.int y0] m
noncomputable def f_Goods_oftenOf_4 (x1 : Int32) (x2 : Int32) (x3 : Int32) (m : jx_Mem) : Option (Int32 × jx_Mem) := jx_K jx_kI 49 0 4 [(0, .ref 9), (1, .int x1), (2, .int x2), (3, .int x3)] [] m
noncomputable def f_Goods_part_34  (m : jx_Mem) : Option (Int32 × jx_Mem) := jx_K jx_kI 46 0 34 [] [] m
noncomputable def f_Goods_part_35 (y0 : Int32) (m : jx_Mem) : Option (Int32 × jx_Mem) := jx_K jx_kI 46 0 35 [] [.int y0] m
noncomputable def f_Rule_read_106 (x1 : Int32) (m : jx_Mem) : Option (Int32 × jx_Mem) := jx_K jx_kI 71 0 106 [(1, .int x1)] [] m
noncomputable def f_Rule_release (x1 : Int32) (m : jx_Mem) : Option jx_Mem := jx_K jx_kV 84 0 0 [(0, .ref 18), (1, .int x1)] [] m
noncomputable def f_Rule_isDigit (x0 : Int32) (m : jx_Mem) : Option (Int32 × jx_Mem) := jx_K jx_kI 78 0 0 [(0, .int x0)] [] m
noncomputable def f_Rule_levelBetween (x0 : Int32) (m : jx_Mem) : Option (Int32 × jx_Mem) := jx_K jx_kI 80 0 0 [(0, .int x0)] [] m
noncomputable def f_Rule_takesBehind_58  (m : jx_Mem) : Option (Int32 × jx_Mem) := jx_K jx_kI 74 0 58 [] [] m
noncomputable def f_Rule_takesBehind_60 (x1 : Int32) (x2 : Int32) (m : jx_Mem) : Option (Int32 × jx_Mem) := jx_K jx_kI 74 0 60 [(0, .ref 18), (1, .int x1), (2, .int x2)] [] m
noncomputable def f_Rule_closes  (m : jx_Mem) : Option (Int32 × jx_Mem) := jx_K jx_kI 77 0 0 [(0, .ref 18)] [] m
noncomputable def f_Rule_goesOn (x1 : Int32) (m : jx_Mem) : Option (Int32 × jx_Mem) := jx_K jx_kI 75 0 0 [(0, .ref 18), (1, .int x1)] [] m
noncomputable def f_Rule_emit (x1 : Int32) (m : jx_Mem) : Option jx_Mem := jx_K jx_kV 82 0 0 [(0, .ref 18), (1, .int x1)] [] m
noncomputable def f_Rule_takesThing_92  (m : jx_Mem) : Option (Int32 × jx_Mem) := jx_K jx_kI 73 0 92 [] [] m
noncomputable def f_Rule_opens  (m : jx_Mem) : Option (Int32 × jx_Mem) := jx_K jx_kI 76 0 0 [(0, .ref 18)] [] m
noncomputable def f_Rule_await (x1 : Int32) (m : jx_Mem) : Option jx_Mem := jx_K jx_kV 83 0 0 [(0, .ref 18), (1, .int x1)] [] m
noncomputable def f_Rule_signFor (x1 : Int32) (x2 : Int32) (m : jx_Mem) : Option (Int32 × jx_Mem) := jx_K jx_kI 87 0 0 [(0, .ref 18), (1, .int x1), (2, .int x2)] [] m
noncomputable def f_Rule_valueFor_54 (x1 : Int32) (x3 : Int32) (y0 : Int32) (y1 : Int32) (m : jx_Mem) : Option (Int32 × jx_Mem) := jx_K jx_kI 85 0 54 [(0, .ref 18), (1, .int x1), (3, .int x3)] [.int y0, .int y1, .ref 18] m
noncomputable def f_Rule_isSign_36  (m : jx_Mem) : Option (Int32 × jx_Mem) := jx_K jx_kI 79 0 36 [] [] m
noncomputable def f_Rule_isSign_41 (y0 : Int32) (m : jx_Mem) : Option (Int32 × jx_Mem) := jx_K jx_kI 79 0 41 [] [.int y0] m
noncomputable def f_Rule_valueFor_160 (x1 : Int32) (x2 : Int32) (x3 : Int32) (m : jx_Mem) : Option (Int32 × jx_Mem) := jx_K jx_kI 85 0 160 [(0, .ref 18), (1, .int x1), (2, .int x2), (3, .int x3)] [] m
noncomputable def f_Rule_valueFor_132 (x1 : Int32) (x2 : Int32) (x3 : Int32) (x4 : Int32) (m : jx_Mem) : Option (Int32 × jx_Mem) := jx_K jx_kI 85 0 132 [(0, .ref 18), (1, .int x1), (2, .int x2), (3, .int x3), (4, .int x4)] [] m
noncomputable def f_Rule_levelWaiting_12  (m : jx_Mem) : Option (Int32 × jx_Mem) := jx_K jx_kI 81 0 12 [] [] m
noncomputable def f_Rule_levelWaiting_21 (y0 : Int32) (m : jx_Mem) : Option (Int32 × jx_Mem) := jx_K jx_kI 81 0 21 [] [.int y0] m
noncomputable def f_Rule_bit (x0 : Int32) (m : jx_Mem) : Option (Int32 × jx_Mem) := jx_K jx_kI 89 0 0 [(0, .int x0)] [] m
noncomputable def f_Rule_equalPairs (x1 : Int32) (m : jx_Mem) : Option (Int32 × jx_Mem) := jx_K jx_kI 92 0 0 [(0, .ref 18), (1, .int x1)] [] m
noncomputable def f_Rule_firstOf (x1 : Int32) (x2 : Int32) (m : jx_Mem) : Option (Int32 × jx_Mem) := jx_K jx_kI 91 0 0 [(0, .ref 18), (1, .int x1), (2, .int x2)] [] m
noncomputable def f_Rule_tellOrder_70 (x2 : Int32) (x4 : Int32) (x5 : Int32) (y0 : Int32) (y1 : Int32) (m : jx_Mem) : Option (Int32 × jx_Mem) := jx_K jx_kI 90 0 70 [(0, .ref 18), (1, .ref 1), (2, .int x2), (4, .int x4), (5, .int x5)] [.int y0, .int y1] m
noncomputable def f_Asking_wantsOf_46 (y0 : Int32) (m : jx_Mem) : Option (Int32 × jx_Mem) := jx_K jx_kI 106 0 46 [] [.int y0] m
noncomputable def f_Asking_findLates_15 (x1 : Int32) (x2 : Int32) (m : jx_Mem) : Option jx_Mem := jx_K jx_kV 114 0 15 [(0, .ref 33), (1, .int x1), (2, .int x2)] [] m
noncomputable def f_Asking_askOnce_10 (x1 : Int32) (x2 : Int32) (m : jx_Mem) : Option (Int32 × jx_Mem) := jx_K jx_kI 116 0 10 [(0, .ref 33), (1, .int x1), (2, .int x2)] [] m
noncomputable def f_Asking_sameBehind (x1 : Int32) (x2 : Int32) (m : jx_Mem) : Option (Int32 × jx_Mem) := jx_K jx_kI 113 0 0 [(0, .ref 33), (1, .int x1), (2, .int x2)] [] m
noncomputable def f_Asking_foresee_57 (y0 : Int32) (m : jx_Mem) : Option (Int32 × jx_Mem) := jx_K jx_kI 112 0 57 [] [.int y0] m
noncomputable def f_Watch_countAhead_4 (x1 : Int32) (x2 : Int32) (m : jx_Mem) : Option (Int32 × jx_Mem) := jx_K jx_kI 124 0 4 [(0, .ref 38), (1, .int x1), (2, .int x2)] [] m
noncomputable def f_Watch_tellThefts_128 (x3 : Int32) (m : jx_Mem) : Option (Int32 × jx_Mem) := jx_K jx_kI 126 0 128 [(3, .int x3)] [] m
noncomputable def f_Watch_takenBy_32 (y0 : Int32) (m : jx_Mem) : Option (Int32 × jx_Mem) := jx_K jx_kI 125 0 32 [] [.int y0] m
noncomputable def f_Watch_present (x1 : Int32) (x2 : Int32) (x3 : Int32) (m : jx_Mem) : Option (Int32 × jx_Mem) := jx_K jx_kI 129 0 0 [(0, .ref 38), (1, .int x1), (2, .int x2), (3, .int x3)] [] m
noncomputable def f_Watch_smallestGang_73 (x1 : Int32) (x2 : Int32) (x3 : Int32) (m : jx_Mem) : Option (Int32 × jx_Mem) := jx_K jx_kI 130 0 73 [(0, .ref 38), (1, .int x1), (2, .int x2), (3, .int x3)] [] m
noncomputable def f_Watch_smallestGang_78 (x1 : Int32) (x2 : Int32) (x3 : Int32) (y0 : Int32) (m : jx_Mem) : Option (Int32 × jx_Mem) := jx_K jx_kI 130 0 78 [(0, .ref 38), (1, .int x1), (2, .int x2), (3, .int x3)] [.int y0] m
noncomputable def f_Arr_fill_5_r51 (x1 : Int32) (x2 : Int32) (x3 : Int32) (m : jx_Mem) : Option jx_Mem := jx_K jx_kV 2 0 5 [(0, .ref 51), (1, .int x1), (2, .int x2), (3, .int x3)] [] m
noncomputable def f_Watch_tellHands_93 (x2 : Int32) (x3 : Int32) (x6 : Int32) (m : jx_Mem) : Option (Int32 × jx_Mem) := jx_K jx_kI 132 0 93 [(0, .ref 38), (1, .ref 1), (2, .int x2), (3, .int x3), (6, .int x6)] [] m
noncomputable def f_Watch_traceBack (x1 : Int32) (x2 : Int32) (x3 : Int64) (m : jx_Mem) : Option (Int64 × jx_Mem) := jx_K jx_kL 134 0 0 [(0, .ref 38), (1, .int x1), (2, .int x2), (3, .long x3)] [] m
noncomputable def f_Watch_canTake (x1 : Int32) (x2 : Int32) (m : jx_Mem) : Option (Int64 × jx_Mem) := jx_K jx_kL 136 0 0 [(0, .ref 38), (1, .int x1), (2, .int x2)] [] m
noncomputable def f_Watch_giveTo_10 (x1 : Int32) (x2 : Int32) (x3 : Int64) (x5 : Int32) (m : jx_Mem) : Option jx_Mem := jx_K jx_kV 133 0 10 [(0, .ref 38), (1, .int x1), (2, .int x2), (3, .long x3), (5, .int x5)] [] m
noncomputable def f_Noise_voice_21  (m : jx_Mem) : Option (Int32 × jx_Mem) := jx_K jx_kI 138 0 21 [] [] m
noncomputable def f_Noise_voice_31 (y0 : Int32) (m : jx_Mem) : Option (Int32 × jx_Mem) := jx_K jx_kI 138 0 31 [] [.int y0] m
noncomputable def f_Arr_fill_5_r58 (x1 : Int32) (x2 : Int32) (x3 : Int32) (m : jx_Mem) : Option jx_Mem := jx_K jx_kV 2 0 5 [(0, .ref 58), (1, .int x1), (2, .int x2), (3, .int x3)] [] m
noncomputable def f_Noise_findRests_21 (x1 : Int32) (x2 : Int32) (m : jx_Mem) : Option jx_Mem := jx_K jx_kV 143 0 21 [(0, .ref 52), (1, .int x1), (2, .int x2)] [] m
noncomputable def f_Noise_isHopeless_2 (x1 : Int32) (x2 : Int32) (m : jx_Mem) : Option (Int32 × jx_Mem) := jx_K jx_kI 145 0 2 [(0, .ref 52), (1, .int x1), (2, .int x2)] [] m
noncomputable def f_Noise_shout (x1 : Int32) (x2 : Int32) (m : jx_Mem) : Option jx_Mem := jx_K jx_kV 146 0 0 [(0, .ref 52), (1, .int x1), (2, .int x2)] [] m
noncomputable def f_Noise_keepFirst_29  (m : jx_Mem) : Option jx_Mem := jx_K jx_kV 147 0 29 [] [] m
noncomputable def f_Air_set_87 (x1 : Int32) (x2 : Int32) (x3 : Int32) (m : jx_Mem) : Option (Int32 × jx_Mem) := jx_K jx_kI 148 0 87 [(0, .ref 59), (1, .int x1), (2, .int x2), (3, .int x3)] [] m
noncomputable def f_Air_stay_103 (y0 : Int32) (m : jx_Mem) : Option (Int32 × jx_Mem) := jx_K jx_kI 150 0 103 [] [.int y0] m
noncomputable def f_Air_nearest_4 (x1 : Int32) (x2 : Int32) (x3 : Int32) (m : jx_Mem) : Option (Int32 × jx_Mem) := jx_K jx_kI 152 0 4 [(0, .ref 59), (1, .int x1), (2, .int x2), (3, .int x3)] [] m
noncomputable def f_Mine_wallOf_18 (y0 : Int32) (m : jx_Mem) : Option (Int32 × jx_Mem) := jx_K jx_kI 20 0 18 [] [.int y0] m
noncomputable def f_Ears_likeliest_11 (x1 : Int32) (x3 : Int32) (x4 : Int32) (x5 : Int32) (x6 : Int32) (m : jx_Mem) : Option (Int32 × jx_Mem) := jx_K jx_kI 160 0 11 [(0, .ref 60), (1, .int x1), (2, .ref 1), (3, .int x3), (4, .int x4), (5, .int x5), (6, .int x6)] [] m
noncomputable def f_Ears_chanceOf (x1 : Int32) (m : jx_Mem) : Option (Int32 × jx_Mem) := jx_K jx_kI 156 0 0 [(0, .ref 60), (1, .int x1)] [] m
noncomputable def f_Asking_wanters_5 (x1 : Int32) (x2 : Int32) (x3 : Int32) (x4 : Int32) (m : jx_Mem) : Option (Int32 × jx_Mem) := jx_K jx_kI 120 0 5 [(0, .ref 33), (1, .int x1), (2, .int x2), (3, .int x3), (4, .int x4)] [] m
noncomputable def f_M_sheet_111 (x1 : Int32) (x2 : Int32) (x3 : Int32) (x5 : Int32) (x6 : Int32) (x7 : Int32) (x8 : Int32) (y0 : Int32) (m : jx_Mem) : Option (Int32 × jx_Mem) := jx_K jx_kI 240 0 111 [(0, .ref 63), (1, .int x1), (2, .int x2), (3, .int x3), (5, .int x5), (6, .int x6), (7, .int x7), (8, .int x8)] [.int y0, .ref 72] m
noncomputable def f_M_sheet_126 (x1 : Int32) (x2 : Int32) (x3 : Int32) (x5 : Int32) (x6 : Int32) (x7 : Int32) (x8 : Int32) (y0 : Int32) (y1 : Int32) (m : jx_Mem) : Option (Int32 × jx_Mem) := jx_K jx_kI 240 0 126 [(0, .ref 63), (1, .int x1), (2, .int x2), (3, .int x3), (5, .int x5), (6, .int x6), (7, .int x7), (8, .int x8)] [.int y0, .int y1, .ref 72] m
noncomputable def f_M_isMixed_6 (x1 : Int32) (x2 : Int32) (x3 : Int32) (x4 : Int32) (x5 : Int32) (m : jx_Mem) : Option (Int32 × jx_Mem) := jx_K jx_kI 243 0 6 [(0, .ref 63), (1, .int x1), (2, .int x2), (3, .int x3), (4, .int x4), (5, .int x5)] [] m
noncomputable def f_M_isBetter_45 (y0 : Int32) (m : jx_Mem) : Option (Int32 × jx_Mem) := jx_K jx_kI 247 0 45 [] [.int y0] m
noncomputable def f_M_sumOf_5_r71 (x1 : Int32) (x3 : Int32) (x4 : Int32) (m : jx_Mem) : Option (Int32 × jx_Mem) := jx_K jx_kI 246 0 5 [(1, .int x1), (2, .ref 71), (3, .int x3), (4, .int x4)] [] m
noncomputable def f_M_sumOf_r70 (x1 : Int32) (m : jx_Mem) : Option (Int32 × jx_Mem) := jx_K jx_kI 246 0 0 [(0, .ref 63), (1, .int x1), (2, .ref 70)] [] m
noncomputable def f_M_parts (x1 : Int32) (x2 : Int32) (m : jx_Mem) : Option (Int32 × jx_Mem) := jx_K jx_kI 251 0 0 [(0, .ref 63), (1, .int x1), (2, .int x2)] [] m
noncomputable def f_M_trees_85 (x1 : Int32) (x2 : Int32) (x3 : Int32) (x4 : Int32) (x5 : Int32) (x6 : Int32) (m : jx_Mem) : Option jx_Mem := jx_K jx_kV 252 0 85 [(0, .ref 63), (1, .int x1), (2, .int x2), (3, .int x3), (4, .int x4), (5, .int x5), (6, .int x6)] [] m
noncomputable def f_M_trees_203 (x1 : Int32) (x2 : Int32) (x3 : Int32) (m : jx_Mem) : Option jx_Mem := jx_K jx_kV 252 0 203 [(0, .ref 63), (1, .int x1), (2, .int x2), (3, .int x3)] [] m
noncomputable def f_M_tells_21 (x1 : Int32) (x2 : Int32) (y0 : Int32) (m : jx_Mem) : Option jx_Mem := jx_K jx_kV 254 0 21 [(0, .ref 63), (1, .int x1), (2, .int x2)] [.int y0] m
noncomputable def f_M_partOf_44 (x1 : Int32) (x2 : Int32) (x3 : Int32) (x5 : Int32) (y0 : Int32) (m : jx_Mem) : Option (Int32 × jx_Mem) := jx_K jx_kI 250 0 44 [(0, .ref 63), (1, .int x1), (2, .int x2), (3, .int x3), (5, .int x5)] [.int y0] m
noncomputable def f_M_partOf_45 (x1 : Int32) (x2 : Int32) (x3 : Int32) (x5 : Int32) (y0 : Int32) (y1 : Int32) (m : jx_Mem) : Option (Int32 × jx_Mem) := jx_K jx_kI 250 0 45 [(0, .ref 63), (1, .int x1), (2, .int x2), (3, .int x3), (5, .int x5)] [.int y0, .int y1] m
noncomputable def f_M_ranked_138 (lev : Nat) (x3 : Int32) (m : jx_Mem) : Option (Int32 × jx_Mem) := jx_K jx_kI 264 lev 138 [(3, .int x3)] [] m
noncomputable def f_M_among_r908  (m : jx_Mem) : Option (Int32 × jx_Mem) := jx_K jx_kI 260 0 0 [(0, .ref 63), (1, .ref 908)] [] m
noncomputable def f_M_ranked_123_r908 (lev : Nat) (x1 : Int32) (x3 : Int32) (m : jx_Mem) : Option (Int32 × jx_Mem) := jx_K jx_kI 264 lev 123 [(0, .ref 63), (1, .int x1), (2, .ref 908), (3, .int x3)] [] m
noncomputable def f_M_marks (x1 : Int32) (m : jx_Mem) : Option jx_Mem := jx_K jx_kV 261 0 0 [(0, .ref 63), (1, .int x1)] [] m
noncomputable def f_M_among_r907  (m : jx_Mem) : Option (Int32 × jx_Mem) := jx_K jx_kI 260 0 0 [(0, .ref 63), (1, .ref 907)] [] m
noncomputable def f_M_ranked_123_r907 (lev : Nat) (x1 : Int32) (x3 : Int32) (m : jx_Mem) : Option (Int32 × jx_Mem) := jx_K jx_kI 264 lev 123 [(0, .ref 63), (1, .int x1), (2, .ref 907), (3, .int x3)] [] m
noncomputable def f_M_among_r906  (m : jx_Mem) : Option (Int32 × jx_Mem) := jx_K jx_kI 260 0 0 [(0, .ref 63), (1, .ref 906)] [] m
noncomputable def f_M_ranked_123_r906 (lev : Nat) (x1 : Int32) (x3 : Int32) (m : jx_Mem) : Option (Int32 × jx_Mem) := jx_K jx_kI 264 lev 123 [(0, .ref 63), (1, .int x1), (2, .ref 906), (3, .int x3)] [] m
noncomputable def f_M_among_r905  (m : jx_Mem) : Option (Int32 × jx_Mem) := jx_K jx_kI 260 0 0 [(0, .ref 63), (1, .ref 905)] [] m
noncomputable def f_M_ranked_123_r905 (lev : Nat) (x1 : Int32) (x3 : Int32) (m : jx_Mem) : Option (Int32 × jx_Mem) := jx_K jx_kI 264 lev 123 [(0, .ref 63), (1, .int x1), (2, .ref 905), (3, .int x3)] [] m
noncomputable def f_M_among_r904  (m : jx_Mem) : Option (Int32 × jx_Mem) := jx_K jx_kI 260 0 0 [(0, .ref 63), (1, .ref 904)] [] m
noncomputable def f_M_ranked_123_r904 (lev : Nat) (x1 : Int32) (x3 : Int32) (m : jx_Mem) : Option (Int32 × jx_Mem) := jx_K jx_kI 264 lev 123 [(0, .ref 63), (1, .int x1), (2, .ref 904), (3, .int x3)] [] m
noncomputable def f_M_among_2_r903 (x2 : Int32) (m : jx_Mem) : Option (Int32 × jx_Mem) := jx_K jx_kI 260 0 2 [(0, .ref 63), (1, .ref 903), (2, .int x2)] [] m
noncomputable def f_M_isDigit  (m : jx_Mem) : Option (Int32 × jx_Mem) := jx_K jx_kI 259 0 0 [(0, .ref 63)] [] m
noncomputable def f_M_among_r900  (m : jx_Mem) : Option (Int32 × jx_Mem) := jx_K jx_kI 260 0 0 [(0, .ref 63), (1, .ref 900)] [] m
noncomputable def f_M_among_r901  (m : jx_Mem) : Option (Int32 × jx_Mem) := jx_K jx_kI 260 0 0 [(0, .ref 63), (1, .ref 901)] [] m
noncomputable def f_M_thing__113 (lev : Nat)  (m : jx_Mem) : Option (Int32 × jx_Mem) := jx_K jx_kI 262 lev 113 [] [] m
noncomputable def f_M_thing__152 (lev : Nat)  (m : jx_Mem) : Option (Int32 × jx_Mem) := jx_K jx_kI 262 lev 152 [] [] m
noncomputable def f_M_among_r902  (m : jx_Mem) : Option (Int32 × jx_Mem) := jx_K jx_kI 260 0 0 [(0, .ref 63), (1, .ref 902)] [] m
noncomputable def f_M_thing__11 (lev : Nat) (x1 : Int32) (x2 : Int32) (m : jx_Mem) : Option (Int32 × jx_Mem) := jx_K jx_kI 262 lev 11 [(0, .ref 63), (1, .int x1), (2, .int x2)] [] m
noncomputable def f_M_rule_129 (x4 : Int32) (m : jx_Mem) : Option (Int32 × jx_Mem) := jx_K jx_kI 265 0 129 [(0, .ref 63), (4, .int x4)] [] m
noncomputable def f_M_acted (x0 : Int32) (x1 : Int32) (x2 : Int32) (m : jx_Mem) : Option (Int32 × jx_Mem) := jx_K jx_kI 268 0 0 [(0, .int x0), (1, .int x1), (2, .int x2)] [] m
noncomputable def f_M_peopleAt (x1 : Int32) (m : jx_Mem) : Option (Int32 × jx_Mem) := jx_K jx_kI 267 0 0 [(0, .ref 63), (1, .int x1)] [] m
noncomputable def f_M_order_126 (x1 : Int32) (x3 : Int32) (x5 : Int32) (y0 : Int32) (y1 : Int32) (m : jx_Mem) : Option (Int32 × jx_Mem) := jx_K jx_kI 271 0 126 [(0, .ref 63), (1, .int x1), (3, .int x3), (5, .int x5)] [.int y0, .int y1] m
noncomputable def f_M_order_75 (x1 : Int32) (x2 : Int32) (x3 : Int32) (x5 : Int32) (y0 : Int32) (m : jx_Mem) : Option (Int32 × jx_Mem) := jx_K jx_kI 271 0 75 [(0, .ref 63), (1, .int x1), (2, .int x2), (3, .int x3), (5, .int x5)] [.int y0] m
noncomputable def f_M_goesRound_2 (x1 : Int32) (m : jx_Mem) : Option (Int32 × jx_Mem) := jx_K jx_kI 279 0 2 [(0, .ref 63), (1, .int x1)] [] m
noncomputable def f_M_isAs (x1 : Int32) (m : jx_Mem) : Option (Int32 × jx_Mem) := jx_K jx_kI 282 0 0 [(0, .ref 63), (1, .int x1)] [] m
noncomputable def f_M_settling_51 (y0 : Int32) (m : jx_Mem) : Option (Int32 × jx_Mem) := jx_K jx_kI 283 0 51 [] [.int y0] m
noncomputable def f_M_findsThefts_207 (x2 : Int32) (x3 : Int32) (m : jx_Mem) : Option jx_Mem := jx_K jx_kV 290 0 207 [(0, .ref 63), (2, .int x2), (3, .int x3)] [] m
noncomputable def f_M_findsThefts_78 (x1 : Int32) (x2 : Int32) (x3 : Int32) (x4 : Int32) (m : jx_Mem) : Option jx_Mem := jx_K jx_kV 290 0 78 [(0, .ref 63), (1, .int x1), (2, .int x2), (3, .int x3), (4, .int x4)] [] m
noncomputable def f_M_isGang_2 (x1 : Int32) (x2 : Int32) (m : jx_Mem) : Option (Int32 × jx_Mem) := jx_K jx_kI 294 0 2 [(0, .ref 63), (1, .int x1), (2, .int x2)] [] m
noncomputable def f_M_gives_163 (lev : Nat) (x1 : Int32) (x2 : Int32) (x3 : Int32) (x4 : Int32) (m : jx_Mem) : Option (Int32 × jx_Mem) := jx_K jx_kI 297 lev 163 [(0, .ref 63), (1, .int x1), (2, .int x2), (3, .int x3), (4, .int x4)] [] m
noncomputable def f_M_sounds_17 (y0 : Int32) (m : jx_Mem) : Option (Int32 × jx_Mem) := jx_K jx_kI 299 0 17 [] [.int y0] m
noncomputable def f_M_isHeard (x1 : Int32) (x2 : Int32) (m : jx_Mem) : Option (Int32 × jx_Mem) := jx_K jx_kI 304 0 0 [(0, .ref 63), (1, .int x1), (2, .int x2)] [] m
noncomputable def f_M_crowds_150 (x1 : Int32) (x2 : Int32) (x3 : Int32) (x4 : Int32) (x5 : Int32) (m : jx_Mem) : Option (Int32 × jx_Mem) := jx_K jx_kI 305 0 150 [(0, .ref 63), (1, .int x1), (2, .int x2), (3, .int x3), (4, .int x4), (5, .int x5)] [] m
noncomputable def f_M_crowds_118 (x1 : Int32) (x2 : Int32) (x3 : Int32) (x4 : Int32) (x5 : Int32) (x7 : Int32) (m : jx_Mem) : Option (Int32 × jx_Mem) := jx_K jx_kI 305 0 118 [(0, .ref 63), (1, .int x1), (2, .int x2), (3, .int x3), (4, .int x4), (5, .int x5), (7, .int x7)] [] m
noncomputable def f_M_gas_103 (x1 : Int32) (x2 : Int32) (x3 : Int32) (y0 : Int32) (m : jx_Mem) : Option (Int32 × jx_Mem) := jx_K jx_kI 306 0 103 [(0, .ref 63), (1, .int x1), (2, .int x2), (3, .int x3)] [.int y0, .ref 63] m
noncomputable def f_M_lasts_133 (x1 : Int32) (x2 : Int32) (x4 : Int32) (y0 : Int32) (m : jx_Mem) : Option (Int32 × jx_Mem) := jx_K jx_kI 308 0 133 [(0, .ref 63), (1, .int x1), (2, .int x2), (4, .int x4)] [.int y0] m
noncomputable def f_M_leave_150 (x1 : Int32) (x2 : Int32) (x3 : Int32) (x5 : Int32) (y0 : Int32) (m : jx_Mem) : Option (Int32 × jx_Mem) := jx_K jx_kI 309 0 150 [(0, .ref 63), (1, .int x1), (2, .int x2), (3, .int x3), (5, .int x5)] [.int y0] m
noncomputable def f_M_leave_85 (x1 : Int32) (x2 : Int32) (x3 : Int32) (x5 : Int32) (x6 : Int32) (m : jx_Mem) : Option (Int32 × jx_Mem) := jx_K jx_kI 309 0 85 [(0, .ref 63), (1, .int x1), (2, .int x2), (3, .int x3), (5, .int x5), (6, .int x6)] [] m
noncomputable def f_M_leave_86 (x1 : Int32) (x2 : Int32) (x3 : Int32) (x5 : Int32) (x6 : Int32) (y0 : Int32) (m : jx_Mem) : Option (Int32 × jx_Mem) := jx_K jx_kI 309 0 86 [(0, .ref 63), (1, .int x1), (2, .int x2), (3, .int x3), (5, .int x5), (6, .int x6)] [.int y0] m
noncomputable def f_M_judges_130 (x5 : Int32) (m : jx_Mem) : Option (Int32 × jx_Mem) := jx_K jx_kI 314 0 130 [(5, .int x5)] [] m
noncomputable def f_M_entersFraction (x1 : Int64) (x3 : Int64) (m : jx_Mem) : Option jx_Mem := jx_K jx_kV 221 0 0 [(0, .ref 63), (1, .long x1), (3, .long x3)] [] m
noncomputable def f_M_judges_51 (x1 : Int32) (x2 : Int32) (x3 : Int32) (x4 : Int32) (x5 : Int32) (x6 : Int32) (x7 : Int32) (x8 : Int32) (x9 : Int32) (m : jx_Mem) : Option (Int32 × jx_Mem) := jx_K jx_kI 314 0 51 [(0, .ref 63), (1, .int x1), (2, .int x2), (3, .int x3), (4, .int x4), (5, .int x5), (6, .int x6), (7, .int x7), (8, .int x8), (9, .int x9)] [] m
noncomputable def f_M_judges_80 (x1 : Int32) (x2 : Int32) (x3 : Int32) (x4 : Int32) (x5 : Int32) (x6 : Int32) (x7 : Int32) (x8 : Int32) (x9 : Int32) (y0 : Int32) (m : jx_Mem) : Option (Int32 × jx_Mem) := jx_K jx_kI 314 0 80 [(0, .ref 63), (1, .int x1), (2, .int x2), (3, .int x3), (4, .int x4), (5, .int x5), (6, .int x6), (7, .int x7), (8, .int x8), (9, .int x9)] [.int y0] m
noncomputable def f_M_lamp_244 (x2 : Int32) (x3 : Int32) (x5 : Int32) (y0 : Int32) (m : jx_Mem) : Option (Int32 × jx_Mem) := jx_K jx_kI 318 0 244 [(0, .ref 63), (2, .int x2), (3, .int x3), (5, .int x5)] [.int y0] m
noncomputable def f_M_lamp_245 (x2 : Int32) (x3 : Int32) (x5 : Int32) (y0 : Int32) (y1 : Int32) (m : jx_Mem) : Option (Int32 × jx_Mem) := jx_K jx_kI 318 0 245 [(0, .ref 63), (2, .int x2), (3, .int x3), (5, .int x5)] [.int y0, .int y1] m
noncomputable def f_M_lamp_206 (x2 : Int32) (x3 : Int32) (x4 : Int32) (x5 : Int32) (x7 : Int32) (y0 : Int32) (m : jx_Mem) : Option (Int32 × jx_Mem) := jx_K jx_kI 318 0 206 [(0, .ref 63), (2, .int x2), (3, .int x3), (4, .int x4), (5, .int x5), (7, .int x7)] [.int y0] m
noncomputable def f_M_lamp_207 (x2 : Int32) (x3 : Int32) (x4 : Int32) (x5 : Int32) (x7 : Int32) (y0 : Int32) (y1 : Int32) (m : jx_Mem) : Option (Int32 × jx_Mem) := jx_K jx_kI 318 0 207 [(0, .ref 63), (2, .int x2), (3, .int x3), (4, .int x4), (5, .int x5), (7, .int x7)] [.int y0, .int y1] m
noncomputable def f_Goods_readSheet_124 (y0 : Int32) (m : jx_Mem) : Option (Int32 × jx_Mem) := jx_K jx_kI 43 0 124 [] [.int y0] m
noncomputable def f_Goods_readSheet_87 (x1 : Int32) (x2 : Int32) (x4 : Int32) (x5 : Int32) (x6 : Int32) (x7 : Int32) (x8 : Int32) (y0 : Int32) (m : jx_Mem) : Option (Int32 × jx_Mem) := jx_K jx_kI 43 0 87 [(0, .ref 9), (1, .int x1), (2, .int x2), (4, .int x4), (5, .int x5), (6, .int x6), (7, .int x7), (8, .int x8)] [.int y0] m
noncomputable def f_Goods_entry (x0 : Int32) (x1 : Int32) (m : jx_Mem) : Option (Int32 × jx_Mem) := jx_K jx_kI 44 0 0 [(0, .int x0), (1, .int x1)] [] m
noncomputable def f_Goods_sameAs_41 (x1 : Int32) (x2 : Int32) (x4 : Int32) (x5 : Int32) (m : jx_Mem) : Option (Int32 × jx_Mem) := jx_K jx_kI 48 0 41 [(0, .ref 9), (1, .int x1), (2, .int x2), (4, .int x4), (5, .int x5)] [] m
noncomputable def f_Goods_betterTests_36 (y0 : Int32) (m : jx_Mem) : Option (Int32 × jx_Mem) := jx_K jx_kI 52 0 36 [] [.int y0] m
noncomputable def f_Goods_costOfAll_4 (x1 : Int32) (x2 : Int32) (x3 : Int32) (m : jx_Mem) : Option (Int32 × jx_Mem) := jx_K jx_kI 53 0 4 [(0, .ref 9), (1, .int x1), (2, .int x2), (3, .int x3)] [] m
noncomputable def f_Goods_givesWay_63 (x1 : Int32) (x2 : Int32) (x3 : Int32) (m : jx_Mem) : Option (Int32 × jx_Mem) := jx_K jx_kI 55 0 63 [(0, .ref 9), (1, .int x1), (2, .int x2), (3, .int x3)] [] m
noncomputable def f_Goods_givesWay_61  (m : jx_Mem) : Option (Int32 × jx_Mem) := jx_K jx_kI 55 0 61 [] [] m
noncomputable def f_Goods_parts_2 (x1 : Int32) (x2 : Int32) (x3 : Int32) (m : jx_Mem) : Option (Int32 × jx_Mem) := jx_K jx_kI 47 0 2 [(0, .ref 9), (1, .int x1), (2, .int x2), (3, .int x3)] [] m
noncomputable def f_Goods_costOf_18 (y0 : Int32) (m : jx_Mem) : Option (Int32 × jx_Mem) := jx_K jx_kI 40 0 18 [] [.int y0] m
noncomputable def f_Tree_leastOfParts_6 (lev : Nat) (x1 : Int32) (x2 : Int32) (x3 : Int32) (x4 : Int32) (x5 : Int32) (m : jx_Mem) : Option (Int32 × jx_Mem) := jx_K jx_kI 59 lev 6 [(0, .ref 14), (1, .int x1), (2, .int x2), (3, .int x3), (4, .int x4), (5, .int x5)] [] m
noncomputable def f_Tree_costFor_72 (x4 : Int32) (m : jx_Mem) : Option (Int32 × jx_Mem) := jx_K jx_kI 62 0 72 [(4, .int x4)] [] m
noncomputable def f_Tree_mostTold_164 (lev : Nat) (x1 : Int32) (x2 : Int32) (x3 : Int32) (x4 : Int32) (x5 : Int32) (x6 : Int32) (m : jx_Mem) : Option (Int32 × jx_Mem) := jx_K jx_kI 65 lev 164 [(0, .ref 14), (1, .int x1), (2, .int x2), (3, .int x3), (4, .int x4), (5, .int x5), (6, .int x6)] [] m
noncomputable def f_Tree_mostOfParts (lev : Nat) (x1 : Int32) (x2 : Int32) (x3 : Int32) (x4 : Int32) (m : jx_Mem) : Option (Int32 × jx_Mem) := jx_K jx_kI 66 lev 0 [(0, .ref 14), (1, .int x1), (2, .int x2), (3, .int x3), (4, .int x4)] [] m
noncomputable def f_Goods_oftenOf_29 (x1 : Int32) (x2 : Int32) (x3 : Int32) (m : jx_Mem) : Option (Int32 × jx_Mem) := jx_K jx_kI 49 0 29 [(0, .ref 9), (1, .int x1), (2, .int x2), (3, .int x3)] [] m
noncomputable def f_Rule_release_54  (m : jx_Mem) : Option jx_Mem := jx_K jx_kV 84 0 54 [] [] m
noncomputable def f_Rule_isDigit_16  (m : jx_Mem) : Option (Int32 × jx_Mem) := jx_K jx_kI 78 0 16 [] [] m
noncomputable def f_Rule_isDigit_17 (y0 : Int32) (m : jx_Mem) : Option (Int32 × jx_Mem) := jx_K jx_kI 78 0 17 [] [.int y0] m
noncomputable def f_Rule_takesBehind_84 (x1 : Int32) (x2 : Int32) (m : jx_Mem) : Option (Int32 × jx_Mem) := jx_K jx_kI 74 0 84 [(0, .ref 18), (1, .int x1), (2, .int x2)] [] m
noncomputable def f_Rule_takesBehind_83 (x1 : Int32) (x2 : Int32) (y0 : Int32) (y1 : Int32) (m : jx_Mem) : Option (Int32 × jx_Mem) := jx_K jx_kI 74 0 83 [(0, .ref 18), (1, .int x1), (2, .int x2)] [.int y0, .int y1, .ref 23] m
noncomputable def f_Rule_goesOn_22  (m : jx_Mem) : Option (Int32 × jx_Mem) := jx_K jx_kI 75 0 22 [] [] m
noncomputable def f_Rule_emit_32  (m : jx_Mem) : Option jx_Mem := jx_K jx_kV 82 0 32 [] [] m
noncomputable def f_Rule_await_32  (m : jx_Mem) : Option jx_Mem := jx_K jx_kV 83 0 32 [] [] m
noncomputable def f_Mine_peopleAt (x1 : Int32) (m : jx_Mem) : Option (Int32 × jx_Mem) := jx_K jx_kI 28 0 0 [(0, .ref 3), (1, .int x1)] [] m
noncomputable def f_Rule_put (x1 : Int32) (x2 : Int32) (m : jx_Mem) : Option (Int32 × jx_Mem) := jx_K jx_kI 86 0 0 [(0, .ref 18), (1, .int x1), (2, .int x2)] [] m
noncomputable def f_Rule_between (x0 : Int32) (x1 : Int32) (x2 : Int32) (m : jx_Mem) : Option (Int32 × jx_Mem) := jx_K jx_kI 88 0 0 [(0, .int x0), (1, .int x1), (2, .int x2)] [] m
noncomputable def f_Rule_bit_9 (y0 : Int32) (m : jx_Mem) : Option (Int32 × jx_Mem) := jx_K jx_kI 89 0 9 [] [.int y0] m
noncomputable def f_Rule_equalPairs_4 (x1 : Int32) (x2 : Int32) (x3 : Int32) (m : jx_Mem) : Option (Int32 × jx_Mem) := jx_K jx_kI 92 0 4 [(0, .ref 18), (1, .int x1), (2, .int x2), (3, .int x3)] [] m
noncomputable def f_Rule_firstOf_8 (x1 : Int32) (x2 : Int32) (x3 : Int32) (x4 : Int32) (x5 : Int32) (m : jx_Mem) : Option (Int32 × jx_Mem) := jx_K jx_kI 91 0 8 [(0, .ref 18), (1, .int x1), (2, .int x2), (3, .int x3), (4, .int x4), (5, .int x5)] [] m
noncomputable def f_Asking_lateFor (x1 : Int32) (x2 : Int32) (m : jx_Mem) : Option (Int32 × jx_Mem) := jx_K jx_kI 115 0 0 [(0, .ref 33), (1, .int x1), (2, .int x2)] [] m
noncomputable def f_Asking_askOnce_55 (x1 : Int32) (x2 : Int32) (x3 : Int32) (m : jx_Mem) : Option (Int32 × jx_Mem) := jx_K jx_kI 116 0 55 [(0, .ref 33), (1, .int x1), (2, .int x2), (3, .int x3)] [] m
noncomputable def f_Asking_choice (x1 : Int32) (x2 : Int32) (m : jx_Mem) : Option (Int32 × jx_Mem) := jx_K jx_kI 118 0 0 [(0, .ref 33), (1, .int x1), (2, .int x2)] [] m
noncomputable def f_Asking_askOnce_45 (x1 : Int32) (x2 : Int32) (m : jx_Mem) : Option (Int32 × jx_Mem) := jx_K jx_kI 116 0 45 [(0, .ref 33), (1, .int x1), (2, .int x2)] [] m
noncomputable def f_Asking_sameBehind_3 (x1 : Int32) (x2 : Int32) (x3 : Int32) (m : jx_Mem) : Option (Int32 × jx_Mem) := jx_K jx_kI 113 0 3 [(0, .ref 33), (1, .int x1), (2, .int x2), (3, .int x3)] [] m
noncomputable def f_Watch_present_6 (x1 : Int32) (x2 : Int32) (x3 : Int32) (x4 : Int32) (x5 : Int32) (m : jx_Mem) : Option (Int32 × jx_Mem) := jx_K jx_kI 129 0 6 [(0, .ref 38), (1, .int x1), (2, .int x2), (3, .int x3), (4, .int x4), (5, .int x5)] [] m
noncomputable def f_Watch_smallestGang_96 (x1 : Int32) (x2 : Int32) (x3 : Int32) (m : jx_Mem) : Option (Int32 × jx_Mem) := jx_K jx_kI 130 0 96 [(0, .ref 38), (1, .int x1), (2, .int x2), (3, .int x3)] [] m
noncomputable def f_Watch_meetsAll (x1 : Int32) (x2 : Int32) (m : jx_Mem) : Option (Int32 × jx_Mem) := jx_K jx_kI 131 0 0 [(0, .ref 38), (1, .int x1), (2, .int x2)] [] m
noncomputable def f_Watch_traceBack_14 (x1 : Int32) (x2 : Int32) (x3 : Int64) (x5 : Int64) (x7 : Int64) (x9 : Int32) (m : jx_Mem) : Option (Int64 × jx_Mem) := jx_K jx_kL 134 0 14 [(0, .ref 38), (1, .int x1), (2, .int x2), (3, .long x3), (5, .long x5), (7, .long x7), (9, .int x9)] [] m
noncomputable def f_Watch_canTake_5 (x1 : Int32) (x2 : Int32) (x3 : Int32) (x4 : Int32) (m : jx_Mem) : Option (Int64 × jx_Mem) := jx_K jx_kL 136 0 5 [(0, .ref 38), (1, .int x1), (2, .int x2), (3, .int x3), (4, .int x4)] [] m
noncomputable def f_Watch_giveTo_22 (x1 : Int32) (x2 : Int32) (x3 : Int64) (x5 : Int32) (x6 : Int32) (x7 : Int32) (m : jx_Mem) : Option jx_Mem := jx_K jx_kV 133 0 22 [(0, .ref 38), (1, .int x1), (2, .int x2), (3, .long x3), (5, .int x5), (6, .int x6), (7, .int x7)] [] m
noncomputable def f_Noise_isHopeless_64  (m : jx_Mem) : Option (Int32 × jx_Mem) := jx_K jx_kI 145 0 64 [] [] m
noncomputable def f_Noise_shout_2 (x1 : Int32) (x2 : Int32) (x3 : Int32) (m : jx_Mem) : Option jx_Mem := jx_K jx_kV 146 0 2 [(0, .ref 52), (1, .int x1), (2, .int x2), (3, .int x3)] [] m
noncomputable def f_Air_nearest_41 (x1 : Int32) (x2 : Int32) (x3 : Int32) (m : jx_Mem) : Option (Int32 × jx_Mem) := jx_K jx_kI 152 0 41 [(0, .ref 59), (1, .int x1), (2, .int x2), (3, .int x3)] [] m
noncomputable def f_Air_nearest_42 (x1 : Int32) (x2 : Int32) (x3 : Int32) (y0 : Int32) (m : jx_Mem) : Option (Int32 × jx_Mem) := jx_K jx_kI 152 0 42 [(0, .ref 59), (1, .int x1), (2, .int x2), (3, .int x3)] [.int y0] m
noncomputable def f_Row_tellFraction (x1 : Int32) (x2 : Int32) (m : jx_Mem) : Option jx_Mem := jx_K jx_kV 7 0 0 [(0, .ref 1), (1, .int x1), (2, .int x2)] [] m
noncomputable def f_Ears_likeliest_53 (x1 : Int32) (x3 : Int32) (x4 : Int32) (x5 : Int32) (x6 : Int32) (m : jx_Mem) : Option (Int32 × jx_Mem) := jx_K jx_kI 160 0 53 [(0, .ref 60), (1, .int x1), (2, .ref 1), (3, .int x3), (4, .int x4), (5, .int x5), (6, .int x6)] [] m
noncomputable def f_Ears_chanceOf_24 (y0 : Int32) (m : jx_Mem) : Option (Int32 × jx_Mem) := jx_K jx_kI 156 0 24 [] [.int y0] m
noncomputable def f_Asking_wanters_43 (x1 : Int32) (x2 : Int32) (x3 : Int32) (x4 : Int32) (m : jx_Mem) : Option (Int32 × jx_Mem) := jx_K jx_kI 120 0 43 [(0, .ref 33), (1, .int x1), (2, .int x2), (3, .int x3), (4, .int x4)] [] m
noncomputable def f_Asking_wanters_44 (x1 : Int32) (x2 : Int32) (x3 : Int32) (x4 : Int32) (y0 : Int32) (m : jx_Mem) : Option (Int32 × jx_Mem) := jx_K jx_kI 120 0 44 [(0, .ref 33), (1, .int x1), (2, .int x2), (3, .int x3), (4, .int x4)] [.int y0] m
noncomputable def f_M_isMixed_47 (x1 : Int32) (x2 : Int32) (x3 : Int32) (x5 : Int32) (m : jx_Mem) : Option (Int32 × jx_Mem) := jx_K jx_kI 243 0 47 [(0, .ref 63), (1, .int x1), (2, .int x2), (3, .int x3), (5, .int x5)] [] m
noncomputable def f_M_isMixed_51 (x1 : Int32) (x2 : Int32) (x3 : Int32) (x5 : Int32) (m : jx_Mem) : Option (Int32 × jx_Mem) := jx_K jx_kI 243 0 51 [(0, .ref 63), (1, .int x1), (2, .int x2), (3, .int x3), (5, .int x5)] [] m
noncomputable def f_M_sumOf_30_r71 (x1 : Int32) (x4 : Int32) (y0 : Int32) (y1 : Int32) (m : jx_Mem) : Option (Int32 × jx_Mem) := jx_K jx_kI 246 0 30 [(1, .int x1), (2, .ref 71), (4, .int x4)] [.int y0, .int y1] m
noncomputable def f_M_sumOf_5_r70 (x1 : Int32) (x3 : Int32) (x4 : Int32) (m : jx_Mem) : Option (Int32 × jx_Mem) := jx_K jx_kI 246 0 5 [(1, .int x1), (2, .ref 70), (3, .int x3), (4, .int x4)] [] m
noncomputable def f_Int_numberOfTrailingZeros (x0 : Int32) (m : jx_Mem) : Option (Int32 × jx_Mem) := jx_K jx_kI 1 0 0 [(0, .int x0)] [] m
noncomputable def f_M_parts_26 (y0 : Int32) (m : jx_Mem) : Option (Int32 × jx_Mem) := jx_K jx_kI 251 0 26 [] [.int y0] m
noncomputable def f_M_trees_173 (x1 : Int32) (x2 : Int32) (x3 : Int32) (x4 : Int32) (x5 : Int32) (m : jx_Mem) : Option jx_Mem := jx_K jx_kV 252 0 173 [(0, .ref 63), (1, .int x1), (2, .int x2), (3, .int x3), (4, .int x4), (5, .int x5)] [] m
noncomputable def f_M_trees_120 (x1 : Int32) (x2 : Int32) (x3 : Int32) (x5 : Int32) (x6 : Int32) (x7 : Int32) (y0 : Int32) (y1 : Int32) (m : jx_Mem) : Option jx_Mem := jx_K jx_kV 252 0 120 [(0, .ref 63), (1, .int x1), (2, .int x2), (3, .int x3), (5, .int x5), (6, .int x6), (7, .int x7)] [.int y0, .int y1] m
noncomputable def f_M_tells_25 (x1 : Int32) (x2 : Int32) (x3 : Int32) (x4 : Int32) (m : jx_Mem) : Option jx_Mem := jx_K jx_kV 254 0 25 [(0, .ref 63), (1, .int x1), (2, .int x2), (3, .int x3), (4, .int x4)] [] m
noncomputable def f_M_among_2_r908 (x2 : Int32) (m : jx_Mem) : Option (Int32 × jx_Mem) := jx_K jx_kI 260 0 2 [(0, .ref 63), (1, .ref 908), (2, .int x2)] [] m
noncomputable def f_M_ranked_133_r908 (lev : Nat) (x1 : Int32) (x3 : Int32) (y0 : Int32) (m : jx_Mem) : Option (Int32 × jx_Mem) := jx_K jx_kI 264 lev 133 [(0, .ref 63), (1, .int x1), (2, .ref 908), (3, .int x3)] [.int y0] m
noncomputable def f_M_among_2_r907 (x2 : Int32) (m : jx_Mem) : Option (Int32 × jx_Mem) := jx_K jx_kI 260 0 2 [(0, .ref 63), (1, .ref 907), (2, .int x2)] [] m
noncomputable def f_M_ranked_133_r907 (lev : Nat) (x1 : Int32) (x3 : Int32) (y0 : Int32) (m : jx_Mem) : Option (Int32 × jx_Mem) := jx_K jx_kI 264 lev 133 [(0, .ref 63), (1, .int x1), (2, .ref 907), (3, .int x3)] [.int y0] m
noncomputable def f_M_among_2_r906 (x2 : Int32) (m : jx_Mem) : Option (Int32 × jx_Mem) := jx_K jx_kI 260 0 2 [(0, .ref 63), (1, .ref 906), (2, .int x2)] [] m
noncomputable def f_M_ranked_133_r906 (lev : Nat) (x1 : Int32) (x3 : Int32) (y0 : Int32) (m : jx_Mem) : Option (Int32 × jx_Mem) := jx_K jx_kI 264 lev 133 [(0, .ref 63), (1, .int x1), (2, .ref 906), (3, .int x3)] [.int y0] m
noncomputable def f_M_among_2_r905 (x2 : Int32) (m : jx_Mem) : Option (Int32 × jx_Mem) := jx_K jx_kI 260 0 2 [(0, .ref 63), (1, .ref 905), (2, .int x2)] [] m
noncomputable def f_M_ranked_133_r905 (lev : Nat) (x1 : Int32) (x3 : Int32) (y0 : Int32) (m : jx_Mem) : Option (Int32 × jx_Mem) := jx_K jx_kI 264 lev 133 [(0, .ref 63), (1, .int x1), (2, .ref 905), (3, .int x3)] [.int y0] m
noncomputable def f_M_among_2_r904 (x2 : Int32) (m : jx_Mem) : Option (Int32 × jx_Mem) := jx_K jx_kI 260 0 2 [(0, .ref 63), (1, .ref 904), (2, .int x2)] [] m
noncomputable def f_M_ranked_133_r904 (lev : Nat) (x1 : Int32) (x3 : Int32) (y0 : Int32) (m : jx_Mem) : Option (Int32 × jx_Mem) := jx_K jx_kI 264 lev 133 [(0, .ref 63), (1, .int x1), (2, .ref 904), (3, .int x3)] [.int y0] m
noncomputable def f_M_among_46  (m : jx_Mem) : Option (Int32 × jx_Mem) := jx_K jx_kI 260 0 46 [] [] m
noncomputable def f_M_isDigit_37  (m : jx_Mem) : Option (Int32 × jx_Mem) := jx_K jx_kI 259 0 37 [] [] m
noncomputable def f_M_isDigit_38 (y0 : Int32) (m : jx_Mem) : Option (Int32 × jx_Mem) := jx_K jx_kI 259 0 38 [] [.int y0] m
noncomputable def f_M_among_2_r900 (x2 : Int32) (m : jx_Mem) : Option (Int32 × jx_Mem) := jx_K jx_kI 260 0 2 [(0, .ref 63), (1, .ref 900), (2, .int x2)] [] m
noncomputable def f_M_among_2_r901 (x2 : Int32) (m : jx_Mem) : Option (Int32 × jx_Mem) := jx_K jx_kI 260 0 2 [(0, .ref 63), (1, .ref 901), (2, .int x2)] [] m
noncomputable def f_M_among_2_r902 (x2 : Int32) (m : jx_Mem) : Option (Int32 × jx_Mem) := jx_K jx_kI 260 0 2 [(0, .ref 63), (1, .ref 902), (2, .int x2)] [] m
noncomputable def f_M_thing__57 (lev : Nat) (x1 : Int32) (m : jx_Mem) : Option (Int32 × jx_Mem) := jx_K jx_kI 262 lev 57 [(0, .ref 63), (1, .int x1)] [] m
noncomputable def f_M_acted_195  (m : jx_Mem) : Option (Int32 × jx_Mem) := jx_K jx_kI 268 0 195 [] [] m
noncomputable def f_M_acted_200 (y0 : Int32) (m : jx_Mem) : Option (Int32 × jx_Mem) := jx_K jx_kI 268 0 200 [] [.int y0] m
noncomputable def f_M_acted_152 (y0 : Int32) (m : jx_Mem) : Option (Int32 × jx_Mem) := jx_K jx_kI 268 0 152 [] [.int y0] m
noncomputable def f_M_acted_166 (y0 : Int32) (m : jx_Mem) : Option (Int32 × jx_Mem) := jx_K jx_kI 268 0 166 [] [.int y0] m
noncomputable def f_M_acted_138 (y0 : Int32) (m : jx_Mem) : Option (Int32 × jx_Mem) := jx_K jx_kI 268 0 138 [] [.int y0] m
noncomputable def f_M_acted_182  (m : jx_Mem) : Option (Int32 × jx_Mem) := jx_K jx_kI 268 0 182 [] [] m
noncomputable def f_M_acted_183 (y0 : Int32) (m : jx_Mem) : Option (Int32 × jx_Mem) := jx_K jx_kI 268 0 183 [] [.int y0] m
noncomputable def f_M_peopleAt_4 (x1 : Int32) (x2 : Int32) (x3 : Int32) (m : jx_Mem) : Option (Int32 × jx_Mem) := jx_K jx_kI 267 0 4 [(0, .ref 63), (1, .int x1), (2, .int x2), (3, .int x3)] [] m
noncomputable def f_M_goesRound_25 (x1 : Int32) (m : jx_Mem) : Option (Int32 × jx_Mem) := jx_K jx_kI 279 0 25 [(0, .ref 63), (1, .int x1)] [] m
noncomputable def f_M_isAs_2 (x1 : Int32) (x2 : Int32) (m : jx_Mem) : Option (Int32 × jx_Mem) := jx_K jx_kI 282 0 2 [(0, .ref 63), (1, .int x1), (2, .int x2)] [] m
noncomputable def f_M_isGang_15 (x1 : Int32) (x2 : Int32) (x3 : Int32) (m : jx_Mem) : Option (Int32 × jx_Mem) := jx_K jx_kI 294 0 15 [(0, .ref 63), (1, .int x1), (2, .int x2), (3, .int x3)] [] m
noncomputable def f_M_isHeard_2 (x1 : Int32) (x2 : Int32) (x3 : Int32) (m : jx_Mem) : Option (Int32 × jx_Mem) := jx_K jx_kI 304 0 2 [(0, .ref 63), (1, .int x1), (2, .int x2), (3, .int x3)] [] m
noncomputable def f_M_crowds_147 (x1 : Int32) (x2 : Int32) (x3 : Int32) (x4 : Int32) (x5 : Int32) (m : jx_Mem) : Option (Int32 × jx_Mem) := jx_K jx_kI 305 0 147 [(0, .ref 63), (1, .int x1), (2, .int x2), (3, .int x3), (4, .int x4), (5, .int x5)] [] m
noncomputable def f_M_gas_120 (x1 : Int32) (x2 : Int32) (x3 : Int32) (y0 : Int32) (m : jx_Mem) : Option (Int32 × jx_Mem) := jx_K jx_kI 306 0 120 [(0, .ref 63), (1, .int x1), (2, .int x2), (3, .int x3)] [.int y0, .ref 63] m
noncomputable def f_M_leave_199 (x1 : Int32) (x2 : Int32) (x3 : Int32) (x4 : Int32) (x5 : Int32) (m : jx_Mem) : Option (Int32 × jx_Mem) := jx_K jx_kI 309 0 199 [(0, .ref 63), (1, .int x1), (2, .int x2), (3, .int x3), (4, .int x4), (5, .int x5)] [] m
noncomputable def f_M_leave_197 (x1 : Int32) (x2 : Int32) (x3 : Int32) (x5 : Int32) (y0 : Int32) (m : jx_Mem) : Option (Int32 × jx_Mem) := jx_K jx_kI 309 0 197 [(0, .ref 63), (1, .int x1), (2, .int x2), (3, .int x3), (5, .int x5)] [.int y0] m
noncomputable def f_M_leave_130 (x1 : Int32) (x2 : Int32) (x3 : Int32) (x5 : Int32) (x6 : Int32) (m : jx_Mem) : Option (Int32 × jx_Mem) := jx_K jx_kI 309 0 130 [(0, .ref 63), (1, .int x1), (2, .int x2), (3, .int x3), (5, .int x5), (6, .int x6)] [] m
noncomputable def f_M_leave_125 (x1 : Int32) (x2 : Int32) (x3 : Int32) (x6 : Int32) (m : jx_Mem) : Option (Int32 × jx_Mem) := jx_K jx_kI 309 0 125 [(0, .ref 63), (1, .int x1), (2, .int x2), (3, .int x3), (6, .int x6)] [] m
noncomputable def f_M_common (x0 : Int64) (x2 : Int64) (m : jx_Mem) : Option (Int64 × jx_Mem) := jx_K jx_kL 220 0 0 [(0, .long x0), (2, .long x2)] [] m
noncomputable def f_M_judges_69 (x1 : Int32) (x2 : Int32) (x3 : Int32) (x4 : Int32) (x5 : Int32) (x6 : Int32) (x7 : Int32) (x8 : Int32) (x9 : Int32) (y0 : Int32) (m : jx_Mem) : Option (Int32 × jx_Mem) := jx_K jx_kI 314 0 69 [(0, .ref 63), (1, .int x1), (2, .int x2), (3, .int x3), (4, .int x4), (5, .int x5), (6, .int x6), (7, .int x7), (8, .int x8), (9, .int x9)] [.int y0, .ref 63] m
noncomputable def f_M_judges_104 (x1 : Int32) (x2 : Int32) (x3 : Int32) (x4 : Int32) (x5 : Int32) (x6 : Int32) (x7 : Int32) (x8 : Int32) (x9 : Int32) (m : jx_Mem) : Option (Int32 × jx_Mem) := jx_K jx_kI 314 0 104 [(0, .ref 63), (1, .int x1), (2, .int x2), (3, .int x3), (4, .int x4), (5, .int x5), (6, .int x6), (7, .int x7), (8, .int x8), (9, .int x9)] [] m
noncomputable def f_Goods_entry_20 (x2 : Int32) (m : jx_Mem) : Option (Int32 × jx_Mem) := jx_K jx_kI 44 0 20 [(2, .int x2)] [] m
noncomputable def f_Goods_costOfAll_29 (x1 : Int32) (x2 : Int32) (x3 : Int32) (m : jx_Mem) : Option (Int32 × jx_Mem) := jx_K jx_kI 53 0 29 [(0, .ref 9), (1, .int x1), (2, .int x2), (3, .int x3)] [] m
noncomputable def f_Goods_parts_33 (y0 : Int32) (m : jx_Mem) : Option (Int32 × jx_Mem) := jx_K jx_kI 47 0 33 [] [.int y0] m
noncomputable def f_Tree_leastOfParts_43 (lev : Nat) (x1 : Int32) (x2 : Int32) (x3 : Int32) (x4 : Int32) (x5 : Int32) (m : jx_Mem) : Option (Int32 × jx_Mem) := jx_K jx_kI 59 lev 43 [(0, .ref 14), (1, .int x1), (2, .int x2), (3, .int x3), (4, .int x4), (5, .int x5)] [] m
noncomputable def f_Tree_mostOfParts_6 (lev : Nat) (x1 : Int32) (x2 : Int32) (x3 : Int32) (x4 : Int32) (x5 : Int32) (x6 : Int32) (m : jx_Mem) : Option (Int32 × jx_Mem) := jx_K jx_kI 66 lev 6 [(0, .ref 14), (1, .int x1), (2, .int x2), (3, .int x3), (4, .int x4), (5, .int x5), (6, .int x6)] [] m
noncomputable def f_Mine_peopleAt_4 (x1 : Int32) (x2 : Int32) (x3 : Int32) (m : jx_Mem) : Option (Int32 × jx_Mem) := jx_K jx_kI 28 0 4 [(0, .ref 3), (1, .int x1), (2, .int x2), (3, .int x3)] [] m
noncomputable def f_Rule_put_13 (x1 : Int32) (m : jx_Mem) : Option (Int32 × jx_Mem) := jx_K jx_kI 86 0 13 [(1, .int x1)] [] m
noncomputable def f_Rule_between_76  (m : jx_Mem) : Option (Int32 × jx_Mem) := jx_K jx_kI 88 0 76 [] [] m
noncomputable def f_Rule_between_81 (y0 : Int32) (m : jx_Mem) : Option (Int32 × jx_Mem) := jx_K jx_kI 88 0 81 [] [.int y0] m
noncomputable def f_Rule_between_126 (y0 : Int32) (m : jx_Mem) : Option (Int32 × jx_Mem) := jx_K jx_kI 88 0 126 [] [.int y0] m
noncomputable def f_Rule_between_140 (y0 : Int32) (m : jx_Mem) : Option (Int32 × jx_Mem) := jx_K jx_kI 88 0 140 [] [.int y0] m
noncomputable def f_Rule_between_112 (y0 : Int32) (m : jx_Mem) : Option (Int32 × jx_Mem) := jx_K jx_kI 88 0 112 [] [.int y0] m
noncomputable def f_Rule_between_97  (m : jx_Mem) : Option (Int32 × jx_Mem) := jx_K jx_kI 88 0 97 [] [] m
noncomputable def f_Rule_between_98 (y0 : Int32) (m : jx_Mem) : Option (Int32 × jx_Mem) := jx_K jx_kI 88 0 98 [] [.int y0] m
noncomputable def f_Rule_equalPairs_14 (x1 : Int32) (x2 : Int32) (x3 : Int32) (x4 : Int32) (m : jx_Mem) : Option (Int32 × jx_Mem) := jx_K jx_kI 92 0 14 [(0, .ref 18), (1, .int x1), (2, .int x2), (3, .int x3), (4, .int x4)] [] m
noncomputable def f_Rule_firstOf_52 (x1 : Int32) (x2 : Int32) (x3 : Int32) (x4 : Int32) (x5 : Int32) (m : jx_Mem) : Option (Int32 × jx_Mem) := jx_K jx_kI 91 0 52 [(0, .ref 18), (1, .int x1), (2, .int x2), (3, .int x3), (4, .int x4), (5, .int x5)] [] m
noncomputable def f_Rule_firstOf_40 (x1 : Int32) (x2 : Int32) (x5 : Int32) (m : jx_Mem) : Option (Int32 × jx_Mem) := jx_K jx_kI 91 0 40 [(0, .ref 18), (1, .int x1), (2, .int x2), (5, .int x5)] [] m
noncomputable def f_Asking_lateFor_33  (m : jx_Mem) : Option (Int32 × jx_Mem) := jx_K jx_kI 115 0 33 [] [] m
noncomputable def f_Asking_lateFor_84 (y0 : Int32) (m : jx_Mem) : Option (Int32 × jx_Mem) := jx_K jx_kI 115 0 84 [] [.int y0] m
noncomputable def f_Asking_nextPrice (x0 : Int32) (x1 : Int32) (m : jx_Mem) : Option (Int32 × jx_Mem) := jx_K jx_kI 117 0 0 [(0, .int x0), (1, .int x1)] [] m
noncomputable def f_Asking_askOnce_109 (x1 : Int32) (x2 : Int32) (x3 : Int32) (x4 : Int32) (y0 : Int32) (m : jx_Mem) : Option (Int32 × jx_Mem) := jx_K jx_kI 116 0 109 [(0, .ref 33), (1, .int x1), (2, .int x2), (3, .int x3), (4, .int x4)] [.int y0] m
noncomputable def f_Asking_choice_8 (x1 : Int32) (x2 : Int32) (x3 : Int32) (x4 : Int32) (x5 : Int32) (m : jx_Mem) : Option (Int32 × jx_Mem) := jx_K jx_kI 118 0 8 [(0, .ref 33), (1, .int x1), (2, .int x2), (3, .int x3), (4, .int x4), (5, .int x5)] [] m
noncomputable def f_Asking_sameBehind_26 (x1 : Int32) (x2 : Int32) (x3 : Int32) (x4 : Int32) (x5 : Int32) (x6 : Int32) (m : jx_Mem) : Option (Int32 × jx_Mem) := jx_K jx_kI 113 0 26 [(0, .ref 33), (1, .int x1), (2, .int x2), (3, .int x3), (4, .int x4), (5, .int x5), (6, .int x6)] [] m
noncomputable def f_Watch_present_62 (x1 : Int32) (x2 : Int32) (x3 : Int32) (x4 : Int32) (x5 : Int32) (m : jx_Mem) : Option (Int32 × jx_Mem) := jx_K jx_kI 129 0 62 [(0, .ref 38), (1, .int x1), (2, .int x2), (3, .int x3), (4, .int x4), (5, .int x5)] [] m
noncomputable def f_Watch_meetsAll_2 (x1 : Int32) (x2 : Int32) (x3 : Int32) (m : jx_Mem) : Option (Int32 × jx_Mem) := jx_K jx_kI 131 0 2 [(0, .ref 38), (1, .int x1), (2, .int x2), (3, .int x3)] [] m
noncomputable def f_Watch_traceBack_23 (x1 : Int32) (x2 : Int32) (x3 : Int64) (x5 : Int64) (x7 : Int64) (x9 : Int32) (x10 : Int32) (m : jx_Mem) : Option (Int64 × jx_Mem) := jx_K jx_kL 134 0 23 [(0, .ref 38), (1, .int x1), (2, .int x2), (3, .long x3), (5, .long x5), (7, .long x7), (9, .int x9), (10, .int x10)] [] m
noncomputable def f_Watch_canTake_64 (x1 : Int32) (x2 : Int32) (x3 : Int32) (x4 : Int64) (x6 : Int32) (m : jx_Mem) : Option (Int64 × jx_Mem) := jx_K jx_kL 136 0 64 [(0, .ref 38), (1, .int x1), (2, .int x2), (3, .int x3), (4, .long x4), (6, .int x6)] [] m
noncomputable def f_Watch_canTake_52 (x1 : Int32) (x2 : Int32) (x3 : Int32) (x4 : Int32) (m : jx_Mem) : Option (Int64 × jx_Mem) := jx_K jx_kL 136 0 52 [(0, .ref 38), (1, .int x1), (2, .int x2), (3, .int x3), (4, .int x4)] [] m
noncomputable def f_Watch_giveTo_70 (x1 : Int32) (x2 : Int32) (x3 : Int64) (x5 : Int32) (x6 : Int32) (x7 : Int32) (m : jx_Mem) : Option jx_Mem := jx_K jx_kV 133 0 70 [(0, .ref 38), (1, .int x1), (2, .int x2), (3, .long x3), (5, .int x5), (6, .int x6), (7, .int x7)] [] m
noncomputable def f_Air_nearest_75 (x1 : Int32) (x2 : Int32) (x3 : Int32) (m : jx_Mem) : Option (Int32 × jx_Mem) := jx_K jx_kI 152 0 75 [(0, .ref 59), (1, .int x1), (2, .int x2), (3, .int x3)] [] m
noncomputable def f_Air_nearest_73 (x1 : Int32) (x3 : Int32) (m : jx_Mem) : Option (Int32 × jx_Mem) := jx_K jx_kI 152 0 73 [(0, .ref 59), (1, .int x1), (3, .int x3)] [] m
noncomputable def f_Row_commonDivisor (x0 : Int32) (x1 : Int32) (m : jx_Mem) : Option (Int32 × jx_Mem) := jx_K jx_kI 11 0 0 [(0, .int x0), (1, .int x1)] [] m
noncomputable def f_Row_tellFraction_14  (m : jx_Mem) : Option jx_Mem := jx_K jx_kV 7 0 14 [(0, .ref 1)] [] m
noncomputable def f_Row_tellFraction_35  (m : jx_Mem) : Option jx_Mem := jx_K jx_kV 7 0 35 [] [] m
noncomputable def f_Asking_wanters_76 (x1 : Int32) (x2 : Int32) (x3 : Int32) (x4 : Int32) (m : jx_Mem) : Option (Int32 × jx_Mem) := jx_K jx_kI 120 0 76 [(0, .ref 33), (1, .int x1), (2, .int x2), (3, .int x3), (4, .int x4)] [] m
noncomputable def f_M_isMixed_52 (x1 : Int32) (x2 : Int32) (x3 : Int32) (x5 : Int32) (y0 : Int32) (m : jx_Mem) : Option (Int32 × jx_Mem) := jx_K jx_kI 243 0 52 [(0, .ref 63), (1, .int x1), (2, .int x2), (3, .int x3), (5, .int x5)] [.int y0] m
noncomputable def f_M_sumOf_30_r70 (x1 : Int32) (x4 : Int32) (y0 : Int32) (y1 : Int32) (m : jx_Mem) : Option (Int32 × jx_Mem) := jx_K jx_kI 246 0 30 [(1, .int x1), (2, .ref 70), (4, .int x4)] [.int y0, .int y1] m
noncomputable def f_Int_numberOfTrailingZeros_34 (x0 : Int32) (x1 : Int32) (m : jx_Mem) : Option (Int32 × jx_Mem) := jx_K jx_kI 1 0 34 [(0, .int x0), (1, .int x1)] [] m
noncomputable def f_M_trees_145 (x1 : Int32) (x2 : Int32) (x3 : Int32) (x4 : Int32) (x6 : Int32) (y0 : Int32) (m : jx_Mem) : Option jx_Mem := jx_K jx_kV 252 0 145 [(0, .ref 63), (1, .int x1), (2, .int x2), (3, .int x3), (4, .int x4), (6, .int x6)] [.int y0] m
noncomputable def f_M_tells_129 (x1 : Int32) (x2 : Int32) (x3 : Int32) (x4 : Int32) (m : jx_Mem) : Option jx_Mem := jx_K jx_kV 254 0 129 [(0, .ref 63), (1, .int x1), (2, .int x2), (3, .int x3), (4, .int x4)] [] m
noncomputable def f_M_tells_64 (x1 : Int32) (x2 : Int32) (x3 : Int32) (x4 : Int32) (x5 : Int32) (x6 : Int32) (m : jx_Mem) : Option jx_Mem := jx_K jx_kV 254 0 64 [(0, .ref 63), (1, .int x1), (2, .int x2), (3, .int x3), (4, .int x4), (5, .int x5), (6, .int x6)] [] m
noncomputable def f_M_peopleAt_28 (x1 : Int32) (x3 : Int32) (y0 : Int32) (y1 : Int32) (m : jx_Mem) : Option (Int32 × jx_Mem) := jx_K jx_kI 267 0 28 [(0, .ref 63), (1, .int x1), (3, .int x3)] [.int y0, .int y1] m
noncomputable def f_M_goesRound_64 (x1 : Int32) (m : jx_Mem) : Option (Int32 × jx_Mem) := jx_K jx_kI 279 0 64 [(0, .ref 63), (1, .int x1)] [] m
noncomputable def f_M_asksFor (x1 : Int32) (m : jx_Mem) : Option (Int32 × jx_Mem) := jx_K jx_kI 278 0 0 [(0, .ref 63), (1, .int x1)] [] m
noncomputable def f_M_goesRound_55 (x1 : Int32) (m : jx_Mem) : Option (Int32 × jx_Mem) := jx_K jx_kI 279 0 55 [(0, .ref 63), (1, .int x1)] [] m
noncomputable def f_M_isAs_41 (x1 : Int32) (x2 : Int32) (m : jx_Mem) : Option (Int32 × jx_Mem) := jx_K jx_kI 282 0 41 [(0, .ref 63), (1, .int x1), (2, .int x2)] [] m
noncomputable def f_M_isHeard_16 (x1 : Int32) (x2 : Int32) (x3 : Int32) (x4 : Int32) (x5 : Int32) (m : jx_Mem) : Option (Int32 × jx_Mem) := jx_K jx_kI 304 0 16 [(0, .ref 63), (1, .int x1), (2, .int x2), (3, .int x3), (4, .int x4), (5, .int x5)] [] m
noncomputable def f_M_gas_137 (x1 : Int32) (x2 : Int32) (x3 : Int32) (y0 : Int32) (m : jx_Mem) : Option (Int32 × jx_Mem) := jx_K jx_kI 306 0 137 [(0, .ref 63), (1, .int x1), (2, .int x2), (3, .int x3)] [.int y0, .ref 63] m
noncomputable def f_M_leave_221 (x1 : Int32) (x2 : Int32) (x3 : Int32) (x4 : Int32) (m : jx_Mem) : Option (Int32 × jx_Mem) := jx_K jx_kI 309 0 221 [(0, .ref 63), (1, .int x1), (2, .int x2), (3, .int x3), (4, .int x4)] [] m
noncomputable def f_M_leave_132 (x1 : Int32) (x2 : Int32) (x3 : Int32) (x6 : Int32) (y0 : Int32) (m : jx_Mem) : Option (Int32 × jx_Mem) := jx_K jx_kI 309 0 132 [(0, .ref 63), (1, .int x1), (2, .int x2), (3, .int x3), (6, .int x6)] [.int y0] m
noncomputable def f_M_common_6 (x4 : Int64) (x6 : Int64) (m : jx_Mem) : Option (Int64 × jx_Mem) := jx_K jx_kL 220 0 6 [(4, .long x4), (6, .long x6)] [] m
noncomputable def f_M_likely (x1 : Int32) (x2 : Int32) (x3 : Int32) (x4 : Int32) (m : jx_Mem) : Option (Int32 × jx_Mem) := jx_K jx_kI 312 0 0 [(0, .ref 63), (1, .int x1), (2, .int x2), (3, .int x3), (4, .int x4)] [] m
noncomputable def f_Tree_mostOfParts_45 (lev : Nat) (x1 : Int32) (x2 : Int32) (x3 : Int32) (x4 : Int32) (x5 : Int32) (x6 : Int32) (m : jx_Mem) : Option (Int32 × jx_Mem) := jx_K jx_kI 66 lev 45 [(0, .ref 14), (1, .int x1), (2, .int x2), (3, .int x3), (4, .int x4), (5, .int x5), (6, .int x6)] [] m
noncomputable def f_Mine_peopleAt_25 (x1 : Int32) (x2 : Int32) (x3 : Int32) (m : jx_Mem) : Option (Int32 × jx_Mem) := jx_K jx_kI 28 0 25 [(0, .ref 3), (1, .int x1), (2, .int x2), (3, .int x3)] [] m
noncomputable def f_Rule_equalPairs_39 (x1 : Int32) (x2 : Int32) (x3 : Int32) (x4 : Int32) (m : jx_Mem) : Option (Int32 × jx_Mem) := jx_K jx_kI 92 0 39 [(0, .ref 18), (1, .int x1), (2, .int x2), (3, .int x3), (4, .int x4)] [] m
noncomputable def f_Asking_nextPrice_29 (y0 : Int32) (m : jx_Mem) : Option (Int32 × jx_Mem) := jx_K jx_kI 117 0 29 [] [.int y0] m
noncomputable def f_Asking_askOnce_136 (x1 : Int32) (x2 : Int32) (x3 : Int32) (m : jx_Mem) : Option (Int32 × jx_Mem) := jx_K jx_kI 116 0 136 [(0, .ref 33), (1, .int x1), (2, .int x2), (3, .int x3)] [] m
noncomputable def f_Asking_choice_101 (x1 : Int32) (x2 : Int32) (x3 : Int32) (x4 : Int32) (x5 : Int32) (x8 : Int32) (m : jx_Mem) : Option (Int32 × jx_Mem) := jx_K jx_kI 118 0 101 [(0, .ref 33), (1, .int x1), (2, .int x2), (3, .int x3), (4, .int x4), (5, .int x5), (8, .int x8)] [] m
noncomputable def f_Asking_choice_102 (x1 : Int32) (x2 : Int32) (x3 : Int32) (x4 : Int32) (x5 : Int32) (x8 : Int32) (y0 : Int32) (m : jx_Mem) : Option (Int32 × jx_Mem) := jx_K jx_kI 118 0 102 [(0, .ref 33), (1, .int x1), (2, .int x2), (3, .int x3), (4, .int x4), (5, .int x5), (8, .int x8)] [.int y0] m
noncomputable def f_Asking_choice_128 (x1 : Int32) (x2 : Int32) (x3 : Int32) (x4 : Int32) (x5 : Int32) (m : jx_Mem) : Option (Int32 × jx_Mem) := jx_K jx_kI 118 0 128 [(0, .ref 33), (1, .int x1), (2, .int x2), (3, .int x3), (4, .int x4), (5, .int x5)] [] m
noncomputable def f_Watch_traceBack_118 (x1 : Int32) (x2 : Int32) (x3 : Int64) (x5 : Int64) (x7 : Int64) (x9 : Int32) (m : jx_Mem) : Option (Int64 × jx_Mem) := jx_K jx_kL 134 0 118 [(0, .ref 38), (1, .int x1), (2, .int x2), (3, .long x3), (5, .long x5), (7, .long x7), (9, .int x9)] [] m
noncomputable def f_Watch_traceBack_67 (x1 : Int32) (x2 : Int32) (x3 : Int64) (x5 : Int64) (x7 : Int64) (x9 : Int32) (x10 : Int32) (m : jx_Mem) : Option (Int64 × jx_Mem) := jx_K jx_kL 134 0 67 [(0, .ref 38), (1, .int x1), (2, .int x2), (3, .long x3), (5, .long x5), (7, .long x7), (9, .int x9), (10, .int x10)] [] m
noncomputable def f_Watch_traceBack_68 (x1 : Int32) (x2 : Int32) (x3 : Int64) (x5 : Int64) (x7 : Int64) (x9 : Int32) (x10 : Int32) (y0 : Int32) (m : jx_Mem) : Option (Int64 × jx_Mem) := jx_K jx_kL 134 0 68 [(0, .ref 38), (1, .int x1), (2, .int x2), (3, .long x3), (5, .long x5), (7, .long x7), (9, .int x9), (10, .int x10)] [.int y0] m
noncomputable def f_Watch_canTake_105 (x1 : Int32) (x2 : Int32) (x3 : Int32) (x4 : Int64) (x6 : Int32) (m : jx_Mem) : Option (Int64 × jx_Mem) := jx_K jx_kL 136 0 105 [(0, .ref 38), (1, .int x1), (2, .int x2), (3, .int x3), (4, .long x4), (6, .int x6)] [] m
noncomputable def f_Watch_sumOf (x1 : Int32) (m : jx_Mem) : Option (Int32 × jx_Mem) := jx_K jx_kI 137 0 0 [(0, .ref 38), (1, .int x1)] [] m
noncomputable def f_Row_commonDivisor_7 (x2 : Int32) (x3 : Int32) (x4 : Int32) (m : jx_Mem) : Option (Int32 × jx_Mem) := jx_K jx_kI 11 0 7 [(2, .int x2), (3, .int x3), (4, .int x4)] [] m
noncomputable def f_Int_numberOfTrailingZeros_49 (x0 : Int32) (x1 : Int32) (m : jx_Mem) : Option (Int32 × jx_Mem) := jx_K jx_kI 1 0 49 [(0, .int x0), (1, .int x1)] [] m
noncomputable def f_M_tells_113 (x1 : Int32) (x2 : Int32) (x3 : Int32) (x4 : Int32) (x6 : Int32) (y0 : Int32) (y1 : Int32) (m : jx_Mem) : Option jx_Mem := jx_K jx_kV 254 0 113 [(0, .ref 63), (1, .int x1), (2, .int x2), (3, .int x3), (4, .int x4), (6, .int x6)] [.int y0, .int y1] m
noncomputable def f_M_goesRound_118 (x1 : Int32) (x2 : Int32) (m : jx_Mem) : Option (Int32 × jx_Mem) := jx_K jx_kI 279 0 118 [(0, .ref 63), (1, .int x1), (2, .int x2)] [] m
noncomputable def f_M_goesRound_70 (x1 : Int32) (x2 : Int32) (m : jx_Mem) : Option (Int32 × jx_Mem) := jx_K jx_kI 279 0 70 [(0, .ref 63), (1, .int x1), (2, .int x2)] [] m
noncomputable def f_M_asksFor_7 (x1 : Int32) (x2 : Int32) (x3 : Int32) (x4 : Int32) (m : jx_Mem) : Option (Int32 × jx_Mem) := jx_K jx_kI 278 0 7 [(0, .ref 63), (1, .int x1), (2, .int x2), (3, .int x3), (4, .int x4)] [] m
noncomputable def f_M_gas_154 (x3 : Int32) (y0 : Int32) (m : jx_Mem) : Option (Int32 × jx_Mem) := jx_K jx_kI 306 0 154 [(3, .int x3)] [.int y0, .ref 63] m
noncomputable def f_M_chanceOf (x1 : Int32) (m : jx_Mem) : Option (Int32 × jx_Mem) := jx_K jx_kI 311 0 0 [(0, .ref 63), (1, .int x1)] [] m
noncomputable def f_M_likely_44 (y0 : Int32) (m : jx_Mem) : Option (Int32 × jx_Mem) := jx_K jx_kI 312 0 44 [] [.int y0] m
noncomputable def f_Asking_choice_121 (x1 : Int32) (x2 : Int32) (x5 : Int32) (x8 : Int32) (m : jx_Mem) : Option (Int32 × jx_Mem) := jx_K jx_kI 118 0 121 [(0, .ref 33), (1, .int x1), (2, .int x2), (5, .int x5), (8, .int x8)] [] m
noncomputable def f_Watch_traceBack_112 (x1 : Int32) (x2 : Int32) (x3 : Int64) (x5 : Int64) (x7 : Int64) (x9 : Int32) (x10 : Int32) (m : jx_Mem) : Option (Int64 × jx_Mem) := jx_K jx_kL 134 0 112 [(0, .ref 38), (1, .int x1), (2, .int x2), (3, .long x3), (5, .long x5), (7, .long x7), (9, .int x9), (10, .int x10)] [] m
noncomputable def f_Watch_markHand (x1 : Int32) (x2 : Int32) (m : jx_Mem) : Option jx_Mem := jx_K jx_kV 135 0 0 [(0, .ref 38), (1, .int x1), (2, .int x2)] [] m
noncomputable def f_Watch_sumOf_4 (x1 : Int32) (x2 : Int32) (x3 : Int32) (m : jx_Mem) : Option (Int32 × jx_Mem) := jx_K jx_kI 137 0 4 [(0, .ref 38), (1, .int x1), (2, .int x2), (3, .int x3)] [] m
noncomputable def f_Row_commonDivisor_34 (x2 : Int32) (m : jx_Mem) : Option (Int32 × jx_Mem) := jx_K jx_kI 11 0 34 [(2, .int x2)] [] m
noncomputable def f_Int_numberOfTrailingZeros_62 (x0 : Int32) (x1 : Int32) (m : jx_Mem) : Option (Int32 × jx_Mem) := jx_K jx_kI 1 0 62 [(0, .int x0), (1, .int x1)] [] m
noncomputable def f_M_goesRound_159 (x1 : Int32) (x2 : Int32) (x3 : Int32) (m : jx_Mem) : Option (Int32 × jx_Mem) := jx_K jx_kI 279 0 159 [(0, .ref 63), (1, .int x1), (2, .int x2), (3, .int x3)] [] m
noncomputable def f_M_goesRound_186 (x1 : Int32) (x2 : Int32) (x3 : Int32) (y0 : Int32) (m : jx_Mem) : Option (Int32 × jx_Mem) := jx_K jx_kI 279 0 186 [(0, .ref 63), (1, .int x1), (2, .int x2), (3, .int x3)] [.int y0] m
noncomputable def f_M_asksFor_37 (x1 : Int32) (x2 : Int32) (x3 : Int32) (x4 : Int32) (m : jx_Mem) : Option (Int32 × jx_Mem) := jx_K jx_kI 278 0 37 [(0, .ref 63), (1, .int x1), (2, .int x2), (3, .int x3), (4, .int x4)] [] m
noncomputable def f_M_heardBy (x1 : Int32) (x2 : Int32) (m : jx_Mem) : Option (Int32 × jx_Mem) := jx_K jx_kI 277 0 0 [(0, .ref 63), (1, .int x1), (2, .int x2)] [] m
noncomputable def f_M_asksFor_48 (x1 : Int32) (x2 : Int32) (x3 : Int32) (x4 : Int32) (y0 : Int32) (m : jx_Mem) : Option (Int32 × jx_Mem) := jx_K jx_kI 278 0 48 [(0, .ref 63), (1, .int x1), (2, .int x2), (3, .int x3), (4, .int x4)] [.int y0] m
noncomputable def f_M_chanceOf_21 (y0 : Int32) (m : jx_Mem) : Option (Int32 × jx_Mem) := jx_K jx_kI 311 0 21 [] [.int y0] m
noncomputable def f_Watch_markHand_2 (x1 : Int32) (x2 : Int32) (x3 : Int32) (m : jx_Mem) : Option jx_Mem := jx_K jx_kV 135 0 2 [(0, .ref 38), (1, .int x1), (2, .int x2), (3, .int x3)] [] m
noncomputable def f_Watch_sumOf_29 (x1 : Int32) (x2 : Int32) (x3 : Int32) (m : jx_Mem) : Option (Int32 × jx_Mem) := jx_K jx_kI 137 0 29 [(0, .ref 38), (1, .int x1), (2, .int x2), (3, .int x3)] [] m
noncomputable def f_Int_numberOfTrailingZeros_74 (x0 : Int32) (x1 : Int32) (m : jx_Mem) : Option (Int32 × jx_Mem) := jx_K jx_kI 1 0 74 [(0, .int x0), (1, .int x1)] [] m
noncomputable def f_M_goesRound_208 (x2 : Int32) (y0 : Int32) (y1 : Int32) (m : jx_Mem) : Option (Int32 × jx_Mem) := jx_K jx_kI 279 0 208 [(0, .ref 63), (2, .int x2)] [.int y0, .int y1] m
noncomputable def f_M_heardBy_54 (y0 : Int32) (m : jx_Mem) : Option (Int32 × jx_Mem) := jx_K jx_kI 277 0 54 [] [.int y0] m
noncomputable def f_M_asksFor_109 (x1 : Int32) (x2 : Int32) (x3 : Int32) (x4 : Int32) (m : jx_Mem) : Option (Int32 × jx_Mem) := jx_K jx_kI 278 0 109 [(0, .ref 63), (1, .int x1), (2, .int x2), (3, .int x3), (4, .int x4)] [] m
noncomputable def f_M_asksFor_103 (x1 : Int32) (x4 : Int32) (x6 : Int32) (m : jx_Mem) : Option (Int32 × jx_Mem) := jx_K jx_kI 278 0 103 [(0, .ref 63), (1, .int x1), (4, .int x4), (6, .int x6)] [] m
noncomputable def f_Watch_markHand_30 (x1 : Int32) (x2 : Int32) (x3 : Int32) (m : jx_Mem) : Option jx_Mem := jx_K jx_kV 135 0 30 [(0, .ref 38), (1, .int x1), (2, .int x2), (3, .int x3)] [] m
