def z_oc : Nat → Nat := fun m => (bif Nat.ble m 145 then (bif Nat.ble m 70 then (bif Nat.ble m 34 then (bif Nat.ble m 16 then (bif Nat.ble m 7 then (bif Nat.ble m 3 then (bif Nat.ble m 1 then (bif Nat.ble m 0 then (bif Nat.beq m 0 then 0 else 99) else (bif Nat.beq m 1 then 1 else 99)) else (bif Nat.ble m 2 then (bif Nat.beq m 2 then 2 else 99) else (bif Nat.beq m 3 then 3 else 99))) else (bif Nat.ble m 5 then (bif Nat.ble m 4 then (bif Nat.beq m 4 then 4 else 99) else (bif Nat.beq m 5 then 5 else 99)) else (bif Nat.ble m 6 then (bif Nat.beq m 6 then 6 else 99) else (bif Nat.beq m 7 then 7 else 99)))) else (bif Nat.ble m 11 then (bif Nat.ble m 9 then (bif Nat.ble m 8 then (bif Nat.beq m 8 then 8 else 99) else (bif Nat.beq m 9 then 9 else 99)) else (bif Nat.ble m 10 then (bif Nat.beq m 10 then 10 else 99) else (bif Nat.beq m 11 then 0 else 99))) else (bif Nat.ble m 13 then (bif Nat.ble m 12 then (bif Nat.beq m 12 then 0 else 99) else (bif Nat.beq m 13 then 2 else 99)) else (bif Nat.ble m 14 then (bif Nat.beq m 14 then 0 else 99) else (bif Nat.ble m 15 then (bif Nat.beq m 15 then 0 else 99) else (bif Nat.beq m 16 then 2 else 99)))))) else (bif Nat.ble m 25 then (bif Nat.ble m 20 then (bif Nat.ble m 18 then (bif Nat.ble m 17 then (bif Nat.beq m 17 then 2 else 99) else (bif Nat.beq m 18 then 2 else 99)) else (bif Nat.ble m 19 then (bif Nat.beq m 19 then 0 else 99) else (bif Nat.beq m 20 then 0 else 99))) else (bif Nat.ble m 22 then (bif Nat.ble m 21 then (bif Nat.beq m 21 then 2 else 99) else (bif Nat.beq m 22 then 0 else 99)) else (bif Nat.ble m 23 then (bif Nat.beq m 23 then 3 else 99) else (bif Nat.ble m 24 then (bif Nat.beq m 24 then 0 else 99) else (bif Nat.beq m 25 then 8 else 99))))) else (bif Nat.ble m 29 then (bif Nat.ble m 27 then (bif Nat.ble m 26 then (bif Nat.beq m 26 then 8 else 99) else (bif Nat.beq m 27 then 8 else 99)) else (bif Nat.ble m 28 then (bif Nat.beq m 28 then 2 else 99) else (bif Nat.beq m 29 then 2 else 99))) else (bif Nat.ble m 31 then (bif Nat.ble m 30 then (bif Nat.beq m 30 then 11 else 99) else (bif Nat.beq m 31 then 12 else 99)) else (bif Nat.ble m 32 then (bif Nat.beq m 32 then 12 else 99) else (bif Nat.ble m 33 then (bif Nat.beq m 33 then 5 else 99) else (bif Nat.beq m 34 then 5 else 99))))))) else (bif Nat.ble m 52 then (bif Nat.ble m 43 then (bif Nat.ble m 38 then (bif Nat.ble m 36 then (bif Nat.ble m 35 then (bif Nat.beq m 35 then 8 else 99) else (bif Nat.beq m 36 then 5 else 99)) else (bif Nat.ble m 37 then (bif Nat.beq m 37 then 8 else 99) else (bif Nat.beq m 38 then 7 else 99))) else (bif Nat.ble m 40 then (bif Nat.ble m 39 then (bif Nat.beq m 39 then 2 else 99) else (bif Nat.beq m 40 then 7 else 99)) else (bif Nat.ble m 41 then (bif Nat.beq m 41 then 7 else 99) else (bif Nat.ble m 42 then (bif Nat.beq m 42 then 7 else 99) else (bif Nat.beq m 43 then 7 else 99))))) else (bif Nat.ble m 47 then (bif Nat.ble m 45 then (bif Nat.ble m 44 then (bif Nat.beq m 44 then 3 else 99) else (bif Nat.beq m 45 then 3 else 99)) else (bif Nat.ble m 46 then (bif Nat.beq m 46 then 4 else 99) else (bif Nat.beq m 47 then 7 else 99))) else (bif Nat.ble m 49 then (bif Nat.ble m 48 then (bif Nat.beq m 48 then 2 else 99) else (bif Nat.beq m 49 then 7 else 99)) else (bif Nat.ble m 50 then (bif Nat.beq m 50 then 2 else 99) else (bif Nat.ble m 51 then (bif Nat.beq m 51 then 2 else 99) else (bif Nat.beq m 52 then 2 else 99)))))) else (bif Nat.ble m 61 then (bif Nat.ble m 56 then (bif Nat.ble m 54 then (bif Nat.ble m 53 then (bif Nat.beq m 53 then 2 else 99) else (bif Nat.beq m 54 then 7 else 99)) else (bif Nat.ble m 55 then (bif Nat.beq m 55 then 2 else 99) else (bif Nat.beq m 56 then 7 else 99))) else (bif Nat.ble m 58 then (bif Nat.ble m 57 then (bif Nat.beq m 57 then 7 else 99) else (bif Nat.beq m 58 then 7 else 99)) else (bif Nat.ble m 59 then (bif Nat.beq m 59 then 7 else 99) else (bif Nat.ble m 60 then (bif Nat.beq m 60 then 2 else 99) else (bif Nat.beq m 61 then 11 else 99))))) else (bif Nat.ble m 65 then (bif Nat.ble m 63 then (bif Nat.ble m 62 then (bif Nat.beq m 62 then 11 else 99) else (bif Nat.beq m 63 then 11 else 99)) else (bif Nat.ble m 64 then (bif Nat.beq m 64 then 7 else 99) else (bif Nat.beq m 65 then 7 else 99))) else (bif Nat.ble m 67 then (bif Nat.ble m 66 then (bif Nat.beq m 66 then 7 else 99) else (bif Nat.beq m 67 then 7 else 99)) else (bif Nat.ble m 68 then (bif Nat.beq m 68 then 2 else 99) else (bif Nat.ble m 69 then (bif Nat.beq m 69 then 2 else 99) else (bif Nat.beq m 70 then 3 else 99)))))))) else (bif Nat.ble m 109 then (bif Nat.ble m 87 then (bif Nat.ble m 78 then (bif Nat.ble m 74 then (bif Nat.ble m 72 then (bif Nat.ble m 71 then (bif Nat.beq m 71 then 7 else 99) else (bif Nat.beq m 72 then 5 else 99)) else (bif Nat.ble m 73 then (bif Nat.beq m 73 then 8 else 99) else (bif Nat.beq m 74 then 8 else 99))) else (bif Nat.ble m 76 then (bif Nat.ble m 75 then (bif Nat.beq m 75 then 1 else 99) else (bif Nat.beq m 76 then 8 else 99)) else (bif Nat.ble m 77 then (bif Nat.beq m 77 then 1 else 99) else (bif Nat.beq m 78 then 2 else 99)))) else (bif Nat.ble m 82 then (bif Nat.ble m 80 then (bif Nat.ble m 79 then (bif Nat.beq m 79 then 0 else 99) else (bif Nat.beq m 80 then 0 else 99)) else (bif Nat.ble m 81 then (bif Nat.beq m 81 then 9 else 99) else (bif Nat.beq m 82 then 9 else 99))) else (bif Nat.ble m 84 then (bif Nat.ble m 83 then (bif Nat.beq m 83 then 0 else 99) else (bif Nat.beq m 84 then 0 else 99)) else (bif Nat.ble m 85 then (bif Nat.beq m 85 then 9 else 99) else (bif Nat.ble m 86 then (bif Nat.beq m 86 then 9 else 99) else (bif Nat.beq m 87 then 9 else 99)))))) else (bif Nat.ble m 96 then (bif Nat.ble m 91 then (bif Nat.ble m 89 then (bif Nat.ble m 88 then (bif Nat.beq m 88 then 9 else 99) else (bif Nat.beq m 89 then 9 else 99)) else (bif Nat.ble m 90 then (bif Nat.beq m 90 then 13 else 99) else (bif Nat.beq m 91 then 13 else 99))) else (bif Nat.ble m 93 then (bif Nat.ble m 92 then (bif Nat.beq m 92 then 13 else 99) else (bif Nat.beq m 93 then 13 else 99)) else (bif Nat.ble m 94 then (bif Nat.beq m 94 then 14 else 99) else (bif Nat.ble m 95 then (bif Nat.beq m 95 then 13 else 99) else (bif Nat.beq m 96 then 15 else 99))))) else (bif Nat.ble m 104 then (bif Nat.ble m 102 then (bif Nat.ble m 101 then (bif Nat.beq m 101 then 9 else 99) else (bif Nat.beq m 102 then 9 else 99)) else (bif Nat.ble m 103 then (bif Nat.beq m 103 then 9 else 99) else (bif Nat.beq m 104 then 9 else 99))) else (bif Nat.ble m 106 then (bif Nat.ble m 105 then (bif Nat.beq m 105 then 9 else 99) else (bif Nat.beq m 106 then 9 else 99)) else (bif Nat.ble m 107 then (bif Nat.beq m 107 then 9 else 99) else (bif Nat.ble m 108 then (bif Nat.beq m 108 then 9 else 99) else (bif Nat.beq m 109 then 9 else 99))))))) else (bif Nat.ble m 127 then (bif Nat.ble m 118 then (bif Nat.ble m 113 then (bif Nat.ble m 111 then (bif Nat.ble m 110 then (bif Nat.beq m 110 then 9 else 99) else (bif Nat.beq m 111 then 9 else 99)) else (bif Nat.ble m 112 then (bif Nat.beq m 112 then 5 else 99) else (bif Nat.beq m 113 then 17 else 99))) else (bif Nat.ble m 115 then (bif Nat.ble m 114 then (bif Nat.beq m 114 then 5 else 99) else (bif Nat.beq m 115 then 5 else 99)) else (bif Nat.ble m 116 then (bif Nat.beq m 116 then 5 else 99) else (bif Nat.ble m 117 then (bif Nat.beq m 117 then 5 else 99) else (bif Nat.beq m 118 then 0 else 99))))) else (bif Nat.ble m 122 then (bif Nat.ble m 120 then (bif Nat.ble m 119 then (bif Nat.beq m 119 then 9 else 99) else (bif Nat.beq m 120 then 9 else 99)) else (bif Nat.ble m 121 then (bif Nat.beq m 121 then 6 else 99) else (bif Nat.beq m 122 then 0 else 99))) else (bif Nat.ble m 124 then (bif Nat.ble m 123 then (bif Nat.beq m 123 then 0 else 99) else (bif Nat.beq m 124 then 0 else 99)) else (bif Nat.ble m 125 then (bif Nat.beq m 125 then 0 else 99) else (bif Nat.ble m 126 then (bif Nat.beq m 126 then 0 else 99) else (bif Nat.beq m 127 then 5 else 99)))))) else (bif Nat.ble m 136 then (bif Nat.ble m 131 then (bif Nat.ble m 129 then (bif Nat.ble m 128 then (bif Nat.beq m 128 then 0 else 99) else (bif Nat.beq m 129 then 5 else 99)) else (bif Nat.ble m 130 then (bif Nat.beq m 130 then 5 else 99) else (bif Nat.beq m 131 then 5 else 99))) else (bif Nat.ble m 133 then (bif Nat.ble m 132 then (bif Nat.beq m 132 then 5 else 99) else (bif Nat.beq m 133 then 5 else 99)) else (bif Nat.ble m 134 then (bif Nat.beq m 134 then 0 else 99) else (bif Nat.ble m 135 then (bif Nat.beq m 135 then 10 else 99) else (bif Nat.beq m 136 then 17 else 99))))) else (bif Nat.ble m 140 then (bif Nat.ble m 138 then (bif Nat.ble m 137 then (bif Nat.beq m 137 then 10 else 99) else (bif Nat.beq m 138 then 10 else 99)) else (bif Nat.ble m 139 then (bif Nat.beq m 139 then 10 else 99) else (bif Nat.beq m 140 then 10 else 99))) else (bif Nat.ble m 142 then (bif Nat.ble m 141 then (bif Nat.beq m 141 then 5 else 99) else (bif Nat.beq m 142 then 10 else 99)) else (bif Nat.ble m 143 then (bif Nat.beq m 143 then 18 else 99) else (bif Nat.ble m 144 then (bif Nat.beq m 144 then 10 else 99) else (bif Nat.beq m 145 then 10 else 99))))))))) else (bif Nat.ble m 216 then (bif Nat.ble m 180 then (bif Nat.ble m 162 then (bif Nat.ble m 153 then (bif Nat.ble m 149 then (bif Nat.ble m 147 then (bif Nat.ble m 146 then (bif Nat.beq m 146 then 10 else 99) else (bif Nat.beq m 147 then 0 else 99)) else (bif Nat.ble m 148 then (bif Nat.beq m 148 then 0 else 99) else (bif Nat.beq m 149 then 0 else 99))) else (bif Nat.ble m 151 then (bif Nat.ble m 150 then (bif Nat.beq m 150 then 0 else 99) else (bif Nat.beq m 151 then 4 else 99)) else (bif Nat.ble m 152 then (bif Nat.beq m 152 then 0 else 99) else (bif Nat.beq m 153 then 0 else 99)))) else (bif Nat.ble m 157 then (bif Nat.ble m 155 then (bif Nat.ble m 154 then (bif Nat.beq m 154 then 0 else 99) else (bif Nat.beq m 155 then 19 else 99)) else (bif Nat.ble m 156 then (bif Nat.beq m 156 then 0 else 99) else (bif Nat.beq m 157 then 0 else 99))) else (bif Nat.ble m 159 then (bif Nat.ble m 158 then (bif Nat.beq m 158 then 0 else 99) else (bif Nat.beq m 159 then 0 else 99)) else (bif Nat.ble m 160 then (bif Nat.beq m 160 then 0 else 99) else (bif Nat.ble m 161 then (bif Nat.beq m 161 then 1 else 99) else (bif Nat.beq m 162 then 2 else 99)))))) else (bif Nat.ble m 171 then (bif Nat.ble m 166 then (bif Nat.ble m 164 then (bif Nat.ble m 163 then (bif Nat.beq m 163 then 3 else 99) else (bif Nat.beq m 164 then 4 else 99)) else (bif Nat.ble m 165 then (bif Nat.beq m 165 then 5 else 99) else (bif Nat.beq m 166 then 6 else 99))) else (bif Nat.ble m 168 then (bif Nat.ble m 167 then (bif Nat.beq m 167 then 0 else 99) else (bif Nat.beq m 168 then 0 else 99)) else (bif Nat.ble m 169 then (bif Nat.beq m 169 then 20 else 99) else (bif Nat.ble m 170 then (bif Nat.beq m 170 then 20 else 99) else (bif Nat.beq m 171 then 20 else 99))))) else (bif Nat.ble m 175 then (bif Nat.ble m 173 then (bif Nat.ble m 172 then (bif Nat.beq m 172 then 20 else 99) else (bif Nat.beq m 173 then 20 else 99)) else (bif Nat.ble m 174 then (bif Nat.beq m 174 then 20 else 99) else (bif Nat.beq m 175 then 20 else 99))) else (bif Nat.ble m 177 then (bif Nat.ble m 176 then (bif Nat.beq m 176 then 20 else 99) else (bif Nat.beq m 177 then 20 else 99)) else (bif Nat.ble m 178 then (bif Nat.beq m 178 then 20 else 99) else (bif Nat.ble m 179 then (bif Nat.beq m 179 then 20 else 99) else (bif Nat.beq m 180 then 20 else 99))))))) else (bif Nat.ble m 198 then (bif Nat.ble m 189 then (bif Nat.ble m 184 then (bif Nat.ble m 182 then (bif Nat.ble m 181 then (bif Nat.beq m 181 then 20 else 99) else (bif Nat.beq m 182 then 20 else 99)) else (bif Nat.ble m 183 then (bif Nat.beq m 183 then 20 else 99) else (bif Nat.beq m 184 then 20 else 99))) else (bif Nat.ble m 186 then (bif Nat.ble m 185 then (bif Nat.beq m 185 then 20 else 99) else (bif Nat.beq m 186 then 20 else 99)) else (bif Nat.ble m 187 then (bif Nat.beq m 187 then 20 else 99) else (bif Nat.ble m 188 then (bif Nat.beq m 188 then 20 else 99) else (bif Nat.beq m 189 then 20 else 99))))) else (bif Nat.ble m 193 then (bif Nat.ble m 191 then (bif Nat.ble m 190 then (bif Nat.beq m 190 then 20 else 99) else (bif Nat.beq m 191 then 20 else 99)) else (bif Nat.ble m 192 then (bif Nat.beq m 192 then 20 else 99) else (bif Nat.beq m 193 then 20 else 99))) else (bif Nat.ble m 195 then (bif Nat.ble m 194 then (bif Nat.beq m 194 then 20 else 99) else (bif Nat.beq m 195 then 20 else 99)) else (bif Nat.ble m 196 then (bif Nat.beq m 196 then 20 else 99) else (bif Nat.ble m 197 then (bif Nat.beq m 197 then 20 else 99) else (bif Nat.beq m 198 then 20 else 99)))))) else (bif Nat.ble m 207 then (bif Nat.ble m 202 then (bif Nat.ble m 200 then (bif Nat.ble m 199 then (bif Nat.beq m 199 then 20 else 99) else (bif Nat.beq m 200 then 20 else 99)) else (bif Nat.ble m 201 then (bif Nat.beq m 201 then 20 else 99) else (bif Nat.beq m 202 then 20 else 99))) else (bif Nat.ble m 204 then (bif Nat.ble m 203 then (bif Nat.beq m 203 then 20 else 99) else (bif Nat.beq m 204 then 20 else 99)) else (bif Nat.ble m 205 then (bif Nat.beq m 205 then 20 else 99) else (bif Nat.ble m 206 then (bif Nat.beq m 206 then 20 else 99) else (bif Nat.beq m 207 then 21 else 99))))) else (bif Nat.ble m 211 then (bif Nat.ble m 209 then (bif Nat.ble m 208 then (bif Nat.beq m 208 then 21 else 99) else (bif Nat.beq m 209 then 20 else 99)) else (bif Nat.ble m 210 then (bif Nat.beq m 210 then 20 else 99) else (bif Nat.beq m 211 then 20 else 99))) else (bif Nat.ble m 213 then (bif Nat.ble m 212 then (bif Nat.beq m 212 then 20 else 99) else (bif Nat.beq m 213 then 20 else 99)) else (bif Nat.ble m 214 then (bif Nat.beq m 214 then 20 else 99) else (bif Nat.ble m 215 then (bif Nat.beq m 215 then 20 else 99) else (bif Nat.beq m 216 then 20 else 99)))))))) else (bif Nat.ble m 251 then (bif Nat.ble m 233 then (bif Nat.ble m 224 then (bif Nat.ble m 220 then (bif Nat.ble m 218 then (bif Nat.ble m 217 then (bif Nat.beq m 217 then 20 else 99) else (bif Nat.beq m 218 then 20 else 99)) else (bif Nat.ble m 219 then (bif Nat.beq m 219 then 20 else 99) else (bif Nat.beq m 220 then 20 else 99))) else (bif Nat.ble m 222 then (bif Nat.ble m 221 then (bif Nat.beq m 221 then 20 else 99) else (bif Nat.beq m 222 then 20 else 99)) else (bif Nat.ble m 223 then (bif Nat.beq m 223 then 20 else 99) else (bif Nat.beq m 224 then 20 else 99)))) else (bif Nat.ble m 228 then (bif Nat.ble m 226 then (bif Nat.ble m 225 then (bif Nat.beq m 225 then 20 else 99) else (bif Nat.beq m 226 then 20 else 99)) else (bif Nat.ble m 227 then (bif Nat.beq m 227 then 20 else 99) else (bif Nat.beq m 228 then 20 else 99))) else (bif Nat.ble m 230 then (bif Nat.ble m 229 then (bif Nat.beq m 229 then 20 else 99) else (bif Nat.beq m 230 then 20 else 99)) else (bif Nat.ble m 231 then (bif Nat.beq m 231 then 20 else 99) else (bif Nat.ble m 232 then (bif Nat.beq m 232 then 20 else 99) else (bif Nat.beq m 233 then 20 else 99)))))) else (bif Nat.ble m 242 then (bif Nat.ble m 237 then (bif Nat.ble m 235 then (bif Nat.ble m 234 then (bif Nat.beq m 234 then 20 else 99) else (bif Nat.beq m 235 then 20 else 99)) else (bif Nat.ble m 236 then (bif Nat.beq m 236 then 20 else 99) else (bif Nat.beq m 237 then 20 else 99))) else (bif Nat.ble m 239 then (bif Nat.ble m 238 then (bif Nat.beq m 238 then 20 else 99) else (bif Nat.beq m 239 then 20 else 99)) else (bif Nat.ble m 240 then (bif Nat.beq m 240 then 20 else 99) else (bif Nat.ble m 241 then (bif Nat.beq m 241 then 20 else 99) else (bif Nat.beq m 242 then 20 else 99))))) else (bif Nat.ble m 246 then (bif Nat.ble m 244 then (bif Nat.ble m 243 then (bif Nat.beq m 243 then 20 else 99) else (bif Nat.beq m 244 then 20 else 99)) else (bif Nat.ble m 245 then (bif Nat.beq m 245 then 20 else 99) else (bif Nat.beq m 246 then 20 else 99))) else (bif Nat.ble m 248 then (bif Nat.ble m 247 then (bif Nat.beq m 247 then 20 else 99) else (bif Nat.beq m 248 then 20 else 99)) else (bif Nat.ble m 249 then (bif Nat.beq m 249 then 20 else 99) else (bif Nat.ble m 250 then (bif Nat.beq m 250 then 20 else 99) else (bif Nat.beq m 251 then 20 else 99))))))) else (bif Nat.ble m 269 then (bif Nat.ble m 260 then (bif Nat.ble m 255 then (bif Nat.ble m 253 then (bif Nat.ble m 252 then (bif Nat.beq m 252 then 20 else 99) else (bif Nat.beq m 253 then 20 else 99)) else (bif Nat.ble m 254 then (bif Nat.beq m 254 then 20 else 99) else (bif Nat.beq m 255 then 20 else 99))) else (bif Nat.ble m 257 then (bif Nat.ble m 256 then (bif Nat.beq m 256 then 20 else 99) else (bif Nat.beq m 257 then 20 else 99)) else (bif Nat.ble m 258 then (bif Nat.beq m 258 then 20 else 99) else (bif Nat.ble m 259 then (bif Nat.beq m 259 then 20 else 99) else (bif Nat.beq m 260 then 20 else 99))))) else (bif Nat.ble m 264 then (bif Nat.ble m 262 then (bif Nat.ble m 261 then (bif Nat.beq m 261 then 20 else 99) else (bif Nat.beq m 262 then 20 else 99)) else (bif Nat.ble m 263 then (bif Nat.beq m 263 then 20 else 99) else (bif Nat.beq m 264 then 20 else 99))) else (bif Nat.ble m 266 then (bif Nat.ble m 265 then (bif Nat.beq m 265 then 20 else 99) else (bif Nat.beq m 266 then 20 else 99)) else (bif Nat.ble m 267 then (bif Nat.beq m 267 then 20 else 99) else (bif Nat.ble m 268 then (bif Nat.beq m 268 then 20 else 99) else (bif Nat.beq m 269 then 20 else 99)))))) else (bif Nat.ble m 278 then (bif Nat.ble m 273 then (bif Nat.ble m 271 then (bif Nat.ble m 270 then (bif Nat.beq m 270 then 20 else 99) else (bif Nat.beq m 271 then 20 else 99)) else (bif Nat.ble m 272 then (bif Nat.beq m 272 then 20 else 99) else (bif Nat.beq m 273 then 20 else 99))) else (bif Nat.ble m 275 then (bif Nat.ble m 274 then (bif Nat.beq m 274 then 20 else 99) else (bif Nat.beq m 275 then 20 else 99)) else (bif Nat.ble m 276 then (bif Nat.beq m 276 then 20 else 99) else (bif Nat.ble m 277 then (bif Nat.beq m 277 then 20 else 99) else (bif Nat.beq m 278 then 20 else 99))))) else (bif Nat.ble m 282 then (bif Nat.ble m 280 then (bif Nat.ble m 279 then (bif Nat.beq m 279 then 20 else 99) else (bif Nat.beq m 280 then 20 else 99)) else (bif Nat.ble m 281 then (bif Nat.beq m 281 then 20 else 99) else (bif Nat.beq m 282 then 20 else 99))) else (bif Nat.ble m 284 then (bif Nat.ble m 283 then (bif Nat.beq m 283 then 20 else 99) else (bif Nat.beq m 284 then 20 else 99)) else (bif Nat.ble m 285 then (bif Nat.beq m 285 then 20 else 99) else (bif Nat.ble m 286 then (bif Nat.beq m 286 then 20 else 99) else (bif Nat.beq m 287 then 22 else 99))))))))))
def z_h2 (l : List (Nat × Nat × Nat)) (o i : Nat) : Bool := l.any fun t => Nat.beq t.1 o && Nat.beq t.2.1 i
def z_h3 (l : List (Nat × Nat × Nat × Nat)) (o i a : Nat) : Bool := l.any fun t => Nat.beq t.1 o && Nat.beq t.2.1 i && Nat.beq t.2.2.1 a
def z_h4 (o i a b : Nat) : Bool := z_FL.any fun t => Nat.beq t.1 o && Nat.beq t.2.1 i && Nat.beq t.2.2.1 a && Nat.beq t.2.2.2.1 b
def z_hs (l : List (Nat × Nat × Nat)) (o i a : Nat) : Bool := l.any fun t => Nat.beq t.1 o && Nat.beq t.2.1 i && Nat.beq t.2.2 a
def z_hv (o i : Nat) (v : Int32) : Bool := z_CT.any fun t => Nat.beq t.1 o && Nat.beq t.2.1 i && decide (t.2.2.1 = v)
def z_tsw (pc : Nat) : Int → List Int → List (Int32 × Nat) → Bool
  | _, [], [] => true
  | lo, o :: os, (v, t) :: r => decide (v.toInt = lo) && decide ((pc : Int) + o = (t : Int)) && z_tsw pc (lo + 1) os r
  | _, _, _ => false
def z_lsw (pc : Nat) : List (Int × Int) → List (Int32 × Nat) → Bool
  | [], [] => true
  | (x, o) :: os, (v, t) :: r => decide (v.toInt = x) && decide ((pc : Int) + o = (t : Int)) && z_lsw pc os r
  | _, _ => false
def z_na2 (y : MethodName) (n : Nat) : Bool := decide ((parseMethodDescriptor y.desc).map (fun d => d.parameters.length) = some n)
def z_kd (m k : Nat) : Bool := Nat.beq (z_MW m).2.2.2.2 k
def z_cd (d : Nat) (y : MethodName) : Bool := match z_cl[d]? with
  | some q => decide (q.1 = y.cls)
  | none => false
def z_pt (a b c : Nat) (y : MethodName) : Bool := match z_cl[a]? with
  | some q => (match c with
    | 0 => decide (z_ty (q.2.1 b).2.2.1 = .int)
    | 1 => z_isr a b
    | 2 => decide (z_ty (q.2.1 b).2.2.1 = .boolean)
    | _ => false) && (!(q.2.1 b).2.2.2 || (decide (y.name = "<init>") && decide (q.1 = y.cls)))
  | none => false
def z_ck2 (o m pc : Nat) (ins : Instr) (len a b c d : Nat) (v : Int32) (ps : List (Int32 × Nat)) : Bool := match ins with
  | .iconst n => Nat.beq len 1 && decide (Int32.ofInt n = v)
  | .bipush n => Nat.beq len 2 && decide ((Int8.ofInt n).toInt32 = v)
  | .sipush n => Nat.beq len 3 && decide ((Int16.ofInt n).toInt32 = v)
  | .ldc i => Nat.beq len 2 && (match c with
    | 0 => z_hv o i v
    | 1 => z_h3 z_CF o i a
    | 2 => z_hs z_SL o i a
    | _ => false)
  | .ldc_w i => Nat.beq len 3 && (match c with
    | 0 => z_hv o i v
    | 1 => z_h3 z_CF o i a
    | 2 => z_hs z_SL o i a
    | _ => false)
  | .ldc2_w i => Nat.beq len 3 && z_h3 z_CJ o i a
  | .lconst _ => Nat.beq len 1
  | .fconst _ => Nat.beq len 1
  | .aconst_null => Nat.beq len 1
  | .iload _ => Nat.beq len 2
  | .aload _ => Nat.beq len 2
  | .fload _ => Nat.beq len 2
  | .lload _ => Nat.beq len 2
  | .iload_n _ => Nat.beq len 1
  | .aload_n _ => Nat.beq len 1
  | .fload_n _ => Nat.beq len 1
  | .lload_n _ => Nat.beq len 1
  | .istore i => Nat.beq len 2 && Nat.ble (i + 1) (z_P0 m).2.1
  | .astore i => Nat.beq len 2 && Nat.ble (i + 1) (z_P0 m).2.1
  | .fstore i => Nat.beq len 2 && Nat.ble (i + 1) (z_P0 m).2.1
  | .lstore i => Nat.beq len 2 && Nat.ble (i + 2) (z_P0 m).2.1
  | .istore_n i => Nat.beq len 1 && Nat.ble (i.1 + 1) (z_P0 m).2.1
  | .astore_n i => Nat.beq len 1 && Nat.ble (i.1 + 1) (z_P0 m).2.1
  | .fstore_n i => Nat.beq len 1 && Nat.ble (i.1 + 1) (z_P0 m).2.1
  | .lstore_n i => Nat.beq len 1 && Nat.ble (i.1 + 2) (z_P0 m).2.1
  | .iinc i n => Nat.beq len 3 && decide (Int32.ofInt n = v) && Nat.ble (i + 1) (z_P0 m).2.1
  | .goto f => Nat.beq len 3 && decide ((pc : Int) + f = (a : Int))
  | .ifCond _ f => Nat.beq len 3 && decide ((pc : Int) + f = (a : Int))
  | .if_icmp _ f => Nat.beq len 3 && decide ((pc : Int) + f = (a : Int))
  | .ifnull f => Nat.beq len 3 && decide ((pc : Int) + f = (a : Int))
  | .ifnonnull f => Nat.beq len 3 && decide ((pc : Int) + f = (a : Int))
  | .tableswitch f lo hi offs => decide ((pc : Int) + f = (a : Int)) && decide (hi = lo + offs.size - 1) && z_tsw pc lo offs.toList ps
  | .lookupswitch f prs => decide ((pc : Int) + f = (a : Int)) && (prs.toList.zip (prs.toList.drop 1)).all (fun (a, next) => a.1 < next.1) && z_lsw pc prs.toList ps
  | .getfield i => Nat.beq len 3 && (match c with
    | 0 => z_h4 o i a b && !z_isr a b
    | 1 => z_h4 o i a b && z_isr a b
    | 2 => z_h3 z_FX o i 1 && Nat.beq b 1
    | 3 => z_h3 z_FX o i 0 && Nat.beq b 0
    | _ => false)
  | .putfield i => Nat.beq len 3 && z_h4 o i a b && z_pt a b c (z_MT m).1
  | .getstatic i => Nat.beq len 3 && (match c with
    | 0 => z_h3 z_GS o i 1 && decide (v = 1)
    | 1 => (match a with
      | 0 => z_h3 z_GS o i 0
      | 60 => z_h3 z_GS o i 2
      | _ => false)
    | _ => false)
  | .newarray t => Nat.beq len 2 && (match t with
    | .int => Nat.beq c 1
    | .byte => Nat.beq c 2
    | .long => Nat.beq c 3
    | .float => Nat.beq c 4
    | _ => false)
  | .new i => Nat.beq len 3 && z_h3 z_NL o i a && (match z_cl[a]? with
    | some q => Nat.beq q.2.2 b
    | none => false)
  | .invokestatic i => Nat.beq len 3 && (match c with
    | 10 => z_h2 z_LA o i
    | 11 => z_h2 z_LR o i
    | 12 => z_h2 z_LB o i
    | 0 => z_h3 z_ML o i a && z_kd a 0 && z_na2 (z_MT a).1 b
    | _ => false)
  | .invokevirtual i => Nat.beq len 3 && (match c with
    | 1 => z_h3 z_ML o i a && z_kd a 1 && z_cd d (z_MT a).1 && Nat.ble 1 b && z_na2 (z_MT a).1 (b - 1)
    | 3 => z_h3 z_ML o i a && z_kd a 1 && decide ((z_MT a).1.cls = "java/lang/String") && Nat.ble 1 b && z_na2 (z_MT a).1 (b - 1)
    | _ => false)
  | .invokespecial i => Nat.beq len 3 && (match c with
    | 13 => z_h2 z_LO o i
    | 2 => z_h3 z_ML o i a && z_kd a 2 && z_cd d (z_MT a).1 && Nat.ble 1 b && z_na2 (z_MT a).1 (b - 1)
    | 6 => z_hs z_MN o i a && z_kd a 2 && z_cd d (z_MT a).1 && Nat.ble 1 b && z_na2 (z_MT a).1 (b - 1)
    | _ => false)
  | _ => Nat.beq len 1
def z_chk (m : Nat) (e : z_E) : Bool := match e with
  | (pc, ins, len, (a, b, c, d), v, ps) => (match decode (z_MT m).2.1 pc with
    | .ok (i, n) => decide (i = ins) && Nat.beq n len
    | .error _ => false) && z_ck2 (z_oc m) m pc ins len a b c d v ps
def z_rt (rt : Nat) : Option FieldType := match rt with
  | 0 => none
  | 1 => some .int
  | 2 => some .boolean
  | 3 => some .byte
  | 4 => some .char
  | 5 => some .float
  | _ => some .long
def z_ckm (m : Nat) : Bool := Nat.beq (z_P0 m).2.1 (z_MT m).2.2.1 && Nat.ble (z_P0 m).1 6 && decide (z_rt (z_P0 m).1 = (z_MT m).2.2.2) && decide (z_cn (z_oc m) = (z_MT m).1.cls)
theorem z_all_cut {p : z_E → Bool} (c n : Nat) (l : List z_E) (hn : l.length ≤ n * c) (h : ∀ j, j < n → (((l.drop (j * c)).take c).all p) = true) : l.all p = true := by
  induction n generalizing l with
  | zero =>
    have : l = [] := List.length_eq_zero_iff.mp (by omega)
    rw [this]; rfl
  | succ n ih =>
    have e : l = l.take c ++ l.drop c := (List.take_append_drop c l).symm
    rw [e, List.all_append, Bool.and_eq_true]
    refine ⟨by simpa using h 0 (by omega), ih (l.drop c) (by rw [List.length_drop]; rw [Nat.succ_mul] at hn; omega) fun j hj => ?_⟩
    have := h (j + 1) (by omega)
    rw [List.drop_drop]
    rw [Nat.succ_mul] at this
    rwa [Nat.add_comm] at this

theorem z_ck_0 : (c_Bus_init.all (z_chk 0)) = true := by decide +kernel
theorem z_ck_1 : (c_World_init.all (z_chk 1)) = true := by decide +kernel
theorem z_ck_2 : (c_Units_init.all (z_chk 2)) = true := by decide +kernel
theorem z_ck_3 : (c_Wires_init.all (z_chk 3)) = true := by decide +kernel
theorem z_ck_4 : (c_Ring_init.all (z_chk 4)) = true := by decide +kernel
theorem z_ck_5 : (c_Plan_init.all (z_chk 5)) = true := by decide +kernel
theorem z_ck_6 : (c_Script_init.all (z_chk 6)) = true := by decide +kernel
theorem z_ck_7 : (c_Trial_init.all (z_chk 7)) = true := by decide +kernel
theorem z_ck_8 : (c_Frames_init.all (z_chk 8)) = true := by decide +kernel
theorem z_ck_9 : (c_Reader_init.all (z_chk 9)) = true := by decide +kernel
theorem z_ck_10 : (c_Times_init.all (z_chk 10)) = true := by decide +kernel
theorem z_ck_11 : (c_Bus_set.all (z_chk 11)) = true := by decide +kernel
theorem z_ck_12 : (c_Bus_terminal.all (z_chk 12)) = true := by decide +kernel
theorem z_ck_13 : (c_Units_tell.all (z_chk 13)) = true := by decide +kernel
theorem z_ck_14 : (c_Bus_word.all (z_chk 14)) = true := by decide +kernel
theorem z_ck_15 : (c_Bus_isSub.all (z_chk 15)) = true := by decide +kernel
theorem z_ck_16 : (c_Units_sendSpot.all (z_chk 16)) = true := by decide +kernel
theorem z_ck_17 : (c_Units_spot.all (z_chk 17)) = true := by decide +kernel
theorem z_ck_18 : (c_Units_cell.all (z_chk 18)) = true := by decide +kernel
theorem z_ck_19 : (c_Bus_signal.all (z_chk 19)) = true := by decide +kernel
theorem z_ck_20 : (c_Bus_isThousandths.all (z_chk 20)) = true := by decide +kernel
theorem z_ck_21 : (c_Units_tellSignal.all (z_chk 21)) = true := by decide +kernel
theorem z_ck_22 : (c_Bus_noise.all (z_chk 22)) = true := by decide +kernel
theorem z_ck_23 : (c_Wires_addNoise.all (z_chk 23)) = true := by decide +kernel
theorem z_ck_24 : (c_Bus_frame.all (z_chk 24)) = true := by decide +kernel
theorem z_ck_25 : (c_Frames_restart.all (z_chk 25)) = true := by decide +kernel
theorem z_ck_26 : (c_Frames_play.all (z_chk 26)) = true := by decide +kernel
theorem z_ck_27 : (c_Frames_doEvents.all (z_chk 27)) = true := by decide +kernel
theorem z_ck_28 : (c_Units_drive.all (z_chk 28)) = true := by decide +kernel
theorem z_ck_29 : (c_Units_hasPower.all (z_chk 29)) = true := by decide +kernel
theorem z_ck_30 : (c_Fraction_bitsOf.all (z_chk 30)) = true := by decide +kernel
theorem z_ck_31 : (c_Math_min.all (z_chk 31)) = true := by decide +kernel
theorem z_ck_32 : (c_Math_max.all (z_chk 32)) = true := by decide +kernel
theorem z_ck_33 : (c_Plan_isDue.all (z_chk 33)) = true := by decide +kernel
theorem z_ck_34 : (c_Plan_told.all (z_chk 34)) = true := by decide +kernel
theorem z_ck_35_0 : ((c_Frames_playLine.drop 0).take 60).all (z_chk 35) = true := by decide +kernel
theorem z_ck_35_60 : ((c_Frames_playLine.drop 60).take 60).all (z_chk 35) = true := by decide +kernel
theorem z_ck_35_120 : ((c_Frames_playLine.drop 120).take 60).all (z_chk 35) = true := by decide +kernel
theorem z_ck_35 : (c_Frames_playLine.all (z_chk 35)) = true := by
  refine z_all_cut 60 3 c_Frames_playLine (by decide +kernel) ?_
  intro j hj
  match j, hj with
  | 0, _ => exact z_ck_35_0
  | 1, _ => exact z_ck_35_60
  | 2, _ => exact z_ck_35_120
  | _ + 3, h => exact absurd h (by omega)
theorem z_ck_36 : (c_Plan_touches.all (z_chk 36)) = true := by decide +kernel
theorem z_ck_37 : (c_Frames_hasTimeFor.all (z_chk 37)) = true := by decide +kernel
theorem z_ck_38 : (c_Trial_attempt.all (z_chk 38)) = true := by decide +kernel
theorem z_ck_39 : (c_Units_hold.all (z_chk 39)) = true := by decide +kernel
theorem z_ck_40 : (c_Trial_send.all (z_chk 40)) = true := by decide +kernel
theorem z_ck_41 : (c_Trial_readySend.all (z_chk 41)) = true := by decide +kernel
theorem z_ck_42 : (c_Trial_encode.all (z_chk 42)) = true := by decide +kernel
theorem z_ck_43 : (c_Trial_say.all (z_chk 43)) = true := by decide +kernel
theorem z_ck_44_0 : ((c_Wires_lay.drop 0).take 60).all (z_chk 44) = true := by decide +kernel
theorem z_ck_44_60 : ((c_Wires_lay.drop 60).take 60).all (z_chk 44) = true := by decide +kernel
theorem z_ck_44_120 : ((c_Wires_lay.drop 120).take 60).all (z_chk 44) = true := by decide +kernel
theorem z_ck_44 : (c_Wires_lay.all (z_chk 44)) = true := by
  refine z_all_cut 60 3 c_Wires_lay (by decide +kernel) ?_
  intro j hj
  match j, hj with
  | 0, _ => exact z_ck_44_0
  | 1, _ => exact z_ck_44_60
  | 2, _ => exact z_ck_44_120
  | _ + 3, h => exact absurd h (by omega)
theorem z_ck_45 : (c_Wires_isStruck.all (z_chk 45)) = true := by decide +kernel
theorem z_ck_46 : (c_Ring_claim.all (z_chk 46)) = true := by decide +kernel
theorem z_ck_47 : (c_Trial_reaches.all (z_chk 47)) = true := by decide +kernel
theorem z_ck_48 : (c_Units_hears.all (z_chk 48)) = true := by decide +kernel
theorem z_ck_49 : (c_Trial_noAnswer.all (z_chk 49)) = true := by decide +kernel
theorem z_ck_50 : (c_Units_settle.all (z_chk 50)) = true := by decide +kernel
theorem z_ck_51 : (c_Units_take.all (z_chk 51)) = true := by decide +kernel
theorem z_ck_52 : (c_Units_isLegal.all (z_chk 52)) = true := by decide +kernel
theorem z_ck_53 : (c_Units_isBusy.all (z_chk 53)) = true := by decide +kernel
